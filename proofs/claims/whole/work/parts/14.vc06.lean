set_option maxRecDepth 100000 in
set_option maxHeartbeats 4000000 in
theorem v_Model_sumOfPairs (x0 : Nat) (x1 : Int32) (h : MH) (Rt : Value → MH → Prop) (H :
WM k_Model_sumOfPairs p_Model_sumOfPairs_1 [.ref x0, Jv, .int (x1 / (576 : Int32)), .int (irm (x1 / (24 : Int32)) (24 : Int32)), .int (irm x1 (24 : Int32)), .long (0 : Int64), Jv, .int (0 : Int32), Jv, Jv] [] h 0 0 Rt) : Sp k_Model_sumOfPairs [.ref x0, .int x1] h Rt := Sp_intro2 (by decide) (by decide +kernel) rfl (Nat.le_of_ble_eq_true rfl) (WM_at (hs := HH_Model_sumOfPairs) G_Model_sumOfPairs 90 0 rfl ⟨(by decide), ⟨(by decide), ⟨(by decide), ⟨(by decide), H⟩⟩⟩⟩)
set_option maxRecDepth 100000 in
set_option maxHeartbeats 4000000 in
theorem v_Model_sumOfPairs_1 (x0 : Nat) (x2 : Int32) (x3 : Int32) (x4 : Int32) (x5 : Int64) (x7 : Int32) (h : MH) (Rt : Value → MH → Prop) (H :
kd h x0 = 6 ∧
(x7.toInt < (mi h x0 4).toInt →
kd h (mr h x0 2) = 20 ∧
InB ((3 : Int32) * x7) (ln h (mr h x0 2)) ∧
InB (((3 : Int32) * x7) + (1 : Int32)) (ln h (mr h x0 2)) ∧
InB (((3 : Int32) * x7) + (2 : Int32)) (ln h (mr h x0 2)) ∧
SpI k_Model_atomAt [.ref x0, .int (((((irm ((mi h (mr h x0 2) (ix ((3 : Int32) * x7))) + x2) (24 : Int32)) * (24 : Int32)) + (irm ((mi h (mr h x0 2) (ix (((3 : Int32) * x7) + (1 : Int32)))) + x3) (24 : Int32))) * (24 : Int32)) + (irm ((mi h (mr h x0 2) (ix (((3 : Int32) * x7) + (2 : Int32)))) + x4) (24 : Int32)))] h (fun r7 g6 =>
(r7 = (-1 : Int32) →
WM k_Model_sumOfPairs p_Model_sumOfPairs_1 [.ref x0, Jv, .int x2, .int x3, .int x4, .long x5, Jv, .int (x7 + (1 : Int32)), Jv, Jv] [] g6 0 0 Rt) ∧
(¬ r7 = (-1 : Int32) →
kd g6 x0 = 6 ∧
SpI k_Model_weightOf [.ref x0, .int x7] g6 (fun r10 g8 =>
kd g8 x0 = 6 ∧
SpI k_Model_weightOf [.ref x0, .int r7] g8 (fun r13 g11 =>
WM k_Model_sumOfPairs p_Model_sumOfPairs_1 [.ref x0, Jv, .int x2, .int x3, .int x4, .long (x5 + (r10 * r13).toInt64), Jv, .int (x7 + (1 : Int32)), Jv, Jv] [] g11 0 0 Rt))))) ∧
(¬ x7.toInt < (mi h x0 4).toInt →
Rt (.long x5) h)) : WM k_Model_sumOfPairs p_Model_sumOfPairs_1 [.ref x0, Jv, .int x2, .int x3, .int x4, .long x5, Jv, .int x7, Jv, Jv] [] h 0 0 Rt := WM_at (hs := HH_Model_sumOfPairs) G_Model_sumOfPairs 90 18 rfl ⟨H.1, ⟨fun c14 => ⟨H.1, ⟨(H.2.1 c14).1, ⟨((H.2.1 c14).2).1, ⟨(by decide), ⟨H.1, ⟨(H.2.1 c14).1, ⟨(((H.2.1 c14).2).2).1, ⟨(by decide), ⟨H.1, ⟨(H.2.1 c14).1, ⟨((((H.2.1 c14).2).2).2).1, ⟨(by decide), ⟨H.1, ((((H.2.1 c14).2).2).2).2⟩⟩⟩⟩⟩⟩⟩⟩⟩⟩⟩⟩⟩, H.2.2⟩⟩
set_option maxRecDepth 100000 in
set_option maxHeartbeats 4000000 in
theorem v_Ho_map (x0 : Nat) (x1 : Int32) (x2 : Int32) (h : MH) (Rt : Value → MH → Prop) (H :
kd h x0 = 12 ∧
SpR k_Ho_modelAt [.ref x0, .int x1] h (fun r3 g1 =>
(r3 = 0 →
Rt (.long (0 : Int64)) g1) ∧
(¬ r3 = 0 →
(x2.toInt < 0 →
Rt (.long (0 : Int64)) g1) ∧
(¬ x2.toInt < 0 →
(x2.toInt < (13824 : Int32).toInt →
kd g1 r3 = 6 ∧
SpL k_Model_sumOfPairs [.ref r3, .int x2] g1 (fun r6 g4 =>
Rt (.long r6) g4)) ∧
(¬ x2.toInt < (13824 : Int32).toInt →
Rt (.long (0 : Int64)) g1))))) : Sp k_Ho_map [.ref x0, .int x1, .int x2] h Rt := Sp_intro2 (by decide) (by decide +kernel) rfl (Nat.le_of_ble_eq_true rfl) (WM_at (hs := HH_Ho_map) G_Ho_map 18 0 rfl H)
set_option maxRecDepth 100000 in
set_option maxHeartbeats 4000000 in
theorem v_Ref_map (x0 : Nat) (x1 : Int32) (x2 : Int32) (h : MH) (Rt : Value → MH → Prop) (H :
kd h x0 = 13 ∧
SpI k_Ref_isModel [.ref x0, .int x1] h (fun r3 g1 =>
(r3 = 0 →
Rt (.long (0 : Int64)) g1) ∧
(¬ r3 = 0 →
(x2.toInt < 0 →
Rt (.long (0 : Int64)) g1) ∧
(¬ x2.toInt < 0 →
(x2.toInt < (13824 : Int32).toInt →
kd g1 x0 = 13 ∧
kd g1 (mr g1 x0 41) = 20 ∧
InB x1 (ln g1 (mr g1 x0 41)) ∧
WM k_Ref_map p_Ref_map_1 [.ref x0, .int x1, .int x2, .long (0 : Int64), Jv, .int (mi g1 (mr g1 x0 41) (ix x1)), .int (0 : Int32), Jv, Jv, Jv] [] g1 0 0 Rt) ∧
(¬ x2.toInt < (13824 : Int32).toInt →
Rt (.long (0 : Int64)) g1))))) : Sp k_Ref_map [.ref x0, .int x1, .int x2] h Rt := Sp_intro2 (by decide) (by decide +kernel) rfl (Nat.le_of_ble_eq_true rfl) (WM_at (hs := HH_Ref_map) G_Ref_map 114 0 rfl H)
set_option maxRecDepth 100000 in
set_option maxHeartbeats 4000000 in
theorem v_Ref_map_1 (x0 : Nat) (x1 : Int32) (x2 : Int32) (x3 : Int64) (x5 : Int32) (x6 : Int32) (h : MH) (Rt : Value → MH → Prop) (H :
(x6.toInt < x5.toInt →
kd h x0 = 13 ∧
kd h (mr h x0 42) = 20 ∧
InB (((300 : Int32) * x1) + x6) (ln h (mr h x0 42)) ∧
WM k_Ref_map p_Ref_map_2 [.ref x0, .int x1, .int x2, .long x3, Jv, .int x5, .int x6, Jv, .int ((((576 : Int32) * (irm (((mi h (mr h x0 42) (ix (((300 : Int32) * x1) + x6))) / (576 : Int32)) + (x2 / (576 : Int32))) (24 : Int32))) + ((24 : Int32) * (irm ((irm ((mi h (mr h x0 42) (ix (((300 : Int32) * x1) + x6))) / (24 : Int32)) (24 : Int32)) + (irm (x2 / (24 : Int32)) (24 : Int32))) (24 : Int32)))) + (irm ((irm (mi h (mr h x0 42) (ix (((300 : Int32) * x1) + x6))) (24 : Int32)) + (irm x2 (24 : Int32))) (24 : Int32))), .int (0 : Int32)] [] h 0 0 Rt) ∧
(¬ x6.toInt < x5.toInt →
Rt (.long x3) h)) : WM k_Ref_map p_Ref_map_1 [.ref x0, .int x1, .int x2, .long x3, Jv, .int x5, .int x6, Jv, Jv, Jv] [] h 0 0 Rt := WM_at (hs := HH_Ref_map) G_Ref_map 114 20 rfl ⟨fun c4 => ⟨(H.1 c4).1, ⟨((H.1 c4).2).1, ⟨(((H.1 c4).2).2).1, ⟨(by decide), ⟨(by decide), ⟨(by decide), ⟨(by decide), ⟨(by decide), ⟨(by decide), ⟨(by decide), ⟨(by decide), ⟨(by decide), ⟨(by decide), ⟨(by decide), (((H.1 c4).2).2).2⟩⟩⟩⟩⟩⟩⟩⟩⟩⟩⟩⟩⟩⟩, H.2⟩
set_option maxRecDepth 100000 in
set_option maxHeartbeats 4000000 in
theorem v_Ref_map_2 (x0 : Nat) (x1 : Int32) (x2 : Int32) (x3 : Int64) (x5 : Int32) (x6 : Int32) (x8 : Int32) (x9 : Int32) (h : MH) (Rt : Value → MH → Prop) (H :
(x9.toInt < x5.toInt →
kd h x0 = 13 ∧
kd h (mr h x0 42) = 20 ∧
InB (((300 : Int32) * x1) + x9) (ln h (mr h x0 42)) ∧
((mi h (mr h x0 42) (ix (((300 : Int32) * x1) + x9))) = x8 →
kd h (mr h x0 43) = 20 ∧
InB (((300 : Int32) * x1) + x6) (ln h (mr h x0 43)) ∧
InB (((300 : Int32) * x1) + x9) (ln h (mr h x0 43)) ∧
WM k_Ref_map p_Ref_map_2 [.ref x0, .int x1, .int x2, .long (x3 + ((mi h (mr h x0 43) (ix (((300 : Int32) * x1) + x6))).toInt64 * (mi h (mr h x0 43) (ix (((300 : Int32) * x1) + x9))).toInt64)), Jv, .int x5, .int x6, Jv, .int x8, .int (x9 + (1 : Int32))] [] h 0 0 Rt) ∧
(¬ (mi h (mr h x0 42) (ix (((300 : Int32) * x1) + x9))) = x8 →
WM k_Ref_map p_Ref_map_2 [.ref x0, .int x1, .int x2, .long x3, Jv, .int x5, .int x6, Jv, .int x8, .int (x9 + (1 : Int32))] [] h 0 0 Rt)) ∧
(¬ x9.toInt < x5.toInt →
WM k_Ref_map p_Ref_map_1 [.ref x0, .int x1, .int x2, .long x3, Jv, .int x5, .int (x6 + (1 : Int32)), Jv, Jv, Jv] [] h 0 0 Rt)) : WM k_Ref_map p_Ref_map_2 [.ref x0, .int x1, .int x2, .long x3, Jv, .int x5, .int x6, Jv, .int x8, .int x9] [] h 0 0 Rt := WM_at (hs := HH_Ref_map) G_Ref_map 114 72 rfl ⟨fun c7 => ⟨(H.1 c7).1, ⟨((H.1 c7).2).1, ⟨(((H.1 c7).2).2).1, ⟨fun c8 => ⟨(H.1 c7).1, ⟨(((((H.1 c7).2).2).2).1 c8).1, ⟨((((((H.1 c7).2).2).2).1 c8).2).1, ⟨(H.1 c7).1, ⟨(((((H.1 c7).2).2).2).1 c8).1, ((((((H.1 c7).2).2).2).1 c8).2).2⟩⟩⟩⟩⟩, ((((H.1 c7).2).2).2).2⟩⟩⟩⟩, H.2⟩
set_option maxRecDepth 100000 in
set_option maxHeartbeats 4000000 in
theorem v_Phases_keep (x0 : Nat) (x1 : Int32) (x2 : Int32) (x3 : Int64) (h : MH) (Rt : Value → MH → Prop) (H :
kd h x0 = 8 ∧
((mi h x0 3).toInt < (40 : Int32).toInt →
(x1.toInt < 0 →
Rt (.int (-1 : Int32)) h) ∧
(¬ x1.toInt < 0 →
((99 : Int32).toInt < x1.toInt →
Rt (.int (-1 : Int32)) h) ∧
(¬ (99 : Int32).toInt < x1.toInt →
(x2.toInt < 0 →
Rt (.int (-1 : Int32)) h) ∧
(¬ x2.toInt < 0 →
((99 : Int32).toInt < x2.toInt →
Rt (.int (-1 : Int32)) h) ∧
(¬ (99 : Int32).toInt < x2.toInt →
((x1 + x2) = 0 →
Rt (.int (-1 : Int32)) h) ∧
(¬ (x1 + x2) = 0 →
((lg_cmp x3 (-100000000 : Int64)).toInt < 0 →
Rt (.int (-1 : Int32)) h) ∧
(¬ (lg_cmp x3 (-100000000 : Int64)).toInt < 0 →
(0 < (lg_cmp x3 (100000000 : Int64)).toInt →
Rt (.int (-1 : Int32)) h) ∧
(¬ 0 < (lg_cmp x3 (100000000 : Int64)).toInt →
kd h (mr h x0 0) = 20 ∧
InB (mi h x0 3) (ln h (mr h x0 0)) ∧
kd h (mr h x0 1) = 20 ∧
InB (mi h x0 3) (ln h (mr h x0 1)) ∧
kd h (mr h x0 2) = 21 ∧
InB (mi h x0 3) (ln h (mr h x0 2)) ∧
Rt (.int (mi h x0 3)) (wi (wl (wi (wi h (mr h x0 0) (ix (mi h x0 3)) x1) (mr h x0 1) (ix (mi h x0 3)) x2) (mr h x0 2) (ix (mi h x0 3)) x3) x0 3 ((mi (wi (wi h (mr h x0 0) (ix (mi h x0 3)) x1) (mr h x0 1) (ix (mi h x0 3)) x2) x0 3) + (1 : Int32))))))))))) ∧
(¬ (mi h x0 3).toInt < (40 : Int32).toInt →
Rt (.int (-1 : Int32)) h)) : Sp k_Phases_keep [.ref x0, .int x1, .int x2, .long x3] h Rt := Sp_intro2 (by decide) (by decide +kernel) rfl (Nat.le_of_ble_eq_true rfl) (WM_at (hs := HH_Phases_keep) G_Phases_keep 55 0 rfl ⟨H.1, ⟨fun c8 => ⟨(H.2.1 c8).1, fun c9 => ⟨((H.2.1 c8).2 c9).1, fun c10 => ⟨(((H.2.1 c8).2 c9).2 c10).1, fun c11 => ⟨((((H.2.1 c8).2 c9).2 c10).2 c11).1, fun c12 => ⟨(((((H.2.1 c8).2 c9).2 c10).2 c11).2 c12).1, fun c13 => ⟨((((((H.2.1 c8).2 c9).2 c10).2 c11).2 c12).2 c13).1, fun c14 => ⟨(((((((H.2.1 c8).2 c9).2 c10).2 c11).2 c12).2 c13).2 c14).1, fun c15 => ⟨H.1, ⟨H.1, ⟨((((((((H.2.1 c8).2 c9).2 c10).2 c11).2 c12).2 c13).2 c14).2 c15).1, ⟨(((((((((H.2.1 c8).2 c9).2 c10).2 c11).2 c12).2 c13).2 c14).2 c15).2).1, ⟨H.1, ⟨((((((((((H.2.1 c8).2 c9).2 c10).2 c11).2 c12).2 c13).2 c14).2 c15).2).2).1, ⟨(((((((((((H.2.1 c8).2 c9).2 c10).2 c11).2 c12).2 c13).2 c14).2 c15).2).2).2).1, ⟨H.1, ⟨((((((((((((H.2.1 c8).2 c9).2 c10).2 c11).2 c12).2 c13).2 c14).2 c15).2).2).2).2).1, ⟨(((((((((((((H.2.1 c8).2 c9).2 c10).2 c11).2 c12).2 c13).2 c14).2 c15).2).2).2).2).2).1, ⟨H.1, ⟨H.1, (((((((((((((H.2.1 c8).2 c9).2 c10).2 c11).2 c12).2 c13).2 c14).2 c15).2).2).2).2).2).2⟩⟩⟩⟩⟩⟩⟩⟩⟩⟩⟩⟩⟩⟩⟩⟩⟩⟩⟩, H.2.2⟩⟩)
set_option maxRecDepth 100000 in
set_option maxHeartbeats 4000000 in
theorem v_Ho_phase (x0 : Nat) (x1 : Int32) (x2 : Int32) (x3 : Int64) (h : MH) (Rt : Value → MH → Prop) (H :
kd h x0 = 12 ∧
kd h (mr h x0 18) = 8 ∧
SpI k_Phases_keep [.ref (mr h x0 18), .int x1, .int x2, .long x3] h (fun r4 g2 =>
Rt (.int r4) g2)) : Sp k_Ho_phase [.ref x0, .int x1, .int x2, .long x3] h Rt := Sp_intro2 (by decide) (by decide +kernel) rfl (Nat.le_of_ble_eq_true rfl) (WM_at (hs := HH_Ho_phase) G_Ho_phase 8 0 rfl H)
set_option maxRecDepth 100000 in
set_option maxHeartbeats 4000000 in
theorem v_Ref_phase (x0 : Nat) (x1 : Int32) (x2 : Int32) (x3 : Int64) (h : MH) (Rt : Value → MH → Prop) (H :
kd h x0 = 13 ∧
((mi h x0 56) = (40 : Int32) →
Rt (.int (-1 : Int32)) h) ∧
(¬ (mi h x0 56) = (40 : Int32) →
SpI k_Ref_between [.long x1.toInt64, .long (0 : Int64), .long (99 : Int64)] h (fun r3 g2 =>
(r3 = 0 →
Rt (.int (-1 : Int32)) g2) ∧
(¬ r3 = 0 →
SpI k_Ref_between [.long x2.toInt64, .long (0 : Int64), .long (99 : Int64)] g2 (fun r5 g4 =>
(r5 = 0 →
Rt (.int (-1 : Int32)) g4) ∧
(¬ r5 = 0 →
((x1 + x2) = 0 →
Rt (.int (-1 : Int32)) g4) ∧
(¬ (x1 + x2) = 0 →
SpI k_Ref_between [.long x3, .long (-100000000 : Int64), .long (100000000 : Int64)] g4 (fun r7 g6 =>
(r7 = 0 →
Rt (.int (-1 : Int32)) g6) ∧
(¬ r7 = 0 →
kd g6 x0 = 13 ∧
kd g6 (mr g6 x0 53) = 20 ∧
InB (mi g6 x0 56) (ln g6 (mr g6 x0 53)) ∧
kd g6 (mr g6 x0 54) = 20 ∧
InB (mi (wi g6 (mr g6 x0 53) (ix (mi g6 x0 56)) x1) x0 56) (ln g6 (mr g6 x0 54)) ∧
kd g6 (mr g6 x0 55) = 21 ∧
InB (mi (wi (wi g6 (mr g6 x0 53) (ix (mi g6 x0 56)) x1) (mr g6 x0 54) (ix (mi (wi g6 (mr g6 x0 53) (ix (mi g6 x0 56)) x1) x0 56)) x2) x0 56) (ln g6 (mr g6 x0 55)) ∧
Rt (.int ((mi (wi (wl (wi (wi g6 (mr g6 x0 53) (ix (mi g6 x0 56)) x1) (mr g6 x0 54) (ix (mi (wi g6 (mr g6 x0 53) (ix (mi g6 x0 56)) x1) x0 56)) x2) (mr g6 x0 55) (ix (mi (wi (wi g6 (mr g6 x0 53) (ix (mi g6 x0 56)) x1) (mr g6 x0 54) (ix (mi (wi g6 (mr g6 x0 53) (ix (mi g6 x0 56)) x1) x0 56)) x2) x0 56)) x3) x0 56 ((mi (wi (wi g6 (mr g6 x0 53) (ix (mi g6 x0 56)) x1) (mr g6 x0 54) (ix (mi (wi g6 (mr g6 x0 53) (ix (mi g6 x0 56)) x1) x0 56)) x2) x0 56) + (1 : Int32))) x0 56) - (1 : Int32))) (wi (wl (wi (wi g6 (mr g6 x0 53) (ix (mi g6 x0 56)) x1) (mr g6 x0 54) (ix (mi (wi g6 (mr g6 x0 53) (ix (mi g6 x0 56)) x1) x0 56)) x2) (mr g6 x0 55) (ix (mi (wi (wi g6 (mr g6 x0 53) (ix (mi g6 x0 56)) x1) (mr g6 x0 54) (ix (mi (wi g6 (mr g6 x0 53) (ix (mi g6 x0 56)) x1) x0 56)) x2) x0 56)) x3) x0 56 ((mi (wi (wi g6 (mr g6 x0 53) (ix (mi g6 x0 56)) x1) (mr g6 x0 54) (ix (mi (wi g6 (mr g6 x0 53) (ix (mi g6 x0 56)) x1) x0 56)) x2) x0 56) + (1 : Int32)))))))))))) : Sp k_Ref_phase [.ref x0, .int x1, .int x2, .long x3] h Rt := Sp_intro2 (by decide) (by decide +kernel) rfl (Nat.le_of_ble_eq_true rfl) (WM_at (hs := HH_Ref_phase) G_Ref_phase 57 0 rfl ⟨H.1, ⟨H.2.1, fun c15 => SpI.mono (H.2.2 c15) (fun r3 g2 qg2 => ⟨qg2.1, fun c16 => SpI.mono (qg2.2 c16) (fun r5 g4 qg4 => ⟨qg4.1, fun c17 => ⟨(qg4.2 c17).1, fun c18 => SpI.mono ((qg4.2 c17).2 c18) (fun r7 g6 qg6 => ⟨qg6.1, fun c19 => ⟨(qg6.2 c19).1, ⟨(qg6.2 c19).1, ⟨((qg6.2 c19).2).1, ⟨(((qg6.2 c19).2).2).1, ⟨(qg6.2 c19).1, ⟨(qg6.2 c19).1, ⟨((((qg6.2 c19).2).2).2).1, ⟨(((((qg6.2 c19).2).2).2).2).1, ⟨(qg6.2 c19).1, ⟨(qg6.2 c19).1, ⟨((((((qg6.2 c19).2).2).2).2).2).1, ⟨(((((((qg6.2 c19).2).2).2).2).2).2).1, ⟨(qg6.2 c19).1, ⟨(qg6.2 c19).1, ⟨(qg6.2 c19).1, (((((((qg6.2 c19).2).2).2).2).2).2).2⟩⟩⟩⟩⟩⟩⟩⟩⟩⟩⟩⟩⟩⟩⟩⟩)⟩⟩)⟩)⟩⟩)
set_option maxRecDepth 100000 in
set_option maxHeartbeats 4000000 in
theorem v_Phases_cross (x0 : Nat) (x1 : Int32) (x2 : Int32) (h : MH) (Rt : Value → MH → Prop) (H :
kd h x0 = 8 ∧
kd h (mr h x0 0) = 20 ∧
InB x1 (ln h (mr h x0 0)) ∧
kd h (mr h x0 1) = 20 ∧
InB x2 (ln h (mr h x0 1)) ∧
InB x1 (ln h (mr h x0 1)) ∧
InB x2 (ln h (mr h x0 0)) ∧
Rt (.long ((((mi h (mr h x0 0) (ix x1)) * (mi h (mr h x0 1) (ix x2))) - ((mi h (mr h x0 1) (ix x1)) * (mi h (mr h x0 0) (ix x2)))).toInt64)) h) : Sp k_Phases_cross [.ref x0, .int x1, .int x2] h Rt := Sp_intro2 (by decide) (by decide +kernel) rfl (Nat.le_of_ble_eq_true rfl) (WM_at (hs := HH_Phases_cross) G_Phases_cross 22 0 rfl ⟨H.1, ⟨H.2.1, ⟨H.2.2.1, ⟨H.1, ⟨H.2.2.2.1, ⟨H.2.2.2.2.1, ⟨H.1, ⟨H.2.2.2.1, ⟨H.2.2.2.2.2.1, ⟨H.1, ⟨H.2.1, H.2.2.2.2.2.2⟩⟩⟩⟩⟩⟩⟩⟩⟩⟩⟩)
set_option maxRecDepth 100000 in
set_option maxHeartbeats 4000000 in
theorem v_Phases_offer (x0 : Nat) (x1 : Int64) (x3 : Int64) (h : MH) (Rt : Value → MH → Prop) (H :
kd h x0 = 8 ∧
(0 < (lg_cmp (x1 * (ml h x0 5)) ((ml h x0 4) * x3)).toInt →
Rt .null (wl (wl h x0 4 x1) x0 5 x3)) ∧
(¬ 0 < (lg_cmp (x1 * (ml h x0 5)) ((ml h x0 4) * x3)).toInt →
Rt .null h)) : Sp k_Phases_offer [.ref x0, .long x1, .long x3] h Rt := Sp_intro2 (by decide) (by decide +kernel) rfl (Nat.le_of_ble_eq_true rfl) (WM_at (hs := HH_Phases_offer) G_Phases_offer 18 0 rfl ⟨H.1, ⟨H.1, ⟨fun c2 => ⟨H.1, ⟨H.1, (H.2.1 c2)⟩⟩, H.2.2⟩⟩⟩)
set_option maxRecDepth 100000 in
set_option maxHeartbeats 4000000 in
theorem v_Phases_weighMixtures (x0 : Nat) (x1 : Int32) (x2 : Int32) (h : MH) (Rt : Value → MH → Prop) (H :
WM k_Phases_weighMixtures p_Phases_weighMixtures_1 [.ref x0, .int x1, .int x2, .int (0 : Int32), Jv, Jv] [] h 0 0 Rt) : Sp k_Phases_weighMixtures [.ref x0, .int x1, .int x2] h Rt := Sp_intro2 (by decide) (by decide +kernel) rfl (Nat.le_of_ble_eq_true rfl) (WM_at (hs := HH_Phases_weighMixtures) G_Phases_weighMixtures 51 0 rfl H)
set_option maxRecDepth 100000 in
set_option maxHeartbeats 4000000 in
theorem v_Phases_weighMixtures_1 (x0 : Nat) (x1 : Int32) (x2 : Int32) (x3 : Int32) (h : MH) (Rt : Value → MH → Prop) (H :
kd h x0 = 8 ∧
(x3.toInt < (mi h x0 3).toInt →
SpL k_Phases_cross [.ref x0, .int x1, .int x3] h (fun r3 g2 =>
(0 < (lg_cmp r3 (0 : Int64)).toInt →
kd g2 x0 = 8 ∧
SpL k_Phases_cross [.ref x0, .int x2, .int x3] g2 (fun r6 g4 =>
kd g4 x0 = 8 ∧
kd g4 (mr g4 x0 2) = 21 ∧
InB x1 (ln g4 (mr g4 x0 2)) ∧
InB x2 (ln g4 (mr g4 x0 2)) ∧
SpL k_Phases_cross [.ref x0, .int x1, .int x3] g4 (fun r12 g11 =>
kd g11 x0 = 8 ∧
kd g11 (mr g11 x0 2) = 21 ∧
InB x3 (ln g11 (mr g11 x0 2)) ∧
SpL k_Phases_cross [.ref x0, .int x2, .int x1] g11 (fun r17 g16 =>
kd g16 x0 = 8 ∧
SpV k_Phases_offer [.ref x0, .long ((((ml g4 (mr g4 x0 2) (ix x1)) * r6) - ((ml g4 (mr g4 x0 2) (ix x2)) * r12)) - ((ml g11 (mr g11 x0 2) (ix x3)) * r17)), .long r6] g16 (fun g18 =>
WM k_Phases_weighMixtures p_Phases_weighMixtures_1 [.ref x0, .int x1, .int x2, .int (x3 + (1 : Int32)), Jv, Jv] [] g18 0 0 Rt))))) ∧
(¬ 0 < (lg_cmp r3 (0 : Int64)).toInt →
WM k_Phases_weighMixtures p_Phases_weighMixtures_1 [.ref x0, .int x1, .int x2, .int (x3 + (1 : Int32)), Jv, Jv] [] g2 0 0 Rt))) ∧
(¬ x3.toInt < (mi h x0 3).toInt →
Rt .null h)) : WM k_Phases_weighMixtures p_Phases_weighMixtures_1 [.ref x0, .int x1, .int x2, .int x3, Jv, Jv] [] h 0 0 Rt := WM_at (hs := HH_Phases_weighMixtures) G_Phases_weighMixtures 51 2 rfl ⟨H.1, ⟨fun c20 => ⟨H.1, SpL.mono (H.2.1 c20) (fun r3 g2 qg2 => ⟨fun c21 => ⟨(qg2.1 c21).1, SpL.mono ((qg2.1 c21).2) (fun r6 g4 qg4 => ⟨qg4.1, ⟨qg4.2.1, ⟨qg4.2.2.1, ⟨qg4.1, ⟨qg4.2.1, ⟨qg4.2.2.2.1, ⟨qg4.1, SpL.mono qg4.2.2.2.2 (fun r12 g11 qg11 => ⟨qg11.1, ⟨qg11.2.1, ⟨qg11.2.2.1, ⟨qg11.1, qg11.2.2.2⟩⟩⟩⟩)⟩⟩⟩⟩⟩⟩⟩)⟩, qg2.2⟩)⟩, H.2.2⟩⟩
set_option maxRecDepth 100000 in
set_option maxHeartbeats 4000000 in
theorem v_Phases_weigh (x0 : Nat) (x1 : Int32) (h : MH) (Rt : Value → MH → Prop) (H :
kd h x0 = 8 ∧
WM k_Phases_weigh p_Phases_weigh_1 [.ref x0, .int x1, .int (0 : Int32), Jv, Jv, Jv, Jv, Jv, Jv] [] (wl (wl h x0 4 (0 : Int64)) x0 5 (1 : Int64)) 0 0 Rt) : Sp k_Phases_weigh [.ref x0, .int x1] h Rt := Sp_intro2 (by decide) (by decide +kernel) rfl (Nat.le_of_ble_eq_true rfl) (WM_at (hs := HH_Phases_weigh) G_Phases_weigh 105 0 rfl ⟨H.1, ⟨H.1, H.2⟩⟩)
set_option maxRecDepth 100000 in
set_option maxHeartbeats 4000000 in
theorem v_Phases_weigh_1 (x0 : Nat) (x1 : Int32) (x2 : Int32) (h : MH) (Rt : Value → MH → Prop) (H :
kd h x0 = 8 ∧
(x2.toInt < (mi h x0 3).toInt →
SpL k_Phases_cross [.ref x0, .int x2, .int x1] h (fun r7 g6 =>
((lg_cmp r7 (0 : Int64)) = 0 →
kd g6 x0 = 8 ∧
kd g6 (mr g6 x0 0) = 20 ∧
InB x1 (ln g6 (mr g6 x0 0)) ∧
kd g6 (mr g6 x0 1) = 20 ∧
InB x1 (ln g6 (mr g6 x0 1)) ∧
InB x2 (ln g6 (mr g6 x0 0)) ∧
InB x2 (ln g6 (mr g6 x0 1)) ∧
kd g6 (mr g6 x0 2) = 21 ∧
InB x1 (ln g6 (mr g6 x0 2)) ∧
InB x2 (ln g6 (mr g6 x0 2)) ∧
SpV k_Phases_offer [.ref x0, .long (((ml g6 (mr g6 x0 2) (ix x1)) * ((mi g6 (mr g6 x0 0) (ix x2)) + (mi g6 (mr g6 x0 1) (ix x2))).toInt64) - ((ml g6 (mr g6 x0 2) (ix x2)) * ((mi g6 (mr g6 x0 0) (ix x1)) + (mi g6 (mr g6 x0 1) (ix x1))).toInt64)), .long (((mi g6 (mr g6 x0 0) (ix x2)) + (mi g6 (mr g6 x0 1) (ix x2))).toInt64)] g6 (fun g20 =>
WM k_Phases_weigh p_Phases_weigh_1 [.ref x0, .int x1, .int (x2 + (1 : Int32)), Jv, Jv, Jv, Jv, Jv, Jv] [] g20 0 0 Rt)) ∧
(¬ (lg_cmp r7 (0 : Int64)) = 0 →
(0 < (lg_cmp r7 (0 : Int64)).toInt →
kd g6 x0 = 8 ∧
SpV k_Phases_weighMixtures [.ref x0, .int x1, .int x2] g6 (fun g8 =>
WM k_Phases_weigh p_Phases_weigh_1 [.ref x0, .int x1, .int (x2 + (1 : Int32)), Jv, Jv, Jv, Jv, Jv, Jv] [] g8 0 0 Rt)) ∧
(¬ 0 < (lg_cmp r7 (0 : Int64)).toInt →
WM k_Phases_weigh p_Phases_weigh_1 [.ref x0, .int x1, .int (x2 + (1 : Int32)), Jv, Jv, Jv, Jv, Jv, Jv] [] g6 0 0 Rt)))) ∧
(¬ x2.toInt < (mi h x0 3).toInt →
kd h (mr h x0 0) = 20 ∧
InB x1 (ln h (mr h x0 0)) ∧
kd h (mr h x0 1) = 20 ∧
InB x1 (ln h (mr h x0 1)) ∧
WM k_Phases_weigh p_Phases_weigh_2 [.ref x0, Jv, Jv, Jv, Jv, Jv, Jv, Jv, Jv] [] (wl h x0 5 ((ml h x0 5) * ((mi h (mr h x0 0) (ix x1)) + (mi h (mr h x0 1) (ix x1))).toInt64)) 0 0 Rt)) : WM k_Phases_weigh p_Phases_weigh_1 [.ref x0, .int x1, .int x2, Jv, Jv, Jv, Jv, Jv, Jv] [] h 0 0 Rt := WM_at (hs := HH_Phases_weigh) G_Phases_weigh 105 8 rfl ⟨H.1, ⟨fun c21 => ⟨H.1, SpL.mono (H.2.1 c21) (fun r7 g6 qg6 => ⟨fun c22 => ⟨(qg6.1 c22).1, ⟨((qg6.1 c22).2).1, ⟨(((qg6.1 c22).2).2).1, ⟨(qg6.1 c22).1, ⟨((((qg6.1 c22).2).2).2).1, ⟨(((((qg6.1 c22).2).2).2).2).1, ⟨(qg6.1 c22).1, ⟨((qg6.1 c22).2).1, ⟨((((((qg6.1 c22).2).2).2).2).2).1, ⟨(qg6.1 c22).1, ⟨((((qg6.1 c22).2).2).2).1, ⟨(((((((qg6.1 c22).2).2).2).2).2).2).1, ⟨(qg6.1 c22).1, ⟨((((((((qg6.1 c22).2).2).2).2).2).2).2).1, ⟨(((((((((qg6.1 c22).2).2).2).2).2).2).2).2).1, ⟨(qg6.1 c22).1, ⟨((((((((qg6.1 c22).2).2).2).2).2).2).2).1, ⟨((((((((((qg6.1 c22).2).2).2).2).2).2).2).2).2).1, ⟨(qg6.1 c22).1, ((((((((((qg6.1 c22).2).2).2).2).2).2).2).2).2).2⟩⟩⟩⟩⟩⟩⟩⟩⟩⟩⟩⟩⟩⟩⟩⟩⟩⟩⟩, qg6.2⟩)⟩, fun c21 => ⟨H.1, ⟨H.1, ⟨(H.2.2 c21).1, ⟨((H.2.2 c21).2).1, ⟨H.1, ⟨(((H.2.2 c21).2).2).1, ⟨((((H.2.2 c21).2).2).2).1, ⟨H.1, ((((H.2.2 c21).2).2).2).2⟩⟩⟩⟩⟩⟩⟩⟩⟩⟩
set_option maxRecDepth 100000 in
set_option maxHeartbeats 4000000 in
theorem v_Phases_weigh_2 (x0 : Nat) (h : MH) (Rt : Value → MH → Prop) (H :
kd h x0 = 8 ∧
SpL k_Ho_commonDivisor [.long (ml h x0 4), .long (ml h x0 5)] h (fun r3 g2 =>
kd g2 x0 = 8 ∧
r3 ≠ 0 ∧
Rt .null (wl (wl g2 x0 4 ((ml g2 x0 4) / r3)) x0 5 ((ml (wl g2 x0 4 ((ml g2 x0 4) / r3)) x0 5) / r3)))) : WM k_Phases_weigh p_Phases_weigh_2 [.ref x0, Jv, Jv, Jv, Jv, Jv, Jv, Jv, Jv] [] h 0 0 Rt := WM_at (hs := HH_Phases_weigh) G_Phases_weigh 105 85 rfl ⟨H.1, ⟨H.1, SpL.mono H.2 (fun r3 g2 qg2 => ⟨qg2.1, ⟨qg2.2.1, ⟨qg2.1, ⟨qg2.1, ⟨qg2.2.1, ⟨qg2.1, qg2.2.2⟩⟩⟩⟩⟩⟩)⟩⟩
set_option maxRecDepth 100000 in
set_option maxHeartbeats 4000000 in
theorem v_Phases_countStable (x0 : Nat) (h : MH) (Rt : Value → MH → Prop) (H :
WM k_Phases_countStable p_Phases_countStable_1 [.ref x0, .int (0 : Int32), .int (0 : Int32)] [] h 0 0 Rt) : Sp k_Phases_countStable [.ref x0] h Rt := Sp_intro2 (by decide) (by decide +kernel) rfl (Nat.le_of_ble_eq_true rfl) (WM_at (hs := HH_Phases_countStable) G_Phases_countStable 22 0 rfl H)
set_option maxRecDepth 100000 in
set_option maxHeartbeats 4000000 in
theorem v_Phases_countStable_1 (x0 : Nat) (x1 : Int32) (x2 : Int32) (h : MH) (Rt : Value → MH → Prop) (H :
kd h x0 = 8 ∧
(x2.toInt < (mi h x0 3).toInt →
SpV k_Phases_weigh [.ref x0, .int x2] h (fun g2 =>
kd g2 x0 = 8 ∧
((lg_cmp (ml g2 x0 4) (0 : Int64)) = 0 →
WM k_Phases_countStable p_Phases_countStable_1 [.ref x0, .int (x1 + (1 : Int32)), .int (x2 + (1 : Int32))] [] g2 0 0 Rt) ∧
(¬ (lg_cmp (ml g2 x0 4) (0 : Int64)) = 0 →
WM k_Phases_countStable p_Phases_countStable_1 [.ref x0, .int x1, .int (x2 + (1 : Int32))] [] g2 0 0 Rt))) ∧
(¬ x2.toInt < (mi h x0 3).toInt →
Rt (.int x1) h)) : WM k_Phases_countStable p_Phases_countStable_1 [.ref x0, .int x1, .int x2] [] h 0 0 Rt := WM_at (hs := HH_Phases_countStable) G_Phases_countStable 22 4 rfl ⟨H.1, ⟨fun c4 => ⟨H.1, (H.2.1 c4)⟩, H.2.2⟩⟩
set_option maxRecDepth 100000 in
set_option maxHeartbeats 4000000 in
theorem v_Ho_above (x0 : Nat) (x1 : Int32) (x2 : Int32) (h : MH) (Rt : Value → MH → Prop) (H :
(x2 = (2 : Int32) →
kd h x0 = 12 ∧
kd h (mr h x0 18) = 8 ∧
SpI k_Phases_countStable [.ref (mr h x0 18)] h (fun r11 g9 =>
Rt (.long r11.toInt64) g9)) ∧
(¬ x2 = (2 : Int32) →
(x1.toInt < 0 →
Rt (.long (0 : Int64)) h) ∧
(¬ x1.toInt < 0 →
kd h x0 = 12 ∧
kd h (mr h x0 18) = 8 ∧
(x1.toInt < (mi h (mr h x0 18) 3).toInt →
(x2.toInt < 0 →
Rt (.long (0 : Int64)) h) ∧
(¬ x2.toInt < 0 →
((1 : Int32).toInt < x2.toInt →
Rt (.long (0 : Int64)) h) ∧
(¬ (1 : Int32).toInt < x2.toInt →
SpV k_Phases_weigh [.ref (mr h x0 18), .int x1] h (fun g3 =>
(x2 = 0 →
kd g3 x0 = 12 ∧
kd g3 (mr g3 x0 18) = 8 ∧
Rt (.long (ml g3 (mr g3 x0 18) 4)) g3) ∧
(¬ x2 = 0 →
kd g3 x0 = 12 ∧
kd g3 (mr g3 x0 18) = 8 ∧
Rt (.long (ml g3 (mr g3 x0 18) 5)) g3))))) ∧
(¬ x1.toInt < (mi h (mr h x0 18) 3).toInt →
Rt (.long (0 : Int64)) h)))) : Sp k_Ho_above [.ref x0, .int x1, .int x2] h Rt := Sp_intro2 (by decide) (by decide +kernel) rfl (Nat.le_of_ble_eq_true rfl) (WM_at (hs := HH_Ho_above) G_Ho_above 37 0 rfl ⟨H.1, fun c12 => ⟨(H.2 c12).1, fun c13 => ⟨((H.2 c12).2 c13).1, ⟨(((H.2 c12).2 c13).2).1, ⟨fun c14 => ⟨(((((H.2 c12).2 c13).2).2).1 c14).1, fun c15 => ⟨((((((H.2 c12).2 c13).2).2).1 c14).2 c15).1, fun c16 => ⟨((H.2 c12).2 c13).1, ⟨(((H.2 c12).2 c13).2).1, (((((((H.2 c12).2 c13).2).2).1 c14).2 c15).2 c16)⟩⟩⟩⟩, ((((H.2 c12).2 c13).2).2).2⟩⟩⟩⟩⟩)
set_option maxRecDepth 100000 in
set_option maxHeartbeats 4000000 in
theorem v_Ref_lesser (x0 : Nat) (x1 : Int64) (x3 : Int64) (h : MH) (Rt : Value → MH → Prop) (H :
kd h x0 = 13 ∧
((lg_cmp (x1 * (ml h x0 58)) ((ml h x0 57) * x3)).toInt < 0 →
Rt .null (wl (wl h x0 57 x1) x0 58 x3)) ∧
(¬ (lg_cmp (x1 * (ml h x0 58)) ((ml h x0 57) * x3)).toInt < 0 →
Rt .null h)) : Sp k_Ref_lesser [.ref x0, .long x1, .long x3] h Rt := Sp_intro2 (by decide) (by decide +kernel) rfl (Nat.le_of_ble_eq_true rfl) (WM_at (hs := HH_Ref_lesser) G_Ref_lesser 19 0 rfl ⟨H.1, ⟨H.1, ⟨fun c2 => ⟨H.1, ⟨H.1, (H.2.1 c2)⟩⟩, H.2.2⟩⟩⟩)
set_option maxRecDepth 100000 in
set_option maxHeartbeats 4000000 in
theorem v_Ref_hullOf (x0 : Nat) (x1 : Int32) (h : MH) (Rt : Value → MH → Prop) (H :
kd h x0 = 13 ∧
kd h (mr h x0 53) = 20 ∧
InB x1 (ln h (mr h x0 53)) ∧
kd h (mr h x0 54) = 20 ∧
InB x1 (ln h (mr h x0 54)) ∧
kd h (mr h x0 55) = 21 ∧
InB x1 (ln h (mr h x0 55)) ∧
WM k_Ref_hullOf p_Ref_hullOf_1 [.ref x0, Jv, .long ((mi h (mr h x0 53) (ix x1)).toInt64), Jv, .long ((mi h (mr h x0 54) (ix x1)).toInt64), Jv, .int (0 : Int32), Jv, Jv, Jv, Jv, Jv, Jv, Jv] [] (wl (wl h x0 57 (ml h (mr h x0 55) (ix x1))) x0 58 (1 : Int64)) 0 0 Rt) : Sp k_Ref_hullOf [.ref x0, .int x1] h Rt := Sp_intro2 (by decide) (by decide +kernel) rfl (Nat.le_of_ble_eq_true rfl) (WM_at (hs := HH_Ref_hullOf) G_Ref_hullOf 159 0 rfl ⟨H.1, ⟨H.2.1, ⟨H.2.2.1, ⟨H.1, ⟨H.2.2.2.1, ⟨H.2.2.2.2.1, ⟨H.1, ⟨H.2.2.2.2.2.1, ⟨H.2.2.2.2.2.2.1, ⟨H.1, ⟨H.1, H.2.2.2.2.2.2.2⟩⟩⟩⟩⟩⟩⟩⟩⟩⟩⟩)
set_option maxRecDepth 100000 in
set_option maxHeartbeats 4000000 in
theorem v_Ref_hullOf_1 (x0 : Nat) (x2 : Int64) (x4 : Int64) (x6 : Int32) (h : MH) (Rt : Value → MH → Prop) (H :
kd h x0 = 13 ∧
(x6.toInt < (mi h x0 56).toInt →
kd h (mr h x0 53) = 20 ∧
InB x6 (ln h (mr h x0 53)) ∧
kd h (mr h x0 54) = 20 ∧
InB x6 (ln h (mr h x0 54)) ∧
((lg_cmp ((mi h (mr h x0 53) (ix x6)).toInt64 * x4) ((mi h (mr h x0 54) (ix x6)).toInt64 * x2)) = 0 →
kd h (mr h x0 55) = 21 ∧
InB x6 (ln h (mr h x0 55)) ∧
SpV k_Ref_lesser [.ref x0, .long ((ml h (mr h x0 55) (ix x6)) * (x2 + x4)), .long (((mi h (mr h x0 53) (ix x6)) + (mi h (mr h x0 54) (ix x6))).toInt64)] h (fun g8 =>
WM k_Ref_hullOf p_Ref_hullOf_2 [.ref x0, Jv, .long x2, Jv, .long x4, Jv, .int x6, .int (0 : Int32), Jv, Jv, Jv, Jv, Jv, Jv] [] g8 0 0 Rt)) ∧
(¬ (lg_cmp ((mi h (mr h x0 53) (ix x6)).toInt64 * x4) ((mi h (mr h x0 54) (ix x6)).toInt64 * x2)) = 0 →
WM k_Ref_hullOf p_Ref_hullOf_2 [.ref x0, Jv, .long x2, Jv, .long x4, Jv, .int x6, .int (0 : Int32), Jv, Jv, Jv, Jv, Jv, Jv] [] h 0 0 Rt)) ∧
(¬ x6.toInt < (mi h x0 56).toInt →
Rt .null h)) : WM k_Ref_hullOf p_Ref_hullOf_1 [.ref x0, Jv, .long x2, Jv, .long x4, Jv, .int x6, Jv, Jv, Jv, Jv, Jv, Jv, Jv] [] h 0 0 Rt := WM_at (hs := HH_Ref_hullOf) G_Ref_hullOf 159 23 rfl ⟨H.1, ⟨fun c9 => ⟨H.1, ⟨(H.2.1 c9).1, ⟨((H.2.1 c9).2).1, ⟨H.1, ⟨(((H.2.1 c9).2).2).1, ⟨((((H.2.1 c9).2).2).2).1, ⟨fun c10 => ⟨H.1, ⟨((((((H.2.1 c9).2).2).2).2).1 c10).1, ⟨(((((((H.2.1 c9).2).2).2).2).1 c10).2).1, ⟨H.1, ⟨(H.2.1 c9).1, ⟨((H.2.1 c9).2).1, ⟨H.1, ⟨(((H.2.1 c9).2).2).1, ⟨((((H.2.1 c9).2).2).2).1, ⟨H.1, (((((((H.2.1 c9).2).2).2).2).1 c10).2).2⟩⟩⟩⟩⟩⟩⟩⟩⟩⟩, (((((H.2.1 c9).2).2).2).2).2⟩⟩⟩⟩⟩⟩⟩, H.2.2⟩⟩
set_option maxRecDepth 100000 in
set_option maxHeartbeats 4000000 in
theorem v_Ref_hullOf_2 (x0 : Nat) (x2 : Int64) (x4 : Int64) (x6 : Int32) (x7 : Int32) (h : MH) (Rt : Value → MH → Prop) (H :
kd h x0 = 13 ∧
(x7.toInt < (mi h x0 56).toInt →
kd h (mr h x0 53) = 20 ∧
InB x6 (ln h (mr h x0 53)) ∧
kd h (mr h x0 54) = 20 ∧
InB x7 (ln h (mr h x0 54)) ∧
InB x6 (ln h (mr h x0 54)) ∧
InB x7 (ln h (mr h x0 53)) ∧
(0 < (lg_cmp (((mi h (mr h x0 53) (ix x6)).toInt64 * (mi h (mr h x0 54) (ix x7)).toInt64) - ((mi h (mr h x0 54) (ix x6)).toInt64 * (mi h (mr h x0 53) (ix x7)).toInt64)) (0 : Int64)).toInt →
((lg_cmp ((x2 * (mi h (mr h x0 54) (ix x7)).toInt64) - (x4 * (mi h (mr h x0 53) (ix x7)).toInt64)) (0 : Int64)).toInt < 0 →
WM k_Ref_hullOf p_Ref_hullOf_2 [.ref x0, Jv, .long x2, Jv, .long x4, Jv, .int x6, .int (x7 + (1 : Int32)), Jv, Jv, Jv, Jv, Jv, Jv] [] h 0 0 Rt) ∧
(¬ (lg_cmp ((x2 * (mi h (mr h x0 54) (ix x7)).toInt64) - (x4 * (mi h (mr h x0 53) (ix x7)).toInt64)) (0 : Int64)).toInt < 0 →
((lg_cmp (((mi h (mr h x0 53) (ix x6)).toInt64 * x4) - ((mi h (mr h x0 54) (ix x6)).toInt64 * x2)) (0 : Int64)).toInt < 0 →
WM k_Ref_hullOf p_Ref_hullOf_2 [.ref x0, Jv, .long x2, Jv, .long x4, Jv, .int x6, .int (x7 + (1 : Int32)), Jv, Jv, Jv, Jv, Jv, Jv] [] h 0 0 Rt) ∧
(¬ (lg_cmp (((mi h (mr h x0 53) (ix x6)).toInt64 * x4) - ((mi h (mr h x0 54) (ix x6)).toInt64 * x2)) (0 : Int64)).toInt < 0 →
WM k_Ref_hullOf p_Ref_hullOf_3 [.ref x0, Jv, .long x2, Jv, .long x4, Jv, .int x6, .int x7, .long (((mi h (mr h x0 53) (ix x6)).toInt64 * (mi h (mr h x0 54) (ix x7)).toInt64) - ((mi h (mr h x0 54) (ix x6)).toInt64 * (mi h (mr h x0 53) (ix x7)).toInt64)), Jv, .long ((x2 * (mi h (mr h x0 54) (ix x7)).toInt64) - (x4 * (mi h (mr h x0 53) (ix x7)).toInt64)), Jv, .long (((mi h (mr h x0 53) (ix x6)).toInt64 * x4) - ((mi h (mr h x0 54) (ix x6)).toInt64 * x2)), Jv] [] h 0 0 Rt))) ∧
(¬ 0 < (lg_cmp (((mi h (mr h x0 53) (ix x6)).toInt64 * (mi h (mr h x0 54) (ix x7)).toInt64) - ((mi h (mr h x0 54) (ix x6)).toInt64 * (mi h (mr h x0 53) (ix x7)).toInt64)) (0 : Int64)).toInt →
WM k_Ref_hullOf p_Ref_hullOf_2 [.ref x0, Jv, .long x2, Jv, .long x4, Jv, .int x6, .int (x7 + (1 : Int32)), Jv, Jv, Jv, Jv, Jv, Jv] [] h 0 0 Rt)) ∧
(¬ x7.toInt < (mi h x0 56).toInt →
WM k_Ref_hullOf p_Ref_hullOf_1 [.ref x0, Jv, .long x2, Jv, .long x4, Jv, .int (x6 + (1 : Int32)), Jv, Jv, Jv, Jv, Jv, Jv, Jv] [] h 0 0 Rt)) : WM k_Ref_hullOf p_Ref_hullOf_2 [.ref x0, Jv, .long x2, Jv, .long x4, Jv, .int x6, .int x7, Jv, Jv, Jv, Jv, Jv, Jv] [] h 0 0 Rt := WM_at (hs := HH_Ref_hullOf) G_Ref_hullOf 159 65 rfl ⟨H.1, ⟨fun c8 => ⟨H.1, ⟨(H.2.1 c8).1, ⟨((H.2.1 c8).2).1, ⟨H.1, ⟨(((H.2.1 c8).2).2).1, ⟨((((H.2.1 c8).2).2).2).1, ⟨H.1, ⟨(((H.2.1 c8).2).2).1, ⟨(((((H.2.1 c8).2).2).2).2).1, ⟨H.1, ⟨(H.2.1 c8).1, ⟨((((((H.2.1 c8).2).2).2).2).2).1, ⟨H.1, ⟨(((H.2.1 c8).2).2).1, ⟨((((H.2.1 c8).2).2).2).1, ⟨H.1, ⟨(H.2.1 c8).1, ⟨((((((H.2.1 c8).2).2).2).2).2).1, ⟨H.1, ⟨(H.2.1 c8).1, ⟨((H.2.1 c8).2).1, ⟨H.1, ⟨(((H.2.1 c8).2).2).1, ⟨(((((H.2.1 c8).2).2).2).2).1, ((((((H.2.1 c8).2).2).2).2).2).2⟩⟩⟩⟩⟩⟩⟩⟩⟩⟩⟩⟩⟩⟩⟩⟩⟩⟩⟩⟩⟩⟩⟩⟩, H.2.2⟩⟩
set_option maxRecDepth 100000 in
set_option maxHeartbeats 4000000 in
theorem v_Ref_hullOf_3 (x0 : Nat) (x2 : Int64) (x4 : Int64) (x6 : Int32) (x7 : Int32) (x8 : Int64) (x10 : Int64) (x12 : Int64) (h : MH) (Rt : Value → MH → Prop) (H :
kd h x0 = 13 ∧
kd h (mr h x0 55) = 21 ∧
InB x6 (ln h (mr h x0 55)) ∧
InB x7 (ln h (mr h x0 55)) ∧
SpV k_Ref_lesser [.ref x0, .long ((x10 * (ml h (mr h x0 55) (ix x6))) + (x12 * (ml h (mr h x0 55) (ix x7)))), .long x8] h (fun g5 =>
WM k_Ref_hullOf p_Ref_hullOf_2 [.ref x0, Jv, .long x2, Jv, .long x4, Jv, .int x6, .int (x7 + (1 : Int32)), Jv, Jv, Jv, Jv, Jv, Jv] [] g5 0 0 Rt)) : WM k_Ref_hullOf p_Ref_hullOf_3 [.ref x0, Jv, .long x2, Jv, .long x4, Jv, .int x6, .int x7, .long x8, Jv, .long x10, Jv, .long x12, Jv] [] h 0 0 Rt := WM_at (hs := HH_Ref_hullOf) G_Ref_hullOf 159 137 rfl ⟨H.1, ⟨H.2.1, ⟨H.2.2.1, ⟨H.1, ⟨H.2.1, ⟨H.2.2.2.1, ⟨H.1, H.2.2.2.2⟩⟩⟩⟩⟩⟩⟩
set_option maxRecDepth 100000 in
set_option maxHeartbeats 4000000 in
theorem v_Ref_aboveOf (x0 : Nat) (x1 : Int32) (h : MH) (Rt : Value → MH → Prop) (H :
kd h x0 = 13 ∧
SpV k_Ref_hullOf [.ref x0, .int x1] h (fun g1 =>
kd g1 x0 = 13 ∧
kd g1 (mr g1 x0 55) = 21 ∧
InB x1 (ln g1 (mr g1 x0 55)) ∧
kd g1 (mr g1 x0 53) = 20 ∧
InB x1 (ln g1 (mr g1 x0 53)) ∧
kd g1 (mr g1 x0 54) = 20 ∧
InB x1 (ln g1 (mr g1 x0 54)) ∧
WM k_Ref_aboveOf p_Ref_aboveOf_1 [.ref x0, Jv, .long (((ml g1 (mr g1 x0 55) (ix x1)) * (ml g1 x0 58)) - (ml g1 x0 57)), Jv, .long ((ml g1 x0 58) * ((mi g1 (mr g1 x0 53) (ix x1)) + (mi g1 (mr g1 x0 54) (ix x1))).toInt64), Jv, .long ((ml g1 x0 58) * ((mi g1 (mr g1 x0 53) (ix x1)) + (mi g1 (mr g1 x0 54) (ix x1))).toInt64), Jv, .long (((ml g1 (mr g1 x0 55) (ix x1)) * (ml g1 x0 58)) - (ml g1 x0 57)), Jv, Jv, Jv] [] g1 0 0 Rt)) : Sp k_Ref_aboveOf [.ref x0, .int x1] h Rt := Sp_intro2 (by decide) (by decide +kernel) rfl (Nat.le_of_ble_eq_true rfl) (WM_at (hs := HH_Ref_aboveOf) G_Ref_aboveOf 57 0 rfl ⟨H.1, SpV.mono H.2 (fun g1 qg1 => ⟨qg1.1, ⟨qg1.2.1, ⟨qg1.2.2.1, ⟨qg1.1, ⟨qg1.1, ⟨qg1.1, ⟨qg1.1, ⟨qg1.2.2.2.1, ⟨qg1.2.2.2.2.1, ⟨qg1.1, qg1.2.2.2.2.2⟩⟩⟩⟩⟩⟩⟩⟩⟩⟩)⟩)
set_option maxRecDepth 100000 in
set_option maxHeartbeats 4000000 in
theorem v_Ref_aboveOf_1 (x0 : Nat) (x2 : Int64) (x4 : Int64) (x6 : Int64) (x8 : Int64) (h : MH) (Rt : Value → MH → Prop) (H :
((lg_cmp x8 (0 : Int64)) = 0 →
x6 ≠ 0 ∧
kd h x0 = 13 ∧
Rt .null (wl (wl h x0 57 (x2 / x6)) x0 58 (x4 / x6))) ∧
(¬ (lg_cmp x8 (0 : Int64)) = 0 →
x8 ≠ 0 ∧
WM k_Ref_aboveOf p_Ref_aboveOf_1 [.ref x0, Jv, .long x2, Jv, .long x4, Jv, .long x8, Jv, .long (lrm x6 x8), Jv, Jv, Jv] [] h 0 0 Rt)) : WM k_Ref_aboveOf p_Ref_aboveOf_1 [.ref x0, Jv, .long x2, Jv, .long x4, Jv, .long x6, Jv, .long x8, Jv, Jv, Jv] [] h 0 0 Rt := WM_at (hs := HH_Ref_aboveOf) G_Ref_aboveOf 57 32 rfl ⟨fun c4 => ⟨(H.1 c4).1, ⟨((H.1 c4).2).1, ⟨(H.1 c4).1, ⟨((H.1 c4).2).1, ((H.1 c4).2).2⟩⟩⟩⟩, H.2⟩
set_option maxRecDepth 100000 in
set_option maxHeartbeats 4000000 in
theorem v_Ref_above (x0 : Nat) (x1 : Int32) (x2 : Int32) (h : MH) (Rt : Value → MH → Prop) (H :
(x2 = (2 : Int32) →
WM k_Ref_above p_Ref_above_1 [.ref x0, Jv, Jv, .long (0 : Int64), Jv, .int (0 : Int32)] [] h 0 0 Rt) ∧
(¬ x2 = (2 : Int32) →
(x1.toInt < 0 →
Rt (.long (0 : Int64)) h) ∧
(¬ x1.toInt < 0 →
kd h x0 = 13 ∧
(x1.toInt < (mi h x0 56).toInt →
(x2 = 0 →
WM k_Ref_above p_Ref_above_2 [.ref x0, .int x1, .int x2, Jv, Jv, Jv] [] h 0 0 Rt) ∧
(¬ x2 = 0 →
(x2 = (1 : Int32) →
WM k_Ref_above p_Ref_above_2 [.ref x0, .int x1, .int x2, Jv, Jv, Jv] [] h 0 0 Rt) ∧
(¬ x2 = (1 : Int32) →
Rt (.long (0 : Int64)) h))) ∧
(¬ x1.toInt < (mi h x0 56).toInt →
Rt (.long (0 : Int64)) h)))) : Sp k_Ref_above [.ref x0, .int x1, .int x2] h Rt := Sp_intro2 (by decide) (by decide +kernel) rfl (Nat.le_of_ble_eq_true rfl) (WM_at (hs := HH_Ref_above) G_Ref_above 54 0 rfl H)
set_option maxRecDepth 100000 in
set_option maxHeartbeats 4000000 in
theorem v_Ref_above_1 (x0 : Nat) (x3 : Int64) (x5 : Int32) (h : MH) (Rt : Value → MH → Prop) (H :
kd h x0 = 13 ∧
(x5.toInt < (mi h x0 56).toInt →
SpV k_Ref_aboveOf [.ref x0, .int x5] h (fun g2 =>
kd g2 x0 = 13 ∧
((lg_cmp (ml g2 x0 57) (0 : Int64)) = 0 →
WM k_Ref_above p_Ref_above_1 [.ref x0, Jv, Jv, .long (x3 + (1 : Int64)), Jv, .int (x5 + (1 : Int32))] [] g2 0 0 Rt) ∧
(¬ (lg_cmp (ml g2 x0 57) (0 : Int64)) = 0 →
WM k_Ref_above p_Ref_above_1 [.ref x0, Jv, Jv, .long (x3 + (0 : Int64)), Jv, .int (x5 + (1 : Int32))] [] g2 0 0 Rt))) ∧
(¬ x5.toInt < (mi h x0 56).toInt →
Rt (.long x3) h)) : WM k_Ref_above p_Ref_above_1 [.ref x0, Jv, Jv, .long x3, Jv, .int x5] [] h 0 0 Rt := WM_at (hs := HH_Ref_above) G_Ref_above 54 7 rfl ⟨H.1, ⟨fun c4 => ⟨H.1, (H.2.1 c4)⟩, H.2.2⟩⟩
set_option maxRecDepth 100000 in
set_option maxHeartbeats 4000000 in
theorem v_Ref_above_2 (x0 : Nat) (x1 : Int32) (x2 : Int32) (h : MH) (Rt : Value → MH → Prop) (H :
kd h x0 = 13 ∧
SpV k_Ref_aboveOf [.ref x0, .int x1] h (fun g1 =>
(x2 = 0 →
kd g1 x0 = 13 ∧
Rt (.long (ml g1 x0 57)) g1) ∧
(¬ x2 = 0 →
kd g1 x0 = 13 ∧
Rt (.long (ml g1 x0 58)) g1))) : WM k_Ref_above p_Ref_above_2 [.ref x0, .int x1, .int x2, Jv, Jv, Jv] [] h 0 0 Rt := WM_at (hs := HH_Ref_above) G_Ref_above 54 42 rfl H
set_option maxRecDepth 100000 in
set_option maxHeartbeats 4000000 in
theorem v_Law_law (x0 : Nat) (h : MH) (Rt : Value → MH → Prop) (H :
kd (nw h 12 0) (hn h) = 12 ∧
SpV k_Ho_init [.ref (hn h)] (nw h 12 0) (fun g1 =>
kd (nw g1 13 0) (hn g1) = 13 ∧
SpV k_Ref_init [.ref (hn g1)] (nw g1 13 0) (fun g3 =>
WM k_Law_law p_Law_law_1 [.ref x0, .ref (hn h), .ref (hn g1), .int (0 : Int32)] [] g3 94 110249 Rt))) : Sp k_Law_law [.ref x0] h Rt := Sp_intro2 (by decide) (by decide +kernel) rfl (Nat.le_of_ble_eq_true rfl) (WM_at (hs := HH_Law_law) G_Law_law 1131 0 rfl H)
set_option maxRecDepth 100000 in
set_option maxHeartbeats 4000000 in
theorem v_Law_law_1 (x0 : Nat) (x1 : Nat) (x2 : Nat) (x3 : Int32) (cc ss : Nat) (h : MH) (Rt : Value → MH → Prop) (H :
kd h x0 = 19 ∧
(((Int32.ofNat (ln h x0)) - (7 : Int32)).toInt < x3.toInt →
gd cc 600000 (
gd ss 7302250 (
Rt (.int (1 : Int32)) h))) ∧
(¬ ((Int32.ofNat (ln h x0)) - (7 : Int32)).toInt < x3.toInt →
InB x3 (ln h x0) ∧
(((mi h x0 (ix x3)) &&& (63 : Int32)) = (0 : Int32) →
InB (x3 + (1 : Int32)) (ln h x0) ∧
InB (x3 + (2 : Int32)) (ln h x0) ∧
InB (x3 + (3 : Int32)) (ln h x0) ∧
InB (x3 + (4 : Int32)) (ln h x0) ∧
InB (x3 + (5 : Int32)) (ln h x0) ∧
kd h x1 = 12 ∧
gd (cc + 0) 600000 (
gd (ss + 0) 7302250 (
SpV k_Ho_feed [.ref x1, .int (mi h x0 (ix (x3 + (1 : Int32)))), .int (mi h x0 (ix (x3 + (2 : Int32)))), .int (mi h x0 (ix (x3 + (3 : Int32)))), .int (mi h x0 (ix (x3 + (4 : Int32)))), .int (mi h x0 (ix (x3 + (5 : Int32))))] h (fun g377 =>
kd g377 x0 = 19 ∧
InB (x3 + (1 : Int32)) (ln g377 x0) ∧
InB (x3 + (2 : Int32)) (ln g377 x0) ∧
InB (x3 + (3 : Int32)) (ln g377 x0) ∧
InB (x3 + (4 : Int32)) (ln g377 x0) ∧
InB (x3 + (5 : Int32)) (ln g377 x0) ∧
kd g377 x2 = 13 ∧
gd ((cc + 0) + 0) 600000 (
gd ((ss + 0) + 0) 7302250 (
SpV k_Ref_feed [.ref x2, .int (mi g377 x0 (ix (x3 + (1 : Int32)))), .int (mi g377 x0 (ix (x3 + (2 : Int32)))), .int (mi g377 x0 (ix (x3 + (3 : Int32)))), .int (mi g377 x0 (ix (x3 + (4 : Int32)))), .int (mi g377 x0 (ix (x3 + (5 : Int32))))] g377 (fun g385 =>
WM k_Law_law p_Law_law_1 [.ref x0, .ref x1, .ref x2, .int (x3 + (7 : Int32))] [] g385 ((cc + 0) + 0) ((ss + 0) + 0) Rt))))))) ∧
(¬ ((mi h x0 (ix x3)) &&& (63 : Int32)) = (0 : Int32) →
(((mi h x0 (ix x3)) &&& (63 : Int32)) = (1 : Int32) →
InB (x3 + (1 : Int32)) (ln h x0) ∧
kd h x1 = 12 ∧
gd (cc + 0) 600000 (
gd (ss + 0) 7302250 (
SpI k_Ho_end [.ref x1, .int (mi h x0 (ix (x3 + (1 : Int32))))] h (fun r366 g364 =>
kd g364 x0 = 19 ∧
InB (x3 + (1 : Int32)) (ln g364 x0) ∧
kd g364 x2 = 13 ∧
gd ((cc + 0) + 0) 600000 (
gd ((ss + 0) + 0) 7302250 (
SpI k_Ref_end [.ref x2, .int (mi g364 x0 (ix (x3 + (1 : Int32))))] g364 (fun r371 g369 =>
(r366 = r371 →
WM k_Law_law p_Law_law_1 [.ref x0, .ref x1, .ref x2, .int (x3 + (7 : Int32))] [] g369 ((cc + 0) + 0) ((ss + 0) + 0) Rt) ∧
(¬ r366 = r371 →
WM k_Law_law p_Law_law_2 [Jv, Jv, Jv, Jv] [] g369 ((cc + 0) + 0) ((ss + 0) + 0) Rt)))))))) ∧
(¬ ((mi h x0 (ix x3)) &&& (63 : Int32)) = (1 : Int32) →
(((mi h x0 (ix x3)) &&& (63 : Int32)) = (2 : Int32) →
kd h x1 = 12 ∧
gd (cc + 0) 600000 (
gd (ss + 0) 7302250 (
SpI k_Ho_read [.ref x1] h (fun r359 g357 =>
kd g357 x2 = 13 ∧
gd ((cc + 0) + 0) 600000 (
gd ((ss + 0) + 0) 7302250 (
SpI k_Ref_read [.ref x2] g357 (fun r362 g360 =>
(r359 = r362 →
WM k_Law_law p_Law_law_1 [.ref x0, .ref x1, .ref x2, .int (x3 + (7 : Int32))] [] g360 ((cc + 0) + 0) ((ss + 0) + 0) Rt) ∧
(¬ r359 = r362 →
gd ((cc + 0) + 0) 600000 (
gd ((ss + 0) + 0) 7302250 (
Rt (.int (0 : Int32)) g360)))))))))) ∧
(¬ ((mi h x0 (ix x3)) &&& (63 : Int32)) = (2 : Int32) →
(((mi h x0 (ix x3)) &&& (63 : Int32)) = (3 : Int32) →
InB (x3 + (1 : Int32)) (ln h x0) ∧
kd h x1 = 12 ∧
gd (cc + 0) 600000 (
gd (ss + 0) 7302250 (
SpI k_Ho_fault [.ref x1, .int (mi h x0 (ix (x3 + (1 : Int32))))] h (fun r351 g349 =>
kd g349 x0 = 19 ∧
InB (x3 + (1 : Int32)) (ln g349 x0) ∧
kd g349 x2 = 13 ∧
gd ((cc + 0) + 0) 600000 (
gd ((ss + 0) + 0) 7302250 (
SpI k_Ref_fault [.ref x2, .int (mi g349 x0 (ix (x3 + (1 : Int32))))] g349 (fun r356 g354 =>
(r351 = r356 →
WM k_Law_law p_Law_law_1 [.ref x0, .ref x1, .ref x2, .int (x3 + (7 : Int32))] [] g354 ((cc + 0) + 0) ((ss + 0) + 0) Rt) ∧
(¬ r351 = r356 →
gd ((cc + 0) + 0) 600000 (
gd ((ss + 0) + 0) 7302250 (
Rt (.int (0 : Int32)) g354)))))))))) ∧
(¬ ((mi h x0 (ix x3)) &&& (63 : Int32)) = (3 : Int32) →
(((mi h x0 (ix x3)) &&& (63 : Int32)) = (4 : Int32) →
InB (x3 + (1 : Int32)) (ln h x0) ∧
InB (x3 + (2 : Int32)) (ln h x0) ∧
kd h x1 = 12 ∧
gd (cc + 0) 600000 (
gd (ss + 0) 7302250 (
SpI k_Ho_operation [.ref x1, .int (mi h x0 (ix (x3 + (1 : Int32)))), .int (mi h x0 (ix (x3 + (2 : Int32))))] h (fun r341 g339 =>
kd g339 x0 = 19 ∧
InB (x3 + (1 : Int32)) (ln g339 x0) ∧
InB (x3 + (2 : Int32)) (ln g339 x0) ∧
kd g339 x2 = 13 ∧
gd ((cc + 0) + 0) 600000 (
gd ((ss + 0) + 0) 7302250 (
SpI k_Ref_operation [.ref x2, .int (mi g339 x0 (ix (x3 + (1 : Int32)))), .int (mi g339 x0 (ix (x3 + (2 : Int32))))] g339 (fun r347 g345 =>
(r341 = r347 →
WM k_Law_law p_Law_law_1 [.ref x0, .ref x1, .ref x2, .int (x3 + (7 : Int32))] [] g345 ((cc + 0) + 0) ((ss + 0) + 0) Rt) ∧
(¬ r341 = r347 →
gd ((cc + 0) + 0) 600000 (
gd ((ss + 0) + 0) 7302250 (
Rt (.int (0 : Int32)) g345)))))))))) ∧
(¬ ((mi h x0 (ix x3)) &&& (63 : Int32)) = (4 : Int32) →
(((mi h x0 (ix x3)) &&& (63 : Int32)) = (5 : Int32) →
InB (x3 + (1 : Int32)) (ln h x0) ∧
kd h x1 = 12 ∧
gd (cc + 0) 600000 (
gd (ss + 0) 7302250 (
SpI k_Ho_tell [.ref x1, .int (mi h x0 (ix (x3 + (1 : Int32))))] h (fun r331 g329 =>
kd g329 x0 = 19 ∧
InB (x3 + (1 : Int32)) (ln g329 x0) ∧
kd g329 x2 = 13 ∧
gd ((cc + 0) + 0) 600000 (
gd ((ss + 0) + 0) 7302250 (
SpI k_Ref_tell [.ref x2, .int (mi g329 x0 (ix (x3 + (1 : Int32))))] g329 (fun r336 g334 =>
(r331 = r336 →
WM k_Law_law p_Law_law_1 [.ref x0, .ref x1, .ref x2, .int (x3 + (7 : Int32))] [] g334 ((cc + 0) + 0) ((ss + 0) + 0) Rt) ∧
(¬ r331 = r336 →
gd ((cc + 0) + 0) 600000 (
gd ((ss + 0) + 0) 7302250 (
Rt (.int (0 : Int32)) g334)))))))))) ∧
(¬ ((mi h x0 (ix x3)) &&& (63 : Int32)) = (5 : Int32) →
(((mi h x0 (ix x3)) &&& (63 : Int32)) = (6 : Int32) →
WM k_Law_law p_Law_law_3 [.ref x0, .ref x1, .ref x2, .int x3] [] h cc ss Rt) ∧
(¬ ((mi h x0 (ix x3)) &&& (63 : Int32)) = (6 : Int32) →
(((mi h x0 (ix x3)) &&& (63 : Int32)) = (7 : Int32) →
InB (x3 + (1 : Int32)) (ln h x0) ∧
kd h x1 = 12 ∧
gd (cc + 0) 600000 (
gd (ss + 0) 7302250 (
SpI k_Ho_letter [.ref x1, .int (mi h x0 (ix (x3 + (1 : Int32))))] h (fun r322 g320 =>
kd g320 x0 = 19 ∧
InB (x3 + (1 : Int32)) (ln g320 x0) ∧
kd g320 x2 = 13 ∧
gd ((cc + 0) + 0) 600000 (
gd ((ss + 0) + 0) 7302250 (
SpI k_Ref_letter [.ref x2, .int (mi g320 x0 (ix (x3 + (1 : Int32))))] g320 (fun r327 g325 =>
(r322 = r327 →
WM k_Law_law p_Law_law_1 [.ref x0, .ref x1, .ref x2, .int (x3 + (7 : Int32))] [] g325 ((cc + 0) + 0) ((ss + 0) + 0) Rt) ∧
(¬ r322 = r327 →
gd ((cc + 0) + 0) 600000 (
gd ((ss + 0) + 0) 7302250 (
Rt (.int (0 : Int32)) g325)))))))))) ∧
(¬ ((mi h x0 (ix x3)) &&& (63 : Int32)) = (7 : Int32) →
(((mi h x0 (ix x3)) &&& (63 : Int32)) = (8 : Int32) →
InB (x3 + (1 : Int32)) (ln h x0) ∧
kd h x1 = 12 ∧
gd (cc + 0) 600000 (
gd (ss + 0) 7302250 (
SpI k_Ho_choose [.ref x1, .int (mi h x0 (ix (x3 + (1 : Int32))))] h (fun r313 g311 =>
kd g311 x0 = 19 ∧
InB (x3 + (1 : Int32)) (ln g311 x0) ∧
kd g311 x2 = 13 ∧
gd ((cc + 0) + 0) 600000 (
gd ((ss + 0) + 0) 7302250 (
SpI k_Ref_choose [.ref x2, .int (mi g311 x0 (ix (x3 + (1 : Int32))))] g311 (fun r318 g316 =>
(r313 = r318 →
WM k_Law_law p_Law_law_1 [.ref x0, .ref x1, .ref x2, .int (x3 + (7 : Int32))] [] g316 ((cc + 0) + 0) ((ss + 0) + 0) Rt) ∧
(¬ r313 = r318 →
gd ((cc + 0) + 0) 600000 (
gd ((ss + 0) + 0) 7302250 (
Rt (.int (0 : Int32)) g316)))))))))) ∧
(¬ ((mi h x0 (ix x3)) &&& (63 : Int32)) = (8 : Int32) →
(((mi h x0 (ix x3)) &&& (63 : Int32)) = (9 : Int32) →
kd h x1 = 12 ∧
gd (cc + 4) 600000 (
gd (ss + 415) 7302250 (
SpI k_Ho_group [.ref x1] h (fun r306 g304 =>
kd g304 x2 = 13 ∧
gd ((cc + 4) + 0) 600000 (
gd ((ss + 415) + 0) 7302250 (
SpI k_Ref_group [.ref x2] g304 (fun r309 g307 =>
(r306 = r309 →
WM k_Law_law p_Law_law_1 [.ref x0, .ref x1, .ref x2, .int (x3 + (7 : Int32))] [] g307 ((cc + 4) + 0) ((ss + 415) + 0) Rt) ∧
(¬ r306 = r309 →
gd ((cc + 4) + 0) 600000 (
gd ((ss + 415) + 0) 7302250 (
Rt (.int (0 : Int32)) g307)))))))))) ∧
(¬ ((mi h x0 (ix x3)) &&& (63 : Int32)) = (9 : Int32) →
(((mi h x0 (ix x3)) &&& (63 : Int32)) = (10 : Int32) →
InB (x3 + (1 : Int32)) (ln h x0) ∧
InB (x3 + (2 : Int32)) (ln h x0) ∧
kd h x1 = 12 ∧
gd (cc + 2) 600000 (
gd (ss + 200) 7302250 (
SpI k_Ho_about [.ref x1, .int (mi h x0 (ix (x3 + (1 : Int32)))), .int (mi h x0 (ix (x3 + (2 : Int32))))] h (fun r297 g295 =>
kd g295 x0 = 19 ∧
InB (x3 + (1 : Int32)) (ln g295 x0) ∧
InB (x3 + (2 : Int32)) (ln g295 x0) ∧
kd g295 x2 = 13 ∧
gd ((cc + 2) + 0) 600000 (
gd ((ss + 200) + 0) 7302250 (
SpI k_Ref_about [.ref x2, .int (mi g295 x0 (ix (x3 + (1 : Int32)))), .int (mi g295 x0 (ix (x3 + (2 : Int32))))] g295 (fun r303 g301 =>
(r297 = r303 →
WM k_Law_law p_Law_law_1 [.ref x0, .ref x1, .ref x2, .int (x3 + (7 : Int32))] [] g301 ((cc + 2) + 0) ((ss + 200) + 0) Rt) ∧
(¬ r297 = r303 →
WM k_Law_law p_Law_law_4 [Jv, Jv, Jv, Jv] [] g301 ((cc + 2) + 0) ((ss + 200) + 0) Rt)))))))) ∧
(¬ ((mi h x0 (ix x3)) &&& (63 : Int32)) = (10 : Int32) →
(((mi h x0 (ix x3)) &&& (63 : Int32)) = (11 : Int32) →
InB (x3 + (1 : Int32)) (ln h x0) ∧
InB (x3 + (2 : Int32)) (ln h x0) ∧
InB (x3 + (3 : Int32)) (ln h x0) ∧
kd h x1 = 12 ∧
gd (cc + 0) 600000 (
gd (ss + 0) 7302250 (
SpI k_Ho_of [.ref x1, .int (mi h x0 (ix (x3 + (1 : Int32)))), .int (mi h x0 (ix (x3 + (2 : Int32)))), .int (mi h x0 (ix (x3 + (3 : Int32))))] h (fun r285 g283 =>
kd g283 x0 = 19 ∧
InB (x3 + (1 : Int32)) (ln g283 x0) ∧
InB (x3 + (2 : Int32)) (ln g283 x0) ∧
InB (x3 + (3 : Int32)) (ln g283 x0) ∧
kd g283 x2 = 13 ∧
gd ((cc + 0) + 0) 600000 (
gd ((ss + 0) + 0) 7302250 (
SpI k_Ref_of [.ref x2, .int (mi g283 x0 (ix (x3 + (1 : Int32)))), .int (mi g283 x0 (ix (x3 + (2 : Int32)))), .int (mi g283 x0 (ix (x3 + (3 : Int32))))] g283 (fun r292 g290 =>
(r285 = r292 →
WM k_Law_law p_Law_law_1 [.ref x0, .ref x1, .ref x2, .int (x3 + (7 : Int32))] [] g290 ((cc + 0) + 0) ((ss + 0) + 0) Rt) ∧
(¬ r285 = r292 →
gd ((cc + 0) + 0) 600000 (
gd ((ss + 0) + 0) 7302250 (
Rt (.int (0 : Int32)) g290)))))))))) ∧
(¬ ((mi h x0 (ix x3)) &&& (63 : Int32)) = (11 : Int32) →
(((mi h x0 (ix x3)) &&& (63 : Int32)) = (12 : Int32) →
InB (x3 + (1 : Int32)) (ln h x0) ∧
InB (x3 + (2 : Int32)) (ln h x0) ∧
InB (x3 + (3 : Int32)) (ln h x0) ∧
kd h x1 = 12 ∧
gd (cc + 0) 600000 (
gd (ss + 0) 7302250 (
SpI k_Ho_product [.ref x1, .int (mi h x0 (ix (x3 + (1 : Int32)))), .int (mi h x0 (ix (x3 + (2 : Int32)))), .int (mi h x0 (ix (x3 + (3 : Int32))))] h (fun r272 g270 =>
kd g270 x0 = 19 ∧
InB (x3 + (1 : Int32)) (ln g270 x0) ∧
InB (x3 + (2 : Int32)) (ln g270 x0) ∧
InB (x3 + (3 : Int32)) (ln g270 x0) ∧
kd g270 x2 = 13 ∧
gd ((cc + 0) + 0) 600000 (
gd ((ss + 0) + 0) 7302250 (
SpI k_Ref_product [.ref x2, .int (mi g270 x0 (ix (x3 + (1 : Int32)))), .int (mi g270 x0 (ix (x3 + (2 : Int32)))), .int (mi g270 x0 (ix (x3 + (3 : Int32))))] g270 (fun r279 g277 =>
(r272 = r279 →
WM k_Law_law p_Law_law_1 [.ref x0, .ref x1, .ref x2, .int (x3 + (7 : Int32))] [] g277 ((cc + 0) + 0) ((ss + 0) + 0) Rt) ∧
(¬ r272 = r279 →
WM k_Law_law p_Law_law_5 [Jv, Jv, Jv, Jv] [] g277 ((cc + 0) + 0) ((ss + 0) + 0) Rt)))))))) ∧
(¬ ((mi h x0 (ix x3)) &&& (63 : Int32)) = (12 : Int32) →
(((mi h x0 (ix x3)) &&& (63 : Int32)) = (13 : Int32) →
InB (x3 + (1 : Int32)) (ln h x0) ∧
InB (x3 + (2 : Int32)) (ln h x0) ∧
kd h x1 = 12 ∧
gd (cc + 6) 600000 (
gd (ss + 799) 7302250 (
SpI k_Ho_half [.ref x1, .int (mi h x0 (ix (x3 + (1 : Int32)))), .int (mi h x0 (ix (x3 + (2 : Int32))))] h (fun r260 g258 =>
kd g258 x0 = 19 ∧
InB (x3 + (1 : Int32)) (ln g258 x0) ∧
InB (x3 + (2 : Int32)) (ln g258 x0) ∧
kd g258 x2 = 13 ∧
gd ((cc + 6) + 0) 600000 (
gd ((ss + 799) + 0) 7302250 (
SpI k_Ref_half [.ref x2, .int (mi g258 x0 (ix (x3 + (1 : Int32)))), .int (mi g258 x0 (ix (x3 + (2 : Int32))))] g258 (fun r266 g264 =>
(r260 = r266 →
WM k_Law_law p_Law_law_1 [.ref x0, .ref x1, .ref x2, .int (x3 + (7 : Int32))] [] g264 ((cc + 6) + 0) ((ss + 799) + 0) Rt) ∧
(¬ r260 = r266 →
gd ((cc + 6) + 0) 600000 (
gd ((ss + 799) + 0) 7302250 (
Rt (.int (0 : Int32)) g264)))))))))) ∧
(¬ ((mi h x0 (ix x3)) &&& (63 : Int32)) = (13 : Int32) →
(((mi h x0 (ix x3)) &&& (63 : Int32)) = (14 : Int32) →
InB (x3 + (1 : Int32)) (ln h x0) ∧
InB (x3 + (2 : Int32)) (ln h x0) ∧
kd h x1 = 12 ∧
gd (cc + 0) 600000 (
gd (ss + 0) 7302250 (
SpI k_Ho_within [.ref x1, .int (mi h x0 (ix (x3 + (1 : Int32)))), .int (mi h x0 (ix (x3 + (2 : Int32))))] h (fun r249 g247 =>
kd g247 x0 = 19 ∧
InB (x3 + (1 : Int32)) (ln g247 x0) ∧
InB (x3 + (2 : Int32)) (ln g247 x0) ∧
kd g247 x2 = 13 ∧
gd ((cc + 0) + 0) 600000 (
gd ((ss + 0) + 0) 7302250 (
SpI k_Ref_within [.ref x2, .int (mi g247 x0 (ix (x3 + (1 : Int32)))), .int (mi g247 x0 (ix (x3 + (2 : Int32))))] g247 (fun r255 g253 =>
(r249 = r255 →
WM k_Law_law p_Law_law_1 [.ref x0, .ref x1, .ref x2, .int (x3 + (7 : Int32))] [] g253 ((cc + 0) + 0) ((ss + 0) + 0) Rt) ∧
(¬ r249 = r255 →
gd ((cc + 0) + 0) 600000 (
gd ((ss + 0) + 0) 7302250 (
Rt (.int (0 : Int32)) g253)))))))))) ∧
(¬ ((mi h x0 (ix x3)) &&& (63 : Int32)) = (14 : Int32) →
(((mi h x0 (ix x3)) &&& (63 : Int32)) = (15 : Int32) →
InB (x3 + (1 : Int32)) (ln h x0) ∧
InB (x3 + (2 : Int32)) (ln h x0) ∧
InB (x3 + (3 : Int32)) (ln h x0) ∧
kd h x1 = 12 ∧
gd (cc + 0) 600000 (
gd (ss + 0) 7302250 (
SpI k_Ho_orbit [.ref x1, .int (mi h x0 (ix (x3 + (1 : Int32)))), .int (mi h x0 (ix (x3 + (2 : Int32)))), .int (mi h x0 (ix (x3 + (3 : Int32))))] h (fun r237 g235 =>
kd g235 x0 = 19 ∧
InB (x3 + (1 : Int32)) (ln g235 x0) ∧
InB (x3 + (2 : Int32)) (ln g235 x0) ∧
InB (x3 + (3 : Int32)) (ln g235 x0) ∧
kd g235 x2 = 13 ∧
gd ((cc + 0) + 0) 600000 (
gd ((ss + 0) + 0) 7302250 (
SpI k_Ref_orbit [.ref x2, .int (mi g235 x0 (ix (x3 + (1 : Int32)))), .int (mi g235 x0 (ix (x3 + (2 : Int32)))), .int (mi g235 x0 (ix (x3 + (3 : Int32))))] g235 (fun r244 g242 =>
(r237 = r244 →
WM k_Law_law p_Law_law_1 [.ref x0, .ref x1, .ref x2, .int (x3 + (7 : Int32))] [] g242 ((cc + 0) + 0) ((ss + 0) + 0) Rt) ∧
(¬ r237 = r244 →
WM k_Law_law p_Law_law_6 [Jv, Jv, Jv, Jv] [] g242 ((cc + 0) + 0) ((ss + 0) + 0) Rt)))))))) ∧
(¬ ((mi h x0 (ix x3)) &&& (63 : Int32)) = (15 : Int32) →
(((mi h x0 (ix x3)) &&& (63 : Int32)) = (16 : Int32) →
InB (x3 + (1 : Int32)) (ln h x0) ∧
InB (x3 + (2 : Int32)) (ln h x0) ∧
InB (x3 + (3 : Int32)) (ln h x0) ∧
InB (x3 + (4 : Int32)) (ln h x0) ∧
InB (x3 + (5 : Int32)) (ln h x0) ∧
kd h x1 = 12 ∧
gd (cc + 0) 600000 (
gd (ss + 0) 7302250 (
SpI k_Ho_wave [.ref x1, .int (mi h x0 (ix (x3 + (1 : Int32)))), .int (mi h x0 (ix (x3 + (2 : Int32)))), .int (mi h x0 (ix (x3 + (3 : Int32)))), .int (mi h x0 (ix (x3 + (4 : Int32)))), .int (mi h x0 (ix (x3 + (5 : Int32))))] h (fun r222 g220 =>
kd g220 x0 = 19 ∧
InB (x3 + (1 : Int32)) (ln g220 x0) ∧
InB (x3 + (2 : Int32)) (ln g220 x0) ∧
InB (x3 + (3 : Int32)) (ln g220 x0) ∧
InB (x3 + (4 : Int32)) (ln g220 x0) ∧
InB (x3 + (5 : Int32)) (ln g220 x0) ∧
kd g220 x2 = 13 ∧
gd ((cc + 0) + 0) 600000 (
gd ((ss + 0) + 0) 7302250 (
SpI k_Ref_wave [.ref x2, .int (mi g220 x0 (ix (x3 + (1 : Int32)))), .int (mi g220 x0 (ix (x3 + (2 : Int32)))), .int (mi g220 x0 (ix (x3 + (3 : Int32)))), .int (mi g220 x0 (ix (x3 + (4 : Int32)))), .int (mi g220 x0 (ix (x3 + (5 : Int32))))] g220 (fun r231 g229 =>
(r222 = r231 →
WM k_Law_law p_Law_law_1 [.ref x0, .ref x1, .ref x2, .int (x3 + (7 : Int32))] [] g229 ((cc + 0) + 0) ((ss + 0) + 0) Rt) ∧
(¬ r222 = r231 →
gd ((cc + 0) + 0) 600000 (
gd ((ss + 0) + 0) 7302250 (
Rt (.int (0 : Int32)) g229)))))))))) ∧
(¬ ((mi h x0 (ix x3)) &&& (63 : Int32)) = (16 : Int32) →
(((mi h x0 (ix x3)) &&& (63 : Int32)) = (17 : Int32) →
InB (x3 + (1 : Int32)) (ln h x0) ∧
InB (x3 + (2 : Int32)) (ln h x0) ∧
InB (x3 + (3 : Int32)) (ln h x0) ∧
InB (x3 + (4 : Int32)) (ln h x0) ∧
InB (x3 + (5 : Int32)) (ln h x0) ∧
InB (x3 + (6 : Int32)) (ln h x0) ∧
kd h x1 = 12 ∧
gd (cc + 6) 600000 (
gd (ss + 50) 7302250 (
SpI k_Ho_cell [.ref x1, .int (mi h x0 (ix (x3 + (1 : Int32)))), .int (mi h x0 (ix (x3 + (2 : Int32)))), .int (mi h x0 (ix (x3 + (3 : Int32)))), .int (mi h x0 (ix (x3 + (4 : Int32)))), .int (mi h x0 (ix (x3 + (5 : Int32)))), .int (mi h x0 (ix (x3 + (6 : Int32))))] h (fun r204 g202 =>
kd g202 x0 = 19 ∧
InB (x3 + (1 : Int32)) (ln g202 x0) ∧
InB (x3 + (2 : Int32)) (ln g202 x0) ∧
InB (x3 + (3 : Int32)) (ln g202 x0) ∧
InB (x3 + (4 : Int32)) (ln g202 x0) ∧
InB (x3 + (5 : Int32)) (ln g202 x0) ∧
InB (x3 + (6 : Int32)) (ln g202 x0) ∧
kd g202 x2 = 13 ∧
gd ((cc + 6) + 0) 600000 (
gd ((ss + 50) + 0) 7302250 (
SpI k_Ref_cell [.ref x2, .int (mi g202 x0 (ix (x3 + (1 : Int32)))), .int (mi g202 x0 (ix (x3 + (2 : Int32)))), .int (mi g202 x0 (ix (x3 + (3 : Int32)))), .int (mi g202 x0 (ix (x3 + (4 : Int32)))), .int (mi g202 x0 (ix (x3 + (5 : Int32)))), .int (mi g202 x0 (ix (x3 + (6 : Int32))))] g202 (fun r214 g212 =>
(r204 = r214 →
WM k_Law_law p_Law_law_1 [.ref x0, .ref x1, .ref x2, .int (x3 + (7 : Int32))] [] g212 ((cc + 6) + 0) ((ss + 50) + 0) Rt) ∧
(¬ r204 = r214 →
WM k_Law_law p_Law_law_7 [Jv, Jv, Jv, Jv] [] g212 ((cc + 6) + 0) ((ss + 50) + 0) Rt)))))))) ∧
(¬ ((mi h x0 (ix x3)) &&& (63 : Int32)) = (17 : Int32) →
(((mi h x0 (ix x3)) &&& (63 : Int32)) = (18 : Int32) →
InB (x3 + (1 : Int32)) (ln h x0) ∧
InB (x3 + (2 : Int32)) (ln h x0) ∧
kd h x1 = 12 ∧
gd (cc + 0) 600000 (
gd (ss + 0) 7302250 (
SpL k_Ho_reduced [.ref x1, .int (mi h x0 (ix (x3 + (1 : Int32)))), .int (mi h x0 (ix (x3 + (2 : Int32))))] h (fun r189 g187 =>
kd g187 x0 = 19 ∧
InB (x3 + (1 : Int32)) (ln g187 x0) ∧
InB (x3 + (2 : Int32)) (ln g187 x0) ∧
kd g187 x2 = 13 ∧
gd ((cc + 0) + 0) 600000 (
gd ((ss + 0) + 0) 7302250 (
SpL k_Ref_reduced [.ref x2, .int (mi g187 x0 (ix (x3 + (1 : Int32)))), .int (mi g187 x0 (ix (x3 + (2 : Int32))))] g187 (fun r195 g193 =>
((lg_cmp r189 r195) = 0 →
WM k_Law_law p_Law_law_1 [.ref x0, .ref x1, .ref x2, .int (x3 + (7 : Int32))] [] g193 ((cc + 0) + 0) ((ss + 0) + 0) Rt) ∧
(¬ (lg_cmp r189 r195) = 0 →
gd ((cc + 0) + 0) 600000 (
gd ((ss + 0) + 0) 7302250 (
Rt (.int (0 : Int32)) g193)))))))))) ∧
(¬ ((mi h x0 (ix x3)) &&& (63 : Int32)) = (18 : Int32) →
(((mi h x0 (ix x3)) &&& (63 : Int32)) = (19 : Int32) →
InB (x3 + (1 : Int32)) (ln h x0) ∧
InB (x3 + (2 : Int32)) (ln h x0) ∧
kd h x1 = 12 ∧
gd (cc + 0) 600000 (
gd (ss + 0) 7302250 (
SpI k_Ho_fits [.ref x1, .int (mi h x0 (ix (x3 + (1 : Int32)))), .int (mi h x0 (ix (x3 + (2 : Int32))))] h (fun r178 g176 =>
kd g176 x0 = 19 ∧
InB (x3 + (1 : Int32)) (ln g176 x0) ∧
InB (x3 + (2 : Int32)) (ln g176 x0) ∧
kd g176 x2 = 13 ∧
gd ((cc + 0) + 0) 600000 (
gd ((ss + 0) + 0) 7302250 (
SpI k_Ref_fits [.ref x2, .int (mi g176 x0 (ix (x3 + (1 : Int32)))), .int (mi g176 x0 (ix (x3 + (2 : Int32))))] g176 (fun r184 g182 =>
(r178 = r184 →
WM k_Law_law p_Law_law_1 [.ref x0, .ref x1, .ref x2, .int (x3 + (7 : Int32))] [] g182 ((cc + 0) + 0) ((ss + 0) + 0) Rt) ∧
(¬ r178 = r184 →
gd ((cc + 0) + 0) 600000 (
gd ((ss + 0) + 0) 7302250 (
Rt (.int (0 : Int32)) g182)))))))))) ∧
(¬ ((mi h x0 (ix x3)) &&& (63 : Int32)) = (19 : Int32) →
(((mi h x0 (ix x3)) &&& (63 : Int32)) = (20 : Int32) →
InB (x3 + (1 : Int32)) (ln h x0) ∧
InB (x3 + (2 : Int32)) (ln h x0) ∧
kd h x1 = 12 ∧
gd (cc + 1) 600000 (
gd (ss + 2730) 7302250 (
SpI k_Ho_multiples [.ref x1, .int (mi h x0 (ix (x3 + (1 : Int32)))), .int (mi h x0 (ix (x3 + (2 : Int32))))] h (fun r167 g165 =>
kd g165 x0 = 19 ∧
InB (x3 + (1 : Int32)) (ln g165 x0) ∧
InB (x3 + (2 : Int32)) (ln g165 x0) ∧
kd g165 x2 = 13 ∧
gd ((cc + 1) + 0) 600000 (
gd ((ss + 2730) + 0) 7302250 (
SpI k_Ref_multiples [.ref x2, .int (mi g165 x0 (ix (x3 + (1 : Int32)))), .int (mi g165 x0 (ix (x3 + (2 : Int32))))] g165 (fun r173 g171 =>
(r167 = r173 →
WM k_Law_law p_Law_law_1 [.ref x0, .ref x1, .ref x2, .int (x3 + (7 : Int32))] [] g171 ((cc + 1) + 0) ((ss + 2730) + 0) Rt) ∧
(¬ r167 = r173 →
WM k_Law_law p_Law_law_8 [Jv, Jv, Jv, Jv] [] g171 ((cc + 1) + 0) ((ss + 2730) + 0) Rt)))))))) ∧
(¬ ((mi h x0 (ix x3)) &&& (63 : Int32)) = (20 : Int32) →
(((mi h x0 (ix x3)) &&& (63 : Int32)) = (21 : Int32) →
InB (x3 + (1 : Int32)) (ln h x0) ∧
InB (x3 + (2 : Int32)) (ln h x0) ∧
InB (x3 + (3 : Int32)) (ln h x0) ∧
InB (x3 + (4 : Int32)) (ln h x0) ∧
kd h x1 = 12 ∧
gd (cc + 1) 600000 (
gd (ss + 2730) 7302250 (
SpL k_Ho_multiple [.ref x1, .int (mi h x0 (ix (x3 + (1 : Int32)))), .int (mi h x0 (ix (x3 + (2 : Int32)))), .int (mi h x0 (ix (x3 + (3 : Int32)))), .int (mi h x0 (ix (x3 + (4 : Int32))))] h (fun r154 g152 =>
kd g152 x0 = 19 ∧
InB (x3 + (1 : Int32)) (ln g152 x0) ∧
InB (x3 + (2 : Int32)) (ln g152 x0) ∧
InB (x3 + (3 : Int32)) (ln g152 x0) ∧
InB (x3 + (4 : Int32)) (ln g152 x0) ∧
kd g152 x2 = 13 ∧
gd ((cc + 1) + 0) 600000 (
gd ((ss + 2730) + 0) 7302250 (
SpL k_Ref_multiple [.ref x2, .int (mi g152 x0 (ix (x3 + (1 : Int32)))), .int (mi g152 x0 (ix (x3 + (2 : Int32)))), .int (mi g152 x0 (ix (x3 + (3 : Int32)))), .int (mi g152 x0 (ix (x3 + (4 : Int32))))] g152 (fun r162 g160 =>
((lg_cmp r154 r162) = 0 →
WM k_Law_law p_Law_law_1 [.ref x0, .ref x1, .ref x2, .int (x3 + (7 : Int32))] [] g160 ((cc + 1) + 0) ((ss + 2730) + 0) Rt) ∧
(¬ (lg_cmp r154 r162) = 0 →
gd ((cc + 1) + 0) 600000 (
gd ((ss + 2730) + 0) 7302250 (
Rt (.int (0 : Int32)) g160)))))))))) ∧
(¬ ((mi h x0 (ix x3)) &&& (63 : Int32)) = (21 : Int32) →
(((mi h x0 (ix x3)) &&& (63 : Int32)) = (22 : Int32) →
InB (x3 + (1 : Int32)) (ln h x0) ∧
InB (x3 + (2 : Int32)) (ln h x0) ∧
kd h x1 = 12 ∧
gd (cc + 7) 600000 (
gd (ss + 1648) 7302250 (
SpI k_Ho_model [.ref x1, .int (mi h x0 (ix (x3 + (1 : Int32)))), .int (mi h x0 (ix (x3 + (2 : Int32))))] h (fun r141 g139 =>
kd g139 x0 = 19 ∧
InB (x3 + (1 : Int32)) (ln g139 x0) ∧
InB (x3 + (2 : Int32)) (ln g139 x0) ∧
kd g139 x2 = 13 ∧
gd ((cc + 7) + 0) 600000 (
gd ((ss + 1648) + 0) 7302250 (
SpI k_Ref_model [.ref x2, .int (mi g139 x0 (ix (x3 + (1 : Int32)))), .int (mi g139 x0 (ix (x3 + (2 : Int32))))] g139 (fun r147 g145 =>
(r141 = r147 →
WM k_Law_law p_Law_law_1 [.ref x0, .ref x1, .ref x2, .int (x3 + (7 : Int32))] [] g145 ((cc + 7) + 0) ((ss + 1648) + 0) Rt) ∧
(¬ r141 = r147 →
WM k_Law_law p_Law_law_9 [Jv, Jv, Jv, Jv] [] g145 ((cc + 7) + 0) ((ss + 1648) + 0) Rt)))))))) ∧
(¬ ((mi h x0 (ix x3)) &&& (63 : Int32)) = (22 : Int32) →
(((mi h x0 (ix x3)) &&& (63 : Int32)) = (23 : Int32) →
InB (x3 + (1 : Int32)) (ln h x0) ∧
InB (x3 + (2 : Int32)) (ln h x0) ∧
InB (x3 + (3 : Int32)) (ln h x0) ∧
kd h x1 = 12 ∧
gd (cc + 0) 600000 (
gd (ss + 0) 7302250 (
SpI k_Ho_atom [.ref x1, .int (mi h x0 (ix (x3 + (1 : Int32)))), .int (mi h x0 (ix (x3 + (2 : Int32)))), .int (mi h x0 (ix (x3 + (3 : Int32))))] h (fun r129 g127 =>
kd g127 x0 = 19 ∧
InB (x3 + (1 : Int32)) (ln g127 x0) ∧
InB (x3 + (2 : Int32)) (ln g127 x0) ∧
InB (x3 + (3 : Int32)) (ln g127 x0) ∧
kd g127 x2 = 13 ∧
gd ((cc + 0) + 0) 600000 (
gd ((ss + 0) + 0) 7302250 (
SpI k_Ref_atom [.ref x2, .int (mi g127 x0 (ix (x3 + (1 : Int32)))), .int (mi g127 x0 (ix (x3 + (2 : Int32)))), .int (mi g127 x0 (ix (x3 + (3 : Int32))))] g127 (fun r136 g134 =>
(r129 = r136 →
WM k_Law_law p_Law_law_1 [.ref x0, .ref x1, .ref x2, .int (x3 + (7 : Int32))] [] g134 ((cc + 0) + 0) ((ss + 0) + 0) Rt) ∧
(¬ r129 = r136 →
gd ((cc + 0) + 0) 600000 (
gd ((ss + 0) + 0) 7302250 (
Rt (.int (0 : Int32)) g134)))))))))) ∧
(¬ ((mi h x0 (ix x3)) &&& (63 : Int32)) = (23 : Int32) →
(((mi h x0 (ix x3)) &&& (63 : Int32)) = (24 : Int32) →
InB (x3 + (1 : Int32)) (ln h x0) ∧
InB (x3 + (2 : Int32)) (ln h x0) ∧
InB (x3 + (3 : Int32)) (ln h x0) ∧
kd h x1 = 12 ∧
gd (cc + 0) 600000 (
gd (ss + 0) 7302250 (
SpI k_Ho_placed [.ref x1, .int (mi h x0 (ix (x3 + (1 : Int32)))), .int (mi h x0 (ix (x3 + (2 : Int32)))), .int (mi h x0 (ix (x3 + (3 : Int32))))] h (fun r116 g114 =>
kd g114 x0 = 19 ∧
InB (x3 + (1 : Int32)) (ln g114 x0) ∧
InB (x3 + (2 : Int32)) (ln g114 x0) ∧
InB (x3 + (3 : Int32)) (ln g114 x0) ∧
kd g114 x2 = 13 ∧
gd ((cc + 0) + 0) 600000 (
gd ((ss + 0) + 0) 7302250 (
SpI k_Ref_placed [.ref x2, .int (mi g114 x0 (ix (x3 + (1 : Int32)))), .int (mi g114 x0 (ix (x3 + (2 : Int32)))), .int (mi g114 x0 (ix (x3 + (3 : Int32))))] g114 (fun r123 g121 =>
(r116 = r123 →
WM k_Law_law p_Law_law_1 [.ref x0, .ref x1, .ref x2, .int (x3 + (7 : Int32))] [] g121 ((cc + 0) + 0) ((ss + 0) + 0) Rt) ∧
(¬ r116 = r123 →
WM k_Law_law p_Law_law_10 [Jv, Jv, Jv, Jv] [] g121 ((cc + 0) + 0) ((ss + 0) + 0) Rt)))))))) ∧
(¬ ((mi h x0 (ix x3)) &&& (63 : Int32)) = (24 : Int32) →
(((mi h x0 (ix x3)) &&& (63 : Int32)) = (25 : Int32) →
InB (x3 + (1 : Int32)) (ln h x0) ∧
InB (x3 + (2 : Int32)) (ln h x0) ∧
InB (x3 + (3 : Int32)) (ln h x0) ∧
InB (x3 + (4 : Int32)) (ln h x0) ∧
InB (x3 + (5 : Int32)) (ln h x0) ∧
kd h x1 = 12 ∧
gd (cc + 0) 600000 (
gd (ss + 0) 7302250 (
SpL k_Ho_amplitude [.ref x1, .int (mi h x0 (ix (x3 + (1 : Int32)))), .int (mi h x0 (ix (x3 + (2 : Int32)))), .int (mi h x0 (ix (x3 + (3 : Int32)))), .int (mi h x0 (ix (x3 + (4 : Int32)))), .int (mi h x0 (ix (x3 + (5 : Int32))))] h (fun r101 g99 =>
kd g99 x0 = 19 ∧
InB (x3 + (1 : Int32)) (ln g99 x0) ∧
InB (x3 + (2 : Int32)) (ln g99 x0) ∧
InB (x3 + (3 : Int32)) (ln g99 x0) ∧
InB (x3 + (4 : Int32)) (ln g99 x0) ∧
InB (x3 + (5 : Int32)) (ln g99 x0) ∧
kd g99 x2 = 13 ∧
gd ((cc + 0) + 0) 600000 (
gd ((ss + 0) + 0) 7302250 (
SpL k_Ref_amplitude [.ref x2, .int (mi g99 x0 (ix (x3 + (1 : Int32)))), .int (mi g99 x0 (ix (x3 + (2 : Int32)))), .int (mi g99 x0 (ix (x3 + (3 : Int32)))), .int (mi g99 x0 (ix (x3 + (4 : Int32)))), .int (mi g99 x0 (ix (x3 + (5 : Int32))))] g99 (fun r110 g108 =>
((lg_cmp r101 r110) = 0 →
WM k_Law_law p_Law_law_1 [.ref x0, .ref x1, .ref x2, .int (x3 + (7 : Int32))] [] g108 ((cc + 0) + 0) ((ss + 0) + 0) Rt) ∧
(¬ (lg_cmp r101 r110) = 0 →
gd ((cc + 0) + 0) 600000 (
gd ((ss + 0) + 0) 7302250 (
Rt (.int (0 : Int32)) g108)))))))))) ∧
(¬ ((mi h x0 (ix x3)) &&& (63 : Int32)) = (25 : Int32) →
(((mi h x0 (ix x3)) &&& (63 : Int32)) = (26 : Int32) →
InB (x3 + (1 : Int32)) (ln h x0) ∧
InB (x3 + (2 : Int32)) (ln h x0) ∧
InB (x3 + (3 : Int32)) (ln h x0) ∧
kd h x1 = 12 ∧
gd (cc + 0) 600000 (
gd (ss + 0) 7302250 (
SpL k_Ho_distance [.ref x1, .int (mi h x0 (ix (x3 + (1 : Int32)))), .int (mi h x0 (ix (x3 + (2 : Int32)))), .int (mi h x0 (ix (x3 + (3 : Int32))))] h (fun r86 g84 =>
kd g84 x0 = 19 ∧
InB (x3 + (1 : Int32)) (ln g84 x0) ∧
InB (x3 + (2 : Int32)) (ln g84 x0) ∧
InB (x3 + (3 : Int32)) (ln g84 x0) ∧
kd g84 x2 = 13 ∧
gd ((cc + 0) + 0) 600000 (
gd ((ss + 0) + 0) 7302250 (
SpL k_Ref_distance [.ref x2, .int (mi g84 x0 (ix (x3 + (1 : Int32)))), .int (mi g84 x0 (ix (x3 + (2 : Int32)))), .int (mi g84 x0 (ix (x3 + (3 : Int32))))] g84 (fun r93 g91 =>
((lg_cmp r86 r93) = 0 →
WM k_Law_law p_Law_law_1 [.ref x0, .ref x1, .ref x2, .int (x3 + (7 : Int32))] [] g91 ((cc + 0) + 0) ((ss + 0) + 0) Rt) ∧
(¬ (lg_cmp r86 r93) = 0 →
WM k_Law_law p_Law_law_11 [Jv, Jv, Jv, Jv] [] g91 ((cc + 0) + 0) ((ss + 0) + 0) Rt)))))))) ∧
(¬ ((mi h x0 (ix x3)) &&& (63 : Int32)) = (26 : Int32) →
(((mi h x0 (ix x3)) &&& (63 : Int32)) = (27 : Int32) →
InB (x3 + (1 : Int32)) (ln h x0) ∧
InB (x3 + (2 : Int32)) (ln h x0) ∧
InB (x3 + (3 : Int32)) (ln h x0) ∧
InB (x3 + (4 : Int32)) (ln h x0) ∧
kd h x1 = 12 ∧
gd (cc + 0) 600000 (
gd (ss + 0) 7302250 (
SpI k_Ho_near [.ref x1, .int (mi h x0 (ix (x3 + (1 : Int32)))), .int (mi h x0 (ix (x3 + (2 : Int32)))), .long (((mi h x0 (ix (x3 + (3 : Int32)))).toInt64 <<< ((32 : Int32).toInt64 &&& (63 : Int64))) ||| ((mi h x0 (ix (x3 + (4 : Int32)))).toInt64 &&& (4294967295 : Int64)))] h (fun r72 g70 =>
kd g70 x0 = 19 ∧
InB (x3 + (1 : Int32)) (ln g70 x0) ∧
InB (x3 + (2 : Int32)) (ln g70 x0) ∧
InB (x3 + (3 : Int32)) (ln g70 x0) ∧
InB (x3 + (4 : Int32)) (ln g70 x0) ∧
kd g70 x2 = 13 ∧
gd ((cc + 0) + 0) 600000 (
gd ((ss + 0) + 0) 7302250 (
SpI k_Ref_near [.ref x2, .int (mi g70 x0 (ix (x3 + (1 : Int32)))), .int (mi g70 x0 (ix (x3 + (2 : Int32)))), .long (((mi g70 x0 (ix (x3 + (3 : Int32)))).toInt64 <<< ((32 : Int32).toInt64 &&& (63 : Int64))) ||| ((mi g70 x0 (ix (x3 + (4 : Int32)))).toInt64 &&& (4294967295 : Int64)))] g70 (fun r80 g78 =>
(r72 = r80 →
WM k_Law_law p_Law_law_1 [.ref x0, .ref x1, .ref x2, .int (x3 + (7 : Int32))] [] g78 ((cc + 0) + 0) ((ss + 0) + 0) Rt) ∧
(¬ r72 = r80 →
gd ((cc + 0) + 0) 600000 (
gd ((ss + 0) + 0) 7302250 (
Rt (.int (0 : Int32)) g78)))))))))) ∧
(¬ ((mi h x0 (ix x3)) &&& (63 : Int32)) = (27 : Int32) →
(((mi h x0 (ix x3)) &&& (63 : Int32)) = (28 : Int32) →
InB (x3 + (1 : Int32)) (ln h x0) ∧
InB (x3 + (2 : Int32)) (ln h x0) ∧
kd h x1 = 12 ∧
gd (cc + 4) 600000 (
gd (ss + 7697) 7302250 (
SpI k_Ho_lines [.ref x1, .int (mi h x0 (ix (x3 + (1 : Int32)))), .int (mi h x0 (ix (x3 + (2 : Int32))))] h (fun r59 g57 =>
kd g57 x0 = 19 ∧
InB (x3 + (1 : Int32)) (ln g57 x0) ∧
InB (x3 + (2 : Int32)) (ln g57 x0) ∧
kd g57 x2 = 13 ∧
gd ((cc + 4) + 0) 600000 (
gd ((ss + 7697) + 0) 7302250 (
SpI k_Ref_lines [.ref x2, .int (mi g57 x0 (ix (x3 + (1 : Int32)))), .int (mi g57 x0 (ix (x3 + (2 : Int32))))] g57 (fun r65 g63 =>
(r59 = r65 →
WM k_Law_law p_Law_law_1 [.ref x0, .ref x1, .ref x2, .int (x3 + (7 : Int32))] [] g63 ((cc + 4) + 0) ((ss + 7697) + 0) Rt) ∧
(¬ r59 = r65 →
WM k_Law_law p_Law_law_12 [Jv, Jv, Jv, Jv] [] g63 ((cc + 4) + 0) ((ss + 7697) + 0) Rt)))))))) ∧
(¬ ((mi h x0 (ix x3)) &&& (63 : Int32)) = (28 : Int32) →
(((mi h x0 (ix x3)) &&& (63 : Int32)) = (29 : Int32) →
InB (x3 + (1 : Int32)) (ln h x0) ∧
InB (x3 + (2 : Int32)) (ln h x0) ∧
InB (x3 + (3 : Int32)) (ln h x0) ∧
InB (x3 + (4 : Int32)) (ln h x0) ∧
kd h x1 = 12 ∧
gd (cc + 4) 600000 (
gd (ss + 7697) 7302250 (
SpL k_Ho_line [.ref x1, .int (mi h x0 (ix (x3 + (1 : Int32)))), .int (mi h x0 (ix (x3 + (2 : Int32)))), .int (mi h x0 (ix (x3 + (3 : Int32)))), .int (mi h x0 (ix (x3 + (4 : Int32))))] h (fun r46 g44 =>
kd g44 x0 = 19 ∧
InB (x3 + (1 : Int32)) (ln g44 x0) ∧
InB (x3 + (2 : Int32)) (ln g44 x0) ∧
InB (x3 + (3 : Int32)) (ln g44 x0) ∧
InB (x3 + (4 : Int32)) (ln g44 x0) ∧
kd g44 x2 = 13 ∧
gd ((cc + 4) + 0) 600000 (
gd ((ss + 7697) + 0) 7302250 (
SpL k_Ref_line [.ref x2, .int (mi g44 x0 (ix (x3 + (1 : Int32)))), .int (mi g44 x0 (ix (x3 + (2 : Int32)))), .int (mi g44 x0 (ix (x3 + (3 : Int32)))), .int (mi g44 x0 (ix (x3 + (4 : Int32))))] g44 (fun r54 g52 =>
((lg_cmp r46 r54) = 0 →
WM k_Law_law p_Law_law_1 [.ref x0, .ref x1, .ref x2, .int (x3 + (7 : Int32))] [] g52 ((cc + 4) + 0) ((ss + 7697) + 0) Rt) ∧
(¬ (lg_cmp r46 r54) = 0 →
gd ((cc + 4) + 0) 600000 (
gd ((ss + 7697) + 0) 7302250 (
Rt (.int (0 : Int32)) g52)))))))))) ∧
(¬ ((mi h x0 (ix x3)) &&& (63 : Int32)) = (29 : Int32) →
(((mi h x0 (ix x3)) &&& (63 : Int32)) = (30 : Int32) →
InB (x3 + (1 : Int32)) (ln h x0) ∧
InB (x3 + (2 : Int32)) (ln h x0) ∧
kd h x1 = 12 ∧
gd (cc + 0) 600000 (
gd (ss + 0) 7302250 (
SpL k_Ho_map [.ref x1, .int (mi h x0 (ix (x3 + (1 : Int32)))), .int (mi h x0 (ix (x3 + (2 : Int32))))] h (fun r33 g31 =>
kd g31 x0 = 19 ∧
InB (x3 + (1 : Int32)) (ln g31 x0) ∧
InB (x3 + (2 : Int32)) (ln g31 x0) ∧
kd g31 x2 = 13 ∧
gd ((cc + 0) + 0) 600000 (
gd ((ss + 0) + 0) 7302250 (
SpL k_Ref_map [.ref x2, .int (mi g31 x0 (ix (x3 + (1 : Int32)))), .int (mi g31 x0 (ix (x3 + (2 : Int32))))] g31 (fun r39 g37 =>
((lg_cmp r33 r39) = 0 →
WM k_Law_law p_Law_law_1 [.ref x0, .ref x1, .ref x2, .int (x3 + (7 : Int32))] [] g37 ((cc + 0) + 0) ((ss + 0) + 0) Rt) ∧
(¬ (lg_cmp r33 r39) = 0 →
WM k_Law_law p_Law_law_13 [Jv, Jv, Jv, Jv] [] g37 ((cc + 0) + 0) ((ss + 0) + 0) Rt)))))))) ∧
(¬ ((mi h x0 (ix x3)) &&& (63 : Int32)) = (30 : Int32) →
(((mi h x0 (ix x3)) &&& (63 : Int32)) = (31 : Int32) →
InB (x3 + (1 : Int32)) (ln h x0) ∧
InB (x3 + (2 : Int32)) (ln h x0) ∧
InB (x3 + (3 : Int32)) (ln h x0) ∧
InB (x3 + (4 : Int32)) (ln h x0) ∧
kd h x1 = 12 ∧
gd (cc + 0) 600000 (
gd (ss + 0) 7302250 (
SpI k_Ho_phase [.ref x1, .int (mi h x0 (ix (x3 + (1 : Int32)))), .int (mi h x0 (ix (x3 + (2 : Int32)))), .long (((mi h x0 (ix (x3 + (3 : Int32)))).toInt64 <<< ((32 : Int32).toInt64 &&& (63 : Int64))) ||| ((mi h x0 (ix (x3 + (4 : Int32)))).toInt64 &&& (4294967295 : Int64)))] h (fun r20 g18 =>
kd g18 x0 = 19 ∧
InB (x3 + (1 : Int32)) (ln g18 x0) ∧
InB (x3 + (2 : Int32)) (ln g18 x0) ∧
InB (x3 + (3 : Int32)) (ln g18 x0) ∧
InB (x3 + (4 : Int32)) (ln g18 x0) ∧
kd g18 x2 = 13 ∧
gd ((cc + 0) + 0) 600000 (
gd ((ss + 0) + 0) 7302250 (
SpI k_Ref_phase [.ref x2, .int (mi g18 x0 (ix (x3 + (1 : Int32)))), .int (mi g18 x0 (ix (x3 + (2 : Int32)))), .long (((mi g18 x0 (ix (x3 + (3 : Int32)))).toInt64 <<< ((32 : Int32).toInt64 &&& (63 : Int64))) ||| ((mi g18 x0 (ix (x3 + (4 : Int32)))).toInt64 &&& (4294967295 : Int64)))] g18 (fun r28 g26 =>
(r20 = r28 →
WM k_Law_law p_Law_law_1 [.ref x0, .ref x1, .ref x2, .int (x3 + (7 : Int32))] [] g26 ((cc + 0) + 0) ((ss + 0) + 0) Rt) ∧
(¬ r20 = r28 →
gd ((cc + 0) + 0) 600000 (
gd ((ss + 0) + 0) 7302250 (
Rt (.int (0 : Int32)) g26)))))))))) ∧
(¬ ((mi h x0 (ix x3)) &&& (63 : Int32)) = (31 : Int32) →
(((mi h x0 (ix x3)) &&& (63 : Int32)) = (32 : Int32) →
InB (x3 + (1 : Int32)) (ln h x0) ∧
InB (x3 + (2 : Int32)) (ln h x0) ∧
kd h x1 = 12 ∧
gd (cc + 0) 600000 (
gd (ss + 0) 7302250 (
SpL k_Ho_above [.ref x1, .int (mi h x0 (ix (x3 + (1 : Int32)))), .int (mi h x0 (ix (x3 + (2 : Int32))))] h (fun r7 g5 =>
kd g5 x0 = 19 ∧
InB (x3 + (1 : Int32)) (ln g5 x0) ∧
InB (x3 + (2 : Int32)) (ln g5 x0) ∧
kd g5 x2 = 13 ∧
gd ((cc + 0) + 0) 600000 (
gd ((ss + 0) + 0) 7302250 (
SpL k_Ref_above [.ref x2, .int (mi g5 x0 (ix (x3 + (1 : Int32)))), .int (mi g5 x0 (ix (x3 + (2 : Int32))))] g5 (fun r13 g11 =>
((lg_cmp r7 r13) = 0 →
WM k_Law_law p_Law_law_1 [.ref x0, .ref x1, .ref x2, .int (x3 + (7 : Int32))] [] g11 ((cc + 0) + 0) ((ss + 0) + 0) Rt) ∧
(¬ (lg_cmp r7 r13) = 0 →
WM k_Law_law p_Law_law_14 [Jv, Jv, Jv, Jv] [] g11 ((cc + 0) + 0) ((ss + 0) + 0) Rt)))))))) ∧
(¬ ((mi h x0 (ix x3)) &&& (63 : Int32)) = (32 : Int32) →
WM k_Law_law p_Law_law_1 [.ref x0, .ref x1, .ref x2, .int (x3 + (7 : Int32))] [] h cc ss Rt))))))))))))))))))))))))))))))))))) : WM k_Law_law p_Law_law_1 [.ref x0, .ref x1, .ref x2, .int x3] [] h cc ss Rt := WM_at (hs := HH_Law_law) G_Law_law 1131 10 rfl ⟨H.1, ⟨fun c387 => ⟨(Or.inr rfl), (H.2.1 c387)⟩, fun c387 => ⟨H.1, ⟨(H.2.2 c387).1, ⟨fun c388 => ⟨H.1, ⟨(((H.2.2 c387).2).1 c388).1, ⟨H.1, ⟨((((H.2.2 c387).2).1 c388).2).1, ⟨H.1, ⟨(((((H.2.2 c387).2).1 c388).2).2).1, ⟨H.1, ⟨((((((H.2.2 c387).2).1 c388).2).2).2).1, ⟨H.1, ⟨(((((((H.2.2 c387).2).1 c388).2).2).2).2).1, ⟨((((((((H.2.2 c387).2).1 c388).2).2).2).2).2).1, gd_mono (fun q => gd_mono (fun q => SpV.mono q (fun g377 qg377 => ⟨qg377.1, ⟨qg377.2.1, ⟨qg377.1, ⟨qg377.2.2.1, ⟨qg377.1, ⟨qg377.2.2.2.1, ⟨qg377.1, ⟨qg377.2.2.2.2.1, ⟨qg377.1, qg377.2.2.2.2.2⟩⟩⟩⟩⟩⟩⟩⟩⟩)) q) (((((((((H.2.2 c387).2).1 c388).2).2).2).2).2).2)⟩⟩⟩⟩⟩⟩⟩⟩⟩⟩⟩, fun c388 => ⟨fun c389 => ⟨H.1, ((((H.2.2 c387).2).2 c388).1 c389)⟩, fun c389 => ⟨fun c390 => ⟨(((((H.2.2 c387).2).2 c388).2 c389).1 c390).1, gd_mono (fun q => gd_mono (fun q => SpI.mono q (fun r359 g357 qg357 => ⟨qg357.1, gd_mono (fun q => gd_mono (fun q => SpI.mono q (fun r362 g360 qg360 => ⟨qg360.1, fun c391 => ⟨(Or.inl rfl), (qg360.2 c391)⟩⟩)) q) qg357.2⟩)) q) ((((((H.2.2 c387).2).2 c388).2 c389).1 c390).2)⟩, fun c390 => ⟨fun c392 => ⟨H.1, ⟨((((((H.2.2 c387).2).2 c388).2 c389).2 c390).1 c392).1, ⟨(((((((H.2.2 c387).2).2 c388).2 c389).2 c390).1 c392).2).1, gd_mono (fun q => gd_mono (fun q => SpI.mono q (fun r351 g349 qg349 => ⟨qg349.1, ⟨qg349.2.1, ⟨qg349.2.2.1, gd_mono (fun q => gd_mono (fun q => SpI.mono q (fun r356 g354 qg354 => ⟨qg354.1, fun c393 => ⟨(Or.inl rfl), (qg354.2 c393)⟩⟩)) q) qg349.2.2.2⟩⟩⟩)) q) ((((((((H.2.2 c387).2).2 c388).2 c389).2 c390).1 c392).2).2)⟩⟩⟩, fun c392 => ⟨fun c394 => ⟨H.1, ⟨(((((((H.2.2 c387).2).2 c388).2 c389).2 c390).2 c392).1 c394).1, ⟨H.1, ⟨((((((((H.2.2 c387).2).2 c388).2 c389).2 c390).2 c392).1 c394).2).1, ⟨(((((((((H.2.2 c387).2).2 c388).2 c389).2 c390).2 c392).1 c394).2).2).1, gd_mono (fun q => gd_mono (fun q => SpI.mono q (fun r341 g339 qg339 => ⟨qg339.1, ⟨qg339.2.1, ⟨qg339.1, ⟨qg339.2.2.1, ⟨qg339.2.2.2.1, gd_mono (fun q => gd_mono (fun q => SpI.mono q (fun r347 g345 qg345 => ⟨qg345.1, fun c395 => ⟨(Or.inl rfl), (qg345.2 c395)⟩⟩)) q) qg339.2.2.2.2⟩⟩⟩⟩⟩)) q) ((((((((((H.2.2 c387).2).2 c388).2 c389).2 c390).2 c392).1 c394).2).2).2)⟩⟩⟩⟩⟩, fun c394 => ⟨fun c396 => ⟨H.1, ⟨((((((((H.2.2 c387).2).2 c388).2 c389).2 c390).2 c392).2 c394).1 c396).1, ⟨(((((((((H.2.2 c387).2).2 c388).2 c389).2 c390).2 c392).2 c394).1 c396).2).1, gd_mono (fun q => gd_mono (fun q => SpI.mono q (fun r331 g329 qg329 => ⟨qg329.1, ⟨qg329.2.1, ⟨qg329.2.2.1, gd_mono (fun q => gd_mono (fun q => SpI.mono q (fun r336 g334 qg334 => ⟨qg334.1, fun c397 => ⟨(Or.inl rfl), (qg334.2 c397)⟩⟩)) q) qg329.2.2.2⟩⟩⟩)) q) ((((((((((H.2.2 c387).2).2 c388).2 c389).2 c390).2 c392).2 c394).1 c396).2).2)⟩⟩⟩, fun c396 => ⟨((((((((H.2.2 c387).2).2 c388).2 c389).2 c390).2 c392).2 c394).2 c396).1, fun c398 => ⟨fun c399 => ⟨H.1, ⟨((((((((((H.2.2 c387).2).2 c388).2 c389).2 c390).2 c392).2 c394).2 c396).2 c398).1 c399).1, ⟨(((((((((((H.2.2 c387).2).2 c388).2 c389).2 c390).2 c392).2 c394).2 c396).2 c398).1 c399).2).1, gd_mono (fun q => gd_mono (fun q => SpI.mono q (fun r322 g320 qg320 => ⟨qg320.1, ⟨qg320.2.1, ⟨qg320.2.2.1, gd_mono (fun q => gd_mono (fun q => SpI.mono q (fun r327 g325 qg325 => ⟨qg325.1, fun c400 => ⟨(Or.inl rfl), (qg325.2 c400)⟩⟩)) q) qg320.2.2.2⟩⟩⟩)) q) ((((((((((((H.2.2 c387).2).2 c388).2 c389).2 c390).2 c392).2 c394).2 c396).2 c398).1 c399).2).2)⟩⟩⟩, fun c399 => ⟨fun c401 => ⟨H.1, ⟨(((((((((((H.2.2 c387).2).2 c388).2 c389).2 c390).2 c392).2 c394).2 c396).2 c398).2 c399).1 c401).1, ⟨((((((((((((H.2.2 c387).2).2 c388).2 c389).2 c390).2 c392).2 c394).2 c396).2 c398).2 c399).1 c401).2).1, gd_mono (fun q => gd_mono (fun q => SpI.mono q (fun r313 g311 qg311 => ⟨qg311.1, ⟨qg311.2.1, ⟨qg311.2.2.1, gd_mono (fun q => gd_mono (fun q => SpI.mono q (fun r318 g316 qg316 => ⟨qg316.1, fun c402 => ⟨(Or.inl rfl), (qg316.2 c402)⟩⟩)) q) qg311.2.2.2⟩⟩⟩)) q) (((((((((((((H.2.2 c387).2).2 c388).2 c389).2 c390).2 c392).2 c394).2 c396).2 c398).2 c399).1 c401).2).2)⟩⟩⟩, fun c401 => ⟨fun c403 => ⟨((((((((((((H.2.2 c387).2).2 c388).2 c389).2 c390).2 c392).2 c394).2 c396).2 c398).2 c399).2 c401).1 c403).1, gd_mono (fun q => gd_mono (fun q => SpI.mono q (fun r306 g304 qg304 => ⟨qg304.1, gd_mono (fun q => gd_mono (fun q => SpI.mono q (fun r309 g307 qg307 => ⟨qg307.1, fun c404 => ⟨(Or.inl rfl), (qg307.2 c404)⟩⟩)) q) qg304.2⟩)) q) (((((((((((((H.2.2 c387).2).2 c388).2 c389).2 c390).2 c392).2 c394).2 c396).2 c398).2 c399).2 c401).1 c403).2)⟩, fun c403 => ⟨fun c405 => ⟨H.1, ⟨(((((((((((((H.2.2 c387).2).2 c388).2 c389).2 c390).2 c392).2 c394).2 c396).2 c398).2 c399).2 c401).2 c403).1 c405).1, ⟨H.1, ⟨((((((((((((((H.2.2 c387).2).2 c388).2 c389).2 c390).2 c392).2 c394).2 c396).2 c398).2 c399).2 c401).2 c403).1 c405).2).1, ⟨(((((((((((((((H.2.2 c387).2).2 c388).2 c389).2 c390).2 c392).2 c394).2 c396).2 c398).2 c399).2 c401).2 c403).1 c405).2).2).1, gd_mono (fun q => gd_mono (fun q => SpI.mono q (fun r297 g295 qg295 => ⟨qg295.1, ⟨qg295.2.1, ⟨qg295.1, qg295.2.2⟩⟩⟩)) q) ((((((((((((((((H.2.2 c387).2).2 c388).2 c389).2 c390).2 c392).2 c394).2 c396).2 c398).2 c399).2 c401).2 c403).1 c405).2).2).2)⟩⟩⟩⟩⟩, fun c405 => ⟨fun c406 => ⟨H.1, ⟨((((((((((((((H.2.2 c387).2).2 c388).2 c389).2 c390).2 c392).2 c394).2 c396).2 c398).2 c399).2 c401).2 c403).2 c405).1 c406).1, ⟨H.1, ⟨(((((((((((((((H.2.2 c387).2).2 c388).2 c389).2 c390).2 c392).2 c394).2 c396).2 c398).2 c399).2 c401).2 c403).2 c405).1 c406).2).1, ⟨H.1, ⟨((((((((((((((((H.2.2 c387).2).2 c388).2 c389).2 c390).2 c392).2 c394).2 c396).2 c398).2 c399).2 c401).2 c403).2 c405).1 c406).2).2).1, ⟨(((((((((((((((((H.2.2 c387).2).2 c388).2 c389).2 c390).2 c392).2 c394).2 c396).2 c398).2 c399).2 c401).2 c403).2 c405).1 c406).2).2).2).1, gd_mono (fun q => gd_mono (fun q => SpI.mono q (fun r285 g283 qg283 => ⟨qg283.1, ⟨qg283.2.1, ⟨qg283.1, ⟨qg283.2.2.1, ⟨qg283.1, ⟨qg283.2.2.2.1, ⟨qg283.2.2.2.2.1, gd_mono (fun q => gd_mono (fun q => SpI.mono q (fun r292 g290 qg290 => ⟨qg290.1, fun c407 => ⟨(Or.inl rfl), (qg290.2 c407)⟩⟩)) q) qg283.2.2.2.2.2⟩⟩⟩⟩⟩⟩⟩)) q) ((((((((((((((((((H.2.2 c387).2).2 c388).2 c389).2 c390).2 c392).2 c394).2 c396).2 c398).2 c399).2 c401).2 c403).2 c405).1 c406).2).2).2).2)⟩⟩⟩⟩⟩⟩⟩, fun c406 => ⟨fun c408 => ⟨H.1, ⟨(((((((((((((((H.2.2 c387).2).2 c388).2 c389).2 c390).2 c392).2 c394).2 c396).2 c398).2 c399).2 c401).2 c403).2 c405).2 c406).1 c408).1, ⟨H.1, ⟨((((((((((((((((H.2.2 c387).2).2 c388).2 c389).2 c390).2 c392).2 c394).2 c396).2 c398).2 c399).2 c401).2 c403).2 c405).2 c406).1 c408).2).1, ⟨H.1, ⟨(((((((((((((((((H.2.2 c387).2).2 c388).2 c389).2 c390).2 c392).2 c394).2 c396).2 c398).2 c399).2 c401).2 c403).2 c405).2 c406).1 c408).2).2).1, ⟨((((((((((((((((((H.2.2 c387).2).2 c388).2 c389).2 c390).2 c392).2 c394).2 c396).2 c398).2 c399).2 c401).2 c403).2 c405).2 c406).1 c408).2).2).2).1, gd_mono (fun q => gd_mono (fun q => SpI.mono q (fun r272 g270 qg270 => ⟨qg270.1, ⟨qg270.2.1, ⟨qg270.1, ⟨qg270.2.2.1, ⟨qg270.1, qg270.2.2.2⟩⟩⟩⟩⟩)) q) (((((((((((((((((((H.2.2 c387).2).2 c388).2 c389).2 c390).2 c392).2 c394).2 c396).2 c398).2 c399).2 c401).2 c403).2 c405).2 c406).1 c408).2).2).2).2)⟩⟩⟩⟩⟩⟩⟩, fun c408 => ⟨fun c409 => ⟨H.1, ⟨((((((((((((((((H.2.2 c387).2).2 c388).2 c389).2 c390).2 c392).2 c394).2 c396).2 c398).2 c399).2 c401).2 c403).2 c405).2 c406).2 c408).1 c409).1, ⟨H.1, ⟨(((((((((((((((((H.2.2 c387).2).2 c388).2 c389).2 c390).2 c392).2 c394).2 c396).2 c398).2 c399).2 c401).2 c403).2 c405).2 c406).2 c408).1 c409).2).1, ⟨((((((((((((((((((H.2.2 c387).2).2 c388).2 c389).2 c390).2 c392).2 c394).2 c396).2 c398).2 c399).2 c401).2 c403).2 c405).2 c406).2 c408).1 c409).2).2).1, gd_mono (fun q => gd_mono (fun q => SpI.mono q (fun r260 g258 qg258 => ⟨qg258.1, ⟨qg258.2.1, ⟨qg258.1, ⟨qg258.2.2.1, ⟨qg258.2.2.2.1, gd_mono (fun q => gd_mono (fun q => SpI.mono q (fun r266 g264 qg264 => ⟨qg264.1, fun c410 => ⟨(Or.inl rfl), (qg264.2 c410)⟩⟩)) q) qg258.2.2.2.2⟩⟩⟩⟩⟩)) q) (((((((((((((((((((H.2.2 c387).2).2 c388).2 c389).2 c390).2 c392).2 c394).2 c396).2 c398).2 c399).2 c401).2 c403).2 c405).2 c406).2 c408).1 c409).2).2).2)⟩⟩⟩⟩⟩, fun c409 => ⟨fun c411 => ⟨H.1, ⟨(((((((((((((((((H.2.2 c387).2).2 c388).2 c389).2 c390).2 c392).2 c394).2 c396).2 c398).2 c399).2 c401).2 c403).2 c405).2 c406).2 c408).2 c409).1 c411).1, ⟨H.1, ⟨((((((((((((((((((H.2.2 c387).2).2 c388).2 c389).2 c390).2 c392).2 c394).2 c396).2 c398).2 c399).2 c401).2 c403).2 c405).2 c406).2 c408).2 c409).1 c411).2).1, ⟨(((((((((((((((((((H.2.2 c387).2).2 c388).2 c389).2 c390).2 c392).2 c394).2 c396).2 c398).2 c399).2 c401).2 c403).2 c405).2 c406).2 c408).2 c409).1 c411).2).2).1, gd_mono (fun q => gd_mono (fun q => SpI.mono q (fun r249 g247 qg247 => ⟨qg247.1, ⟨qg247.2.1, ⟨qg247.1, ⟨qg247.2.2.1, ⟨qg247.2.2.2.1, gd_mono (fun q => gd_mono (fun q => SpI.mono q (fun r255 g253 qg253 => ⟨qg253.1, fun c412 => ⟨(Or.inl rfl), (qg253.2 c412)⟩⟩)) q) qg247.2.2.2.2⟩⟩⟩⟩⟩)) q) ((((((((((((((((((((H.2.2 c387).2).2 c388).2 c389).2 c390).2 c392).2 c394).2 c396).2 c398).2 c399).2 c401).2 c403).2 c405).2 c406).2 c408).2 c409).1 c411).2).2).2)⟩⟩⟩⟩⟩, fun c411 => ⟨fun c413 => ⟨H.1, ⟨((((((((((((((((((H.2.2 c387).2).2 c388).2 c389).2 c390).2 c392).2 c394).2 c396).2 c398).2 c399).2 c401).2 c403).2 c405).2 c406).2 c408).2 c409).2 c411).1 c413).1, ⟨H.1, ⟨(((((((((((((((((((H.2.2 c387).2).2 c388).2 c389).2 c390).2 c392).2 c394).2 c396).2 c398).2 c399).2 c401).2 c403).2 c405).2 c406).2 c408).2 c409).2 c411).1 c413).2).1, ⟨H.1, ⟨((((((((((((((((((((H.2.2 c387).2).2 c388).2 c389).2 c390).2 c392).2 c394).2 c396).2 c398).2 c399).2 c401).2 c403).2 c405).2 c406).2 c408).2 c409).2 c411).1 c413).2).2).1, ⟨(((((((((((((((((((((H.2.2 c387).2).2 c388).2 c389).2 c390).2 c392).2 c394).2 c396).2 c398).2 c399).2 c401).2 c403).2 c405).2 c406).2 c408).2 c409).2 c411).1 c413).2).2).2).1, gd_mono (fun q => gd_mono (fun q => SpI.mono q (fun r237 g235 qg235 => ⟨qg235.1, ⟨qg235.2.1, ⟨qg235.1, ⟨qg235.2.2.1, ⟨qg235.1, qg235.2.2.2⟩⟩⟩⟩⟩)) q) ((((((((((((((((((((((H.2.2 c387).2).2 c388).2 c389).2 c390).2 c392).2 c394).2 c396).2 c398).2 c399).2 c401).2 c403).2 c405).2 c406).2 c408).2 c409).2 c411).1 c413).2).2).2).2)⟩⟩⟩⟩⟩⟩⟩, fun c413 => ⟨fun c414 => ⟨H.1, ⟨(((((((((((((((((((H.2.2 c387).2).2 c388).2 c389).2 c390).2 c392).2 c394).2 c396).2 c398).2 c399).2 c401).2 c403).2 c405).2 c406).2 c408).2 c409).2 c411).2 c413).1 c414).1, ⟨H.1, ⟨((((((((((((((((((((H.2.2 c387).2).2 c388).2 c389).2 c390).2 c392).2 c394).2 c396).2 c398).2 c399).2 c401).2 c403).2 c405).2 c406).2 c408).2 c409).2 c411).2 c413).1 c414).2).1, ⟨H.1, ⟨(((((((((((((((((((((H.2.2 c387).2).2 c388).2 c389).2 c390).2 c392).2 c394).2 c396).2 c398).2 c399).2 c401).2 c403).2 c405).2 c406).2 c408).2 c409).2 c411).2 c413).1 c414).2).2).1, ⟨H.1, ⟨((((((((((((((((((((((H.2.2 c387).2).2 c388).2 c389).2 c390).2 c392).2 c394).2 c396).2 c398).2 c399).2 c401).2 c403).2 c405).2 c406).2 c408).2 c409).2 c411).2 c413).1 c414).2).2).2).1, ⟨H.1, ⟨(((((((((((((((((((((((H.2.2 c387).2).2 c388).2 c389).2 c390).2 c392).2 c394).2 c396).2 c398).2 c399).2 c401).2 c403).2 c405).2 c406).2 c408).2 c409).2 c411).2 c413).1 c414).2).2).2).2).1, ⟨((((((((((((((((((((((((H.2.2 c387).2).2 c388).2 c389).2 c390).2 c392).2 c394).2 c396).2 c398).2 c399).2 c401).2 c403).2 c405).2 c406).2 c408).2 c409).2 c411).2 c413).1 c414).2).2).2).2).2).1, gd_mono (fun q => gd_mono (fun q => SpI.mono q (fun r222 g220 qg220 => ⟨qg220.1, ⟨qg220.2.1, ⟨qg220.1, ⟨qg220.2.2.1, ⟨qg220.1, ⟨qg220.2.2.2.1, ⟨qg220.1, ⟨qg220.2.2.2.2.1, ⟨qg220.1, ⟨qg220.2.2.2.2.2.1, ⟨qg220.2.2.2.2.2.2.1, gd_mono (fun q => gd_mono (fun q => SpI.mono q (fun r231 g229 qg229 => ⟨qg229.1, fun c415 => ⟨(Or.inl rfl), (qg229.2 c415)⟩⟩)) q) qg220.2.2.2.2.2.2.2⟩⟩⟩⟩⟩⟩⟩⟩⟩⟩⟩)) q) (((((((((((((((((((((((((H.2.2 c387).2).2 c388).2 c389).2 c390).2 c392).2 c394).2 c396).2 c398).2 c399).2 c401).2 c403).2 c405).2 c406).2 c408).2 c409).2 c411).2 c413).1 c414).2).2).2).2).2).2)⟩⟩⟩⟩⟩⟩⟩⟩⟩⟩⟩, fun c414 => ⟨fun c416 => ⟨H.1, ⟨((((((((((((((((((((H.2.2 c387).2).2 c388).2 c389).2 c390).2 c392).2 c394).2 c396).2 c398).2 c399).2 c401).2 c403).2 c405).2 c406).2 c408).2 c409).2 c411).2 c413).2 c414).1 c416).1, ⟨H.1, ⟨(((((((((((((((((((((H.2.2 c387).2).2 c388).2 c389).2 c390).2 c392).2 c394).2 c396).2 c398).2 c399).2 c401).2 c403).2 c405).2 c406).2 c408).2 c409).2 c411).2 c413).2 c414).1 c416).2).1, ⟨H.1, ⟨((((((((((((((((((((((H.2.2 c387).2).2 c388).2 c389).2 c390).2 c392).2 c394).2 c396).2 c398).2 c399).2 c401).2 c403).2 c405).2 c406).2 c408).2 c409).2 c411).2 c413).2 c414).1 c416).2).2).1, ⟨H.1, ⟨(((((((((((((((((((((((H.2.2 c387).2).2 c388).2 c389).2 c390).2 c392).2 c394).2 c396).2 c398).2 c399).2 c401).2 c403).2 c405).2 c406).2 c408).2 c409).2 c411).2 c413).2 c414).1 c416).2).2).2).1, ⟨H.1, ⟨((((((((((((((((((((((((H.2.2 c387).2).2 c388).2 c389).2 c390).2 c392).2 c394).2 c396).2 c398).2 c399).2 c401).2 c403).2 c405).2 c406).2 c408).2 c409).2 c411).2 c413).2 c414).1 c416).2).2).2).2).1, ⟨H.1, ⟨(((((((((((((((((((((((((H.2.2 c387).2).2 c388).2 c389).2 c390).2 c392).2 c394).2 c396).2 c398).2 c399).2 c401).2 c403).2 c405).2 c406).2 c408).2 c409).2 c411).2 c413).2 c414).1 c416).2).2).2).2).2).1, ⟨((((((((((((((((((((((((((H.2.2 c387).2).2 c388).2 c389).2 c390).2 c392).2 c394).2 c396).2 c398).2 c399).2 c401).2 c403).2 c405).2 c406).2 c408).2 c409).2 c411).2 c413).2 c414).1 c416).2).2).2).2).2).2).1, gd_mono (fun q => gd_mono (fun q => SpI.mono q (fun r204 g202 qg202 => ⟨qg202.1, ⟨qg202.2.1, ⟨qg202.1, ⟨qg202.2.2.1, ⟨qg202.1, ⟨qg202.2.2.2.1, ⟨qg202.1, ⟨qg202.2.2.2.2.1, ⟨qg202.1, ⟨qg202.2.2.2.2.2.1, ⟨qg202.1, qg202.2.2.2.2.2.2⟩⟩⟩⟩⟩⟩⟩⟩⟩⟩⟩)) q) (((((((((((((((((((((((((((H.2.2 c387).2).2 c388).2 c389).2 c390).2 c392).2 c394).2 c396).2 c398).2 c399).2 c401).2 c403).2 c405).2 c406).2 c408).2 c409).2 c411).2 c413).2 c414).1 c416).2).2).2).2).2).2).2)⟩⟩⟩⟩⟩⟩⟩⟩⟩⟩⟩⟩⟩, fun c416 => ⟨fun c417 => ⟨H.1, ⟨(((((((((((((((((((((H.2.2 c387).2).2 c388).2 c389).2 c390).2 c392).2 c394).2 c396).2 c398).2 c399).2 c401).2 c403).2 c405).2 c406).2 c408).2 c409).2 c411).2 c413).2 c414).2 c416).1 c417).1, ⟨H.1, ⟨((((((((((((((((((((((H.2.2 c387).2).2 c388).2 c389).2 c390).2 c392).2 c394).2 c396).2 c398).2 c399).2 c401).2 c403).2 c405).2 c406).2 c408).2 c409).2 c411).2 c413).2 c414).2 c416).1 c417).2).1, ⟨(((((((((((((((((((((((H.2.2 c387).2).2 c388).2 c389).2 c390).2 c392).2 c394).2 c396).2 c398).2 c399).2 c401).2 c403).2 c405).2 c406).2 c408).2 c409).2 c411).2 c413).2 c414).2 c416).1 c417).2).2).1, gd_mono (fun q => gd_mono (fun q => SpL.mono q (fun r189 g187 qg187 => ⟨qg187.1, ⟨qg187.2.1, ⟨qg187.1, ⟨qg187.2.2.1, ⟨qg187.2.2.2.1, gd_mono (fun q => gd_mono (fun q => SpL.mono q (fun r195 g193 qg193 => ⟨qg193.1, fun c418 => ⟨(Or.inl rfl), (qg193.2 c418)⟩⟩)) q) qg187.2.2.2.2⟩⟩⟩⟩⟩)) q) ((((((((((((((((((((((((H.2.2 c387).2).2 c388).2 c389).2 c390).2 c392).2 c394).2 c396).2 c398).2 c399).2 c401).2 c403).2 c405).2 c406).2 c408).2 c409).2 c411).2 c413).2 c414).2 c416).1 c417).2).2).2)⟩⟩⟩⟩⟩, fun c417 => ⟨fun c419 => ⟨H.1, ⟨((((((((((((((((((((((H.2.2 c387).2).2 c388).2 c389).2 c390).2 c392).2 c394).2 c396).2 c398).2 c399).2 c401).2 c403).2 c405).2 c406).2 c408).2 c409).2 c411).2 c413).2 c414).2 c416).2 c417).1 c419).1, ⟨H.1, ⟨(((((((((((((((((((((((H.2.2 c387).2).2 c388).2 c389).2 c390).2 c392).2 c394).2 c396).2 c398).2 c399).2 c401).2 c403).2 c405).2 c406).2 c408).2 c409).2 c411).2 c413).2 c414).2 c416).2 c417).1 c419).2).1, ⟨((((((((((((((((((((((((H.2.2 c387).2).2 c388).2 c389).2 c390).2 c392).2 c394).2 c396).2 c398).2 c399).2 c401).2 c403).2 c405).2 c406).2 c408).2 c409).2 c411).2 c413).2 c414).2 c416).2 c417).1 c419).2).2).1, gd_mono (fun q => gd_mono (fun q => SpI.mono q (fun r178 g176 qg176 => ⟨qg176.1, ⟨qg176.2.1, ⟨qg176.1, ⟨qg176.2.2.1, ⟨qg176.2.2.2.1, gd_mono (fun q => gd_mono (fun q => SpI.mono q (fun r184 g182 qg182 => ⟨qg182.1, fun c420 => ⟨(Or.inl rfl), (qg182.2 c420)⟩⟩)) q) qg176.2.2.2.2⟩⟩⟩⟩⟩)) q) (((((((((((((((((((((((((H.2.2 c387).2).2 c388).2 c389).2 c390).2 c392).2 c394).2 c396).2 c398).2 c399).2 c401).2 c403).2 c405).2 c406).2 c408).2 c409).2 c411).2 c413).2 c414).2 c416).2 c417).1 c419).2).2).2)⟩⟩⟩⟩⟩, fun c419 => ⟨fun c421 => ⟨H.1, ⟨(((((((((((((((((((((((H.2.2 c387).2).2 c388).2 c389).2 c390).2 c392).2 c394).2 c396).2 c398).2 c399).2 c401).2 c403).2 c405).2 c406).2 c408).2 c409).2 c411).2 c413).2 c414).2 c416).2 c417).2 c419).1 c421).1, ⟨H.1, ⟨((((((((((((((((((((((((H.2.2 c387).2).2 c388).2 c389).2 c390).2 c392).2 c394).2 c396).2 c398).2 c399).2 c401).2 c403).2 c405).2 c406).2 c408).2 c409).2 c411).2 c413).2 c414).2 c416).2 c417).2 c419).1 c421).2).1, ⟨(((((((((((((((((((((((((H.2.2 c387).2).2 c388).2 c389).2 c390).2 c392).2 c394).2 c396).2 c398).2 c399).2 c401).2 c403).2 c405).2 c406).2 c408).2 c409).2 c411).2 c413).2 c414).2 c416).2 c417).2 c419).1 c421).2).2).1, gd_mono (fun q => gd_mono (fun q => SpI.mono q (fun r167 g165 qg165 => ⟨qg165.1, ⟨qg165.2.1, ⟨qg165.1, qg165.2.2⟩⟩⟩)) q) ((((((((((((((((((((((((((H.2.2 c387).2).2 c388).2 c389).2 c390).2 c392).2 c394).2 c396).2 c398).2 c399).2 c401).2 c403).2 c405).2 c406).2 c408).2 c409).2 c411).2 c413).2 c414).2 c416).2 c417).2 c419).1 c421).2).2).2)⟩⟩⟩⟩⟩, fun c421 => ⟨fun c422 => ⟨H.1, ⟨((((((((((((((((((((((((H.2.2 c387).2).2 c388).2 c389).2 c390).2 c392).2 c394).2 c396).2 c398).2 c399).2 c401).2 c403).2 c405).2 c406).2 c408).2 c409).2 c411).2 c413).2 c414).2 c416).2 c417).2 c419).2 c421).1 c422).1, ⟨H.1, ⟨(((((((((((((((((((((((((H.2.2 c387).2).2 c388).2 c389).2 c390).2 c392).2 c394).2 c396).2 c398).2 c399).2 c401).2 c403).2 c405).2 c406).2 c408).2 c409).2 c411).2 c413).2 c414).2 c416).2 c417).2 c419).2 c421).1 c422).2).1, ⟨H.1, ⟨((((((((((((((((((((((((((H.2.2 c387).2).2 c388).2 c389).2 c390).2 c392).2 c394).2 c396).2 c398).2 c399).2 c401).2 c403).2 c405).2 c406).2 c408).2 c409).2 c411).2 c413).2 c414).2 c416).2 c417).2 c419).2 c421).1 c422).2).2).1, ⟨H.1, ⟨(((((((((((((((((((((((((((H.2.2 c387).2).2 c388).2 c389).2 c390).2 c392).2 c394).2 c396).2 c398).2 c399).2 c401).2 c403).2 c405).2 c406).2 c408).2 c409).2 c411).2 c413).2 c414).2 c416).2 c417).2 c419).2 c421).1 c422).2).2).2).1, ⟨((((((((((((((((((((((((((((H.2.2 c387).2).2 c388).2 c389).2 c390).2 c392).2 c394).2 c396).2 c398).2 c399).2 c401).2 c403).2 c405).2 c406).2 c408).2 c409).2 c411).2 c413).2 c414).2 c416).2 c417).2 c419).2 c421).1 c422).2).2).2).2).1, gd_mono (fun q => gd_mono (fun q => SpL.mono q (fun r154 g152 qg152 => ⟨qg152.1, ⟨qg152.2.1, ⟨qg152.1, ⟨qg152.2.2.1, ⟨qg152.1, ⟨qg152.2.2.2.1, ⟨qg152.1, ⟨qg152.2.2.2.2.1, ⟨qg152.2.2.2.2.2.1, gd_mono (fun q => gd_mono (fun q => SpL.mono q (fun r162 g160 qg160 => ⟨qg160.1, fun c423 => ⟨(Or.inl rfl), (qg160.2 c423)⟩⟩)) q) qg152.2.2.2.2.2.2⟩⟩⟩⟩⟩⟩⟩⟩⟩)) q) (((((((((((((((((((((((((((((H.2.2 c387).2).2 c388).2 c389).2 c390).2 c392).2 c394).2 c396).2 c398).2 c399).2 c401).2 c403).2 c405).2 c406).2 c408).2 c409).2 c411).2 c413).2 c414).2 c416).2 c417).2 c419).2 c421).1 c422).2).2).2).2).2)⟩⟩⟩⟩⟩⟩⟩⟩⟩, fun c422 => ⟨fun c424 => ⟨H.1, ⟨(((((((((((((((((((((((((H.2.2 c387).2).2 c388).2 c389).2 c390).2 c392).2 c394).2 c396).2 c398).2 c399).2 c401).2 c403).2 c405).2 c406).2 c408).2 c409).2 c411).2 c413).2 c414).2 c416).2 c417).2 c419).2 c421).2 c422).1 c424).1, ⟨H.1, ⟨((((((((((((((((((((((((((H.2.2 c387).2).2 c388).2 c389).2 c390).2 c392).2 c394).2 c396).2 c398).2 c399).2 c401).2 c403).2 c405).2 c406).2 c408).2 c409).2 c411).2 c413).2 c414).2 c416).2 c417).2 c419).2 c421).2 c422).1 c424).2).1, ⟨(((((((((((((((((((((((((((H.2.2 c387).2).2 c388).2 c389).2 c390).2 c392).2 c394).2 c396).2 c398).2 c399).2 c401).2 c403).2 c405).2 c406).2 c408).2 c409).2 c411).2 c413).2 c414).2 c416).2 c417).2 c419).2 c421).2 c422).1 c424).2).2).1, gd_mono (fun q => gd_mono (fun q => SpI.mono q (fun r141 g139 qg139 => ⟨qg139.1, ⟨qg139.2.1, ⟨qg139.1, qg139.2.2⟩⟩⟩)) q) ((((((((((((((((((((((((((((H.2.2 c387).2).2 c388).2 c389).2 c390).2 c392).2 c394).2 c396).2 c398).2 c399).2 c401).2 c403).2 c405).2 c406).2 c408).2 c409).2 c411).2 c413).2 c414).2 c416).2 c417).2 c419).2 c421).2 c422).1 c424).2).2).2)⟩⟩⟩⟩⟩, fun c424 => ⟨fun c425 => ⟨H.1, ⟨((((((((((((((((((((((((((H.2.2 c387).2).2 c388).2 c389).2 c390).2 c392).2 c394).2 c396).2 c398).2 c399).2 c401).2 c403).2 c405).2 c406).2 c408).2 c409).2 c411).2 c413).2 c414).2 c416).2 c417).2 c419).2 c421).2 c422).2 c424).1 c425).1, ⟨H.1, ⟨(((((((((((((((((((((((((((H.2.2 c387).2).2 c388).2 c389).2 c390).2 c392).2 c394).2 c396).2 c398).2 c399).2 c401).2 c403).2 c405).2 c406).2 c408).2 c409).2 c411).2 c413).2 c414).2 c416).2 c417).2 c419).2 c421).2 c422).2 c424).1 c425).2).1, ⟨H.1, ⟨((((((((((((((((((((((((((((H.2.2 c387).2).2 c388).2 c389).2 c390).2 c392).2 c394).2 c396).2 c398).2 c399).2 c401).2 c403).2 c405).2 c406).2 c408).2 c409).2 c411).2 c413).2 c414).2 c416).2 c417).2 c419).2 c421).2 c422).2 c424).1 c425).2).2).1, ⟨(((((((((((((((((((((((((((((H.2.2 c387).2).2 c388).2 c389).2 c390).2 c392).2 c394).2 c396).2 c398).2 c399).2 c401).2 c403).2 c405).2 c406).2 c408).2 c409).2 c411).2 c413).2 c414).2 c416).2 c417).2 c419).2 c421).2 c422).2 c424).1 c425).2).2).2).1, gd_mono (fun q => gd_mono (fun q => SpI.mono q (fun r129 g127 qg127 => ⟨qg127.1, ⟨qg127.2.1, ⟨qg127.1, ⟨qg127.2.2.1, ⟨qg127.1, ⟨qg127.2.2.2.1, ⟨qg127.2.2.2.2.1, gd_mono (fun q => gd_mono (fun q => SpI.mono q (fun r136 g134 qg134 => ⟨qg134.1, fun c426 => ⟨(Or.inl rfl), (qg134.2 c426)⟩⟩)) q) qg127.2.2.2.2.2⟩⟩⟩⟩⟩⟩⟩)) q) ((((((((((((((((((((((((((((((H.2.2 c387).2).2 c388).2 c389).2 c390).2 c392).2 c394).2 c396).2 c398).2 c399).2 c401).2 c403).2 c405).2 c406).2 c408).2 c409).2 c411).2 c413).2 c414).2 c416).2 c417).2 c419).2 c421).2 c422).2 c424).1 c425).2).2).2).2)⟩⟩⟩⟩⟩⟩⟩, fun c425 => ⟨fun c427 => ⟨H.1, ⟨(((((((((((((((((((((((((((H.2.2 c387).2).2 c388).2 c389).2 c390).2 c392).2 c394).2 c396).2 c398).2 c399).2 c401).2 c403).2 c405).2 c406).2 c408).2 c409).2 c411).2 c413).2 c414).2 c416).2 c417).2 c419).2 c421).2 c422).2 c424).2 c425).1 c427).1, ⟨H.1, ⟨((((((((((((((((((((((((((((H.2.2 c387).2).2 c388).2 c389).2 c390).2 c392).2 c394).2 c396).2 c398).2 c399).2 c401).2 c403).2 c405).2 c406).2 c408).2 c409).2 c411).2 c413).2 c414).2 c416).2 c417).2 c419).2 c421).2 c422).2 c424).2 c425).1 c427).2).1, ⟨H.1, ⟨(((((((((((((((((((((((((((((H.2.2 c387).2).2 c388).2 c389).2 c390).2 c392).2 c394).2 c396).2 c398).2 c399).2 c401).2 c403).2 c405).2 c406).2 c408).2 c409).2 c411).2 c413).2 c414).2 c416).2 c417).2 c419).2 c421).2 c422).2 c424).2 c425).1 c427).2).2).1, ⟨((((((((((((((((((((((((((((((H.2.2 c387).2).2 c388).2 c389).2 c390).2 c392).2 c394).2 c396).2 c398).2 c399).2 c401).2 c403).2 c405).2 c406).2 c408).2 c409).2 c411).2 c413).2 c414).2 c416).2 c417).2 c419).2 c421).2 c422).2 c424).2 c425).1 c427).2).2).2).1, gd_mono (fun q => gd_mono (fun q => SpI.mono q (fun r116 g114 qg114 => ⟨qg114.1, ⟨qg114.2.1, ⟨qg114.1, ⟨qg114.2.2.1, ⟨qg114.1, qg114.2.2.2⟩⟩⟩⟩⟩)) q) (((((((((((((((((((((((((((((((H.2.2 c387).2).2 c388).2 c389).2 c390).2 c392).2 c394).2 c396).2 c398).2 c399).2 c401).2 c403).2 c405).2 c406).2 c408).2 c409).2 c411).2 c413).2 c414).2 c416).2 c417).2 c419).2 c421).2 c422).2 c424).2 c425).1 c427).2).2).2).2)⟩⟩⟩⟩⟩⟩⟩, fun c427 => ⟨fun c428 => ⟨H.1, ⟨((((((((((((((((((((((((((((H.2.2 c387).2).2 c388).2 c389).2 c390).2 c392).2 c394).2 c396).2 c398).2 c399).2 c401).2 c403).2 c405).2 c406).2 c408).2 c409).2 c411).2 c413).2 c414).2 c416).2 c417).2 c419).2 c421).2 c422).2 c424).2 c425).2 c427).1 c428).1, ⟨H.1, ⟨(((((((((((((((((((((((((((((H.2.2 c387).2).2 c388).2 c389).2 c390).2 c392).2 c394).2 c396).2 c398).2 c399).2 c401).2 c403).2 c405).2 c406).2 c408).2 c409).2 c411).2 c413).2 c414).2 c416).2 c417).2 c419).2 c421).2 c422).2 c424).2 c425).2 c427).1 c428).2).1, ⟨H.1, ⟨((((((((((((((((((((((((((((((H.2.2 c387).2).2 c388).2 c389).2 c390).2 c392).2 c394).2 c396).2 c398).2 c399).2 c401).2 c403).2 c405).2 c406).2 c408).2 c409).2 c411).2 c413).2 c414).2 c416).2 c417).2 c419).2 c421).2 c422).2 c424).2 c425).2 c427).1 c428).2).2).1, ⟨H.1, ⟨(((((((((((((((((((((((((((((((H.2.2 c387).2).2 c388).2 c389).2 c390).2 c392).2 c394).2 c396).2 c398).2 c399).2 c401).2 c403).2 c405).2 c406).2 c408).2 c409).2 c411).2 c413).2 c414).2 c416).2 c417).2 c419).2 c421).2 c422).2 c424).2 c425).2 c427).1 c428).2).2).2).1, ⟨H.1, ⟨((((((((((((((((((((((((((((((((H.2.2 c387).2).2 c388).2 c389).2 c390).2 c392).2 c394).2 c396).2 c398).2 c399).2 c401).2 c403).2 c405).2 c406).2 c408).2 c409).2 c411).2 c413).2 c414).2 c416).2 c417).2 c419).2 c421).2 c422).2 c424).2 c425).2 c427).1 c428).2).2).2).2).1, ⟨(((((((((((((((((((((((((((((((((H.2.2 c387).2).2 c388).2 c389).2 c390).2 c392).2 c394).2 c396).2 c398).2 c399).2 c401).2 c403).2 c405).2 c406).2 c408).2 c409).2 c411).2 c413).2 c414).2 c416).2 c417).2 c419).2 c421).2 c422).2 c424).2 c425).2 c427).1 c428).2).2).2).2).2).1, gd_mono (fun q => gd_mono (fun q => SpL.mono q (fun r101 g99 qg99 => ⟨qg99.1, ⟨qg99.2.1, ⟨qg99.1, ⟨qg99.2.2.1, ⟨qg99.1, ⟨qg99.2.2.2.1, ⟨qg99.1, ⟨qg99.2.2.2.2.1, ⟨qg99.1, ⟨qg99.2.2.2.2.2.1, ⟨qg99.2.2.2.2.2.2.1, gd_mono (fun q => gd_mono (fun q => SpL.mono q (fun r110 g108 qg108 => ⟨qg108.1, fun c429 => ⟨(Or.inl rfl), (qg108.2 c429)⟩⟩)) q) qg99.2.2.2.2.2.2.2⟩⟩⟩⟩⟩⟩⟩⟩⟩⟩⟩)) q) ((((((((((((((((((((((((((((((((((H.2.2 c387).2).2 c388).2 c389).2 c390).2 c392).2 c394).2 c396).2 c398).2 c399).2 c401).2 c403).2 c405).2 c406).2 c408).2 c409).2 c411).2 c413).2 c414).2 c416).2 c417).2 c419).2 c421).2 c422).2 c424).2 c425).2 c427).1 c428).2).2).2).2).2).2)⟩⟩⟩⟩⟩⟩⟩⟩⟩⟩⟩, fun c428 => ⟨fun c430 => ⟨H.1, ⟨(((((((((((((((((((((((((((((H.2.2 c387).2).2 c388).2 c389).2 c390).2 c392).2 c394).2 c396).2 c398).2 c399).2 c401).2 c403).2 c405).2 c406).2 c408).2 c409).2 c411).2 c413).2 c414).2 c416).2 c417).2 c419).2 c421).2 c422).2 c424).2 c425).2 c427).2 c428).1 c430).1, ⟨H.1, ⟨((((((((((((((((((((((((((((((H.2.2 c387).2).2 c388).2 c389).2 c390).2 c392).2 c394).2 c396).2 c398).2 c399).2 c401).2 c403).2 c405).2 c406).2 c408).2 c409).2 c411).2 c413).2 c414).2 c416).2 c417).2 c419).2 c421).2 c422).2 c424).2 c425).2 c427).2 c428).1 c430).2).1, ⟨H.1, ⟨(((((((((((((((((((((((((((((((H.2.2 c387).2).2 c388).2 c389).2 c390).2 c392).2 c394).2 c396).2 c398).2 c399).2 c401).2 c403).2 c405).2 c406).2 c408).2 c409).2 c411).2 c413).2 c414).2 c416).2 c417).2 c419).2 c421).2 c422).2 c424).2 c425).2 c427).2 c428).1 c430).2).2).1, ⟨((((((((((((((((((((((((((((((((H.2.2 c387).2).2 c388).2 c389).2 c390).2 c392).2 c394).2 c396).2 c398).2 c399).2 c401).2 c403).2 c405).2 c406).2 c408).2 c409).2 c411).2 c413).2 c414).2 c416).2 c417).2 c419).2 c421).2 c422).2 c424).2 c425).2 c427).2 c428).1 c430).2).2).2).1, gd_mono (fun q => gd_mono (fun q => SpL.mono q (fun r86 g84 qg84 => ⟨qg84.1, ⟨qg84.2.1, ⟨qg84.1, ⟨qg84.2.2.1, ⟨qg84.1, qg84.2.2.2⟩⟩⟩⟩⟩)) q) (((((((((((((((((((((((((((((((((H.2.2 c387).2).2 c388).2 c389).2 c390).2 c392).2 c394).2 c396).2 c398).2 c399).2 c401).2 c403).2 c405).2 c406).2 c408).2 c409).2 c411).2 c413).2 c414).2 c416).2 c417).2 c419).2 c421).2 c422).2 c424).2 c425).2 c427).2 c428).1 c430).2).2).2).2)⟩⟩⟩⟩⟩⟩⟩, fun c430 => ⟨fun c431 => ⟨H.1, ⟨((((((((((((((((((((((((((((((H.2.2 c387).2).2 c388).2 c389).2 c390).2 c392).2 c394).2 c396).2 c398).2 c399).2 c401).2 c403).2 c405).2 c406).2 c408).2 c409).2 c411).2 c413).2 c414).2 c416).2 c417).2 c419).2 c421).2 c422).2 c424).2 c425).2 c427).2 c428).2 c430).1 c431).1, ⟨H.1, ⟨(((((((((((((((((((((((((((((((H.2.2 c387).2).2 c388).2 c389).2 c390).2 c392).2 c394).2 c396).2 c398).2 c399).2 c401).2 c403).2 c405).2 c406).2 c408).2 c409).2 c411).2 c413).2 c414).2 c416).2 c417).2 c419).2 c421).2 c422).2 c424).2 c425).2 c427).2 c428).2 c430).1 c431).2).1, ⟨H.1, ⟨((((((((((((((((((((((((((((((((H.2.2 c387).2).2 c388).2 c389).2 c390).2 c392).2 c394).2 c396).2 c398).2 c399).2 c401).2 c403).2 c405).2 c406).2 c408).2 c409).2 c411).2 c413).2 c414).2 c416).2 c417).2 c419).2 c421).2 c422).2 c424).2 c425).2 c427).2 c428).2 c430).1 c431).2).2).1, ⟨H.1, ⟨(((((((((((((((((((((((((((((((((H.2.2 c387).2).2 c388).2 c389).2 c390).2 c392).2 c394).2 c396).2 c398).2 c399).2 c401).2 c403).2 c405).2 c406).2 c408).2 c409).2 c411).2 c413).2 c414).2 c416).2 c417).2 c419).2 c421).2 c422).2 c424).2 c425).2 c427).2 c428).2 c430).1 c431).2).2).2).1, ⟨((((((((((((((((((((((((((((((((((H.2.2 c387).2).2 c388).2 c389).2 c390).2 c392).2 c394).2 c396).2 c398).2 c399).2 c401).2 c403).2 c405).2 c406).2 c408).2 c409).2 c411).2 c413).2 c414).2 c416).2 c417).2 c419).2 c421).2 c422).2 c424).2 c425).2 c427).2 c428).2 c430).1 c431).2).2).2).2).1, gd_mono (fun q => gd_mono (fun q => SpI.mono q (fun r72 g70 qg70 => ⟨qg70.1, ⟨qg70.2.1, ⟨qg70.1, ⟨qg70.2.2.1, ⟨qg70.1, ⟨qg70.2.2.2.1, ⟨qg70.1, ⟨qg70.2.2.2.2.1, ⟨qg70.2.2.2.2.2.1, gd_mono (fun q => gd_mono (fun q => SpI.mono q (fun r80 g78 qg78 => ⟨qg78.1, fun c432 => ⟨(Or.inl rfl), (qg78.2 c432)⟩⟩)) q) qg70.2.2.2.2.2.2⟩⟩⟩⟩⟩⟩⟩⟩⟩)) q) (((((((((((((((((((((((((((((((((((H.2.2 c387).2).2 c388).2 c389).2 c390).2 c392).2 c394).2 c396).2 c398).2 c399).2 c401).2 c403).2 c405).2 c406).2 c408).2 c409).2 c411).2 c413).2 c414).2 c416).2 c417).2 c419).2 c421).2 c422).2 c424).2 c425).2 c427).2 c428).2 c430).1 c431).2).2).2).2).2)⟩⟩⟩⟩⟩⟩⟩⟩⟩, fun c431 => ⟨fun c433 => ⟨H.1, ⟨(((((((((((((((((((((((((((((((H.2.2 c387).2).2 c388).2 c389).2 c390).2 c392).2 c394).2 c396).2 c398).2 c399).2 c401).2 c403).2 c405).2 c406).2 c408).2 c409).2 c411).2 c413).2 c414).2 c416).2 c417).2 c419).2 c421).2 c422).2 c424).2 c425).2 c427).2 c428).2 c430).2 c431).1 c433).1, ⟨H.1, ⟨((((((((((((((((((((((((((((((((H.2.2 c387).2).2 c388).2 c389).2 c390).2 c392).2 c394).2 c396).2 c398).2 c399).2 c401).2 c403).2 c405).2 c406).2 c408).2 c409).2 c411).2 c413).2 c414).2 c416).2 c417).2 c419).2 c421).2 c422).2 c424).2 c425).2 c427).2 c428).2 c430).2 c431).1 c433).2).1, ⟨(((((((((((((((((((((((((((((((((H.2.2 c387).2).2 c388).2 c389).2 c390).2 c392).2 c394).2 c396).2 c398).2 c399).2 c401).2 c403).2 c405).2 c406).2 c408).2 c409).2 c411).2 c413).2 c414).2 c416).2 c417).2 c419).2 c421).2 c422).2 c424).2 c425).2 c427).2 c428).2 c430).2 c431).1 c433).2).2).1, gd_mono (fun q => gd_mono (fun q => SpI.mono q (fun r59 g57 qg57 => ⟨qg57.1, ⟨qg57.2.1, ⟨qg57.1, qg57.2.2⟩⟩⟩)) q) ((((((((((((((((((((((((((((((((((H.2.2 c387).2).2 c388).2 c389).2 c390).2 c392).2 c394).2 c396).2 c398).2 c399).2 c401).2 c403).2 c405).2 c406).2 c408).2 c409).2 c411).2 c413).2 c414).2 c416).2 c417).2 c419).2 c421).2 c422).2 c424).2 c425).2 c427).2 c428).2 c430).2 c431).1 c433).2).2).2)⟩⟩⟩⟩⟩, fun c433 => ⟨fun c434 => ⟨H.1, ⟨((((((((((((((((((((((((((((((((H.2.2 c387).2).2 c388).2 c389).2 c390).2 c392).2 c394).2 c396).2 c398).2 c399).2 c401).2 c403).2 c405).2 c406).2 c408).2 c409).2 c411).2 c413).2 c414).2 c416).2 c417).2 c419).2 c421).2 c422).2 c424).2 c425).2 c427).2 c428).2 c430).2 c431).2 c433).1 c434).1, ⟨H.1, ⟨(((((((((((((((((((((((((((((((((H.2.2 c387).2).2 c388).2 c389).2 c390).2 c392).2 c394).2 c396).2 c398).2 c399).2 c401).2 c403).2 c405).2 c406).2 c408).2 c409).2 c411).2 c413).2 c414).2 c416).2 c417).2 c419).2 c421).2 c422).2 c424).2 c425).2 c427).2 c428).2 c430).2 c431).2 c433).1 c434).2).1, ⟨H.1, ⟨((((((((((((((((((((((((((((((((((H.2.2 c387).2).2 c388).2 c389).2 c390).2 c392).2 c394).2 c396).2 c398).2 c399).2 c401).2 c403).2 c405).2 c406).2 c408).2 c409).2 c411).2 c413).2 c414).2 c416).2 c417).2 c419).2 c421).2 c422).2 c424).2 c425).2 c427).2 c428).2 c430).2 c431).2 c433).1 c434).2).2).1, ⟨H.1, ⟨(((((((((((((((((((((((((((((((((((H.2.2 c387).2).2 c388).2 c389).2 c390).2 c392).2 c394).2 c396).2 c398).2 c399).2 c401).2 c403).2 c405).2 c406).2 c408).2 c409).2 c411).2 c413).2 c414).2 c416).2 c417).2 c419).2 c421).2 c422).2 c424).2 c425).2 c427).2 c428).2 c430).2 c431).2 c433).1 c434).2).2).2).1, ⟨((((((((((((((((((((((((((((((((((((H.2.2 c387).2).2 c388).2 c389).2 c390).2 c392).2 c394).2 c396).2 c398).2 c399).2 c401).2 c403).2 c405).2 c406).2 c408).2 c409).2 c411).2 c413).2 c414).2 c416).2 c417).2 c419).2 c421).2 c422).2 c424).2 c425).2 c427).2 c428).2 c430).2 c431).2 c433).1 c434).2).2).2).2).1, gd_mono (fun q => gd_mono (fun q => SpL.mono q (fun r46 g44 qg44 => ⟨qg44.1, ⟨qg44.2.1, ⟨qg44.1, ⟨qg44.2.2.1, ⟨qg44.1, ⟨qg44.2.2.2.1, ⟨qg44.1, ⟨qg44.2.2.2.2.1, ⟨qg44.2.2.2.2.2.1, gd_mono (fun q => gd_mono (fun q => SpL.mono q (fun r54 g52 qg52 => ⟨qg52.1, fun c435 => ⟨(Or.inl rfl), (qg52.2 c435)⟩⟩)) q) qg44.2.2.2.2.2.2⟩⟩⟩⟩⟩⟩⟩⟩⟩)) q) (((((((((((((((((((((((((((((((((((((H.2.2 c387).2).2 c388).2 c389).2 c390).2 c392).2 c394).2 c396).2 c398).2 c399).2 c401).2 c403).2 c405).2 c406).2 c408).2 c409).2 c411).2 c413).2 c414).2 c416).2 c417).2 c419).2 c421).2 c422).2 c424).2 c425).2 c427).2 c428).2 c430).2 c431).2 c433).1 c434).2).2).2).2).2)⟩⟩⟩⟩⟩⟩⟩⟩⟩, fun c434 => ⟨fun c436 => ⟨H.1, ⟨(((((((((((((((((((((((((((((((((H.2.2 c387).2).2 c388).2 c389).2 c390).2 c392).2 c394).2 c396).2 c398).2 c399).2 c401).2 c403).2 c405).2 c406).2 c408).2 c409).2 c411).2 c413).2 c414).2 c416).2 c417).2 c419).2 c421).2 c422).2 c424).2 c425).2 c427).2 c428).2 c430).2 c431).2 c433).2 c434).1 c436).1, ⟨H.1, ⟨((((((((((((((((((((((((((((((((((H.2.2 c387).2).2 c388).2 c389).2 c390).2 c392).2 c394).2 c396).2 c398).2 c399).2 c401).2 c403).2 c405).2 c406).2 c408).2 c409).2 c411).2 c413).2 c414).2 c416).2 c417).2 c419).2 c421).2 c422).2 c424).2 c425).2 c427).2 c428).2 c430).2 c431).2 c433).2 c434).1 c436).2).1, ⟨(((((((((((((((((((((((((((((((((((H.2.2 c387).2).2 c388).2 c389).2 c390).2 c392).2 c394).2 c396).2 c398).2 c399).2 c401).2 c403).2 c405).2 c406).2 c408).2 c409).2 c411).2 c413).2 c414).2 c416).2 c417).2 c419).2 c421).2 c422).2 c424).2 c425).2 c427).2 c428).2 c430).2 c431).2 c433).2 c434).1 c436).2).2).1, gd_mono (fun q => gd_mono (fun q => SpL.mono q (fun r33 g31 qg31 => ⟨qg31.1, ⟨qg31.2.1, ⟨qg31.1, qg31.2.2⟩⟩⟩)) q) ((((((((((((((((((((((((((((((((((((H.2.2 c387).2).2 c388).2 c389).2 c390).2 c392).2 c394).2 c396).2 c398).2 c399).2 c401).2 c403).2 c405).2 c406).2 c408).2 c409).2 c411).2 c413).2 c414).2 c416).2 c417).2 c419).2 c421).2 c422).2 c424).2 c425).2 c427).2 c428).2 c430).2 c431).2 c433).2 c434).1 c436).2).2).2)⟩⟩⟩⟩⟩, fun c436 => ⟨fun c437 => ⟨H.1, ⟨((((((((((((((((((((((((((((((((((H.2.2 c387).2).2 c388).2 c389).2 c390).2 c392).2 c394).2 c396).2 c398).2 c399).2 c401).2 c403).2 c405).2 c406).2 c408).2 c409).2 c411).2 c413).2 c414).2 c416).2 c417).2 c419).2 c421).2 c422).2 c424).2 c425).2 c427).2 c428).2 c430).2 c431).2 c433).2 c434).2 c436).1 c437).1, ⟨H.1, ⟨(((((((((((((((((((((((((((((((((((H.2.2 c387).2).2 c388).2 c389).2 c390).2 c392).2 c394).2 c396).2 c398).2 c399).2 c401).2 c403).2 c405).2 c406).2 c408).2 c409).2 c411).2 c413).2 c414).2 c416).2 c417).2 c419).2 c421).2 c422).2 c424).2 c425).2 c427).2 c428).2 c430).2 c431).2 c433).2 c434).2 c436).1 c437).2).1, ⟨H.1, ⟨((((((((((((((((((((((((((((((((((((H.2.2 c387).2).2 c388).2 c389).2 c390).2 c392).2 c394).2 c396).2 c398).2 c399).2 c401).2 c403).2 c405).2 c406).2 c408).2 c409).2 c411).2 c413).2 c414).2 c416).2 c417).2 c419).2 c421).2 c422).2 c424).2 c425).2 c427).2 c428).2 c430).2 c431).2 c433).2 c434).2 c436).1 c437).2).2).1, ⟨H.1, ⟨(((((((((((((((((((((((((((((((((((((H.2.2 c387).2).2 c388).2 c389).2 c390).2 c392).2 c394).2 c396).2 c398).2 c399).2 c401).2 c403).2 c405).2 c406).2 c408).2 c409).2 c411).2 c413).2 c414).2 c416).2 c417).2 c419).2 c421).2 c422).2 c424).2 c425).2 c427).2 c428).2 c430).2 c431).2 c433).2 c434).2 c436).1 c437).2).2).2).1, ⟨((((((((((((((((((((((((((((((((((((((H.2.2 c387).2).2 c388).2 c389).2 c390).2 c392).2 c394).2 c396).2 c398).2 c399).2 c401).2 c403).2 c405).2 c406).2 c408).2 c409).2 c411).2 c413).2 c414).2 c416).2 c417).2 c419).2 c421).2 c422).2 c424).2 c425).2 c427).2 c428).2 c430).2 c431).2 c433).2 c434).2 c436).1 c437).2).2).2).2).1, gd_mono (fun q => gd_mono (fun q => SpI.mono q (fun r20 g18 qg18 => ⟨qg18.1, ⟨qg18.2.1, ⟨qg18.1, ⟨qg18.2.2.1, ⟨qg18.1, ⟨qg18.2.2.2.1, ⟨qg18.1, ⟨qg18.2.2.2.2.1, ⟨qg18.2.2.2.2.2.1, gd_mono (fun q => gd_mono (fun q => SpI.mono q (fun r28 g26 qg26 => ⟨qg26.1, fun c438 => ⟨(Or.inl rfl), (qg26.2 c438)⟩⟩)) q) qg18.2.2.2.2.2.2⟩⟩⟩⟩⟩⟩⟩⟩⟩)) q) (((((((((((((((((((((((((((((((((((((((H.2.2 c387).2).2 c388).2 c389).2 c390).2 c392).2 c394).2 c396).2 c398).2 c399).2 c401).2 c403).2 c405).2 c406).2 c408).2 c409).2 c411).2 c413).2 c414).2 c416).2 c417).2 c419).2 c421).2 c422).2 c424).2 c425).2 c427).2 c428).2 c430).2 c431).2 c433).2 c434).2 c436).1 c437).2).2).2).2).2)⟩⟩⟩⟩⟩⟩⟩⟩⟩, fun c437 => ⟨fun c439 => ⟨H.1, ⟨(((((((((((((((((((((((((((((((((((H.2.2 c387).2).2 c388).2 c389).2 c390).2 c392).2 c394).2 c396).2 c398).2 c399).2 c401).2 c403).2 c405).2 c406).2 c408).2 c409).2 c411).2 c413).2 c414).2 c416).2 c417).2 c419).2 c421).2 c422).2 c424).2 c425).2 c427).2 c428).2 c430).2 c431).2 c433).2 c434).2 c436).2 c437).1 c439).1, ⟨H.1, ⟨((((((((((((((((((((((((((((((((((((H.2.2 c387).2).2 c388).2 c389).2 c390).2 c392).2 c394).2 c396).2 c398).2 c399).2 c401).2 c403).2 c405).2 c406).2 c408).2 c409).2 c411).2 c413).2 c414).2 c416).2 c417).2 c419).2 c421).2 c422).2 c424).2 c425).2 c427).2 c428).2 c430).2 c431).2 c433).2 c434).2 c436).2 c437).1 c439).2).1, ⟨(((((((((((((((((((((((((((((((((((((H.2.2 c387).2).2 c388).2 c389).2 c390).2 c392).2 c394).2 c396).2 c398).2 c399).2 c401).2 c403).2 c405).2 c406).2 c408).2 c409).2 c411).2 c413).2 c414).2 c416).2 c417).2 c419).2 c421).2 c422).2 c424).2 c425).2 c427).2 c428).2 c430).2 c431).2 c433).2 c434).2 c436).2 c437).1 c439).2).2).1, gd_mono (fun q => gd_mono (fun q => SpL.mono q (fun r7 g5 qg5 => ⟨qg5.1, ⟨qg5.2.1, ⟨qg5.1, qg5.2.2⟩⟩⟩)) q) ((((((((((((((((((((((((((((((((((((((H.2.2 c387).2).2 c388).2 c389).2 c390).2 c392).2 c394).2 c396).2 c398).2 c399).2 c401).2 c403).2 c405).2 c406).2 c408).2 c409).2 c411).2 c413).2 c414).2 c416).2 c417).2 c419).2 c421).2 c422).2 c424).2 c425).2 c427).2 c428).2 c430).2 c431).2 c433).2 c434).2 c436).2 c437).1 c439).2).2).2)⟩⟩⟩⟩⟩, ((((((((((((((((((((((((((((((((((H.2.2 c387).2).2 c388).2 c389).2 c390).2 c392).2 c394).2 c396).2 c398).2 c399).2 c401).2 c403).2 c405).2 c406).2 c408).2 c409).2 c411).2 c413).2 c414).2 c416).2 c417).2 c419).2 c421).2 c422).2 c424).2 c425).2 c427).2 c428).2 c430).2 c431).2 c433).2 c434).2 c436).2 c437).2⟩⟩⟩⟩⟩⟩⟩⟩⟩⟩⟩⟩⟩⟩⟩⟩⟩⟩⟩⟩⟩⟩⟩⟩⟩⟩⟩⟩⟩⟩⟩⟩⟩⟩⟩⟩⟩
set_option maxRecDepth 100000 in
set_option maxHeartbeats 4000000 in
theorem v_Law_law_2 (cc ss : Nat) (h : MH) (Rt : Value → MH → Prop) (H :
gd cc 600000 (
gd ss 7302250 (
Rt (.int (0 : Int32)) h))) : WM k_Law_law p_Law_law_2 [Jv, Jv, Jv, Jv] [] h cc ss Rt := WM_at (hs := HH_Law_law) G_Law_law 1131 92 rfl ⟨(Or.inl rfl), H⟩
set_option maxRecDepth 100000 in
set_option maxHeartbeats 4000000 in
theorem v_Law_law_3 (x0 : Nat) (x1 : Nat) (x2 : Nat) (x3 : Int32) (cc ss : Nat) (h : MH) (Rt : Value → MH → Prop) (H :
kd h x0 = 19 ∧
InB (x3 + (1 : Int32)) (ln h x0) ∧
InB (x3 + (2 : Int32)) (ln h x0) ∧
kd h x1 = 12 ∧
gd (cc + 0) 600000 (
gd (ss + 0) 7302250 (
SpI k_Ho_tellOf [.ref x1, .int (mi h x0 (ix (x3 + (1 : Int32)))), .int (mi h x0 (ix (x3 + (2 : Int32))))] h (fun r6 g4 =>
kd g4 x0 = 19 ∧
InB (x3 + (1 : Int32)) (ln g4 x0) ∧
InB (x3 + (2 : Int32)) (ln g4 x0) ∧
kd g4 x2 = 13 ∧
gd ((cc + 0) + 0) 600000 (
gd ((ss + 0) + 0) 7302250 (
SpI k_Ref_tellOf [.ref x2, .int (mi g4 x0 (ix (x3 + (1 : Int32)))), .int (mi g4 x0 (ix (x3 + (2 : Int32))))] g4 (fun r12 g10 =>
(r6 = r12 →
WM k_Law_law p_Law_law_1 [.ref x0, .ref x1, .ref x2, .int (x3 + (7 : Int32))] [] g10 ((cc + 0) + 0) ((ss + 0) + 0) Rt) ∧
(¬ r6 = r12 →
gd ((cc + 0) + 0) 600000 (
gd ((ss + 0) + 0) 7302250 (
Rt (.int (0 : Int32)) g10)))))))))) : WM k_Law_law p_Law_law_3 [.ref x0, .ref x1, .ref x2, .int x3] [] h cc ss Rt := WM_at (hs := HH_Law_law) G_Law_law 1131 162 rfl ⟨H.1, ⟨H.2.1, ⟨H.1, ⟨H.2.2.1, ⟨H.2.2.2.1, gd_mono (fun q => gd_mono (fun q => SpI.mono q (fun r6 g4 qg4 => ⟨qg4.1, ⟨qg4.2.1, ⟨qg4.1, ⟨qg4.2.2.1, ⟨qg4.2.2.2.1, gd_mono (fun q => gd_mono (fun q => SpI.mono q (fun r12 g10 qg10 => ⟨qg10.1, fun c13 => ⟨(Or.inl rfl), (qg10.2 c13)⟩⟩)) q) qg4.2.2.2.2⟩⟩⟩⟩⟩)) q) H.2.2.2.2⟩⟩⟩⟩⟩
set_option maxRecDepth 100000 in
set_option maxHeartbeats 4000000 in
theorem v_Law_law_4 (cc ss : Nat) (h : MH) (Rt : Value → MH → Prop) (H :
gd cc 600000 (
gd ss 7302250 (
Rt (.int (0 : Int32)) h))) : WM k_Law_law p_Law_law_4 [Jv, Jv, Jv, Jv] [] h cc ss Rt := WM_at (hs := HH_Law_law) G_Law_law 1131 255 rfl ⟨(Or.inl rfl), H⟩
set_option maxRecDepth 100000 in
set_option maxHeartbeats 4000000 in
theorem v_Law_law_5 (cc ss : Nat) (h : MH) (Rt : Value → MH → Prop) (H :
gd cc 600000 (
gd ss 7302250 (
Rt (.int (0 : Int32)) h))) : WM k_Law_law p_Law_law_5 [Jv, Jv, Jv, Jv] [] h cc ss Rt := WM_at (hs := HH_Law_law) G_Law_law 1131 329 rfl ⟨(Or.inl rfl), H⟩
set_option maxRecDepth 100000 in
set_option maxHeartbeats 4000000 in
theorem v_Law_law_6 (cc ss : Nat) (h : MH) (Rt : Value → MH → Prop) (H :
gd cc 600000 (
gd ss 7302250 (
Rt (.int (0 : Int32)) h))) : WM k_Law_law p_Law_law_6 [Jv, Jv, Jv, Jv] [] h cc ss Rt := WM_at (hs := HH_Law_law) G_Law_law 1131 420 rfl ⟨(Or.inl rfl), H⟩
set_option maxRecDepth 100000 in
set_option maxHeartbeats 4000000 in
theorem v_Law_law_7 (cc ss : Nat) (h : MH) (Rt : Value → MH → Prop) (H :
gd cc 600000 (
gd ss 7302250 (
Rt (.int (0 : Int32)) h))) : WM k_Law_law p_Law_law_7 [Jv, Jv, Jv, Jv] [] h cc ss Rt := WM_at (hs := HH_Law_law) G_Law_law 1131 544 rfl ⟨(Or.inl rfl), H⟩
set_option maxRecDepth 100000 in
set_option maxHeartbeats 4000000 in
theorem v_Law_law_8 (cc ss : Nat) (h : MH) (Rt : Value → MH → Prop) (H :
gd cc 600000 (
gd ss 7302250 (
Rt (.int (0 : Int32)) h))) : WM k_Law_law p_Law_law_8 [Jv, Jv, Jv, Jv] [] h cc ss Rt := WM_at (hs := HH_Law_law) G_Law_law 1131 626 rfl ⟨(Or.inl rfl), H⟩
set_option maxRecDepth 100000 in
set_option maxHeartbeats 4000000 in
theorem v_Law_law_9 (cc ss : Nat) (h : MH) (Rt : Value → MH → Prop) (H :
gd cc 600000 (
gd ss 7302250 (
Rt (.int (0 : Int32)) h))) : WM k_Law_law p_Law_law_9 [Jv, Jv, Jv, Jv] [] h cc ss Rt := WM_at (hs := HH_Law_law) G_Law_law 1131 701 rfl ⟨(Or.inl rfl), H⟩
set_option maxRecDepth 100000 in
set_option maxHeartbeats 4000000 in
theorem v_Law_law_10 (cc ss : Nat) (h : MH) (Rt : Value → MH → Prop) (H :
gd cc 600000 (
gd ss 7302250 (
Rt (.int (0 : Int32)) h))) : WM k_Law_law p_Law_law_10 [Jv, Jv, Jv, Jv] [] h cc ss Rt := WM_at (hs := HH_Law_law) G_Law_law 1131 775 rfl ⟨(Or.inl rfl), H⟩
set_option maxRecDepth 100000 in
set_option maxHeartbeats 4000000 in
theorem v_Law_law_11 (cc ss : Nat) (h : MH) (Rt : Value → MH → Prop) (H :
gd cc 600000 (
gd ss 7302250 (
Rt (.int (0 : Int32)) h))) : WM k_Law_law p_Law_law_11 [Jv, Jv, Jv, Jv] [] h cc ss Rt := WM_at (hs := HH_Law_law) G_Law_law 1131 871 rfl ⟨(Or.inl rfl), H⟩
set_option maxRecDepth 100000 in
set_option maxHeartbeats 4000000 in
theorem v_Law_law_12 (cc ss : Nat) (h : MH) (Rt : Value → MH → Prop) (H :
gd cc 600000 (
gd ss 7302250 (
Rt (.int (0 : Int32)) h))) : WM k_Law_law p_Law_law_12 [Jv, Jv, Jv, Jv] [] h cc ss Rt := WM_at (hs := HH_Law_law) G_Law_law 1131 959 rfl ⟨(Or.inl rfl), H⟩
set_option maxRecDepth 100000 in
set_option maxHeartbeats 4000000 in
theorem v_Law_law_13 (cc ss : Nat) (h : MH) (Rt : Value → MH → Prop) (H :
gd cc 600000 (
gd ss 7302250 (
Rt (.int (0 : Int32)) h))) : WM k_Law_law p_Law_law_13 [Jv, Jv, Jv, Jv] [] h cc ss Rt := WM_at (hs := HH_Law_law) G_Law_law 1131 1035 rfl ⟨(Or.inl rfl), H⟩
set_option maxRecDepth 100000 in
set_option maxHeartbeats 4000000 in
theorem v_Law_law_14 (cc ss : Nat) (h : MH) (Rt : Value → MH → Prop) (H :
gd cc 600000 (
gd ss 7302250 (
Rt (.int (0 : Int32)) h))) : WM k_Law_law p_Law_law_14 [Jv, Jv, Jv, Jv] [] h cc ss Rt := WM_at (hs := HH_Law_law) G_Law_law 1131 1124 rfl ⟨(Or.inl rfl), H⟩
