set_option maxRecDepth 100000 in
set_option maxHeartbeats 4000000 in
theorem v_Ref_step (x0 : Nat) (h : MH) (Rt : Value → MH → Prop) (H :
kd h x0 = 13 ∧
kd h (mr h x0 33) = 21 ∧
InB (0 : Int32) (ln h (mr h x0 33)) ∧
InB (1 : Int32) (ln h (mr h x0 33)) ∧
(0 < (lg_cmp (ml h (mr h x0 33) (ix (0 : Int32))) (ml h (mr h x0 33) (ix (1 : Int32)))).toInt →
SpV k_Ref_exchange [.ref x0, .int (0 : Int32), .int (1 : Int32)] h (fun g5 =>
kd g5 x0 = 13 ∧
SpV k_Ref_exchange [.ref x0, .int (3 : Int32), .int (4 : Int32)] g5 (fun g6 =>
WM k_Ref_step p_Ref_step_1 [.ref x0, Jv, Jv, Jv, Jv, Jv, Jv, Jv, Jv, Jv, Jv, Jv, Jv, Jv, Jv, Jv, Jv] [] g6 0 0 Rt))) ∧
(¬ 0 < (lg_cmp (ml h (mr h x0 33) (ix (0 : Int32))) (ml h (mr h x0 33) (ix (1 : Int32)))).toInt →
((lg_cmp (ml h (mr h x0 33) (ix (0 : Int32))) (ml h (mr h x0 33) (ix (1 : Int32)))) = 0 →
InB (3 : Int32) (ln h (mr h x0 33)) ∧
SpL k_Ref_size [.long (ml h (mr h x0 33) (ix (3 : Int32)))] h (fun r10 g9 =>
kd g9 x0 = 13 ∧
kd g9 (mr g9 x0 33) = 21 ∧
InB (4 : Int32) (ln g9 (mr g9 x0 33)) ∧
SpL k_Ref_size [.long (ml g9 (mr g9 x0 33) (ix (4 : Int32)))] g9 (fun r15 g14 =>
(0 < (lg_cmp r10 r15).toInt →
kd g14 x0 = 13 ∧
SpV k_Ref_exchange [.ref x0, .int (0 : Int32), .int (1 : Int32)] g14 (fun g16 =>
kd g16 x0 = 13 ∧
SpV k_Ref_exchange [.ref x0, .int (3 : Int32), .int (4 : Int32)] g16 (fun g18 =>
WM k_Ref_step p_Ref_step_1 [.ref x0, Jv, Jv, Jv, Jv, Jv, Jv, Jv, Jv, Jv, Jv, Jv, Jv, Jv, Jv, Jv, Jv] [] g18 0 0 Rt))) ∧
(¬ 0 < (lg_cmp r10 r15).toInt →
WM k_Ref_step p_Ref_step_1 [.ref x0, Jv, Jv, Jv, Jv, Jv, Jv, Jv, Jv, Jv, Jv, Jv, Jv, Jv, Jv, Jv, Jv] [] g14 0 0 Rt)))) ∧
(¬ (lg_cmp (ml h (mr h x0 33) (ix (0 : Int32))) (ml h (mr h x0 33) (ix (1 : Int32)))) = 0 →
WM k_Ref_step p_Ref_step_1 [.ref x0, Jv, Jv, Jv, Jv, Jv, Jv, Jv, Jv, Jv, Jv, Jv, Jv, Jv, Jv, Jv, Jv] [] h 0 0 Rt))) : Sp k_Ref_step [.ref x0] h Rt := Sp_intro2 (by decide) (by decide +kernel) rfl (Nat.le_of_ble_eq_true rfl) (WM_at (hs := HH_Ref_step) G_Ref_step 454 0 rfl ⟨H.1, ⟨H.2.1, ⟨H.2.2.1, ⟨H.1, ⟨H.2.1, ⟨H.2.2.2.1, ⟨fun c20 => ⟨H.1, (H.2.2.2.2.1 c20)⟩, fun c20 => ⟨H.1, ⟨H.2.1, ⟨H.2.2.1, ⟨H.1, ⟨H.2.1, ⟨H.2.2.2.1, ⟨fun c21 => ⟨H.1, ⟨H.2.1, ((H.2.2.2.2.2 c20).1 c21)⟩⟩, (H.2.2.2.2.2 c20).2⟩⟩⟩⟩⟩⟩⟩⟩⟩⟩⟩⟩⟩⟩)
set_option maxRecDepth 100000 in
set_option maxHeartbeats 4000000 in
theorem v_Ref_step_1 (x0 : Nat) (h : MH) (Rt : Value → MH → Prop) (H :
kd h x0 = 13 ∧
kd h (mr h x0 33) = 21 ∧
InB (1 : Int32) (ln h (mr h x0 33)) ∧
InB (2 : Int32) (ln h (mr h x0 33)) ∧
(0 < (lg_cmp (ml h (mr h x0 33) (ix (1 : Int32))) (ml h (mr h x0 33) (ix (2 : Int32)))).toInt →
SpV k_Ref_exchange [.ref x0, .int (1 : Int32), .int (2 : Int32)] h (fun g5 =>
kd g5 x0 = 13 ∧
SpV k_Ref_exchange [.ref x0, .int (4 : Int32), .int (5 : Int32)] g5 (fun g6 =>
Rt (.int (1 : Int32)) g6))) ∧
(¬ 0 < (lg_cmp (ml h (mr h x0 33) (ix (1 : Int32))) (ml h (mr h x0 33) (ix (2 : Int32)))).toInt →
((lg_cmp (ml h (mr h x0 33) (ix (1 : Int32))) (ml h (mr h x0 33) (ix (2 : Int32)))) = 0 →
InB (4 : Int32) (ln h (mr h x0 33)) ∧
SpL k_Ref_size [.long (ml h (mr h x0 33) (ix (4 : Int32)))] h (fun r10 g9 =>
kd g9 x0 = 13 ∧
kd g9 (mr g9 x0 33) = 21 ∧
InB (5 : Int32) (ln g9 (mr g9 x0 33)) ∧
SpL k_Ref_size [.long (ml g9 (mr g9 x0 33) (ix (5 : Int32)))] g9 (fun r15 g14 =>
(0 < (lg_cmp r10 r15).toInt →
kd g14 x0 = 13 ∧
SpV k_Ref_exchange [.ref x0, .int (1 : Int32), .int (2 : Int32)] g14 (fun g16 =>
kd g16 x0 = 13 ∧
SpV k_Ref_exchange [.ref x0, .int (4 : Int32), .int (5 : Int32)] g16 (fun g18 =>
Rt (.int (1 : Int32)) g18))) ∧
(¬ 0 < (lg_cmp r10 r15).toInt →
WM k_Ref_step p_Ref_step_2 [.ref x0, Jv, Jv, Jv, Jv, Jv, Jv, Jv, Jv, Jv, Jv, Jv, Jv, Jv, Jv, Jv, Jv] [] g14 0 0 Rt)))) ∧
(¬ (lg_cmp (ml h (mr h x0 33) (ix (1 : Int32))) (ml h (mr h x0 33) (ix (2 : Int32)))) = 0 →
WM k_Ref_step p_Ref_step_2 [.ref x0, Jv, Jv, Jv, Jv, Jv, Jv, Jv, Jv, Jv, Jv, Jv, Jv, Jv, Jv, Jv, Jv] [] h 0 0 Rt))) : WM k_Ref_step p_Ref_step_1 [.ref x0, Jv, Jv, Jv, Jv, Jv, Jv, Jv, Jv, Jv, Jv, Jv, Jv, Jv, Jv, Jv, Jv] [] h 0 0 Rt := WM_at (hs := HH_Ref_step) G_Ref_step 454 40 rfl ⟨H.1, ⟨H.2.1, ⟨H.2.2.1, ⟨H.1, ⟨H.2.1, ⟨H.2.2.2.1, ⟨fun c20 => ⟨H.1, SpV.mono (H.2.2.2.2.1 c20) (fun g5 qg5 => ⟨qg5.1, SpV.mono qg5.2 (fun g6 qg6 => ⟨(Or.inr rfl), qg6⟩)⟩)⟩, fun c20 => ⟨H.1, ⟨H.2.1, ⟨H.2.2.1, ⟨H.1, ⟨H.2.1, ⟨H.2.2.2.1, ⟨fun c21 => ⟨H.1, ⟨H.2.1, ⟨((H.2.2.2.2.2 c20).1 c21).1, SpL.mono (((H.2.2.2.2.2 c20).1 c21).2) (fun r10 g9 qg9 => ⟨qg9.1, ⟨qg9.2.1, ⟨qg9.2.2.1, SpL.mono qg9.2.2.2 (fun r15 g14 qg14 => ⟨fun c22 => ⟨(qg14.1 c22).1, SpV.mono ((qg14.1 c22).2) (fun g16 qg16 => ⟨qg16.1, SpV.mono qg16.2 (fun g18 qg18 => ⟨(Or.inr rfl), qg18⟩)⟩)⟩, qg14.2⟩)⟩⟩⟩)⟩⟩⟩, (H.2.2.2.2.2 c20).2⟩⟩⟩⟩⟩⟩⟩⟩⟩⟩⟩⟩⟩⟩
set_option maxRecDepth 100000 in
set_option maxHeartbeats 4000000 in
theorem v_Ref_step_2 (x0 : Nat) (h : MH) (Rt : Value → MH → Prop) (H :
kd h x0 = 13 ∧
kd h (mr h x0 33) = 21 ∧
InB (3 : Int32) (ln h (mr h x0 33)) ∧
((lg_cmp (ml h (mr h x0 33) (ix (3 : Int32))) (0 : Int64)).toInt < 0 →
WM k_Ref_step p_Ref_step_3 [.ref x0, Jv, Jv, Jv, Jv, Jv, Jv, Jv, Jv, Jv, Jv, Jv, Jv, Jv, Jv, Jv, Jv] [.int (1 : Int32)] h 0 0 Rt) ∧
(¬ (lg_cmp (ml h (mr h x0 33) (ix (3 : Int32))) (0 : Int64)).toInt < 0 →
WM k_Ref_step p_Ref_step_3 [.ref x0, Jv, Jv, Jv, Jv, Jv, Jv, Jv, Jv, Jv, Jv, Jv, Jv, Jv, Jv, Jv, Jv] [.int (0 : Int32)] h 0 0 Rt)) : WM k_Ref_step p_Ref_step_2 [.ref x0, Jv, Jv, Jv, Jv, Jv, Jv, Jv, Jv, Jv, Jv, Jv, Jv, Jv, Jv, Jv, Jv] [] h 0 0 Rt := WM_at (hs := HH_Ref_step) G_Ref_step 454 82 rfl H
set_option maxRecDepth 100000 in
set_option maxHeartbeats 4000000 in
theorem v_Ref_step_3 (x0 : Nat) (s0 : Int32) (h : MH) (Rt : Value → MH → Prop) (H :
kd h x0 = 13 ∧
kd h (mr h x0 33) = 21 ∧
InB (4 : Int32) (ln h (mr h x0 33)) ∧
((lg_cmp (ml h (mr h x0 33) (ix (4 : Int32))) (0 : Int64)).toInt < 0 →
WM k_Ref_step p_Ref_step_4 [.ref x0, Jv, Jv, Jv, Jv, Jv, Jv, Jv, Jv, Jv, Jv, Jv, Jv, Jv, Jv, Jv, Jv] [.int (1 : Int32), .int s0] h 0 0 Rt) ∧
(¬ (lg_cmp (ml h (mr h x0 33) (ix (4 : Int32))) (0 : Int64)).toInt < 0 →
WM k_Ref_step p_Ref_step_4 [.ref x0, Jv, Jv, Jv, Jv, Jv, Jv, Jv, Jv, Jv, Jv, Jv, Jv, Jv, Jv, Jv, Jv] [.int (0 : Int32), .int s0] h 0 0 Rt)) : WM k_Ref_step p_Ref_step_3 [.ref x0, Jv, Jv, Jv, Jv, Jv, Jv, Jv, Jv, Jv, Jv, Jv, Jv, Jv, Jv, Jv, Jv] [.int s0] h 0 0 Rt := WM_at (hs := HH_Ref_step) G_Ref_step 454 92 rfl H
set_option maxRecDepth 100000 in
set_option maxHeartbeats 4000000 in
theorem v_Ref_step_4 (x0 : Nat) (s0 : Int32) (s1 : Int32) (h : MH) (Rt : Value → MH → Prop) (H :
kd h x0 = 13 ∧
kd h (mr h x0 33) = 21 ∧
InB (5 : Int32) (ln h (mr h x0 33)) ∧
((lg_cmp (ml h (mr h x0 33) (ix (5 : Int32))) (0 : Int64)).toInt < 0 →
WM k_Ref_step p_Ref_step_5 [.ref x0, Jv, Jv, Jv, Jv, Jv, Jv, Jv, Jv, Jv, Jv, Jv, Jv, Jv, Jv, Jv, Jv] [.int (1 : Int32), .int (s0 ^^^ s1)] h 0 0 Rt) ∧
(¬ (lg_cmp (ml h (mr h x0 33) (ix (5 : Int32))) (0 : Int64)).toInt < 0 →
WM k_Ref_step p_Ref_step_5 [.ref x0, Jv, Jv, Jv, Jv, Jv, Jv, Jv, Jv, Jv, Jv, Jv, Jv, Jv, Jv, Jv, Jv] [.int (0 : Int32), .int (s0 ^^^ s1)] h 0 0 Rt)) : WM k_Ref_step p_Ref_step_4 [.ref x0, Jv, Jv, Jv, Jv, Jv, Jv, Jv, Jv, Jv, Jv, Jv, Jv, Jv, Jv, Jv, Jv] [.int s1, .int s0] h 0 0 Rt := WM_at (hs := HH_Ref_step) G_Ref_step 454 102 rfl H
set_option maxRecDepth 100000 in
set_option maxHeartbeats 4000000 in
theorem v_Ref_step_5 (x0 : Nat) (s0 : Int32) (s1 : Int32) (h : MH) (Rt : Value → MH → Prop) (H :
((s0 ^^^ s1) = 0 →
kd h x0 = 13 ∧
kd h (mr h x0 33) = 21 ∧
InB (3 : Int32) (ln h (mr h x0 33)) ∧
((lg_cmp (ml h (mr h x0 33) (ix (3 : Int32))) (0 : Int64)) = 0 →
WM k_Ref_step p_Ref_step_6 [.ref x0, Jv, .int (0 : Int32), .int (3 : Int32), Jv, Jv, Jv, Jv, Jv, Jv, Jv, Jv, Jv, Jv, Jv, Jv, Jv] [] h 0 0 Rt) ∧
(¬ (lg_cmp (ml h (mr h x0 33) (ix (3 : Int32))) (0 : Int64)) = 0 →
InB (4 : Int32) (ln h (mr h x0 33)) ∧
((lg_cmp (ml h (mr h x0 33) (ix (4 : Int32))) (0 : Int64)) = 0 →
WM k_Ref_step p_Ref_step_6 [.ref x0, Jv, .int (0 : Int32), .int (3 : Int32), Jv, Jv, Jv, Jv, Jv, Jv, Jv, Jv, Jv, Jv, Jv, Jv, Jv] [] h 0 0 Rt) ∧
(¬ (lg_cmp (ml h (mr h x0 33) (ix (4 : Int32))) (0 : Int64)) = 0 →
InB (5 : Int32) (ln h (mr h x0 33)) ∧
((lg_cmp (ml h (mr h x0 33) (ix (5 : Int32))) (0 : Int64)) = 0 →
WM k_Ref_step p_Ref_step_6 [.ref x0, Jv, .int (0 : Int32), .int (3 : Int32), Jv, Jv, Jv, Jv, Jv, Jv, Jv, Jv, Jv, Jv, Jv, Jv, Jv] [] h 0 0 Rt) ∧
(¬ (lg_cmp (ml h (mr h x0 33) (ix (5 : Int32))) (0 : Int64)) = 0 →
WM k_Ref_step p_Ref_step_6 [.ref x0, Jv, .int (1 : Int32), .int (3 : Int32), Jv, Jv, Jv, Jv, Jv, Jv, Jv, Jv, Jv, Jv, Jv, Jv, Jv] [] h 0 0 Rt)))) ∧
(¬ (s0 ^^^ s1) = 0 →
WM k_Ref_step p_Ref_step_6 [.ref x0, Jv, .int (0 : Int32), .int (3 : Int32), Jv, Jv, Jv, Jv, Jv, Jv, Jv, Jv, Jv, Jv, Jv, Jv, Jv] [] h 0 0 Rt)) : WM k_Ref_step p_Ref_step_5 [.ref x0, Jv, Jv, Jv, Jv, Jv, Jv, Jv, Jv, Jv, Jv, Jv, Jv, Jv, Jv, Jv, Jv] [.int s1, .int s0] h 0 0 Rt := WM_at (hs := HH_Ref_step) G_Ref_step 454 113 rfl ⟨fun c6 => ⟨(H.1 c6).1, ⟨((H.1 c6).2).1, ⟨(((H.1 c6).2).2).1, ⟨((((H.1 c6).2).2).2).1, fun c7 => ⟨(H.1 c6).1, ⟨((H.1 c6).2).1, ⟨(((((H.1 c6).2).2).2).2 c7).1, ⟨((((((H.1 c6).2).2).2).2 c7).2).1, fun c8 => ⟨(H.1 c6).1, ⟨((H.1 c6).2).1, (((((((H.1 c6).2).2).2).2 c7).2).2 c8)⟩⟩⟩⟩⟩⟩⟩⟩⟩⟩, H.2⟩
set_option maxRecDepth 100000 in
set_option maxHeartbeats 4000000 in
theorem v_Ref_step_6 (x0 : Nat) (x2 : Int32) (x3 : Int32) (h : MH) (Rt : Value → MH → Prop) (H :
(x3.toInt < (6 : Int32).toInt →
kd h x0 = 13 ∧
(x2 = 0 →
kd h (mr h x0 33) = 21 ∧
InB x3 (ln h (mr h x0 33)) ∧
SpL k_Ref_size [.long (ml h (mr h x0 33) (ix x3))] h (fun r15 g14 =>
kd g14 (mr h x0 33) = 21 ∧
InB x3 (ln g14 (mr h x0 33)) ∧
∀ g18 : MH, g18 = wl g14 (mr h x0 33) (ix x3) (-r15) →
WM k_Ref_step p_Ref_step_6 [.ref x0, Jv, .int x2, .int (x3 + (1 : Int32)), Jv, Jv, Jv, Jv, Jv, Jv, Jv, Jv, Jv, Jv, Jv, Jv, Jv] [] g18 0 0 Rt)) ∧
(¬ x2 = 0 →
kd h (mr h x0 33) = 21 ∧
InB x3 (ln h (mr h x0 33)) ∧
SpL k_Ref_size [.long (ml h (mr h x0 33) (ix x3))] h (fun r22 g21 =>
kd g21 (mr h x0 33) = 21 ∧
InB x3 (ln g21 (mr h x0 33)) ∧
∀ g25 : MH, g25 = wl g21 (mr h x0 33) (ix x3) r22 →
WM k_Ref_step p_Ref_step_6 [.ref x0, Jv, .int x2, .int (x3 + (1 : Int32)), Jv, Jv, Jv, Jv, Jv, Jv, Jv, Jv, Jv, Jv, Jv, Jv, Jv] [] g25 0 0 Rt))) ∧
(¬ x3.toInt < (6 : Int32).toInt →
kd h x0 = 13 ∧
kd h (mr h x0 33) = 21 ∧
InB (0 : Int32) (ln h (mr h x0 33)) ∧
InB (1 : Int32) (ln h (mr h x0 33)) ∧
InB (2 : Int32) (ln h (mr h x0 33)) ∧
InB (3 : Int32) (ln h (mr h x0 33)) ∧
InB (4 : Int32) (ln h (mr h x0 33)) ∧
InB (5 : Int32) (ln h (mr h x0 33)) ∧
SpL k_Ref_size [.long (ml h (mr h x0 33) (ix (3 : Int32)))] h (fun r10 g9 =>
(0 < (lg_cmp r10 (ml h (mr h x0 33) (ix (1 : Int32)))).toInt →
((lg_cmp (ml h (mr h x0 33) (ix (3 : Int32))) (0 : Int64)).toInt < 0 →
WM k_Ref_step p_Ref_step_9 [.ref x0, Jv, Jv, Jv, Jv, .long (ml h (mr h x0 33) (ix (1 : Int32))), Jv, .long (ml h (mr h x0 33) (ix (2 : Int32))), Jv, .long (ml h (mr h x0 33) (ix (3 : Int32))), Jv, .long (ml h (mr h x0 33) (ix (4 : Int32))), Jv, .long (ml h (mr h x0 33) (ix (5 : Int32))), Jv, Jv, Jv] [.long (-1 : Int64)] g9 0 0 Rt) ∧
(¬ (lg_cmp (ml h (mr h x0 33) (ix (3 : Int32))) (0 : Int64)).toInt < 0 →
WM k_Ref_step p_Ref_step_9 [.ref x0, Jv, Jv, Jv, Jv, .long (ml h (mr h x0 33) (ix (1 : Int32))), Jv, .long (ml h (mr h x0 33) (ix (2 : Int32))), Jv, .long (ml h (mr h x0 33) (ix (3 : Int32))), Jv, .long (ml h (mr h x0 33) (ix (4 : Int32))), Jv, .long (ml h (mr h x0 33) (ix (5 : Int32))), Jv, Jv, Jv] [.long (1 : Int64)] g9 0 0 Rt)) ∧
(¬ 0 < (lg_cmp r10 (ml h (mr h x0 33) (ix (1 : Int32)))).toInt →
((lg_cmp (ml h (mr h x0 33) (ix (3 : Int32))) (ml h (mr h x0 33) (ix (1 : Int32)))) = 0 →
WM k_Ref_step p_Ref_step_7 [.ref x0, Jv, Jv, .long (ml h (mr h x0 33) (ix (0 : Int32))), Jv, .long (ml h (mr h x0 33) (ix (1 : Int32))), Jv, .long (ml h (mr h x0 33) (ix (2 : Int32))), Jv, .long (ml h (mr h x0 33) (ix (3 : Int32))), Jv, .long (ml h (mr h x0 33) (ix (4 : Int32))), Jv, .long (ml h (mr h x0 33) (ix (5 : Int32))), Jv, Jv, Jv] [] g9 0 0 Rt) ∧
(¬ (lg_cmp (ml h (mr h x0 33) (ix (3 : Int32))) (ml h (mr h x0 33) (ix (1 : Int32)))) = 0 →
WM k_Ref_step p_Ref_step_8 [.ref x0, Jv, Jv, .long (ml h (mr h x0 33) (ix (0 : Int32))), Jv, .long (ml h (mr h x0 33) (ix (1 : Int32))), Jv, .long (ml h (mr h x0 33) (ix (2 : Int32))), Jv, .long (ml h (mr h x0 33) (ix (3 : Int32))), Jv, .long (ml h (mr h x0 33) (ix (4 : Int32))), Jv, .long (ml h (mr h x0 33) (ix (5 : Int32))), Jv, Jv, Jv] [] g9 0 0 Rt))))) : WM k_Ref_step p_Ref_step_6 [.ref x0, Jv, .int x2, .int x3, Jv, Jv, Jv, Jv, Jv, Jv, Jv, Jv, Jv, Jv, Jv, Jv, Jv] [] h 0 0 Rt := WM_at (hs := HH_Ref_step) G_Ref_step 454 144 rfl ⟨fun c26 => ⟨(H.1 c26).1, ⟨fun c27 => ⟨(H.1 c26).1, ⟨(((H.1 c26).2).1 c27).1, ⟨((((H.1 c26).2).1 c27).2).1, SpL.mono (((((H.1 c26).2).1 c27).2).2) (fun r15 g14 qg14 => ⟨qg14.1, ⟨qg14.2.1, (qg14.2.2 _ rfl)⟩⟩)⟩⟩⟩, fun c27 => ⟨(H.1 c26).1, ⟨(((H.1 c26).2).2 c27).1, ⟨((((H.1 c26).2).2 c27).2).1, SpL.mono (((((H.1 c26).2).2 c27).2).2) (fun r22 g21 qg21 => ⟨qg21.1, ⟨qg21.2.1, (qg21.2.2 _ rfl)⟩⟩)⟩⟩⟩⟩⟩, fun c26 => ⟨(H.2 c26).1, ⟨((H.2 c26).2).1, ⟨(((H.2 c26).2).2).1, ⟨(H.2 c26).1, ⟨((H.2 c26).2).1, ⟨((((H.2 c26).2).2).2).1, ⟨(H.2 c26).1, ⟨((H.2 c26).2).1, ⟨(((((H.2 c26).2).2).2).2).1, ⟨(H.2 c26).1, ⟨((H.2 c26).2).1, ⟨((((((H.2 c26).2).2).2).2).2).1, ⟨(H.2 c26).1, ⟨((H.2 c26).2).1, ⟨(((((((H.2 c26).2).2).2).2).2).2).1, ⟨(H.2 c26).1, ⟨((H.2 c26).2).1, (((((((H.2 c26).2).2).2).2).2).2).2⟩⟩⟩⟩⟩⟩⟩⟩⟩⟩⟩⟩⟩⟩⟩⟩⟩⟩
set_option maxRecDepth 100000 in
set_option maxHeartbeats 4000000 in
theorem v_Ref_step_7 (x0 : Nat) (x3 : Int64) (x5 : Int64) (x7 : Int64) (x9 : Int64) (x11 : Int64) (x13 : Int64) (h : MH) (Rt : Value → MH → Prop) (H :
((lg_cmp ((2 : Int64) * x11) x13).toInt < 0 →
((lg_cmp x9 (0 : Int64)).toInt < 0 →
WM k_Ref_step p_Ref_step_9 [.ref x0, Jv, Jv, Jv, Jv, .long x5, Jv, .long x7, Jv, .long x9, Jv, .long x11, Jv, .long x13, Jv, Jv, Jv] [.long (-1 : Int64)] h 0 0 Rt) ∧
(¬ (lg_cmp x9 (0 : Int64)).toInt < 0 →
WM k_Ref_step p_Ref_step_9 [.ref x0, Jv, Jv, Jv, Jv, .long x5, Jv, .long x7, Jv, .long x9, Jv, .long x11, Jv, .long x13, Jv, Jv, Jv] [.long (1 : Int64)] h 0 0 Rt)) ∧
(¬ (lg_cmp ((2 : Int64) * x11) x13).toInt < 0 →
WM k_Ref_step p_Ref_step_8 [.ref x0, Jv, Jv, .long x3, Jv, .long x5, Jv, .long x7, Jv, .long x9, Jv, .long x11, Jv, .long x13, Jv, Jv, Jv] [] h 0 0 Rt)) : WM k_Ref_step p_Ref_step_7 [.ref x0, Jv, Jv, .long x3, Jv, .long x5, Jv, .long x7, Jv, .long x9, Jv, .long x11, Jv, .long x13, Jv, Jv, Jv] [] h 0 0 Rt := WM_at (hs := HH_Ref_step) G_Ref_step 454 206 rfl H
set_option maxRecDepth 100000 in
set_option maxHeartbeats 4000000 in
theorem v_Ref_step_8 (x0 : Nat) (x3 : Int64) (x5 : Int64) (x7 : Int64) (x9 : Int64) (x11 : Int64) (x13 : Int64) (h : MH) (Rt : Value → MH → Prop) (H :
((lg_cmp x9 (-x5)) = 0 →
((lg_cmp x13 (0 : Int64)).toInt < 0 →
((lg_cmp x9 (0 : Int64)).toInt < 0 →
WM k_Ref_step p_Ref_step_9 [.ref x0, Jv, Jv, Jv, Jv, .long x5, Jv, .long x7, Jv, .long x9, Jv, .long x11, Jv, .long x13, Jv, Jv, Jv] [.long (-1 : Int64)] h 0 0 Rt) ∧
(¬ (lg_cmp x9 (0 : Int64)).toInt < 0 →
WM k_Ref_step p_Ref_step_9 [.ref x0, Jv, Jv, Jv, Jv, .long x5, Jv, .long x7, Jv, .long x9, Jv, .long x11, Jv, .long x13, Jv, Jv, Jv] [.long (1 : Int64)] h 0 0 Rt)) ∧
(¬ (lg_cmp x13 (0 : Int64)).toInt < 0 →
WM k_Ref_step p_Ref_step_10 [.ref x0, Jv, Jv, .long x3, Jv, .long x5, Jv, .long x7, Jv, .long x9, Jv, .long x11, Jv, .long x13, Jv, Jv, Jv] [] h 0 0 Rt)) ∧
(¬ (lg_cmp x9 (-x5)) = 0 →
WM k_Ref_step p_Ref_step_10 [.ref x0, Jv, Jv, .long x3, Jv, .long x5, Jv, .long x7, Jv, .long x9, Jv, .long x11, Jv, .long x13, Jv, Jv, Jv] [] h 0 0 Rt)) : WM k_Ref_step p_Ref_step_8 [.ref x0, Jv, Jv, .long x3, Jv, .long x5, Jv, .long x7, Jv, .long x9, Jv, .long x11, Jv, .long x13, Jv, Jv, Jv] [] h 0 0 Rt := WM_at (hs := HH_Ref_step) G_Ref_step 454 212 rfl H
set_option maxRecDepth 100000 in
set_option maxHeartbeats 4000000 in
theorem v_Ref_step_9 (x0 : Nat) (x5 : Int64) (x7 : Int64) (x9 : Int64) (x11 : Int64) (x13 : Int64) (s0 : Int64) (h : MH) (Rt : Value → MH → Prop) (H :
kd h x0 = 13 ∧
kd h (mr h x0 33) = 21 ∧
InB (2 : Int32) (ln h (mr h x0 33)) ∧
∀ g4 : MH, g4 = wl h (mr h x0 33) (ix (2 : Int32)) ((x5 + x7) - (s0 * x9)) →
InB (4 : Int32) (ln h (mr h x0 33)) ∧
∀ g6 : MH, g6 = wl g4 (mr h x0 33) (ix (4 : Int32)) (x11 - (s0 * x13)) →
InB (3 : Int32) (ln h (mr h x0 33)) ∧
∀ g8 : MH, g8 = wl g6 (mr h x0 33) (ix (3 : Int32)) (x9 - (((2 : Int64) * s0) * x5)) →
Rt (.int (1 : Int32)) g8) : WM k_Ref_step p_Ref_step_9 [.ref x0, Jv, Jv, Jv, Jv, .long x5, Jv, .long x7, Jv, .long x9, Jv, .long x11, Jv, .long x13, Jv, Jv, Jv] [.long s0] h 0 0 Rt := WM_at (hs := HH_Ref_step) G_Ref_step 454 228 rfl ⟨H.1, ⟨H.2.1, ⟨H.2.2.1, ⟨H.1, ⟨H.2.1, ⟨(H.2.2.2 _ rfl).1, ⟨H.1, ⟨H.2.1, ⟨((H.2.2.2 _ rfl).2 _ rfl).1, ⟨(Or.inr rfl), (((H.2.2.2 _ rfl).2 _ rfl).2 _ rfl)⟩⟩⟩⟩⟩⟩⟩⟩⟩⟩
set_option maxRecDepth 100000 in
set_option maxHeartbeats 4000000 in
theorem v_Ref_step_10 (x0 : Nat) (x3 : Int64) (x5 : Int64) (x7 : Int64) (x9 : Int64) (x11 : Int64) (x13 : Int64) (h : MH) (Rt : Value → MH → Prop) (H :
SpL k_Ref_size [.long x11] h (fun r2 g1 =>
(0 < (lg_cmp r2 x3).toInt →
((lg_cmp x11 (0 : Int64)).toInt < 0 →
WM k_Ref_step p_Ref_step_12 [.ref x0, Jv, Jv, .long x3, Jv, Jv, Jv, .long x7, Jv, .long x9, Jv, .long x11, Jv, .long x13, Jv, Jv, Jv] [.long (-1 : Int64)] g1 0 0 Rt) ∧
(¬ (lg_cmp x11 (0 : Int64)).toInt < 0 →
WM k_Ref_step p_Ref_step_12 [.ref x0, Jv, Jv, .long x3, Jv, Jv, Jv, .long x7, Jv, .long x9, Jv, .long x11, Jv, .long x13, Jv, Jv, Jv] [.long (1 : Int64)] g1 0 0 Rt)) ∧
(¬ 0 < (lg_cmp r2 x3).toInt →
((lg_cmp x11 x3) = 0 →
((lg_cmp ((2 : Int64) * x9) x13).toInt < 0 →
((lg_cmp x11 (0 : Int64)).toInt < 0 →
WM k_Ref_step p_Ref_step_12 [.ref x0, Jv, Jv, .long x3, Jv, Jv, Jv, .long x7, Jv, .long x9, Jv, .long x11, Jv, .long x13, Jv, Jv, Jv] [.long (-1 : Int64)] g1 0 0 Rt) ∧
(¬ (lg_cmp x11 (0 : Int64)).toInt < 0 →
WM k_Ref_step p_Ref_step_12 [.ref x0, Jv, Jv, .long x3, Jv, Jv, Jv, .long x7, Jv, .long x9, Jv, .long x11, Jv, .long x13, Jv, Jv, Jv] [.long (1 : Int64)] g1 0 0 Rt)) ∧
(¬ (lg_cmp ((2 : Int64) * x9) x13).toInt < 0 →
WM k_Ref_step p_Ref_step_11 [.ref x0, Jv, Jv, .long x3, Jv, .long x5, Jv, .long x7, Jv, .long x9, Jv, .long x11, Jv, .long x13, Jv, Jv, Jv] [] g1 0 0 Rt)) ∧
(¬ (lg_cmp x11 x3) = 0 →
WM k_Ref_step p_Ref_step_11 [.ref x0, Jv, Jv, .long x3, Jv, .long x5, Jv, .long x7, Jv, .long x9, Jv, .long x11, Jv, .long x13, Jv, Jv, Jv] [] g1 0 0 Rt)))) : WM k_Ref_step p_Ref_step_10 [.ref x0, Jv, Jv, .long x3, Jv, .long x5, Jv, .long x7, Jv, .long x9, Jv, .long x11, Jv, .long x13, Jv, Jv, Jv] [] h 0 0 Rt := WM_at (hs := HH_Ref_step) G_Ref_step 454 262 rfl H
set_option maxRecDepth 100000 in
set_option maxHeartbeats 4000000 in
theorem v_Ref_step_11 (x0 : Nat) (x3 : Int64) (x5 : Int64) (x7 : Int64) (x9 : Int64) (x11 : Int64) (x13 : Int64) (h : MH) (Rt : Value → MH → Prop) (H :
((lg_cmp x11 (-x3)) = 0 →
((lg_cmp x13 (0 : Int64)).toInt < 0 →
((lg_cmp x11 (0 : Int64)).toInt < 0 →
WM k_Ref_step p_Ref_step_12 [.ref x0, Jv, Jv, .long x3, Jv, Jv, Jv, .long x7, Jv, .long x9, Jv, .long x11, Jv, .long x13, Jv, Jv, Jv] [.long (-1 : Int64)] h 0 0 Rt) ∧
(¬ (lg_cmp x11 (0 : Int64)).toInt < 0 →
WM k_Ref_step p_Ref_step_12 [.ref x0, Jv, Jv, .long x3, Jv, Jv, Jv, .long x7, Jv, .long x9, Jv, .long x11, Jv, .long x13, Jv, Jv, Jv] [.long (1 : Int64)] h 0 0 Rt)) ∧
(¬ (lg_cmp x13 (0 : Int64)).toInt < 0 →
WM k_Ref_step p_Ref_step_13 [.ref x0, Jv, Jv, .long x3, Jv, .long x5, Jv, .long x7, Jv, .long x9, Jv, .long x11, Jv, .long x13, Jv, Jv, Jv] [] h 0 0 Rt)) ∧
(¬ (lg_cmp x11 (-x3)) = 0 →
WM k_Ref_step p_Ref_step_13 [.ref x0, Jv, Jv, .long x3, Jv, .long x5, Jv, .long x7, Jv, .long x9, Jv, .long x11, Jv, .long x13, Jv, Jv, Jv] [] h 0 0 Rt)) : WM k_Ref_step p_Ref_step_11 [.ref x0, Jv, Jv, .long x3, Jv, .long x5, Jv, .long x7, Jv, .long x9, Jv, .long x11, Jv, .long x13, Jv, Jv, Jv] [] h 0 0 Rt := WM_at (hs := HH_Ref_step) G_Ref_step 454 277 rfl H
set_option maxRecDepth 100000 in
set_option maxHeartbeats 4000000 in
theorem v_Ref_step_12 (x0 : Nat) (x3 : Int64) (x7 : Int64) (x9 : Int64) (x11 : Int64) (x13 : Int64) (s0 : Int64) (h : MH) (Rt : Value → MH → Prop) (H :
kd h x0 = 13 ∧
kd h (mr h x0 33) = 21 ∧
InB (2 : Int32) (ln h (mr h x0 33)) ∧
∀ g4 : MH, g4 = wl h (mr h x0 33) (ix (2 : Int32)) ((x3 + x7) - (s0 * x11)) →
InB (3 : Int32) (ln h (mr h x0 33)) ∧
∀ g6 : MH, g6 = wl g4 (mr h x0 33) (ix (3 : Int32)) (x9 - (s0 * x13)) →
InB (4 : Int32) (ln h (mr h x0 33)) ∧
∀ g8 : MH, g8 = wl g6 (mr h x0 33) (ix (4 : Int32)) (x11 - (((2 : Int64) * s0) * x3)) →
Rt (.int (1 : Int32)) g8) : WM k_Ref_step p_Ref_step_12 [.ref x0, Jv, Jv, .long x3, Jv, Jv, Jv, .long x7, Jv, .long x9, Jv, .long x11, Jv, .long x13, Jv, Jv, Jv] [.long s0] h 0 0 Rt := WM_at (hs := HH_Ref_step) G_Ref_step 454 293 rfl ⟨H.1, ⟨H.2.1, ⟨H.2.2.1, ⟨H.1, ⟨H.2.1, ⟨(H.2.2.2 _ rfl).1, ⟨H.1, ⟨H.2.1, ⟨((H.2.2.2 _ rfl).2 _ rfl).1, ⟨(Or.inr rfl), (((H.2.2.2 _ rfl).2 _ rfl).2 _ rfl)⟩⟩⟩⟩⟩⟩⟩⟩⟩⟩
set_option maxRecDepth 100000 in
set_option maxHeartbeats 4000000 in
theorem v_Ref_step_13 (x0 : Nat) (x3 : Int64) (x5 : Int64) (x7 : Int64) (x9 : Int64) (x11 : Int64) (x13 : Int64) (h : MH) (Rt : Value → MH → Prop) (H :
SpL k_Ref_size [.long x13] h (fun r2 g1 =>
(0 < (lg_cmp r2 x3).toInt →
((lg_cmp x13 (0 : Int64)).toInt < 0 →
WM k_Ref_step p_Ref_step_15 [.ref x0, Jv, Jv, .long x3, Jv, .long x5, Jv, Jv, Jv, .long x9, Jv, .long x11, Jv, .long x13, Jv, Jv, Jv] [.long (-1 : Int64)] g1 0 0 Rt) ∧
(¬ (lg_cmp x13 (0 : Int64)).toInt < 0 →
WM k_Ref_step p_Ref_step_15 [.ref x0, Jv, Jv, .long x3, Jv, .long x5, Jv, Jv, Jv, .long x9, Jv, .long x11, Jv, .long x13, Jv, Jv, Jv] [.long (1 : Int64)] g1 0 0 Rt)) ∧
(¬ 0 < (lg_cmp r2 x3).toInt →
((lg_cmp x13 x3) = 0 →
((lg_cmp ((2 : Int64) * x9) x11).toInt < 0 →
((lg_cmp x13 (0 : Int64)).toInt < 0 →
WM k_Ref_step p_Ref_step_15 [.ref x0, Jv, Jv, .long x3, Jv, .long x5, Jv, Jv, Jv, .long x9, Jv, .long x11, Jv, .long x13, Jv, Jv, Jv] [.long (-1 : Int64)] g1 0 0 Rt) ∧
(¬ (lg_cmp x13 (0 : Int64)).toInt < 0 →
WM k_Ref_step p_Ref_step_15 [.ref x0, Jv, Jv, .long x3, Jv, .long x5, Jv, Jv, Jv, .long x9, Jv, .long x11, Jv, .long x13, Jv, Jv, Jv] [.long (1 : Int64)] g1 0 0 Rt)) ∧
(¬ (lg_cmp ((2 : Int64) * x9) x11).toInt < 0 →
WM k_Ref_step p_Ref_step_14 [.ref x0, Jv, Jv, .long x3, Jv, .long x5, Jv, .long x7, Jv, .long x9, Jv, .long x11, Jv, .long x13, Jv, Jv, Jv] [] g1 0 0 Rt)) ∧
(¬ (lg_cmp x13 x3) = 0 →
WM k_Ref_step p_Ref_step_14 [.ref x0, Jv, Jv, .long x3, Jv, .long x5, Jv, .long x7, Jv, .long x9, Jv, .long x11, Jv, .long x13, Jv, Jv, Jv] [] g1 0 0 Rt)))) : WM k_Ref_step p_Ref_step_13 [.ref x0, Jv, Jv, .long x3, Jv, .long x5, Jv, .long x7, Jv, .long x9, Jv, .long x11, Jv, .long x13, Jv, Jv, Jv] [] h 0 0 Rt := WM_at (hs := HH_Ref_step) G_Ref_step 454 327 rfl H
set_option maxRecDepth 100000 in
set_option maxHeartbeats 4000000 in
theorem v_Ref_step_14 (x0 : Nat) (x3 : Int64) (x5 : Int64) (x7 : Int64) (x9 : Int64) (x11 : Int64) (x13 : Int64) (h : MH) (Rt : Value → MH → Prop) (H :
((lg_cmp x13 (-x3)) = 0 →
((lg_cmp x11 (0 : Int64)).toInt < 0 →
((lg_cmp x13 (0 : Int64)).toInt < 0 →
WM k_Ref_step p_Ref_step_15 [.ref x0, Jv, Jv, .long x3, Jv, .long x5, Jv, Jv, Jv, .long x9, Jv, .long x11, Jv, .long x13, Jv, Jv, Jv] [.long (-1 : Int64)] h 0 0 Rt) ∧
(¬ (lg_cmp x13 (0 : Int64)).toInt < 0 →
WM k_Ref_step p_Ref_step_15 [.ref x0, Jv, Jv, .long x3, Jv, .long x5, Jv, Jv, Jv, .long x9, Jv, .long x11, Jv, .long x13, Jv, Jv, Jv] [.long (1 : Int64)] h 0 0 Rt)) ∧
(¬ (lg_cmp x11 (0 : Int64)).toInt < 0 →
WM k_Ref_step p_Ref_step_16 [.ref x0, Jv, Jv, .long x3, Jv, .long x5, Jv, .long x7, Jv, .long x9, Jv, .long x11, Jv, .long x13, Jv, Jv, Jv] [] h 0 0 Rt)) ∧
(¬ (lg_cmp x13 (-x3)) = 0 →
WM k_Ref_step p_Ref_step_16 [.ref x0, Jv, Jv, .long x3, Jv, .long x5, Jv, .long x7, Jv, .long x9, Jv, .long x11, Jv, .long x13, Jv, Jv, Jv] [] h 0 0 Rt)) : WM k_Ref_step p_Ref_step_14 [.ref x0, Jv, Jv, .long x3, Jv, .long x5, Jv, .long x7, Jv, .long x9, Jv, .long x11, Jv, .long x13, Jv, Jv, Jv] [] h 0 0 Rt := WM_at (hs := HH_Ref_step) G_Ref_step 454 342 rfl H
set_option maxRecDepth 100000 in
set_option maxHeartbeats 4000000 in
theorem v_Ref_step_15 (x0 : Nat) (x3 : Int64) (x5 : Int64) (x9 : Int64) (x11 : Int64) (x13 : Int64) (s0 : Int64) (h : MH) (Rt : Value → MH → Prop) (H :
kd h x0 = 13 ∧
kd h (mr h x0 33) = 21 ∧
InB (1 : Int32) (ln h (mr h x0 33)) ∧
∀ g4 : MH, g4 = wl h (mr h x0 33) (ix (1 : Int32)) ((x3 + x5) - (s0 * x13)) →
InB (3 : Int32) (ln h (mr h x0 33)) ∧
∀ g6 : MH, g6 = wl g4 (mr h x0 33) (ix (3 : Int32)) (x9 - (s0 * x11)) →
InB (5 : Int32) (ln h (mr h x0 33)) ∧
∀ g8 : MH, g8 = wl g6 (mr h x0 33) (ix (5 : Int32)) (x13 - (((2 : Int64) * s0) * x3)) →
Rt (.int (1 : Int32)) g8) : WM k_Ref_step p_Ref_step_15 [.ref x0, Jv, Jv, .long x3, Jv, .long x5, Jv, Jv, Jv, .long x9, Jv, .long x11, Jv, .long x13, Jv, Jv, Jv] [.long s0] h 0 0 Rt := WM_at (hs := HH_Ref_step) G_Ref_step 454 358 rfl ⟨H.1, ⟨H.2.1, ⟨H.2.2.1, ⟨H.1, ⟨H.2.1, ⟨(H.2.2.2 _ rfl).1, ⟨H.1, ⟨H.2.1, ⟨((H.2.2.2 _ rfl).2 _ rfl).1, ⟨(Or.inr rfl), (((H.2.2.2 _ rfl).2 _ rfl).2 _ rfl)⟩⟩⟩⟩⟩⟩⟩⟩⟩⟩
set_option maxRecDepth 100000 in
set_option maxHeartbeats 4000000 in
theorem v_Ref_step_16 (x0 : Nat) (x3 : Int64) (x5 : Int64) (x7 : Int64) (x9 : Int64) (x11 : Int64) (x13 : Int64) (h : MH) (Rt : Value → MH → Prop) (H :
((lg_cmp ((((x9 + x11) + x13) + x3) + x5) (0 : Int64)).toInt < 0 →
WM k_Ref_step p_Ref_step_17 [.ref x0, Jv, Jv, .long x3, Jv, .long x5, Jv, .long x7, Jv, .long x9, Jv, .long x11, Jv, .long x13, Jv, .long ((((x9 + x11) + x13) + x3) + x5), Jv] [] h 0 0 Rt) ∧
(¬ (lg_cmp ((((x9 + x11) + x13) + x3) + x5) (0 : Int64)).toInt < 0 →
((lg_cmp ((((x9 + x11) + x13) + x3) + x5) (0 : Int64)) = 0 →
(0 < (lg_cmp (((2 : Int64) * (x3 + x11)) + x13) (0 : Int64)).toInt →
WM k_Ref_step p_Ref_step_17 [.ref x0, Jv, Jv, .long x3, Jv, .long x5, Jv, .long x7, Jv, .long x9, Jv, .long x11, Jv, .long x13, Jv, .long ((((x9 + x11) + x13) + x3) + x5), Jv] [] h 0 0 Rt) ∧
(¬ 0 < (lg_cmp (((2 : Int64) * (x3 + x11)) + x13) (0 : Int64)).toInt →
Rt (.int (0 : Int32)) h)) ∧
(¬ (lg_cmp ((((x9 + x11) + x13) + x3) + x5) (0 : Int64)) = 0 →
Rt (.int (0 : Int32)) h))) : WM k_Ref_step p_Ref_step_16 [.ref x0, Jv, Jv, .long x3, Jv, .long x5, Jv, .long x7, Jv, .long x9, Jv, .long x11, Jv, .long x13, Jv, Jv, Jv] [] h 0 0 Rt := WM_at (hs := HH_Ref_step) G_Ref_step 454 392 rfl ⟨H.1, fun c1 => ⟨fun c2 => ⟨((H.2 c1).1 c2).1, fun c3 => ⟨(Or.inl rfl), (((H.2 c1).1 c2).2 c3)⟩⟩, fun c2 => ⟨(Or.inl rfl), ((H.2 c1).2 c2)⟩⟩⟩
set_option maxRecDepth 100000 in
set_option maxHeartbeats 4000000 in
theorem v_Ref_step_17 (x0 : Nat) (x3 : Int64) (x5 : Int64) (x7 : Int64) (x9 : Int64) (x11 : Int64) (x13 : Int64) (x15 : Int64) (h : MH) (Rt : Value → MH → Prop) (H :
kd h x0 = 13 ∧
kd h (mr h x0 33) = 21 ∧
InB (2 : Int32) (ln h (mr h x0 33)) ∧
∀ g4 : MH, g4 = wl h (mr h x0 33) (ix (2 : Int32)) (x7 + x15) →
InB (3 : Int32) (ln h (mr h x0 33)) ∧
∀ g6 : MH, g6 = wl g4 (mr h x0 33) (ix (3 : Int32)) ((((2 : Int64) * x5) + x9) + x13) →
InB (4 : Int32) (ln h (mr h x0 33)) ∧
∀ g8 : MH, g8 = wl g6 (mr h x0 33) (ix (4 : Int32)) ((((2 : Int64) * x3) + x11) + x13) →
Rt (.int (1 : Int32)) g8) : WM k_Ref_step p_Ref_step_17 [.ref x0, Jv, Jv, .long x3, Jv, .long x5, Jv, .long x7, Jv, .long x9, Jv, .long x11, Jv, .long x13, Jv, .long x15, Jv] [] h 0 0 Rt := WM_at (hs := HH_Ref_step) G_Ref_step 454 420 rfl ⟨H.1, ⟨H.2.1, ⟨H.2.2.1, ⟨H.1, ⟨H.2.1, ⟨(H.2.2.2 _ rfl).1, ⟨H.1, ⟨H.2.1, ⟨((H.2.2.2 _ rfl).2 _ rfl).1, ⟨(Or.inr rfl), (((H.2.2.2 _ rfl).2 _ rfl).2 _ rfl)⟩⟩⟩⟩⟩⟩⟩⟩⟩⟩
set_option maxRecDepth 100000 in
set_option maxHeartbeats 4000000 in
theorem v_Ref_reduce (x0 : Nat) (h : MH) (Rt : Value → MH → Prop) (H :
WM k_Ref_reduce p_Ref_reduce_1 [.ref x0, .int (3 : Int32), Jv] [] h 0 0 Rt) : Sp k_Ref_reduce [.ref x0] h Rt := Sp_intro2 (by decide) (by decide +kernel) rfl (Nat.le_of_ble_eq_true rfl) (WM_at (hs := HH_Ref_reduce) G_Ref_reduce 44 0 rfl H)
set_option maxRecDepth 100000 in
set_option maxHeartbeats 4000000 in
theorem v_Ref_reduce_1 (x0 : Nat) (x1 : Int32) (h : MH) (Rt : Value → MH → Prop) (H :
(x1.toInt < (6 : Int32).toInt →
kd h x0 = 13 ∧
kd h (mr h x0 33) = 21 ∧
InB x1 (ln h (mr h x0 33)) ∧
∀ g4 : MH, g4 = wl h (mr h x0 33) (ix x1) ((2 : Int64) * (ml h (mr h x0 33) (ix x1))) →
WM k_Ref_reduce p_Ref_reduce_1 [.ref x0, .int (x1 + (1 : Int32)), Jv] [] g4 0 0 Rt) ∧
(¬ x1.toInt < (6 : Int32).toInt →
WM k_Ref_reduce p_Ref_reduce_2 [.ref x0, .int (1 : Int32), Jv] [] h 0 0 Rt)) : WM k_Ref_reduce p_Ref_reduce_1 [.ref x0, .int x1, Jv] [] h 0 0 Rt := WM_at (hs := HH_Ref_reduce) G_Ref_reduce 44 2 rfl ⟨fun c5 => ⟨(H.1 c5).1, ⟨(H.1 c5).1, ⟨((H.1 c5).2).1, ⟨(((H.1 c5).2).2).1, ⟨((H.1 c5).2).1, ⟨(((H.1 c5).2).2).1, ((((H.1 c5).2).2).2 _ rfl)⟩⟩⟩⟩⟩⟩, H.2⟩
set_option maxRecDepth 100000 in
set_option maxHeartbeats 4000000 in
theorem v_Ref_reduce_2 (x0 : Nat) (x1 : Int32) (h : MH) (Rt : Value → MH → Prop) (H :
(x1 = 0 →
WM k_Ref_reduce p_Ref_reduce_3 [.ref x0, Jv, .int (3 : Int32)] [] h 0 0 Rt) ∧
(¬ x1 = 0 →
kd h x0 = 13 ∧
SpI k_Ref_step [.ref x0] h (fun r3 g1 =>
WM k_Ref_reduce p_Ref_reduce_2 [.ref x0, .int r3, Jv] [] g1 0 0 Rt))) : WM k_Ref_reduce p_Ref_reduce_2 [.ref x0, .int x1, Jv] [] h 0 0 Rt := WM_at (hs := HH_Ref_reduce) G_Ref_reduce 44 19 rfl H
set_option maxRecDepth 100000 in
set_option maxHeartbeats 4000000 in
theorem v_Ref_reduce_3 (x0 : Nat) (x2 : Int32) (h : MH) (Rt : Value → MH → Prop) (H :
(x2.toInt < (6 : Int32).toInt →
kd h x0 = 13 ∧
kd h (mr h x0 33) = 21 ∧
InB x2 (ln h (mr h x0 33)) ∧
∀ g4 : MH, g4 = wl h (mr h x0 33) (ix x2) ((ml h (mr h x0 33) (ix x2)) / (2 : Int64)) →
WM k_Ref_reduce p_Ref_reduce_3 [.ref x0, Jv, .int (x2 + (1 : Int32))] [] g4 0 0 Rt) ∧
(¬ x2.toInt < (6 : Int32).toInt →
Rt .null h)) : WM k_Ref_reduce p_Ref_reduce_3 [.ref x0, Jv, .int x2] [] h 0 0 Rt := WM_at (hs := HH_Ref_reduce) G_Ref_reduce 44 27 rfl ⟨fun c5 => ⟨(H.1 c5).1, ⟨(H.1 c5).1, ⟨((H.1 c5).2).1, ⟨(((H.1 c5).2).2).1, ⟨(by decide), ⟨((H.1 c5).2).1, ⟨(((H.1 c5).2).2).1, ((((H.1 c5).2).2).2 _ rfl)⟩⟩⟩⟩⟩⟩⟩, H.2⟩
set_option maxRecDepth 100000 in
set_option maxHeartbeats 4000000 in
theorem v_Ref_dot (x0 : Nat) (x1 : Int32) (x2 : Int64) (x4 : Int64) (x6 : Int64) (x8 : Int64) (x10 : Int64) (x12 : Int64) (h : MH) (Rt : Value → MH → Prop) (H :
kd h x0 = 21 ∧
InB x1 (ln h x0) ∧
InB (x1 + (1 : Int32)) (ln h x0) ∧
InB (x1 + (2 : Int32)) (ln h x0) ∧
InB (x1 + (3 : Int32)) (ln h x0) ∧
InB (x1 + (4 : Int32)) (ln h x0) ∧
InB (x1 + (5 : Int32)) (ln h x0) ∧
Rt (.long ((((((((ml h x0 (ix x1)) * x2) * x8) + (((ml h x0 (ix (x1 + (1 : Int32)))) * x4) * x10)) + (((ml h x0 (ix (x1 + (2 : Int32)))) * x6) * x12)) + ((ml h x0 (ix (x1 + (3 : Int32)))) * ((x4 * x12) + (x6 * x10)))) + ((ml h x0 (ix (x1 + (4 : Int32)))) * ((x2 * x12) + (x6 * x8)))) + ((ml h x0 (ix (x1 + (5 : Int32)))) * ((x2 * x10) + (x4 * x8))))) h) : Sp k_Ref_dot [.ref x0, .int x1, .long x2, .long x4, .long x6, .long x8, .long x10, .long x12] h Rt := Sp_intro2 (by decide) (by decide +kernel) rfl (Nat.le_of_ble_eq_true rfl) (WM_at (hs := HH_Ref_dot) G_Ref_dot 71 0 rfl ⟨H.1, ⟨H.2.1, ⟨H.1, ⟨H.2.2.1, ⟨H.1, ⟨H.2.2.2.1, ⟨H.1, ⟨H.2.2.2.2.1, ⟨H.1, ⟨H.2.2.2.2.2.1, ⟨H.1, H.2.2.2.2.2.2⟩⟩⟩⟩⟩⟩⟩⟩⟩⟩⟩)
set_option maxRecDepth 100000 in
set_option maxHeartbeats 4000000 in
theorem v_Ref_keeps (x0 : Nat) (x1 : Nat) (x2 : Int32) (h : MH) (Rt : Value → MH → Prop) (H :
kd h x0 = 20 ∧
InB (0 : Int32) (ln h x0) ∧
InB (3 : Int32) (ln h x0) ∧
InB (6 : Int32) (ln h x0) ∧
SpL k_Ref_dot [.ref x1, .int x2, .long ((mi h x0 (ix (0 : Int32))).toInt64), .long ((mi h x0 (ix (3 : Int32))).toInt64), .long ((mi h x0 (ix (6 : Int32))).toInt64), .long ((mi h x0 (ix (0 : Int32))).toInt64), .long ((mi h x0 (ix (3 : Int32))).toInt64), .long ((mi h x0 (ix (6 : Int32))).toInt64)] h (fun r6 g5 =>
kd g5 x1 = 21 ∧
InB x2 (ln g5 x1) ∧
((lg_cmp r6 (ml g5 x1 (ix x2))) = 0 →
kd g5 x0 = 20 ∧
InB (1 : Int32) (ln g5 x0) ∧
InB (4 : Int32) (ln g5 x0) ∧
InB (7 : Int32) (ln g5 x0) ∧
SpL k_Ref_dot [.ref x1, .int x2, .long ((mi g5 x0 (ix (1 : Int32))).toInt64), .long ((mi g5 x0 (ix (4 : Int32))).toInt64), .long ((mi g5 x0 (ix (7 : Int32))).toInt64), .long ((mi g5 x0 (ix (1 : Int32))).toInt64), .long ((mi g5 x0 (ix (4 : Int32))).toInt64), .long ((mi g5 x0 (ix (7 : Int32))).toInt64)] g5 (fun r14 g13 =>
kd g13 x1 = 21 ∧
InB (x2 + (1 : Int32)) (ln g13 x1) ∧
((lg_cmp r14 (ml g13 x1 (ix (x2 + (1 : Int32))))) = 0 →
WM k_Ref_keeps p_Ref_keeps_1 [.ref x0, .ref x1, .int x2] [] g13 0 0 Rt) ∧
(¬ (lg_cmp r14 (ml g13 x1 (ix (x2 + (1 : Int32))))) = 0 →
Rt (.int (0 : Int32)) g13))) ∧
(¬ (lg_cmp r6 (ml g5 x1 (ix x2))) = 0 →
Rt (.int (0 : Int32)) g5))) : Sp k_Ref_keeps [.ref x0, .ref x1, .int x2] h Rt := Sp_intro2 (by decide) (by decide +kernel) rfl (Nat.le_of_ble_eq_true rfl) (WM_at (hs := HH_Ref_keeps) G_Ref_keeps 207 0 rfl ⟨H.1, ⟨H.2.1, ⟨H.1, ⟨H.2.2.1, ⟨H.1, ⟨H.2.2.2.1, ⟨H.1, ⟨H.2.1, ⟨H.1, ⟨H.2.2.1, ⟨H.1, ⟨H.2.2.2.1, SpL.mono H.2.2.2.2 (fun r6 g5 qg5 => ⟨qg5.1, ⟨qg5.2.1, ⟨fun c17 => ⟨(qg5.2.2.1 c17).1, ⟨((qg5.2.2.1 c17).2).1, ⟨(qg5.2.2.1 c17).1, ⟨(((qg5.2.2.1 c17).2).2).1, ⟨(qg5.2.2.1 c17).1, ⟨((((qg5.2.2.1 c17).2).2).2).1, ⟨(qg5.2.2.1 c17).1, ⟨((qg5.2.2.1 c17).2).1, ⟨(qg5.2.2.1 c17).1, ⟨(((qg5.2.2.1 c17).2).2).1, ⟨(qg5.2.2.1 c17).1, ⟨((((qg5.2.2.1 c17).2).2).2).1, SpL.mono (((((qg5.2.2.1 c17).2).2).2).2) (fun r14 g13 qg13 => ⟨qg13.1, ⟨qg13.2.1, ⟨qg13.2.2.1, fun c18 => ⟨(Or.inl rfl), (qg13.2.2.2 c18)⟩⟩⟩⟩)⟩⟩⟩⟩⟩⟩⟩⟩⟩⟩⟩⟩, fun c17 => ⟨(Or.inl rfl), (qg5.2.2.2 c17)⟩⟩⟩⟩)⟩⟩⟩⟩⟩⟩⟩⟩⟩⟩⟩⟩)
set_option maxRecDepth 100000 in
set_option maxHeartbeats 4000000 in
theorem v_Ref_keeps_1 (x0 : Nat) (x1 : Nat) (x2 : Int32) (h : MH) (Rt : Value → MH → Prop) (H :
kd h x0 = 20 ∧
InB (2 : Int32) (ln h x0) ∧
InB (5 : Int32) (ln h x0) ∧
InB (8 : Int32) (ln h x0) ∧
SpL k_Ref_dot [.ref x1, .int x2, .long ((mi h x0 (ix (2 : Int32))).toInt64), .long ((mi h x0 (ix (5 : Int32))).toInt64), .long ((mi h x0 (ix (8 : Int32))).toInt64), .long ((mi h x0 (ix (2 : Int32))).toInt64), .long ((mi h x0 (ix (5 : Int32))).toInt64), .long ((mi h x0 (ix (8 : Int32))).toInt64)] h (fun r6 g5 =>
kd g5 x1 = 21 ∧
InB (x2 + (2 : Int32)) (ln g5 x1) ∧
((lg_cmp r6 (ml g5 x1 (ix (x2 + (2 : Int32))))) = 0 →
kd g5 x0 = 20 ∧
InB (1 : Int32) (ln g5 x0) ∧
InB (4 : Int32) (ln g5 x0) ∧
InB (7 : Int32) (ln g5 x0) ∧
InB (2 : Int32) (ln g5 x0) ∧
InB (5 : Int32) (ln g5 x0) ∧
InB (8 : Int32) (ln g5 x0) ∧
SpL k_Ref_dot [.ref x1, .int x2, .long ((mi g5 x0 (ix (1 : Int32))).toInt64), .long ((mi g5 x0 (ix (4 : Int32))).toInt64), .long ((mi g5 x0 (ix (7 : Int32))).toInt64), .long ((mi g5 x0 (ix (2 : Int32))).toInt64), .long ((mi g5 x0 (ix (5 : Int32))).toInt64), .long ((mi g5 x0 (ix (8 : Int32))).toInt64)] g5 (fun r17 g16 =>
kd g16 x1 = 21 ∧
InB (x2 + (3 : Int32)) (ln g16 x1) ∧
((lg_cmp r17 (ml g16 x1 (ix (x2 + (3 : Int32))))) = 0 →
WM k_Ref_keeps p_Ref_keeps_2 [.ref x0, .ref x1, .int x2] [] g16 0 0 Rt) ∧
(¬ (lg_cmp r17 (ml g16 x1 (ix (x2 + (3 : Int32))))) = 0 →
Rt (.int (0 : Int32)) g16))) ∧
(¬ (lg_cmp r6 (ml g5 x1 (ix (x2 + (2 : Int32))))) = 0 →
Rt (.int (0 : Int32)) g5))) : WM k_Ref_keeps p_Ref_keeps_1 [.ref x0, .ref x1, .int x2] [] h 0 0 Rt := WM_at (hs := HH_Ref_keeps) G_Ref_keeps 207 66 rfl ⟨H.1, ⟨H.2.1, ⟨H.1, ⟨H.2.2.1, ⟨H.1, ⟨H.2.2.2.1, ⟨H.1, ⟨H.2.1, ⟨H.1, ⟨H.2.2.1, ⟨H.1, ⟨H.2.2.2.1, SpL.mono H.2.2.2.2 (fun r6 g5 qg5 => ⟨qg5.1, ⟨qg5.2.1, ⟨fun c20 => ⟨(qg5.2.2.1 c20).1, ⟨((qg5.2.2.1 c20).2).1, ⟨(qg5.2.2.1 c20).1, ⟨(((qg5.2.2.1 c20).2).2).1, ⟨(qg5.2.2.1 c20).1, ⟨((((qg5.2.2.1 c20).2).2).2).1, ⟨(qg5.2.2.1 c20).1, ⟨(((((qg5.2.2.1 c20).2).2).2).2).1, ⟨(qg5.2.2.1 c20).1, ⟨((((((qg5.2.2.1 c20).2).2).2).2).2).1, ⟨(qg5.2.2.1 c20).1, ⟨(((((((qg5.2.2.1 c20).2).2).2).2).2).2).1, SpL.mono ((((((((qg5.2.2.1 c20).2).2).2).2).2).2).2) (fun r17 g16 qg16 => ⟨qg16.1, ⟨qg16.2.1, ⟨qg16.2.2.1, fun c21 => ⟨(Or.inl rfl), (qg16.2.2.2 c21)⟩⟩⟩⟩)⟩⟩⟩⟩⟩⟩⟩⟩⟩⟩⟩⟩, fun c20 => ⟨(Or.inl rfl), (qg5.2.2.2 c20)⟩⟩⟩⟩)⟩⟩⟩⟩⟩⟩⟩⟩⟩⟩⟩⟩
set_option maxRecDepth 100000 in
set_option maxHeartbeats 4000000 in
theorem v_Ref_keeps_2 (x0 : Nat) (x1 : Nat) (x2 : Int32) (h : MH) (Rt : Value → MH → Prop) (H :
kd h x0 = 20 ∧
InB (0 : Int32) (ln h x0) ∧
InB (3 : Int32) (ln h x0) ∧
InB (6 : Int32) (ln h x0) ∧
InB (2 : Int32) (ln h x0) ∧
InB (5 : Int32) (ln h x0) ∧
InB (8 : Int32) (ln h x0) ∧
SpL k_Ref_dot [.ref x1, .int x2, .long ((mi h x0 (ix (0 : Int32))).toInt64), .long ((mi h x0 (ix (3 : Int32))).toInt64), .long ((mi h x0 (ix (6 : Int32))).toInt64), .long ((mi h x0 (ix (2 : Int32))).toInt64), .long ((mi h x0 (ix (5 : Int32))).toInt64), .long ((mi h x0 (ix (8 : Int32))).toInt64)] h (fun r9 g8 =>
kd g8 x1 = 21 ∧
InB (x2 + (4 : Int32)) (ln g8 x1) ∧
((lg_cmp r9 (ml g8 x1 (ix (x2 + (4 : Int32))))) = 0 →
kd g8 x0 = 20 ∧
InB (0 : Int32) (ln g8 x0) ∧
InB (3 : Int32) (ln g8 x0) ∧
InB (6 : Int32) (ln g8 x0) ∧
InB (1 : Int32) (ln g8 x0) ∧
InB (4 : Int32) (ln g8 x0) ∧
InB (7 : Int32) (ln g8 x0) ∧
SpL k_Ref_dot [.ref x1, .int x2, .long ((mi g8 x0 (ix (0 : Int32))).toInt64), .long ((mi g8 x0 (ix (3 : Int32))).toInt64), .long ((mi g8 x0 (ix (6 : Int32))).toInt64), .long ((mi g8 x0 (ix (1 : Int32))).toInt64), .long ((mi g8 x0 (ix (4 : Int32))).toInt64), .long ((mi g8 x0 (ix (7 : Int32))).toInt64)] g8 (fun r20 g19 =>
kd g19 x1 = 21 ∧
InB (x2 + (5 : Int32)) (ln g19 x1) ∧
((lg_cmp r20 (ml g19 x1 (ix (x2 + (5 : Int32))))) = 0 →
WM k_Ref_keeps p_Ref_keeps_3 [Jv, Jv, Jv] [] g19 0 0 Rt) ∧
(¬ (lg_cmp r20 (ml g19 x1 (ix (x2 + (5 : Int32))))) = 0 →
Rt (.int (0 : Int32)) g19))) ∧
(¬ (lg_cmp r9 (ml g8 x1 (ix (x2 + (4 : Int32))))) = 0 →
Rt (.int (0 : Int32)) g8))) : WM k_Ref_keeps p_Ref_keeps_2 [.ref x0, .ref x1, .int x2] [] h 0 0 Rt := WM_at (hs := HH_Ref_keeps) G_Ref_keeps 207 134 rfl ⟨H.1, ⟨H.2.1, ⟨H.1, ⟨H.2.2.1, ⟨H.1, ⟨H.2.2.2.1, ⟨H.1, ⟨H.2.2.2.2.1, ⟨H.1, ⟨H.2.2.2.2.2.1, ⟨H.1, ⟨H.2.2.2.2.2.2.1, SpL.mono H.2.2.2.2.2.2.2 (fun r9 g8 qg8 => ⟨qg8.1, ⟨qg8.2.1, ⟨fun c23 => ⟨(qg8.2.2.1 c23).1, ⟨((qg8.2.2.1 c23).2).1, ⟨(qg8.2.2.1 c23).1, ⟨(((qg8.2.2.1 c23).2).2).1, ⟨(qg8.2.2.1 c23).1, ⟨((((qg8.2.2.1 c23).2).2).2).1, ⟨(qg8.2.2.1 c23).1, ⟨(((((qg8.2.2.1 c23).2).2).2).2).1, ⟨(qg8.2.2.1 c23).1, ⟨((((((qg8.2.2.1 c23).2).2).2).2).2).1, ⟨(qg8.2.2.1 c23).1, ⟨(((((((qg8.2.2.1 c23).2).2).2).2).2).2).1, SpL.mono ((((((((qg8.2.2.1 c23).2).2).2).2).2).2).2) (fun r20 g19 qg19 => ⟨qg19.1, ⟨qg19.2.1, ⟨qg19.2.2.1, fun c24 => ⟨(Or.inl rfl), (qg19.2.2.2 c24)⟩⟩⟩⟩)⟩⟩⟩⟩⟩⟩⟩⟩⟩⟩⟩⟩, fun c23 => ⟨(Or.inl rfl), (qg8.2.2.2 c23)⟩⟩⟩⟩)⟩⟩⟩⟩⟩⟩⟩⟩⟩⟩⟩⟩
set_option maxRecDepth 100000 in
set_option maxHeartbeats 4000000 in
theorem v_Ref_keeps_3  (h : MH) (Rt : Value → MH → Prop) (H :
Rt (.int (1 : Int32)) h) : WM k_Ref_keeps p_Ref_keeps_3 [Jv, Jv, Jv] [] h 0 0 Rt := WM_at (hs := HH_Ref_keeps) G_Ref_keeps 207 202 rfl ⟨(Or.inr rfl), H⟩
set_option maxRecDepth 100000 in
set_option maxHeartbeats 4000000 in
theorem v_Ref_cell (x0 : Nat) (x1 : Int32) (x2 : Int32) (x3 : Int32) (x4 : Int32) (x5 : Int32) (x6 : Int32) (h : MH) (Rt : Value → MH → Prop) (H :
kd h x0 = 13 ∧
((mi h x0 32).toInt < (40 : Int32).toInt →
SpI k_Ref_between [.long x1.toInt64, .long (1 : Int64), .long (10000 : Int64)] h (fun r3 g2 =>
(r3 = 0 →
WM k_Ref_cell p_Ref_cell_1 [.ref x0, .int x1, .int x2, .int x3, .int x4, .int x5, .int x6, Jv, Jv, Jv, Jv, Jv] [.int (0 : Int32)] g2 0 0 Rt) ∧
(¬ r3 = 0 →
SpI k_Ref_between [.long x2.toInt64, .long (1 : Int64), .long (10000 : Int64)] g2 (fun r5 g4 =>
(r5 = 0 →
WM k_Ref_cell p_Ref_cell_1 [.ref x0, .int x1, .int x2, .int x3, .int x4, .int x5, .int x6, Jv, Jv, Jv, Jv, Jv] [.int (0 : Int32)] g4 0 0 Rt) ∧
(¬ r5 = 0 →
SpI k_Ref_between [.long x3.toInt64, .long (1 : Int64), .long (10000 : Int64)] g4 (fun r7 g6 =>
(r7 = 0 →
WM k_Ref_cell p_Ref_cell_1 [.ref x0, .int x1, .int x2, .int x3, .int x4, .int x5, .int x6, Jv, Jv, Jv, Jv, Jv] [.int (0 : Int32)] g6 0 0 Rt) ∧
(¬ r7 = 0 →
SpI k_Ref_between [.long x4.toInt64, .long (-10000 : Int64), .long (10000 : Int64)] g6 (fun r9 g8 =>
(r9 = 0 →
WM k_Ref_cell p_Ref_cell_1 [.ref x0, .int x1, .int x2, .int x3, .int x4, .int x5, .int x6, Jv, Jv, Jv, Jv, Jv] [.int (0 : Int32)] g8 0 0 Rt) ∧
(¬ r9 = 0 →
SpI k_Ref_between [.long x5.toInt64, .long (-10000 : Int64), .long (10000 : Int64)] g8 (fun r11 g10 =>
(r11 = 0 →
WM k_Ref_cell p_Ref_cell_1 [.ref x0, .int x1, .int x2, .int x3, .int x4, .int x5, .int x6, Jv, Jv, Jv, Jv, Jv] [.int (0 : Int32)] g10 0 0 Rt) ∧
(¬ r11 = 0 →
SpI k_Ref_between [.long x6.toInt64, .long (-10000 : Int64), .long (10000 : Int64)] g10 (fun r13 g12 =>
(r13 = 0 →
WM k_Ref_cell p_Ref_cell_1 [.ref x0, .int x1, .int x2, .int x3, .int x4, .int x5, .int x6, Jv, Jv, Jv, Jv, Jv] [.int (0 : Int32)] g12 0 0 Rt) ∧
(¬ r13 = 0 →
WM k_Ref_cell p_Ref_cell_1 [.ref x0, .int x1, .int x2, .int x3, .int x4, .int x5, .int x6, Jv, Jv, Jv, Jv, Jv] [.int (1 : Int32)] g12 0 0 Rt))))))))))))) ∧
(¬ (mi h x0 32).toInt < (40 : Int32).toInt →
WM k_Ref_cell p_Ref_cell_1 [.ref x0, .int x1, .int x2, .int x3, .int x4, .int x5, .int x6, Jv, Jv, Jv, Jv, Jv] [.int (0 : Int32)] h 0 0 Rt)) : Sp k_Ref_cell [.ref x0, .int x1, .int x2, .int x3, .int x4, .int x5, .int x6] h Rt := Sp_intro2 (by decide) (by decide +kernel) rfl (Nat.le_of_ble_eq_true rfl) (WM_at (hs := HH_Ref_cell) G_Ref_cell 216 0 rfl H)
set_option maxRecDepth 100000 in
set_option maxHeartbeats 4000000 in
theorem v_Ref_cell_1 (x0 : Nat) (x1 : Int32) (x2 : Int32) (x3 : Int32) (x4 : Int32) (x5 : Int32) (x6 : Int32) (s0 : Int32) (h : MH) (Rt : Value → MH → Prop) (H :
(s0 = 0 →
Rt (.int (-1 : Int32)) h) ∧
(¬ s0 = 0 →
(0 < (lg_cmp ((x1.toInt64 * x2.toInt64) - (x6.toInt64 * x6.toInt64)) (0 : Int64)).toInt →
kd h x0 = 13 ∧
kd h (mr h x0 29) = 21 ∧
InB ((6 : Int32) * (mi h x0 32)) (ln h (mr h x0 29)) ∧
∀ g4 : MH, g4 = wl h (mr h x0 29) (ix ((6 : Int32) * (mi h x0 32))) x1.toInt64 →
InB (((6 : Int32) * (mi h x0 32)) + (1 : Int32)) (ln h (mr h x0 29)) ∧
∀ g6 : MH, g6 = wl g4 (mr h x0 29) (ix (((6 : Int32) * (mi h x0 32)) + (1 : Int32))) x2.toInt64 →
InB (((6 : Int32) * (mi h x0 32)) + (2 : Int32)) (ln h (mr h x0 29)) ∧
∀ g8 : MH, g8 = wl g6 (mr h x0 29) (ix (((6 : Int32) * (mi h x0 32)) + (2 : Int32))) x3.toInt64 →
InB (((6 : Int32) * (mi h x0 32)) + (3 : Int32)) (ln h (mr h x0 29)) ∧
∀ g10 : MH, g10 = wl g8 (mr h x0 29) (ix (((6 : Int32) * (mi h x0 32)) + (3 : Int32))) x4.toInt64 →
WM k_Ref_cell p_Ref_cell_2 [.ref x0, Jv, Jv, Jv, Jv, .int x5, .int x6, Jv, .int ((6 : Int32) * (mi h x0 32)), Jv, Jv, Jv] [] g10 0 0 Rt) ∧
(¬ 0 < (lg_cmp ((x1.toInt64 * x2.toInt64) - (x6.toInt64 * x6.toInt64)) (0 : Int64)).toInt →
Rt (.int (-1 : Int32)) h))) : WM k_Ref_cell p_Ref_cell_1 [.ref x0, .int x1, .int x2, .int x3, .int x4, .int x5, .int x6, Jv, Jv, Jv, Jv, Jv] [.int s0] h 0 0 Rt := WM_at (hs := HH_Ref_cell) G_Ref_cell 216 43 rfl ⟨H.1, fun c11 => ⟨fun c12 => ⟨((H.2 c11).1 c12).1, ⟨((H.2 c11).1 c12).1, ⟨(((H.2 c11).1 c12).2).1, ⟨((((H.2 c11).1 c12).2).2).1, ⟨((H.2 c11).1 c12).1, ⟨(((H.2 c11).1 c12).2).1, ⟨(((((H.2 c11).1 c12).2).2).2 _ rfl).1, ⟨((H.2 c11).1 c12).1, ⟨(((H.2 c11).1 c12).2).1, ⟨((((((H.2 c11).1 c12).2).2).2 _ rfl).2 _ rfl).1, ⟨((H.2 c11).1 c12).1, ⟨(((H.2 c11).1 c12).2).1, ⟨(((((((H.2 c11).1 c12).2).2).2 _ rfl).2 _ rfl).2 _ rfl).1, ((((((((H.2 c11).1 c12).2).2).2 _ rfl).2 _ rfl).2 _ rfl).2 _ rfl)⟩⟩⟩⟩⟩⟩⟩⟩⟩⟩⟩⟩⟩, (H.2 c11).2⟩⟩
set_option maxRecDepth 100000 in
set_option maxHeartbeats 4000000 in
theorem v_Ref_cell_2 (x0 : Nat) (x5 : Int32) (x6 : Int32) (x8 : Int32) (h : MH) (Rt : Value → MH → Prop) (H :
kd h x0 = 13 ∧
kd h (mr h x0 29) = 21 ∧
InB (x8 + (4 : Int32)) (ln h (mr h x0 29)) ∧
∀ g4 : MH, g4 = wl h (mr h x0 29) (ix (x8 + (4 : Int32))) x5.toInt64 →
InB (x8 + (5 : Int32)) (ln h (mr h x0 29)) ∧
∀ g6 : MH, g6 = wl g4 (mr h x0 29) (ix (x8 + (5 : Int32))) x6.toInt64 →
SpL k_Ref_determinantOf [.ref (mr h x0 29), .int x8] g6 (fun r8 g7 =>
(0 < (lg_cmp r8 (0 : Int64)).toInt →
WM k_Ref_cell p_Ref_cell_3 [.ref x0, Jv, Jv, Jv, Jv, Jv, Jv, Jv, .int x8, .int (0 : Int32), Jv, Jv] [] g7 0 0 Rt) ∧
(¬ 0 < (lg_cmp r8 (0 : Int64)).toInt →
Rt (.int (-1 : Int32)) g7))) : WM k_Ref_cell p_Ref_cell_2 [.ref x0, Jv, Jv, Jv, Jv, .int x5, .int x6, Jv, .int x8, Jv, Jv, Jv] [] h 0 0 Rt := WM_at (hs := HH_Ref_cell) G_Ref_cell 216 97 rfl ⟨H.1, ⟨H.2.1, ⟨H.2.2.1, ⟨H.1, ⟨H.2.1, ⟨(H.2.2.2 _ rfl).1, ⟨H.1, ((H.2.2.2 _ rfl).2 _ rfl)⟩⟩⟩⟩⟩⟩⟩
set_option maxRecDepth 100000 in
set_option maxHeartbeats 4000000 in
theorem v_Ref_cell_3 (x0 : Nat) (x8 : Int32) (x9 : Int32) (h : MH) (Rt : Value → MH → Prop) (H :
(x9.toInt < (6 : Int32).toInt →
kd h x0 = 13 ∧
kd h (mr h x0 29) = 21 ∧
InB (x8 + x9) (ln h (mr h x0 29)) ∧
kd h (mr h x0 33) = 21 ∧
InB x9 (ln h (mr h x0 33)) ∧
∀ g8 : MH, g8 = wl h (mr h x0 33) (ix x9) (ml h (mr h x0 29) (ix (x8 + x9))) →
WM k_Ref_cell p_Ref_cell_3 [.ref x0, Jv, Jv, Jv, Jv, Jv, Jv, Jv, .int x8, .int (x9 + (1 : Int32)), Jv, Jv] [] g8 0 0 Rt) ∧
(¬ x9.toInt < (6 : Int32).toInt →
kd h x0 = 13 ∧
SpV k_Ref_reduce [.ref x0] h (fun g1 =>
WM k_Ref_cell p_Ref_cell_4 [.ref x0, Jv, Jv, Jv, Jv, Jv, Jv, Jv, .int x8, .int (0 : Int32), Jv, Jv] [] g1 0 0 Rt))) : WM k_Ref_cell p_Ref_cell_3 [.ref x0, Jv, Jv, Jv, Jv, Jv, Jv, Jv, .int x8, .int x9, Jv, Jv] [] h 0 0 Rt := WM_at (hs := HH_Ref_cell) G_Ref_cell 216 124 rfl ⟨fun c9 => ⟨(H.1 c9).1, ⟨(H.1 c9).1, ⟨((H.1 c9).2).1, ⟨(((H.1 c9).2).2).1, ⟨((((H.1 c9).2).2).2).1, ⟨(((((H.1 c9).2).2).2).2).1, ((((((H.1 c9).2).2).2).2).2 _ rfl)⟩⟩⟩⟩⟩⟩, H.2⟩
set_option maxRecDepth 100000 in
set_option maxHeartbeats 4000000 in
theorem v_Ref_cell_4 (x0 : Nat) (x8 : Int32) (x9 : Int32) (h : MH) (Rt : Value → MH → Prop) (H :
(x9.toInt < (6 : Int32).toInt →
kd h x0 = 13 ∧
kd h (mr h x0 33) = 21 ∧
InB x9 (ln h (mr h x0 33)) ∧
kd h (mr h x0 30) = 21 ∧
InB (x8 + x9) (ln h (mr h x0 30)) ∧
∀ g6 : MH, g6 = wl h (mr h x0 30) (ix (x8 + x9)) (ml h (mr h x0 33) (ix x9)) →
WM k_Ref_cell p_Ref_cell_4 [.ref x0, Jv, Jv, Jv, Jv, Jv, Jv, Jv, .int x8, .int (x9 + (1 : Int32)), Jv, Jv] [] g6 0 0 Rt) ∧
(¬ x9.toInt < (6 : Int32).toInt →
WM k_Ref_cell p_Ref_cell_5 [.ref x0, Jv, Jv, Jv, Jv, Jv, Jv, Jv, .int x8, .int (0 : Int32), .int (0 : Int32), Jv] [] h 0 0 Rt)) : WM k_Ref_cell p_Ref_cell_4 [.ref x0, Jv, Jv, Jv, Jv, Jv, Jv, Jv, .int x8, .int x9, Jv, Jv] [] h 0 0 Rt := WM_at (hs := HH_Ref_cell) G_Ref_cell 216 143 rfl ⟨fun c7 => ⟨(H.1 c7).1, ⟨(H.1 c7).1, ⟨((H.1 c7).2).1, ⟨(((H.1 c7).2).2).1, ⟨((((H.1 c7).2).2).2).1, ⟨(((((H.1 c7).2).2).2).2).1, ((((((H.1 c7).2).2).2).2).2 _ rfl)⟩⟩⟩⟩⟩⟩, H.2⟩
set_option maxRecDepth 100000 in
set_option maxHeartbeats 4000000 in
theorem v_Ref_cell_5 (x0 : Nat) (x8 : Int32) (x9 : Int32) (x10 : Int32) (h : MH) (Rt : Value → MH → Prop) (H :
(x10.toInt < (19683 : Int32).toInt →
kd h x0 = 13 ∧
SpV k_Ref_open [.int ((13824 : Int32) * x10), .ref (mr h x0 3), .ref (mr h x0 4)] h (fun g7 =>
kd g7 x0 = 13 ∧
SpI k_Ref_determinant [.ref (mr g7 x0 3)] g7 (fun r10 g9 =>
(r10 = (1 : Int32) →
WM k_Ref_cell p_Ref_cell_6 [.ref x0, Jv, Jv, Jv, Jv, Jv, Jv, Jv, .int x8, Jv, .int x10, Jv] [.int x9] g9 0 0 Rt) ∧
(¬ r10 = (1 : Int32) →
(r10 = (-1 : Int32) →
WM k_Ref_cell p_Ref_cell_6 [.ref x0, Jv, Jv, Jv, Jv, Jv, Jv, Jv, .int x8, Jv, .int x10, Jv] [.int x9] g9 0 0 Rt) ∧
(¬ r10 = (-1 : Int32) →
WM k_Ref_cell p_Ref_cell_5 [.ref x0, Jv, Jv, Jv, Jv, Jv, Jv, Jv, .int x8, .int (x9 + (0 : Int32)), .int (x10 + (1 : Int32)), Jv] [] g9 0 0 Rt))))) ∧
(¬ x10.toInt < (19683 : Int32).toInt →
kd h x0 = 13 ∧
kd h (mr h x0 31) = 20 ∧
InB (mi h x0 32) (ln h (mr h x0 31)) ∧
∀ g4 : MH, g4 = wi h (mr h x0 31) (ix (mi h x0 32)) x9 →
∀ g5 : MH, g5 = wi g4 x0 32 ((mi g4 x0 32) + (1 : Int32)) →
Rt (.int ((mi g5 x0 32) - (1 : Int32))) g5)) : WM k_Ref_cell p_Ref_cell_5 [.ref x0, Jv, Jv, Jv, Jv, Jv, Jv, Jv, .int x8, .int x9, .int x10, Jv] [] h 0 0 Rt := WM_at (hs := HH_Ref_cell) G_Ref_cell 216 162 rfl ⟨fun c11 => ⟨(H.1 c11).1, ⟨(H.1 c11).1, (H.1 c11).2⟩⟩, fun c11 => ⟨(H.2 c11).1, ⟨(H.2 c11).1, ⟨((H.2 c11).2).1, ⟨(((H.2 c11).2).2).1, ⟨(H.2 c11).1, ⟨(H.2 c11).1, ⟨(H.2 c11).1, (((((H.2 c11).2).2).2 _ rfl) _ rfl)⟩⟩⟩⟩⟩⟩⟩⟩
set_option maxRecDepth 100000 in
set_option maxHeartbeats 4000000 in
theorem v_Ref_cell_6 (x0 : Nat) (x8 : Int32) (x10 : Int32) (s0 : Int32) (h : MH) (Rt : Value → MH → Prop) (H :
kd h x0 = 13 ∧
SpI k_Ref_keeps [.ref (mr h x0 3), .ref (mr h x0 30), .int x8] h (fun r3 g2 =>
(r3 = 0 →
WM k_Ref_cell p_Ref_cell_5 [.ref x0, Jv, Jv, Jv, Jv, Jv, Jv, Jv, .int x8, .int (s0 + (0 : Int32)), .int (x10 + (1 : Int32)), Jv] [] g2 0 0 Rt) ∧
(¬ r3 = 0 →
WM k_Ref_cell p_Ref_cell_5 [.ref x0, Jv, Jv, Jv, Jv, Jv, Jv, Jv, .int x8, .int (s0 + (1 : Int32)), .int (x10 + (1 : Int32)), Jv] [] g2 0 0 Rt))) : WM k_Ref_cell p_Ref_cell_6 [.ref x0, Jv, Jv, Jv, Jv, Jv, Jv, Jv, .int x8, Jv, .int x10, Jv] [.int s0] h 0 0 Rt := WM_at (hs := HH_Ref_cell) G_Ref_cell 216 184 rfl ⟨H.1, ⟨H.1, H.2⟩⟩
set_option maxRecDepth 100000 in
set_option maxHeartbeats 4000000 in
theorem v_Ho_cellAt (x0 : Nat) (x1 : Int32) (h : MH) (Rt : Value → MH → Prop) (H :
(x1.toInt < 0 →
Rt (.ref 0) h) ∧
(¬ x1.toInt < 0 →
kd h x0 = 12 ∧
(x1.toInt < (mi h x0 14).toInt →
kd h (mr h x0 13) = 25 ∧
InB x1 (ln h (mr h x0 13)) ∧
Rt (.ref (mr h (mr h x0 13) (ix x1))) h) ∧
(¬ x1.toInt < (mi h x0 14).toInt →
Rt (.ref 0) h))) : Sp k_Ho_cellAt [.ref x0, .int x1] h Rt := Sp_intro2 (by decide) (by decide +kernel) rfl (Nat.le_of_ble_eq_true rfl) (WM_at (hs := HH_Ho_cellAt) G_Ho_cellAt 14 0 rfl ⟨H.1, fun c4 => ⟨(H.2 c4).1, ⟨fun c5 => ⟨(H.2 c4).1, (((H.2 c4).2).1 c5)⟩, ((H.2 c4).2).2⟩⟩⟩)
set_option maxRecDepth 100000 in
set_option maxHeartbeats 4000000 in
theorem v_Ho_part (x0 : Int32) (x1 : Int32) (h : MH) (Rt : Value → MH → Prop) (H :
SpI k_Math_maxIII [.int x1, .int (1 : Int32)] h (fun r2 g1 =>
r2 ≠ 0 ∧
Rt (.int ((irm (x0 / r2) (3 : Int32)) - (1 : Int32))) g1)) : Sp k_Ho_part [.int x0, .int x1] h Rt := Sp_intro2 (by decide) (by decide +kernel) rfl (Nat.le_of_ble_eq_true rfl) (WM_at (hs := HH_Ho_part) G_Ho_part 11 0 rfl (SpI.mono H (fun r2 g1 qg1 => ⟨qg1.1, ⟨(by decide), qg1.2⟩⟩)))
set_option maxRecDepth 100000 in
set_option maxHeartbeats 4000000 in
theorem v_Form_square (x0 : Nat) (x1 : Int64) (x3 : Int64) (x5 : Int64) (h : MH) (Rt : Value → MH → Prop) (H :
kd h x0 = 3 ∧
Rt (.long ((((((((ml h x0 0) * x1) * x1) + (((ml h x0 1) * x3) * x3)) + (((ml h x0 2) * x5) * x5)) + (((ml h x0 3) * x3) * x5)) + (((ml h x0 4) * x1) * x5)) + (((ml h x0 5) * x1) * x3))) h) : Sp k_Form_square [.ref x0, .long x1, .long x3, .long x5] h Rt := Sp_intro2 (by decide) (by decide +kernel) rfl (Nat.le_of_ble_eq_true rfl) (WM_at (hs := HH_Form_square) G_Form_square 43 0 rfl ⟨H.1, ⟨H.1, ⟨H.1, ⟨H.1, ⟨H.1, ⟨H.1, H.2⟩⟩⟩⟩⟩⟩)
set_option maxRecDepth 100000 in
set_option maxHeartbeats 4000000 in
theorem v_Form_twice (x0 : Nat) (x1 : Int64) (x3 : Int64) (x5 : Int64) (x7 : Int64) (x9 : Int64) (x11 : Int64) (h : MH) (Rt : Value → MH → Prop) (H :
kd h x0 = 3 ∧
Rt (.long (((((2 : Int64) * (((((ml h x0 0) * x1) * x7) + (((ml h x0 1) * x3) * x9)) + (((ml h x0 2) * x5) * x11))) + ((ml h x0 3) * ((x3 * x11) + (x5 * x9)))) + ((ml h x0 4) * ((x1 * x11) + (x5 * x7)))) + ((ml h x0 5) * ((x1 * x9) + (x3 * x7))))) h) : Sp k_Form_twice [.ref x0, .long x1, .long x3, .long x5, .long x7, .long x9, .long x11] h Rt := Sp_intro2 (by decide) (by decide +kernel) rfl (Nat.le_of_ble_eq_true rfl) (WM_at (hs := HH_Form_twice) G_Form_twice 57 0 rfl ⟨H.1, ⟨H.1, ⟨H.1, ⟨H.1, ⟨H.1, ⟨H.1, H.2⟩⟩⟩⟩⟩⟩)
set_option maxRecDepth 100000 in
set_option maxHeartbeats 4000000 in
theorem v_Cell_twiceOf (x0 : Nat) (x1 : Int32) (x2 : Int32) (h : MH) (Rt : Value → MH → Prop) (H :
kd h x0 = 1 ∧
SpI k_Ho_part [.int x1, .int (9 : Int32)] h (fun r3 g2 =>
SpI k_Ho_part [.int x1, .int (3 : Int32)] g2 (fun r5 g4 =>
SpI k_Ho_part [.int x1, .int (1 : Int32)] g4 (fun r7 g6 =>
SpI k_Ho_part [.int x2, .int (9 : Int32)] g6 (fun r9 g8 =>
SpI k_Ho_part [.int x2, .int (3 : Int32)] g8 (fun r11 g10 =>
SpI k_Ho_part [.int x2, .int (1 : Int32)] g10 (fun r13 g12 =>
kd g12 (mr h x0 1) = 3 ∧
SpL k_Form_twice [.ref (mr h x0 1), .long r3.toInt64, .long r5.toInt64, .long r7.toInt64, .long r9.toInt64, .long r11.toInt64, .long r13.toInt64] g12 (fun r16 g14 =>
Rt (.long r16) g14)))))))) : Sp k_Cell_twiceOf [.ref x0, .int x1, .int x2] h Rt := Sp_intro2 (by decide) (by decide +kernel) rfl (Nat.le_of_ble_eq_true rfl) (WM_at (hs := HH_Cell_twiceOf) G_Cell_twiceOf 29 0 rfl H)
set_option maxRecDepth 100000 in
set_option maxHeartbeats 4000000 in
theorem v_Cell_countKeepingWith (x0 : Nat) (x1 : Int32) (h : MH) (Rt : Value → MH → Prop) (H :
WM k_Cell_countKeepingWith p_Cell_countKeepingWith_1 [.ref x0, .int x1, .int (0 : Int32), .int (0 : Int32), Jv] [] h 0 0 Rt) : Sp k_Cell_countKeepingWith [.ref x0, .int x1] h Rt := Sp_intro2 (by decide) (by decide +kernel) rfl (Nat.le_of_ble_eq_true rfl) (WM_at (hs := HH_Cell_countKeepingWith) G_Cell_countKeepingWith 87 0 rfl H)
set_option maxRecDepth 100000 in
set_option maxHeartbeats 4000000 in
theorem v_Cell_countKeepingWith_1 (x0 : Nat) (x1 : Int32) (x2 : Int32) (x3 : Int32) (h : MH) (Rt : Value → MH → Prop) (H :
(x3.toInt < (27 : Int32).toInt →
kd h x0 = 1 ∧
SpI k_Ho_part [.int x3, .int (9 : Int32)] h (fun r3 g2 =>
SpI k_Ho_part [.int x3, .int (3 : Int32)] g2 (fun r5 g4 =>
SpI k_Ho_part [.int x3, .int (1 : Int32)] g4 (fun r7 g6 =>
kd g6 (mr h x0 1) = 3 ∧
SpL k_Form_square [.ref (mr h x0 1), .long r3.toInt64, .long r5.toInt64, .long r7.toInt64] g6 (fun r10 g8 =>
kd g8 x0 = 1 ∧
kd g8 (mr g8 x0 1) = 3 ∧
((lg_cmp r10 (ml g8 (mr g8 x0 1) 1)) = 0 →
SpL k_Cell_twiceOf [.ref x0, .int x1, .int x3] g8 (fun r14 g13 =>
kd g13 x0 = 1 ∧
kd g13 (mr g13 x0 1) = 3 ∧
((lg_cmp r14 (ml g13 (mr g13 x0 1) 5)) = 0 →
WM k_Cell_countKeepingWith p_Cell_countKeepingWith_2 [.ref x0, .int x1, .int x2, .int x3, .int (0 : Int32)] [] g13 0 0 Rt) ∧
(¬ (lg_cmp r14 (ml g13 (mr g13 x0 1) 5)) = 0 →
WM k_Cell_countKeepingWith p_Cell_countKeepingWith_1 [.ref x0, .int x1, .int x2, .int (x3 + (1 : Int32)), Jv] [] g13 0 0 Rt))) ∧
(¬ (lg_cmp r10 (ml g8 (mr g8 x0 1) 1)) = 0 →
WM k_Cell_countKeepingWith p_Cell_countKeepingWith_1 [.ref x0, .int x1, .int x2, .int (x3 + (1 : Int32)), Jv] [] g8 0 0 Rt)))))) ∧
(¬ x3.toInt < (27 : Int32).toInt →
Rt (.int x2) h)) : WM k_Cell_countKeepingWith p_Cell_countKeepingWith_1 [.ref x0, .int x1, .int x2, .int x3, Jv] [] h 0 0 Rt := WM_at (hs := HH_Cell_countKeepingWith) G_Cell_countKeepingWith 87 4 rfl ⟨fun c17 => ⟨(H.1 c17).1, SpI.mono ((H.1 c17).2) (fun r3 g2 qg2 => SpI.mono qg2 (fun r5 g4 qg4 => SpI.mono qg4 (fun r7 g6 qg6 => ⟨qg6.1, SpL.mono qg6.2 (fun r10 g8 qg8 => ⟨qg8.1, ⟨qg8.2.1, ⟨fun c18 => ⟨qg8.1, (qg8.2.2.1 c18)⟩, qg8.2.2.2⟩⟩⟩)⟩)))⟩, H.2⟩
set_option maxRecDepth 100000 in
set_option maxHeartbeats 4000000 in
theorem v_Cell_countKeepingWith_2 (x0 : Nat) (x1 : Int32) (x2 : Int32) (x3 : Int32) (x4 : Int32) (h : MH) (Rt : Value → MH → Prop) (H :
(x4.toInt < (27 : Int32).toInt →
kd h x0 = 1 ∧
SpI k_Ho_part [.int x4, .int (9 : Int32)] h (fun r3 g2 =>
SpI k_Ho_part [.int x4, .int (3 : Int32)] g2 (fun r5 g4 =>
SpI k_Ho_part [.int x4, .int (1 : Int32)] g4 (fun r7 g6 =>
kd g6 (mr h x0 1) = 3 ∧
SpL k_Form_square [.ref (mr h x0 1), .long r3.toInt64, .long r5.toInt64, .long r7.toInt64] g6 (fun r10 g8 =>
kd g8 x0 = 1 ∧
kd g8 (mr g8 x0 1) = 3 ∧
((lg_cmp r10 (ml g8 (mr g8 x0 1) 2)) = 0 →
SpL k_Cell_twiceOf [.ref x0, .int x1, .int x4] g8 (fun r14 g13 =>
kd g13 x0 = 1 ∧
kd g13 (mr g13 x0 1) = 3 ∧
((lg_cmp r14 (ml g13 (mr g13 x0 1) 4)) = 0 →
SpL k_Cell_twiceOf [.ref x0, .int x3, .int x4] g13 (fun r18 g17 =>
kd g17 x0 = 1 ∧
kd g17 (mr g17 x0 1) = 3 ∧
((lg_cmp r18 (ml g17 (mr g17 x0 1) 3)) = 0 →
WM k_Cell_countKeepingWith p_Cell_countKeepingWith_2 [.ref x0, .int x1, .int (x2 + (1 : Int32)), .int x3, .int (x4 + (1 : Int32))] [] g17 0 0 Rt) ∧
(¬ (lg_cmp r18 (ml g17 (mr g17 x0 1) 3)) = 0 →
WM k_Cell_countKeepingWith p_Cell_countKeepingWith_2 [.ref x0, .int x1, .int x2, .int x3, .int (x4 + (1 : Int32))] [] g17 0 0 Rt))) ∧
(¬ (lg_cmp r14 (ml g13 (mr g13 x0 1) 4)) = 0 →
WM k_Cell_countKeepingWith p_Cell_countKeepingWith_2 [.ref x0, .int x1, .int x2, .int x3, .int (x4 + (1 : Int32))] [] g13 0 0 Rt))) ∧
(¬ (lg_cmp r10 (ml g8 (mr g8 x0 1) 2)) = 0 →
WM k_Cell_countKeepingWith p_Cell_countKeepingWith_2 [.ref x0, .int x1, .int x2, .int x3, .int (x4 + (1 : Int32))] [] g8 0 0 Rt)))))) ∧
(¬ x4.toInt < (27 : Int32).toInt →
WM k_Cell_countKeepingWith p_Cell_countKeepingWith_1 [.ref x0, .int x1, .int x2, .int (x3 + (1 : Int32)), Jv] [] h 0 0 Rt)) : WM k_Cell_countKeepingWith p_Cell_countKeepingWith_2 [.ref x0, .int x1, .int x2, .int x3, .int x4] [] h 0 0 Rt := WM_at (hs := HH_Cell_countKeepingWith) G_Cell_countKeepingWith 87 38 rfl ⟨fun c21 => ⟨(H.1 c21).1, SpI.mono ((H.1 c21).2) (fun r3 g2 qg2 => SpI.mono qg2 (fun r5 g4 qg4 => SpI.mono qg4 (fun r7 g6 qg6 => ⟨qg6.1, SpL.mono qg6.2 (fun r10 g8 qg8 => ⟨qg8.1, ⟨qg8.2.1, ⟨fun c22 => ⟨qg8.1, SpL.mono (qg8.2.2.1 c22) (fun r14 g13 qg13 => ⟨qg13.1, ⟨qg13.2.1, ⟨fun c23 => ⟨qg13.1, (qg13.2.2.1 c23)⟩, qg13.2.2.2⟩⟩⟩)⟩, qg8.2.2.2⟩⟩⟩)⟩)))⟩, H.2⟩
set_option maxRecDepth 100000 in
set_option maxHeartbeats 4000000 in
theorem v_Cell_countKeeping (x0 : Nat) (h : MH) (Rt : Value → MH → Prop) (H :
kd h x0 = 1 ∧
((mi h x0 5) = (-1 : Int32) →
∀ g2 : MH, g2 = wi h x0 5 (0 : Int32) →
WM k_Cell_countKeeping p_Cell_countKeeping_1 [.ref x0, .int (0 : Int32)] [] g2 0 0 Rt) ∧
(¬ (mi h x0 5) = (-1 : Int32) →
Rt (.int (mi h x0 5)) h)) : Sp k_Cell_countKeeping [.ref x0] h Rt := Sp_intro2 (by decide) (by decide +kernel) rfl (Nat.le_of_ble_eq_true rfl) (WM_at (hs := HH_Cell_countKeeping) G_Cell_countKeeping 46 0 rfl ⟨H.1, ⟨fun c3 => ⟨H.1, ((H.2.1 c3) _ rfl)⟩, fun c3 => ⟨H.1, (H.2.2 c3)⟩⟩⟩)
set_option maxRecDepth 100000 in
set_option maxHeartbeats 4000000 in
theorem v_Cell_countKeeping_1 (x0 : Nat) (x1 : Int32) (h : MH) (Rt : Value → MH → Prop) (H :
(x1.toInt < (27 : Int32).toInt →
kd h x0 = 1 ∧
SpI k_Ho_part [.int x1, .int (9 : Int32)] h (fun r4 g3 =>
SpI k_Ho_part [.int x1, .int (3 : Int32)] g3 (fun r6 g5 =>
SpI k_Ho_part [.int x1, .int (1 : Int32)] g5 (fun r8 g7 =>
kd g7 (mr h x0 1) = 3 ∧
SpL k_Form_square [.ref (mr h x0 1), .long r4.toInt64, .long r6.toInt64, .long r8.toInt64] g7 (fun r11 g9 =>
kd g9 x0 = 1 ∧
kd g9 (mr g9 x0 1) = 3 ∧
((lg_cmp r11 (ml g9 (mr g9 x0 1) 0)) = 0 →
SpI k_Cell_countKeepingWith [.ref x0, .int x1] g9 (fun r15 g14 =>
kd g14 x0 = 1 ∧
∀ g17 : MH, g17 = wi g14 x0 5 ((mi g9 x0 5) + r15) →
WM k_Cell_countKeeping p_Cell_countKeeping_1 [.ref x0, .int (x1 + (1 : Int32))] [] g17 0 0 Rt)) ∧
(¬ (lg_cmp r11 (ml g9 (mr g9 x0 1) 0)) = 0 →
WM k_Cell_countKeeping p_Cell_countKeeping_1 [.ref x0, .int (x1 + (1 : Int32))] [] g9 0 0 Rt)))))) ∧
(¬ x1.toInt < (27 : Int32).toInt →
kd h x0 = 1 ∧
Rt (.int (mi h x0 5)) h)) : WM k_Cell_countKeeping p_Cell_countKeeping_1 [.ref x0, .int x1] [] h 0 0 Rt := WM_at (hs := HH_Cell_countKeeping) G_Cell_countKeeping 46 9 rfl ⟨fun c18 => ⟨(H.1 c18).1, SpI.mono ((H.1 c18).2) (fun r4 g3 qg3 => SpI.mono qg3 (fun r6 g5 qg5 => SpI.mono qg5 (fun r8 g7 qg7 => ⟨qg7.1, SpL.mono qg7.2 (fun r11 g9 qg9 => ⟨qg9.1, ⟨qg9.2.1, ⟨fun c19 => ⟨qg9.1, ⟨qg9.1, SpI.mono (qg9.2.2.1 c19) (fun r15 g14 qg14 => ⟨qg14.1, (qg14.2 _ rfl)⟩)⟩⟩, qg9.2.2.2⟩⟩⟩)⟩)))⟩, H.2⟩
set_option maxRecDepth 100000 in
set_option maxHeartbeats 4000000 in
theorem v_Form_determinant (x0 : Nat) (h : MH) (Rt : Value → MH → Prop) (H :
kd h x0 = 3 ∧
SpL k_Form_determinantOf [.long (ml h x0 0), .long (ml h x0 1), .long (ml h x0 2), .long ((ml h x0 3) / (2 : Int64)), .long ((ml h x0 4) / (2 : Int64)), .long ((ml h x0 5) / (2 : Int64))] h (fun r3 g2 =>
Rt (.long r3) g2)) : Sp k_Form_determinant [.ref x0] h Rt := Sp_intro2 (by decide) (by decide +kernel) rfl (Nat.le_of_ble_eq_true rfl) (WM_at (hs := HH_Form_determinant) G_Form_determinant 21 0 rfl ⟨H.1, ⟨H.1, ⟨H.1, ⟨H.1, ⟨(by decide), ⟨H.1, ⟨(by decide), ⟨H.1, ⟨(by decide), H.2⟩⟩⟩⟩⟩⟩⟩⟩⟩)
set_option maxRecDepth 100000 in
set_option maxHeartbeats 4000000 in
theorem v_Form_number (x0 : Nat) (x1 : Int32) (h : MH) (Rt : Value → MH → Prop) (H :
(x1 = (0 : Int32) →
kd h x0 = 3 ∧
Rt (.long (ml h x0 0)) h) ∧
(¬ x1 = (0 : Int32) →
(x1 = (1 : Int32) →
kd h x0 = 3 ∧
Rt (.long (ml h x0 1)) h) ∧
(¬ x1 = (1 : Int32) →
(x1 = (2 : Int32) →
kd h x0 = 3 ∧
Rt (.long (ml h x0 2)) h) ∧
(¬ x1 = (2 : Int32) →
(x1 = (3 : Int32) →
kd h x0 = 3 ∧
Rt (.long ((ml h x0 3) / (2 : Int64))) h) ∧
(¬ x1 = (3 : Int32) →
(x1 = (4 : Int32) →
kd h x0 = 3 ∧
Rt (.long ((ml h x0 4) / (2 : Int64))) h) ∧
(¬ x1 = (4 : Int32) →
(x1 = (5 : Int32) →
kd h x0 = 3 ∧
Rt (.long ((ml h x0 5) / (2 : Int64))) h) ∧
(¬ x1 = (5 : Int32) →
Rt (.long (0 : Int64)) h))))))) : Sp k_Form_number [.ref x0, .int x1] h Rt := Sp_intro2 (by decide) (by decide +kernel) rfl (Nat.le_of_ble_eq_true rfl) (WM_at (hs := HH_Form_number) G_Form_number 29 0 rfl ⟨H.1, fun c7 => ⟨(H.2 c7).1, fun c8 => ⟨((H.2 c7).2 c8).1, fun c9 => ⟨fun c10 => ⟨((((H.2 c7).2 c8).2 c9).1 c10).1, ⟨(by decide), ((((H.2 c7).2 c8).2 c9).1 c10).2⟩⟩, fun c10 => ⟨fun c11 => ⟨(((((H.2 c7).2 c8).2 c9).2 c10).1 c11).1, ⟨(by decide), (((((H.2 c7).2 c8).2 c9).2 c10).1 c11).2⟩⟩, fun c11 => ⟨fun c12 => ⟨((((((H.2 c7).2 c8).2 c9).2 c10).2 c11).1 c12).1, ⟨(by decide), ((((((H.2 c7).2 c8).2 c9).2 c10).2 c11).1 c12).2⟩⟩, (((((H.2 c7).2 c8).2 c9).2 c10).2 c11).2⟩⟩⟩⟩⟩⟩)
set_option maxRecDepth 100000 in
set_option maxHeartbeats 4000000 in
theorem v_Ho_reduced (x0 : Nat) (x1 : Int32) (x2 : Int32) (h : MH) (Rt : Value → MH → Prop) (H :
kd h x0 = 12 ∧
SpR k_Ho_cellAt [.ref x0, .int x1] h (fun r3 g1 =>
(r3 = 0 →
Rt (.long (0 : Int64)) g1) ∧
(¬ r3 = 0 →
(x2.toInt < 0 →
Rt (.long (0 : Int64)) g1) ∧
(¬ x2.toInt < 0 →
((7 : Int32).toInt < x2.toInt →
Rt (.long (0 : Int64)) g1) ∧
(¬ (7 : Int32).toInt < x2.toInt →
(x2 = (6 : Int32) →
kd g1 r3 = 1 ∧
SpI k_Cell_countKeeping [.ref r3] g1 (fun r14 g12 =>
Rt (.long r14.toInt64) g12)) ∧
(¬ x2 = (6 : Int32) →
(x2 = (7 : Int32) →
kd g1 r3 = 1 ∧
kd g1 (mr g1 r3 0) = 3 ∧
SpL k_Form_determinant [.ref (mr g1 r3 0)] g1 (fun r11 g9 =>
Rt (.long r11) g9)) ∧
(¬ x2 = (7 : Int32) →
kd g1 r3 = 1 ∧
kd g1 (mr g1 r3 1) = 3 ∧
SpL k_Form_number [.ref (mr g1 r3 1), .int x2] g1 (fun r7 g5 =>
Rt (.long r7) g5)))))))) : Sp k_Ho_reduced [.ref x0, .int x1, .int x2] h Rt := Sp_intro2 (by decide) (by decide +kernel) rfl (Nat.le_of_ble_eq_true rfl) (WM_at (hs := HH_Ho_reduced) G_Ho_reduced 33 0 rfl H)
set_option maxRecDepth 100000 in
set_option maxHeartbeats 4000000 in
theorem v_Ref_isCell (x0 : Nat) (x1 : Int32) (h : MH) (Rt : Value → MH → Prop) (H :
(x1.toInt < 0 →
Rt (.int (0 : Int32)) h) ∧
(¬ x1.toInt < 0 →
kd h x0 = 13 ∧
(x1.toInt < (mi h x0 32).toInt →
Rt (.int (1 : Int32)) h) ∧
(¬ x1.toInt < (mi h x0 32).toInt →
Rt (.int (0 : Int32)) h))) : Sp k_Ref_isCell [.ref x0, .int x1] h Rt := Sp_intro2 (by decide) (by decide +kernel) rfl (Nat.le_of_ble_eq_true rfl) (WM_at (hs := HH_Ref_isCell) G_Ref_isCell 11 0 rfl ⟨fun c2 => ⟨(Or.inl rfl), (H.1 c2)⟩, fun c2 => ⟨(H.2 c2).1, ⟨fun c3 => ⟨(Or.inr rfl), (((H.2 c2).2).1 c3)⟩, fun c3 => ⟨(Or.inl rfl), (((H.2 c2).2).2 c3)⟩⟩⟩⟩)
set_option maxRecDepth 100000 in
set_option maxHeartbeats 4000000 in
theorem v_Ref_reduced (x0 : Nat) (x1 : Int32) (x2 : Int32) (h : MH) (Rt : Value → MH → Prop) (H :
kd h x0 = 13 ∧
SpI k_Ref_isCell [.ref x0, .int x1] h (fun r3 g1 =>
(r3 = 0 →
Rt (.long (0 : Int64)) g1) ∧
(¬ r3 = 0 →
(x2.toInt < 0 →
Rt (.long (0 : Int64)) g1) ∧
(¬ x2.toInt < 0 →
((7 : Int32).toInt < x2.toInt →
Rt (.long (0 : Int64)) g1) ∧
(¬ (7 : Int32).toInt < x2.toInt →
(x2.toInt < (6 : Int32).toInt →
kd g1 x0 = 13 ∧
kd g1 (mr g1 x0 30) = 21 ∧
InB (((6 : Int32) * x1) + x2) (ln g1 (mr g1 x0 30)) ∧
Rt (.long (ml g1 (mr g1 x0 30) (ix (((6 : Int32) * x1) + x2)))) g1) ∧
(¬ x2.toInt < (6 : Int32).toInt →
(x2 = (6 : Int32) →
kd g1 x0 = 13 ∧
kd g1 (mr g1 x0 31) = 20 ∧
InB x1 (ln g1 (mr g1 x0 31)) ∧
Rt (.long ((mi g1 (mr g1 x0 31) (ix x1)).toInt64)) g1) ∧
(¬ x2 = (6 : Int32) →
kd g1 x0 = 13 ∧
SpL k_Ref_determinantOf [.ref (mr g1 x0 30), .int ((6 : Int32) * x1)] g1 (fun r6 g5 =>
Rt (.long r6) g5)))))))) : Sp k_Ref_reduced [.ref x0, .int x1, .int x2] h Rt := Sp_intro2 (by decide) (by decide +kernel) rfl (Nat.le_of_ble_eq_true rfl) (WM_at (hs := HH_Ref_reduced) G_Ref_reduced 40 0 rfl H)
set_option maxRecDepth 100000 in
set_option maxHeartbeats 4000000 in
theorem v_Form_keptBy (x0 : Nat) (x1 : Nat) (h : MH) (Rt : Value → MH → Prop) (H :
kd h x1 = 20 ∧
((Int32.ofNat (ln h x1)).toInt < (9 : Int32).toInt →
Rt (.int (0 : Int32)) h) ∧
(¬ (Int32.ofNat (ln h x1)).toInt < (9 : Int32).toInt →
InB (0 : Int32) (ln h x1) ∧
InB (3 : Int32) (ln h x1) ∧
InB (6 : Int32) (ln h x1) ∧
kd h x0 = 3 ∧
SpL k_Form_square [.ref x0, .long ((mi h x1 (ix (0 : Int32))).toInt64), .long ((mi h x1 (ix (3 : Int32))).toInt64), .long ((mi h x1 (ix (6 : Int32))).toInt64)] h (fun r7 g5 =>
kd g5 x0 = 3 ∧
((lg_cmp r7 (ml g5 x0 0)) = 0 →
kd g5 x1 = 20 ∧
InB (1 : Int32) (ln g5 x1) ∧
InB (4 : Int32) (ln g5 x1) ∧
InB (7 : Int32) (ln g5 x1) ∧
SpL k_Form_square [.ref x0, .long ((mi g5 x1 (ix (1 : Int32))).toInt64), .long ((mi g5 x1 (ix (4 : Int32))).toInt64), .long ((mi g5 x1 (ix (7 : Int32))).toInt64)] g5 (fun r14 g13 =>
kd g13 x0 = 3 ∧
((lg_cmp r14 (ml g13 x0 1)) = 0 →
kd g13 x1 = 20 ∧
InB (2 : Int32) (ln g13 x1) ∧
InB (5 : Int32) (ln g13 x1) ∧
InB (8 : Int32) (ln g13 x1) ∧
SpL k_Form_square [.ref x0, .long ((mi g13 x1 (ix (2 : Int32))).toInt64), .long ((mi g13 x1 (ix (5 : Int32))).toInt64), .long ((mi g13 x1 (ix (8 : Int32))).toInt64)] g13 (fun r21 g20 =>
kd g20 x0 = 3 ∧
((lg_cmp r21 (ml g20 x0 2)) = 0 →
kd g20 x1 = 20 ∧
InB (1 : Int32) (ln g20 x1) ∧
InB (4 : Int32) (ln g20 x1) ∧
InB (7 : Int32) (ln g20 x1) ∧
InB (2 : Int32) (ln g20 x1) ∧
InB (5 : Int32) (ln g20 x1) ∧
InB (8 : Int32) (ln g20 x1) ∧
SpL k_Form_twice [.ref x0, .long ((mi g20 x1 (ix (1 : Int32))).toInt64), .long ((mi g20 x1 (ix (4 : Int32))).toInt64), .long ((mi g20 x1 (ix (7 : Int32))).toInt64), .long ((mi g20 x1 (ix (2 : Int32))).toInt64), .long ((mi g20 x1 (ix (5 : Int32))).toInt64), .long ((mi g20 x1 (ix (8 : Int32))).toInt64)] g20 (fun r31 g30 =>
kd g30 x0 = 3 ∧
((lg_cmp r31 (ml g30 x0 3)) = 0 →
WM k_Form_keptBy p_Form_keptBy_1 [.ref x0, .ref x1] [] g30 0 0 Rt) ∧
(¬ (lg_cmp r31 (ml g30 x0 3)) = 0 →
Rt (.int (0 : Int32)) g30))) ∧
(¬ (lg_cmp r21 (ml g20 x0 2)) = 0 →
Rt (.int (0 : Int32)) g20))) ∧
(¬ (lg_cmp r14 (ml g13 x0 1)) = 0 →
Rt (.int (0 : Int32)) g13))) ∧
(¬ (lg_cmp r7 (ml g5 x0 0)) = 0 →
Rt (.int (0 : Int32)) g5)))) : Sp k_Form_keptBy [.ref x0, .ref x1] h Rt := Sp_intro2 (by decide) (by decide +kernel) rfl (Nat.le_of_ble_eq_true rfl) (WM_at (hs := HH_Form_keptBy) G_Form_keptBy 153 0 rfl ⟨H.1, ⟨fun c33 => ⟨(Or.inl rfl), (H.2.1 c33)⟩, fun c33 => ⟨H.1, ⟨(H.2.2 c33).1, ⟨H.1, ⟨((H.2.2 c33).2).1, ⟨H.1, ⟨(((H.2.2 c33).2).2).1, ⟨((((H.2.2 c33).2).2).2).1, SpL.mono (((((H.2.2 c33).2).2).2).2) (fun r7 g5 qg5 => ⟨qg5.1, ⟨fun c34 => ⟨(qg5.2.1 c34).1, ⟨((qg5.2.1 c34).2).1, ⟨(qg5.2.1 c34).1, ⟨(((qg5.2.1 c34).2).2).1, ⟨(qg5.2.1 c34).1, ⟨((((qg5.2.1 c34).2).2).2).1, ⟨qg5.1, SpL.mono (((((qg5.2.1 c34).2).2).2).2) (fun r14 g13 qg13 => ⟨qg13.1, ⟨fun c35 => ⟨(qg13.2.1 c35).1, ⟨((qg13.2.1 c35).2).1, ⟨(qg13.2.1 c35).1, ⟨(((qg13.2.1 c35).2).2).1, ⟨(qg13.2.1 c35).1, ⟨((((qg13.2.1 c35).2).2).2).1, ⟨qg13.1, SpL.mono (((((qg13.2.1 c35).2).2).2).2) (fun r21 g20 qg20 => ⟨qg20.1, ⟨fun c36 => ⟨(qg20.2.1 c36).1, ⟨((qg20.2.1 c36).2).1, ⟨(qg20.2.1 c36).1, ⟨(((qg20.2.1 c36).2).2).1, ⟨(qg20.2.1 c36).1, ⟨((((qg20.2.1 c36).2).2).2).1, ⟨(qg20.2.1 c36).1, ⟨(((((qg20.2.1 c36).2).2).2).2).1, ⟨(qg20.2.1 c36).1, ⟨((((((qg20.2.1 c36).2).2).2).2).2).1, ⟨(qg20.2.1 c36).1, ⟨(((((((qg20.2.1 c36).2).2).2).2).2).2).1, ⟨qg20.1, SpL.mono ((((((((qg20.2.1 c36).2).2).2).2).2).2).2) (fun r31 g30 qg30 => ⟨qg30.1, ⟨qg30.2.1, fun c37 => ⟨(Or.inl rfl), (qg30.2.2 c37)⟩⟩⟩)⟩⟩⟩⟩⟩⟩⟩⟩⟩⟩⟩⟩⟩, fun c36 => ⟨(Or.inl rfl), (qg20.2.2 c36)⟩⟩⟩)⟩⟩⟩⟩⟩⟩⟩, fun c35 => ⟨(Or.inl rfl), (qg13.2.2 c35)⟩⟩⟩)⟩⟩⟩⟩⟩⟩⟩, fun c34 => ⟨(Or.inl rfl), (qg5.2.2 c34)⟩⟩⟩)⟩⟩⟩⟩⟩⟩⟩⟩⟩)
set_option maxRecDepth 100000 in
set_option maxHeartbeats 4000000 in
theorem v_Form_keptBy_1 (x0 : Nat) (x1 : Nat) (h : MH) (Rt : Value → MH → Prop) (H :
kd h x1 = 20 ∧
InB (0 : Int32) (ln h x1) ∧
InB (3 : Int32) (ln h x1) ∧
InB (6 : Int32) (ln h x1) ∧
InB (2 : Int32) (ln h x1) ∧
InB (5 : Int32) (ln h x1) ∧
InB (8 : Int32) (ln h x1) ∧
kd h x0 = 3 ∧
SpL k_Form_twice [.ref x0, .long ((mi h x1 (ix (0 : Int32))).toInt64), .long ((mi h x1 (ix (3 : Int32))).toInt64), .long ((mi h x1 (ix (6 : Int32))).toInt64), .long ((mi h x1 (ix (2 : Int32))).toInt64), .long ((mi h x1 (ix (5 : Int32))).toInt64), .long ((mi h x1 (ix (8 : Int32))).toInt64)] h (fun r10 g8 =>
kd g8 x0 = 3 ∧
((lg_cmp r10 (ml g8 x0 4)) = 0 →
kd g8 x1 = 20 ∧
InB (0 : Int32) (ln g8 x1) ∧
InB (3 : Int32) (ln g8 x1) ∧
InB (6 : Int32) (ln g8 x1) ∧
InB (1 : Int32) (ln g8 x1) ∧
InB (4 : Int32) (ln g8 x1) ∧
InB (7 : Int32) (ln g8 x1) ∧
SpL k_Form_twice [.ref x0, .long ((mi g8 x1 (ix (0 : Int32))).toInt64), .long ((mi g8 x1 (ix (3 : Int32))).toInt64), .long ((mi g8 x1 (ix (6 : Int32))).toInt64), .long ((mi g8 x1 (ix (1 : Int32))).toInt64), .long ((mi g8 x1 (ix (4 : Int32))).toInt64), .long ((mi g8 x1 (ix (7 : Int32))).toInt64)] g8 (fun r20 g19 =>
kd g19 x0 = 3 ∧
((lg_cmp r20 (ml g19 x0 5)) = 0 →
WM k_Form_keptBy p_Form_keptBy_2 [Jv, Jv] [] g19 0 0 Rt) ∧
(¬ (lg_cmp r20 (ml g19 x0 5)) = 0 →
Rt (.int (0 : Int32)) g19))) ∧
(¬ (lg_cmp r10 (ml g8 x0 4)) = 0 →
Rt (.int (0 : Int32)) g8))) : WM k_Form_keptBy p_Form_keptBy_1 [.ref x0, .ref x1] [] h 0 0 Rt := WM_at (hs := HH_Form_keptBy) G_Form_keptBy 153 88 rfl ⟨H.1, ⟨H.2.1, ⟨H.1, ⟨H.2.2.1, ⟨H.1, ⟨H.2.2.2.1, ⟨H.1, ⟨H.2.2.2.2.1, ⟨H.1, ⟨H.2.2.2.2.2.1, ⟨H.1, ⟨H.2.2.2.2.2.2.1, ⟨H.2.2.2.2.2.2.2.1, SpL.mono H.2.2.2.2.2.2.2.2 (fun r10 g8 qg8 => ⟨qg8.1, ⟨fun c22 => ⟨(qg8.2.1 c22).1, ⟨((qg8.2.1 c22).2).1, ⟨(qg8.2.1 c22).1, ⟨(((qg8.2.1 c22).2).2).1, ⟨(qg8.2.1 c22).1, ⟨((((qg8.2.1 c22).2).2).2).1, ⟨(qg8.2.1 c22).1, ⟨(((((qg8.2.1 c22).2).2).2).2).1, ⟨(qg8.2.1 c22).1, ⟨((((((qg8.2.1 c22).2).2).2).2).2).1, ⟨(qg8.2.1 c22).1, ⟨(((((((qg8.2.1 c22).2).2).2).2).2).2).1, ⟨qg8.1, SpL.mono ((((((((qg8.2.1 c22).2).2).2).2).2).2).2) (fun r20 g19 qg19 => ⟨qg19.1, ⟨qg19.2.1, fun c23 => ⟨(Or.inl rfl), (qg19.2.2 c23)⟩⟩⟩)⟩⟩⟩⟩⟩⟩⟩⟩⟩⟩⟩⟩⟩, fun c22 => ⟨(Or.inl rfl), (qg8.2.2 c22)⟩⟩⟩)⟩⟩⟩⟩⟩⟩⟩⟩⟩⟩⟩⟩⟩
set_option maxRecDepth 100000 in
set_option maxHeartbeats 4000000 in
theorem v_Form_keptBy_2  (h : MH) (Rt : Value → MH → Prop) (H :
Rt (.int (1 : Int32)) h) : WM k_Form_keptBy p_Form_keptBy_2 [Jv, Jv] [] h 0 0 Rt := WM_at (hs := HH_Form_keptBy) G_Form_keptBy 153 148 rfl ⟨(Or.inr rfl), H⟩
set_option maxRecDepth 100000 in
set_option maxHeartbeats 4000000 in
theorem v_Ho_keptBy (x0 : Nat) (x1 : Nat) (x2 : Nat) (h : MH) (Rt : Value → MH → Prop) (H :
WM k_Ho_keptBy p_Ho_keptBy_1 [.ref x0, .ref x1, .ref x2, .int (0 : Int32)] [] h 0 0 Rt) : Sp k_Ho_keptBy [.ref x0, .ref x1, .ref x2] h Rt := Sp_intro2 (by decide) (by decide +kernel) rfl (Nat.le_of_ble_eq_true rfl) (WM_at (hs := HH_Ho_keptBy) G_Ho_keptBy 28 0 rfl H)
set_option maxRecDepth 100000 in
set_option maxHeartbeats 4000000 in
theorem v_Ho_keptBy_1 (x0 : Nat) (x1 : Nat) (x2 : Nat) (x3 : Int32) (h : MH) (Rt : Value → MH → Prop) (H :
kd h x1 = 4 ∧
kd h (mr h x1 1) = 20 ∧
(x3.toInt < (Int32.ofNat (ln h (mr h x1 1))).toInt →
kd h x0 = 12 ∧
InB x3 (ln h (mr h x1 1)) ∧
kd h (mr h x0 9) = 7 ∧
SpV k_Motion_open [.ref (mr h x0 9), .int (mi h (mr h x1 1) (ix x3))] h (fun g5 =>
kd g5 x2 = 1 ∧
kd g5 x0 = 12 ∧
kd g5 (mr g5 x0 9) = 7 ∧
kd g5 (mr g5 x2 0) = 3 ∧
SpI k_Form_keptBy [.ref (mr g5 x2 0), .ref (mr g5 (mr g5 x0 9) 0)] g5 (fun r12 g10 =>
(r12 = 0 →
Rt (.int (0 : Int32)) g10) ∧
(¬ r12 = 0 →
WM k_Ho_keptBy p_Ho_keptBy_1 [.ref x0, .ref x1, .ref x2, .int (x3 + (1 : Int32))] [] g10 0 0 Rt)))) ∧
(¬ x3.toInt < (Int32.ofNat (ln h (mr h x1 1))).toInt →
Rt (.int (1 : Int32)) h)) : WM k_Ho_keptBy p_Ho_keptBy_1 [.ref x0, .ref x1, .ref x2, .int x3] [] h 0 0 Rt := WM_at (hs := HH_Ho_keptBy) G_Ho_keptBy 28 2 rfl ⟨H.1, ⟨H.2.1, ⟨fun c13 => ⟨(H.2.2.1 c13).1, ⟨H.1, ⟨H.2.1, ⟨((H.2.2.1 c13).2).1, ⟨(((H.2.2.1 c13).2).2).1, SpV.mono ((((H.2.2.1 c13).2).2).2) (fun g5 qg5 => ⟨qg5.1, ⟨qg5.2.1, ⟨qg5.2.2.1, ⟨qg5.2.2.2.1, SpI.mono qg5.2.2.2.2 (fun r12 g10 qg10 => ⟨fun c14 => ⟨(Or.inl rfl), (qg10.1 c14)⟩, qg10.2⟩)⟩⟩⟩⟩)⟩⟩⟩⟩⟩, fun c13 => ⟨(Or.inr rfl), (H.2.2.2 c13)⟩⟩⟩⟩
set_option maxRecDepth 100000 in
set_option maxHeartbeats 4000000 in
theorem v_Ho_fits (x0 : Nat) (x1 : Int32) (x2 : Int32) (h : MH) (Rt : Value → MH → Prop) (H :
kd h x0 = 12 ∧
SpR k_Ho_groupAt [.ref x0, .int x1] h (fun r3 g1 =>
kd g1 x0 = 12 ∧
SpR k_Ho_cellAt [.ref x0, .int x2] g1 (fun r6 g4 =>
(r3 = 0 →
Rt (.int (0 : Int32)) g4) ∧
(¬ r3 = 0 →
(r6 = 0 →
Rt (.int (0 : Int32)) g4) ∧
(¬ r6 = 0 →
kd g4 x0 = 12 ∧
SpI k_Ho_keptBy [.ref x0, .ref r3, .ref r6] g4 (fun r9 g7 =>
(r9 = 0 →
Rt (.int (0 : Int32)) g7) ∧
(¬ r9 = 0 →
Rt (.int (1 : Int32)) g7))))))) : Sp k_Ho_fits [.ref x0, .int x1, .int x2] h Rt := Sp_intro2 (by decide) (by decide +kernel) rfl (Nat.le_of_ble_eq_true rfl) (WM_at (hs := HH_Ho_fits) G_Ho_fits 22 0 rfl ⟨H.1, SpR.mono H.2 (fun r3 g1 qg1 => ⟨qg1.1, SpR.mono qg1.2 (fun r6 g4 qg4 => ⟨fun c10 => ⟨(Or.inl rfl), (qg4.1 c10)⟩, fun c10 => ⟨fun c11 => ⟨(Or.inl rfl), ((qg4.2 c10).1 c11)⟩, fun c11 => ⟨((qg4.2 c10).2 c11).1, SpI.mono (((qg4.2 c10).2 c11).2) (fun r9 g7 qg7 => ⟨fun c12 => ⟨(Or.inl rfl), (qg7.1 c12)⟩, fun c12 => ⟨(Or.inr rfl), (qg7.2 c12)⟩⟩)⟩⟩⟩)⟩)⟩)
set_option maxRecDepth 100000 in
set_option maxHeartbeats 4000000 in
theorem v_Ref_fits (x0 : Nat) (x1 : Int32) (x2 : Int32) (h : MH) (Rt : Value → MH → Prop) (H :
kd h x0 = 13 ∧
SpI k_Ref_isGroup [.ref x0, .int x1] h (fun r3 g1 =>
(r3 = 0 →
Rt (.int (0 : Int32)) g1) ∧
(¬ r3 = 0 →
kd g1 x0 = 13 ∧
SpI k_Ref_isCell [.ref x0, .int x2] g1 (fun r6 g4 =>
(r6 = 0 →
Rt (.int (0 : Int32)) g4) ∧
(¬ r6 = 0 →
WM k_Ref_fits p_Ref_fits_1 [.ref x0, .int x1, .int x2, .int (0 : Int32)] [] g4 0 0 Rt))))) : Sp k_Ref_fits [.ref x0, .int x1, .int x2] h Rt := Sp_intro2 (by decide) (by decide +kernel) rfl (Nat.le_of_ble_eq_true rfl) (WM_at (hs := HH_Ref_fits) G_Ref_fits 47 0 rfl ⟨H.1, SpI.mono H.2 (fun r3 g1 qg1 => ⟨fun c7 => ⟨(Or.inl rfl), (qg1.1 c7)⟩, fun c7 => ⟨(qg1.2 c7).1, SpI.mono ((qg1.2 c7).2) (fun r6 g4 qg4 => ⟨fun c8 => ⟨(Or.inl rfl), (qg4.1 c8)⟩, qg4.2⟩)⟩⟩)⟩)
set_option maxRecDepth 100000 in
set_option maxHeartbeats 4000000 in
theorem v_Ref_fits_1 (x0 : Nat) (x1 : Int32) (x2 : Int32) (x3 : Int32) (h : MH) (Rt : Value → MH → Prop) (H :
kd h x0 = 13 ∧
kd h (mr h x0 16) = 20 ∧
InB x1 (ln h (mr h x0 16)) ∧
(x3.toInt < (mi h (mr h x0 16) (ix x1)).toInt →
kd h (mr h x0 15) = 20 ∧
InB (((192 : Int32) * x1) + x3) (ln h (mr h x0 15)) ∧
SpV k_Ref_open [.int (mi h (mr h x0 15) (ix (((192 : Int32) * x1) + x3))), .ref (mr h x0 3), .ref (mr h x0 4)] h (fun g6 =>
kd g6 x0 = 13 ∧
SpI k_Ref_keeps [.ref (mr g6 x0 3), .ref (mr g6 x0 29), .int ((6 : Int32) * x2)] g6 (fun r9 g8 =>
(r9 = 0 →
Rt (.int (0 : Int32)) g8) ∧
(¬ r9 = 0 →
WM k_Ref_fits p_Ref_fits_1 [.ref x0, .int x1, .int x2, .int (x3 + (1 : Int32))] [] g8 0 0 Rt)))) ∧
(¬ x3.toInt < (mi h (mr h x0 16) (ix x1)).toInt →
Rt (.int (1 : Int32)) h)) : WM k_Ref_fits p_Ref_fits_1 [.ref x0, .int x1, .int x2, .int x3] [] h 0 0 Rt := WM_at (hs := HH_Ref_fits) G_Ref_fits 47 12 rfl ⟨H.1, ⟨H.2.1, ⟨H.2.2.1, ⟨fun c10 => ⟨H.1, ⟨(H.2.2.2.1 c10).1, ⟨((H.2.2.2.1 c10).2).1, ⟨H.1, ⟨H.1, SpV.mono (((H.2.2.2.1 c10).2).2) (fun g6 qg6 => ⟨qg6.1, ⟨qg6.1, SpI.mono qg6.2 (fun r9 g8 qg8 => ⟨fun c11 => ⟨(Or.inl rfl), (qg8.1 c11)⟩, qg8.2⟩)⟩⟩)⟩⟩⟩⟩⟩, fun c10 => ⟨(Or.inr rfl), (H.2.2.2.2 c10)⟩⟩⟩⟩⟩
set_option maxRecDepth 100000 in
set_option maxHeartbeats 4000000 in
theorem v_Long_compare (x0 : Int64) (x2 : Int64) (h : MH) (Rt : Value → MH → Prop) (H :
((lg_cmp x0 x2).toInt < 0 →
Rt (.int (-1 : Int32)) h) ∧
(¬ (lg_cmp x0 x2).toInt < 0 →
((lg_cmp x0 x2) = 0 →
Rt (.int (0 : Int32)) h) ∧
(¬ (lg_cmp x0 x2) = 0 →
Rt (.int (1 : Int32)) h))) : Sp k_Long_compare [.long x0, .long x2] h Rt := Sp_intro2 (by decide) (by decide +kernel) rfl (Nat.le_of_ble_eq_true rfl) (WM_at (hs := HH_Long_compare) G_Long_compare 15 0 rfl H)
set_option maxRecDepth 100000 in
set_option maxHeartbeats 4000000 in
theorem v_Cell_compareMade (x0 : Nat) (x1 : Nat) (x2 : Int32) (h : MH) (Rt : Value → MH → Prop) (H :
WM k_Cell_compareMade p_Cell_compareMade_1 [.ref x0, .ref x1, .int x2, .int (0 : Int32), Jv] [] h 0 0 Rt) : Sp k_Cell_compareMade [.ref x0, .ref x1, .int x2] h Rt := Sp_intro2 (by decide) (by decide +kernel) rfl (Nat.le_of_ble_eq_true rfl) (WM_at (hs := HH_Cell_compareMade) G_Cell_compareMade 27 0 rfl H)
set_option maxRecDepth 100000 in
set_option maxHeartbeats 4000000 in
theorem v_Cell_compareMade_1 (x0 : Nat) (x1 : Nat) (x2 : Int32) (x3 : Int32) (h : MH) (Rt : Value → MH → Prop) (H :
(x3.toInt < (6 : Int32).toInt →
kd h x0 = 1 ∧
kd h (mr h x0 2) = 3 ∧
SpL k_Form_number [.ref (mr h x0 2), .int x3] h (fun r4 g2 =>
kd g2 x1 = 21 ∧
InB (((6 : Int32) * x2) + x3) (ln g2 x1) ∧
SpI k_Long_compare [.long r4, .long (ml g2 x1 (ix (((6 : Int32) * x2) + x3)))] g2 (fun r8 g7 =>
(r8 = 0 →
WM k_Cell_compareMade p_Cell_compareMade_1 [.ref x0, .ref x1, .int x2, .int (x3 + (1 : Int32)), Jv] [] g7 0 0 Rt) ∧
(¬ r8 = 0 →
Rt (.int r8) g7)))) ∧
(¬ x3.toInt < (6 : Int32).toInt →
Rt (.int (0 : Int32)) h)) : WM k_Cell_compareMade p_Cell_compareMade_1 [.ref x0, .ref x1, .int x2, .int x3, Jv] [] h 0 0 Rt := WM_at (hs := HH_Cell_compareMade) G_Cell_compareMade 27 2 rfl H
set_option maxRecDepth 100000 in
set_option maxHeartbeats 4000000 in
theorem v_Cell_seatOfMade (x0 : Nat) (x1 : Nat) (x2 : Int32) (h : MH) (Rt : Value → MH → Prop) (H :
WM k_Cell_seatOfMade p_Cell_seatOfMade_1 [.ref x0, .ref x1, Jv, .int (0 : Int32), .int x2, .int (0 : Int32), Jv] [] h 0 0 Rt) : Sp k_Cell_seatOfMade [.ref x0, .ref x1, .int x2] h Rt := Sp_intro2 (by decide) (by decide +kernel) rfl (Nat.le_of_ble_eq_true rfl) (WM_at (hs := HH_Cell_seatOfMade) G_Cell_seatOfMade 35 0 rfl H)
set_option maxRecDepth 100000 in
set_option maxHeartbeats 4000000 in
theorem v_Cell_seatOfMade_1 (x0 : Nat) (x1 : Nat) (x3 : Int32) (x4 : Int32) (x5 : Int32) (h : MH) (Rt : Value → MH → Prop) (H :
(x5.toInt < (32 : Int32).toInt →
(x3.toInt < x4.toInt →
kd h x0 = 1 ∧
SpI k_Cell_compareMade [.ref x0, .ref x1, .int (((x3 + x4).toUInt32 >>> ((1 : Int32).toUInt32 &&& Int32.toUInt32 31)).toInt32)] h (fun r3 g1 =>
(0 < r3.toInt →
WM k_Cell_seatOfMade p_Cell_seatOfMade_1 [.ref x0, .ref x1, Jv, .int (((x3 + x4).toUInt32 >>> ((1 : Int32).toUInt32 &&& Int32.toUInt32 31)).toInt32 + (1 : Int32)), .int x4, .int (x5 + (1 : Int32)), Jv] [] g1 0 0 Rt) ∧
(¬ 0 < r3.toInt →
WM k_Cell_seatOfMade p_Cell_seatOfMade_1 [.ref x0, .ref x1, Jv, .int x3, .int (((x3 + x4).toUInt32 >>> ((1 : Int32).toUInt32 &&& Int32.toUInt32 31)).toInt32), .int (x5 + (1 : Int32)), Jv] [] g1 0 0 Rt))) ∧
(¬ x3.toInt < x4.toInt →
Rt (.int x3) h)) ∧
(¬ x5.toInt < (32 : Int32).toInt →
Rt (.int x3) h)) : WM k_Cell_seatOfMade p_Cell_seatOfMade_1 [.ref x0, .ref x1, Jv, .int x3, .int x4, .int x5, Jv] [] h 0 0 Rt := WM_at (hs := HH_Cell_seatOfMade) G_Cell_seatOfMade 35 6 rfl H
set_option maxRecDepth 100000 in
set_option maxHeartbeats 4000000 in
theorem v_Cell_putMade (x0 : Nat) (x1 : Nat) (x2 : Int32) (h : MH) (Rt : Value → MH → Prop) (H :
kd h x0 = 1 ∧
SpI k_Cell_seatOfMade [.ref x0, .ref x1, .int x2] h (fun r3 g1 =>
(r3.toInt < x2.toInt →
kd g1 x0 = 1 ∧
SpI k_Cell_compareMade [.ref x0, .ref x1, .int r3] g1 (fun r6 g4 =>
(r6 = 0 →
Rt (.int x2) g4) ∧
(¬ r6 = 0 →
WM k_Cell_putMade p_Cell_putMade_1 [.ref x0, .ref x1, .int x2, .int r3, Jv] [] g4 0 0 Rt))) ∧
(¬ r3.toInt < x2.toInt →
WM k_Cell_putMade p_Cell_putMade_1 [.ref x0, .ref x1, .int x2, .int r3, Jv] [] g1 0 0 Rt))) : Sp k_Cell_putMade [.ref x0, .ref x1, .int x2] h Rt := Sp_intro2 (by decide) (by decide +kernel) rfl (Nat.le_of_ble_eq_true rfl) (WM_at (hs := HH_Cell_putMade) G_Cell_putMade 62 0 rfl H)
set_option maxRecDepth 100000 in
set_option maxHeartbeats 4000000 in
theorem v_Cell_putMade_1 (x0 : Nat) (x1 : Nat) (x2 : Int32) (x3 : Int32) (h : MH) (Rt : Value → MH → Prop) (H :
kd h x1 = 21 ∧
((Int32.ofNat (ln h x1)).toInt < (((6 : Int32) * x2) + (6 : Int32)).toInt →
Rt (.int x2) h) ∧
(¬ (Int32.ofNat (ln h x1)).toInt < (((6 : Int32) * x2) + (6 : Int32)).toInt →
(0 ≤ ((6 : Int32) * x3).toInt ∧ 0 ≤ (((6 : Int32) * x3) + (6 : Int32)).toInt ∧ 0 ≤ ((6 : Int32) * (x2 - x3)).toInt ∧ ((6 : Int32) * x3).toInt + ((6 : Int32) * (x2 - x3)).toInt ≤ ln h x1 ∧ (((6 : Int32) * x3) + (6 : Int32)).toInt + ((6 : Int32) * (x2 - x3)).toInt ≤ ln h x1) ∧
∀ g3 : MH, g3 = cpL h x1 (ix ((6 : Int32) * x3)) x1 (ix (((6 : Int32) * x3) + (6 : Int32))) (ix ((6 : Int32) * (x2 - x3))) →
WM k_Cell_putMade p_Cell_putMade_2 [.ref x0, .ref x1, .int x2, .int x3, .int (0 : Int32)] [] g3 0 0 Rt)) : WM k_Cell_putMade p_Cell_putMade_1 [.ref x0, .ref x1, .int x2, .int x3, Jv] [] h 0 0 Rt := WM_at (hs := HH_Cell_putMade) G_Cell_putMade 62 13 rfl ⟨H.1, ⟨H.2.1, fun c4 => ⟨H.1, ⟨H.1, ⟨(H.2.2 c4).1, ((H.2.2 c4).2 _ rfl)⟩⟩⟩⟩⟩
set_option maxRecDepth 100000 in
set_option maxHeartbeats 4000000 in
theorem v_Cell_putMade_2 (x0 : Nat) (x1 : Nat) (x2 : Int32) (x3 : Int32) (x4 : Int32) (h : MH) (Rt : Value → MH → Prop) (H :
(x4.toInt < (6 : Int32).toInt →
kd h x0 = 1 ∧
kd h (mr h x0 2) = 3 ∧
SpL k_Form_number [.ref (mr h x0 2), .int x4] h (fun r4 g2 =>
kd g2 x1 = 21 ∧
InB (((6 : Int32) * x3) + x4) (ln g2 x1) ∧
∀ g7 : MH, g7 = wl g2 x1 (ix (((6 : Int32) * x3) + x4)) r4 →
WM k_Cell_putMade p_Cell_putMade_2 [.ref x0, .ref x1, .int x2, .int x3, .int (x4 + (1 : Int32))] [] g7 0 0 Rt)) ∧
(¬ x4.toInt < (6 : Int32).toInt →
Rt (.int (x2 + (1 : Int32))) h)) : WM k_Cell_putMade p_Cell_putMade_2 [.ref x0, .ref x1, .int x2, .int x3, .int x4] [] h 0 0 Rt := WM_at (hs := HH_Cell_putMade) G_Cell_putMade 62 41 rfl ⟨fun c8 => ⟨(H.1 c8).1, ⟨((H.1 c8).2).1, SpL.mono (((H.1 c8).2).2) (fun r4 g2 qg2 => ⟨qg2.1, ⟨qg2.2.1, (qg2.2.2 _ rfl)⟩⟩)⟩⟩, H.2⟩
set_option maxRecDepth 100000 in
set_option maxHeartbeats 4000000 in
theorem v_Cell_gatherMultiples (x0 : Nat) (x1 : Nat) (x2 : Int32) (x3 : Int32) (x4 : Int32) (x5 : Int32) (h : MH) (Rt : Value → MH → Prop) (H :
WM k_Cell_gatherMultiples p_Cell_gatherMultiples_1 [.ref x0, .ref x1, Jv, .int x3, .int x4, .int x5, .int x2, .int (0 : Int32), Jv, Jv] [] h 0 0 Rt) : Sp k_Cell_gatherMultiples [.ref x0, .ref x1, .int x2, .int x3, .int x4, .int x5] h Rt := Sp_intro2 (by decide) (by decide +kernel) rfl (Nat.le_of_ble_eq_true rfl) (WM_at (hs := HH_Cell_gatherMultiples) G_Cell_gatherMultiples 100 0 rfl H)
set_option maxRecDepth 100000 in
set_option maxHeartbeats 4000000 in
theorem v_Cell_gatherMultiples_1 (x0 : Nat) (x1 : Nat) (x3 : Int32) (x4 : Int32) (x5 : Int32) (x6 : Int32) (x7 : Int32) (h : MH) (Rt : Value → MH → Prop) (H :
(x7.toInt < x3.toInt →
WM k_Cell_gatherMultiples p_Cell_gatherMultiples_2 [.ref x0, .ref x1, Jv, .int x3, .int x4, .int x5, .int x6, .int x7, .int (0 : Int32), Jv] [] h 0 0 Rt) ∧
(¬ x7.toInt < x3.toInt →
Rt (.int x6) h)) : WM k_Cell_gatherMultiples p_Cell_gatherMultiples_1 [.ref x0, .ref x1, Jv, .int x3, .int x4, .int x5, .int x6, .int x7, Jv, Jv] [] h 0 0 Rt := WM_at (hs := HH_Cell_gatherMultiples) G_Cell_gatherMultiples 100 4 rfl H
set_option maxRecDepth 100000 in
set_option maxHeartbeats 4000000 in
theorem v_Cell_gatherMultiples_2 (x0 : Nat) (x1 : Nat) (x3 : Int32) (x4 : Int32) (x5 : Int32) (x6 : Int32) (x7 : Int32) (x8 : Int32) (h : MH) (Rt : Value → MH → Prop) (H :
(x8.toInt < x3.toInt →
WM k_Cell_gatherMultiples p_Cell_gatherMultiples_3 [.ref x0, .ref x1, Jv, .int x3, .int x4, .int x5, .int x6, .int x7, .int x8, .int (0 : Int32)] [] h 0 0 Rt) ∧
(¬ x8.toInt < x3.toInt →
WM k_Cell_gatherMultiples p_Cell_gatherMultiples_1 [.ref x0, .ref x1, Jv, .int x3, .int x4, .int x5, .int x6, .int (x7 + (1 : Int32)), Jv, Jv] [] h 0 0 Rt)) : WM k_Cell_gatherMultiples p_Cell_gatherMultiples_2 [.ref x0, .ref x1, Jv, .int x3, .int x4, .int x5, .int x6, .int x7, .int x8, Jv] [] h 0 0 Rt := WM_at (hs := HH_Cell_gatherMultiples) G_Cell_gatherMultiples 100 9 rfl H
set_option maxRecDepth 100000 in
set_option maxHeartbeats 4000000 in
theorem v_Cell_gatherMultiples_3 (x0 : Nat) (x1 : Nat) (x3 : Int32) (x4 : Int32) (x5 : Int32) (x6 : Int32) (x7 : Int32) (x8 : Int32) (x9 : Int32) (h : MH) (Rt : Value → MH → Prop) (H :
(x9.toInt < x4.toInt →
kd h x0 = 1 ∧
kd h (mr h x0 0) = 3 ∧
SpL k_Form_square [.ref (mr h x0 0), .long x3.toInt64, .long (0 : Int64), .long (0 : Int64)] h (fun r4 g2 =>
kd g2 x0 = 1 ∧
kd g2 (mr g2 x0 0) = 3 ∧
SpL k_Form_square [.ref (mr g2 x0 0), .long x7.toInt64, .long x4.toInt64, .long (0 : Int64)] g2 (fun r8 g6 =>
kd g6 x0 = 1 ∧
kd g6 (mr g6 x0 0) = 3 ∧
SpL k_Form_square [.ref (mr g6 x0 0), .long x8.toInt64, .long x9.toInt64, .long x5.toInt64] g6 (fun r12 g10 =>
kd g10 x0 = 1 ∧
kd g10 (mr g10 x0 0) = 3 ∧
SpL k_Form_twice [.ref (mr g10 x0 0), .long x7.toInt64, .long x4.toInt64, .long (0 : Int64), .long x8.toInt64, .long x9.toInt64, .long x5.toInt64] g10 (fun r16 g14 =>
kd g14 x0 = 1 ∧
kd g14 (mr g14 x0 0) = 3 ∧
SpL k_Form_twice [.ref (mr g14 x0 0), .long x3.toInt64, .long (0 : Int64), .long (0 : Int64), .long x8.toInt64, .long x9.toInt64, .long x5.toInt64] g14 (fun r20 g18 =>
kd g18 x0 = 1 ∧
kd g18 (mr g18 x0 0) = 3 ∧
SpL k_Form_twice [.ref (mr g18 x0 0), .long x3.toInt64, .long (0 : Int64), .long (0 : Int64), .long x7.toInt64, .long x4.toInt64, .long (0 : Int64)] g18 (fun r24 g22 =>
kd g22 (mr h x0 2) = 3 ∧
SpV k_Form_set [.ref (mr h x0 2), .long r4, .long r8, .long r12, .long r16, .long r20, .long r24] g22 (fun g25 =>
WM k_Cell_gatherMultiples p_Cell_gatherMultiples_4 [.ref x0, .ref x1, Jv, .int x3, .int x4, .int x5, .int x6, .int x7, .int x8, .int x9] [] g25 0 0 Rt)))))))) ∧
(¬ x9.toInt < x4.toInt →
WM k_Cell_gatherMultiples p_Cell_gatherMultiples_2 [.ref x0, .ref x1, Jv, .int x3, .int x4, .int x5, .int x6, .int x7, .int (x8 + (1 : Int32)), Jv] [] h 0 0 Rt)) : WM k_Cell_gatherMultiples p_Cell_gatherMultiples_3 [.ref x0, .ref x1, Jv, .int x3, .int x4, .int x5, .int x6, .int x7, .int x8, .int x9] [] h 0 0 Rt := WM_at (hs := HH_Cell_gatherMultiples) G_Cell_gatherMultiples 100 14 rfl ⟨fun c27 => ⟨(H.1 c27).1, ⟨(H.1 c27).1, (H.1 c27).2⟩⟩, H.2⟩
set_option maxRecDepth 100000 in
set_option maxHeartbeats 4000000 in
theorem v_Cell_gatherMultiples_4 (x0 : Nat) (x1 : Nat) (x3 : Int32) (x4 : Int32) (x5 : Int32) (x6 : Int32) (x7 : Int32) (x8 : Int32) (x9 : Int32) (h : MH) (Rt : Value → MH → Prop) (H :
kd h x0 = 1 ∧
kd h (mr h x0 2) = 3 ∧
SpV k_Form_reduce [.ref (mr h x0 2)] h (fun g2 =>
kd g2 x0 = 1 ∧
SpI k_Cell_putMade [.ref x0, .ref x1, .int x6] g2 (fun r6 g4 =>
WM k_Cell_gatherMultiples p_Cell_gatherMultiples_3 [.ref x0, .ref x1, Jv, .int x3, .int x4, .int x5, .int r6, .int x7, .int x8, .int (x9 + (1 : Int32))] [] g4 0 0 Rt))) : WM k_Cell_gatherMultiples p_Cell_gatherMultiples_4 [.ref x0, .ref x1, Jv, .int x3, .int x4, .int x5, .int x6, .int x7, .int x8, .int x9] [] h 0 0 Rt := WM_at (hs := HH_Cell_gatherMultiples) G_Cell_gatherMultiples 100 83 rfl H
set_option maxRecDepth 100000 in
set_option maxHeartbeats 4000000 in
theorem v_Cell_countMultiples (x0 : Nat) (x1 : Int32) (h : MH) (Rt : Value → MH → Prop) (H :
(x1.toInt < (1 : Int32).toInt →
Rt (.int (0 : Int32)) h) ∧
(¬ x1.toInt < (1 : Int32).toInt →
((12 : Int32).toInt < x1.toInt →
Rt (.int (0 : Int32)) h) ∧
(¬ (12 : Int32).toInt < x1.toInt →
kd h x0 = 1 ∧
kd h (mr h x0 3) = 28 ∧
InB x1 (ln h (mr h x0 3)) ∧
((mr h (mr h x0 3) (ix x1)) = 0 →
kd h 4 = 19 ∧
InB x1 (ln h 4) ∧
0 ≤ ((6 : Int32) * (mi h 4 (ix x1))).toInt ∧
gd (0 + ix ((6 : Int32) * (mi h 4 (ix x1)))) 2730 (
∀ g9 : MH, g9 = nw h 21 (ix ((6 : Int32) * (mi h 4 (ix x1)))) →
WM k_Cell_countMultiples p_Cell_countMultiples_1 [.ref x0, .int x1, .ref (hn h), .int (0 : Int32), .int (1 : Int32), Jv] [] g9 1 (0 + ix ((6 : Int32) * (mi h 4 (ix x1)))) Rt)) ∧
(¬ (mr h (mr h x0 3) (ix x1)) = 0 →
kd h (mr h x0 4) = 20 ∧
InB x1 (ln h (mr h x0 4)) ∧
Rt (.int (mi h (mr h x0 4) (ix x1))) h)))) : Sp k_Cell_countMultiples [.ref x0, .int x1] h Rt := Sp_intro2 (by decide) (by decide +kernel) rfl (Nat.le_of_ble_eq_true rfl) (WM_at (hs := HH_Cell_countMultiples) G_Cell_countMultiples 72 0 rfl ⟨H.1, fun c10 => ⟨(H.2 c10).1, fun c11 => ⟨((H.2 c10).2 c11).1, ⟨(((H.2 c10).2 c11).2).1, ⟨((((H.2 c10).2 c11).2).2).1, ⟨fun c12 => ⟨((((((H.2 c10).2 c11).2).2).2).1 c12).1, ⟨(((((((H.2 c10).2 c11).2).2).2).1 c12).2).1, ⟨((((((((H.2 c10).2 c11).2).2).2).1 c12).2).2).1, gd_mono (a := (0 + ix ((6 : Int32) * (mi h 4 (ix x1))))) (b := 2730) (fun q => (q _ rfl)) (((((((((H.2 c10).2 c11).2).2).2).1 c12).2).2).2)⟩⟩⟩, fun c12 => ⟨((H.2 c10).2 c11).1, ((((((H.2 c10).2 c11).2).2).2).2 c12)⟩⟩⟩⟩⟩⟩⟩)
set_option maxRecDepth 100000 in
set_option maxHeartbeats 4000000 in
theorem v_Cell_countMultiples_1 (x0 : Nat) (x1 : Int32) (x2 : Nat) (x3 : Int32) (x4 : Int32) (cc ss : Nat) (h : MH) (Rt : Value → MH → Prop) (H :
(x1.toInt < x4.toInt →
kd h x0 = 1 ∧
kd h (mr h x0 3) = 28 ∧
InB x1 (ln h (mr h x0 3)) ∧
kd h x2 = 21 ∧
∀ g5 : MH, g5 = wr h (mr h x0 3) (ix x1) x2 →
kd h (mr g5 x0 4) = 20 ∧
InB x1 (ln h (mr g5 x0 4)) ∧
∀ g8 : MH, g8 = wi g5 (mr g5 x0 4) (ix x1) x3 →
gd cc 1 (
gd ss 2730 (
Rt (.int (mi g8 (mr g5 x0 4) (ix x1))) g8))) ∧
(¬ x1.toInt < x4.toInt →
WM k_Cell_countMultiples p_Cell_countMultiples_2 [.ref x0, .int x1, .ref x2, .int x3, .int x4, .int (1 : Int32)] [] h cc ss Rt)) : WM k_Cell_countMultiples p_Cell_countMultiples_1 [.ref x0, .int x1, .ref x2, .int x3, .int x4, Jv] [] h cc ss Rt := WM_at (hs := HH_Cell_countMultiples) G_Cell_countMultiples 72 24 rfl ⟨fun c9 => ⟨(H.1 c9).1, ⟨((H.1 c9).2).1, ⟨(((H.1 c9).2).2).1, ⟨((((H.1 c9).2).2).2).1, ⟨(H.1 c9).1, ⟨(((((H.1 c9).2).2).2).2 _ rfl).1, ⟨((((((H.1 c9).2).2).2).2 _ rfl).2).1, ⟨(H.1 c9).1, ⟨(((((H.1 c9).2).2).2).2 _ rfl).1, ⟨((((((H.1 c9).2).2).2).2 _ rfl).2).1, (((((((H.1 c9).2).2).2).2 _ rfl).2).2 _ rfl)⟩⟩⟩⟩⟩⟩⟩⟩⟩⟩, H.2⟩
set_option maxRecDepth 100000 in
set_option maxHeartbeats 4000000 in
theorem v_Cell_countMultiples_2 (x0 : Nat) (x1 : Int32) (x2 : Nat) (x3 : Int32) (x4 : Int32) (x5 : Int32) (cc ss : Nat) (h : MH) (Rt : Value → MH → Prop) (H :
(x1.toInt < (x4 * x5).toInt →
WM k_Cell_countMultiples p_Cell_countMultiples_1 [.ref x0, .int x1, .ref x2, .int x3, .int (x4 + (1 : Int32)), Jv] [] h cc ss Rt) ∧
(¬ x1.toInt < (x4 * x5).toInt →
(x4 * x5) ≠ 0 ∧
((irm x1 (x4 * x5)) = 0 →
kd h x0 = 1 ∧
gd (cc + 0) 1 (
gd (ss + 0) 2730 (
SpI k_Cell_gatherMultiples [.ref x0, .ref x2, .int x3, .int x4, .int x5, .int (x1 / (x4 * x5))] h (fun r4 g2 =>
WM k_Cell_countMultiples p_Cell_countMultiples_2 [.ref x0, .int x1, .ref x2, .int r4, .int x4, .int (x5 + (1 : Int32))] [] g2 (cc + 0) (ss + 0) Rt)))) ∧
(¬ (irm x1 (x4 * x5)) = 0 →
WM k_Cell_countMultiples p_Cell_countMultiples_2 [.ref x0, .int x1, .ref x2, .int x3, .int x4, .int (x5 + (1 : Int32))] [] h cc ss Rt))) : WM k_Cell_countMultiples p_Cell_countMultiples_2 [.ref x0, .int x1, .ref x2, .int x3, .int x4, .int x5] [] h cc ss Rt := WM_at (hs := HH_Cell_countMultiples) G_Cell_countMultiples 72 29 rfl ⟨H.1, fun c5 => ⟨(H.2 c5).1, ⟨fun c6 => ⟨(H.2 c5).1, (((H.2 c5).2).1 c6)⟩, ((H.2 c5).2).2⟩⟩⟩
set_option maxRecDepth 100000 in
set_option maxHeartbeats 4000000 in
theorem v_Ho_multiples (x0 : Nat) (x1 : Int32) (x2 : Int32) (h : MH) (Rt : Value → MH → Prop) (H :
kd h x0 = 12 ∧
SpR k_Ho_cellAt [.ref x0, .int x1] h (fun r3 g1 =>
(r3 = 0 →
Rt (.int (-1 : Int32)) g1) ∧
(¬ r3 = 0 →
(x2.toInt < (1 : Int32).toInt →
Rt (.int (-1 : Int32)) g1) ∧
(¬ x2.toInt < (1 : Int32).toInt →
((12 : Int32).toInt < x2.toInt →
Rt (.int (-1 : Int32)) g1) ∧
(¬ (12 : Int32).toInt < x2.toInt →
kd g1 r3 = 1 ∧
SpI k_Cell_countMultiples [.ref r3, .int x2] g1 (fun r6 g4 =>
Rt (.int r6) g4)))))) : Sp k_Ho_multiples [.ref x0, .int x1, .int x2] h Rt := Sp_intro2 (by decide) (by decide +kernel) rfl (Nat.le_of_ble_eq_true rfl) (WM_at (hs := HH_Ho_multiples) G_Ho_multiples 19 0 rfl H)
set_option maxRecDepth 100000 in
set_option maxHeartbeats 4000000 in
theorem v_Ref_compared (x0 : Nat) (x1 : Int32) (h : MH) (Rt : Value → MH → Prop) (H :
WM k_Ref_compared p_Ref_compared_1 [.ref x0, .int x1, .int (0 : Int32)] [] h 0 0 Rt) : Sp k_Ref_compared [.ref x0, .int x1] h Rt := Sp_intro2 (by decide) (by decide +kernel) rfl (Nat.le_of_ble_eq_true rfl) (WM_at (hs := HH_Ref_compared) G_Ref_compared 42 0 rfl H)
set_option maxRecDepth 100000 in
set_option maxHeartbeats 4000000 in
theorem v_Ref_compared_1 (x0 : Nat) (x1 : Int32) (x2 : Int32) (h : MH) (Rt : Value → MH → Prop) (H :
(x2.toInt < (6 : Int32).toInt →
kd h x0 = 13 ∧
kd h (mr h x0 33) = 21 ∧
InB x2 (ln h (mr h x0 33)) ∧
kd h (mr h x0 34) = 21 ∧
InB (((6 : Int32) * x1) + x2) (ln h (mr h x0 34)) ∧
((lg_cmp (ml h (mr h x0 33) (ix x2)) (ml h (mr h x0 34) (ix (((6 : Int32) * x1) + x2)))) = 0 →
WM k_Ref_compared p_Ref_compared_1 [.ref x0, .int x1, .int (x2 + (1 : Int32))] [] h 0 0 Rt) ∧
(¬ (lg_cmp (ml h (mr h x0 33) (ix x2)) (ml h (mr h x0 34) (ix (((6 : Int32) * x1) + x2)))) = 0 →
((lg_cmp (ml h (mr h x0 33) (ix x2)) (ml h (mr h x0 34) (ix (((6 : Int32) * x1) + x2)))).toInt < 0 →
Rt (.int (-1 : Int32)) h) ∧
(¬ (lg_cmp (ml h (mr h x0 33) (ix x2)) (ml h (mr h x0 34) (ix (((6 : Int32) * x1) + x2)))).toInt < 0 →
Rt (.int (1 : Int32)) h))) ∧
(¬ x2.toInt < (6 : Int32).toInt →
Rt (.int (0 : Int32)) h)) : WM k_Ref_compared p_Ref_compared_1 [.ref x0, .int x1, .int x2] [] h 0 0 Rt := WM_at (hs := HH_Ref_compared) G_Ref_compared 42 2 rfl ⟨fun c6 => ⟨(H.1 c6).1, ⟨((H.1 c6).2).1, ⟨(((H.1 c6).2).2).1, ⟨(H.1 c6).1, ⟨((((H.1 c6).2).2).2).1, ⟨(((((H.1 c6).2).2).2).2).1, ⟨((((((H.1 c6).2).2).2).2).2).1, fun c7 => ⟨(H.1 c6).1, ⟨((H.1 c6).2).1, ⟨(((H.1 c6).2).2).1, ⟨(H.1 c6).1, ⟨((((H.1 c6).2).2).2).1, ⟨(((((H.1 c6).2).2).2).2).1, (((((((H.1 c6).2).2).2).2).2).2 c7)⟩⟩⟩⟩⟩⟩⟩⟩⟩⟩⟩⟩⟩, H.2⟩
