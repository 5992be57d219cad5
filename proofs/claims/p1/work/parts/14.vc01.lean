set_option maxRecDepth 100000 in
set_option maxHeartbeats 4000000 in
theorem v_Ref_expression (x0 : Nat) (x1 : Int32) (h : MH) (Rt : Value → MH → Prop) (H :
kd h x0 = 13 ∧
SpI k_Ref_next [.ref x0] h (fun r3 g1 =>
(r3 = (43 : Int32) →
WM k_Ref_expression p_Ref_expression_1 [.ref x0, .int x1, .int r3, Jv, Jv] [.int (1 : Int32)] g1 0 0 Rt) ∧
(¬ r3 = (43 : Int32) →
(r3 = (45 : Int32) →
WM k_Ref_expression p_Ref_expression_1 [.ref x0, .int x1, .int r3, Jv, Jv] [.int (1 : Int32)] g1 0 0 Rt) ∧
(¬ r3 = (45 : Int32) →
WM k_Ref_expression p_Ref_expression_1 [.ref x0, .int x1, .int r3, Jv, Jv] [.int (0 : Int32)] g1 0 0 Rt)))) : Sp k_Ref_expression [.ref x0, .int x1] h Rt := Sp_intro2 (by decide) (by decide +kernel) rfl (Nat.le_of_ble_eq_true rfl) (WM_at (hs := HH_Ref_expression) G_Ref_expression 92 0 rfl H)
set_option maxRecDepth 100000 in
set_option maxHeartbeats 4000000 in
theorem v_Ref_expression_1 (x0 : Nat) (x1 : Int32) (x2 : Int32) (s0 : Int32) (h : MH) (Rt : Value → MH → Prop) (H :
(s0 = 0 →
WM k_Ref_expression p_Ref_expression_2 [.ref x0, .int x1, .int x2, Jv, Jv] [] h 0 0 Rt) ∧
(¬ s0 = 0 →
kd h x0 = 13 ∧
∀ g2 : MH, g2 = wi h x0 12 ((mi h x0 12) + (1 : Int32)) →
WM k_Ref_expression p_Ref_expression_2 [.ref x0, .int x1, .int x2, Jv, Jv] [] g2 0 0 Rt)) : WM k_Ref_expression p_Ref_expression_1 [.ref x0, .int x1, .int x2, Jv, Jv] [.int s0] h 0 0 Rt := WM_at (hs := HH_Ref_expression) G_Ref_expression 92 12 rfl ⟨H.1, fun c3 => ⟨(H.2 c3).1, ⟨(H.2 c3).1, ((H.2 c3).2 _ rfl)⟩⟩⟩
set_option maxRecDepth 100000 in
set_option maxHeartbeats 4000000 in
theorem v_Ref_expression_2 (x0 : Nat) (x1 : Int32) (x2 : Int32) (h : MH) (Rt : Value → MH → Prop) (H :
(x2 = (45 : Int32) →
kd h x0 = 13 ∧
SpI k_Ref_term [.ref x0, .int x1, .int (-1 : Int32)] h (fun r9 g7 =>
(r9 = 0 →
Rt (.int (0 : Int32)) g7) ∧
(¬ r9 = 0 →
kd g7 x0 = 13 ∧
SpI k_Ref_next [.ref x0] g7 (fun r12 g10 =>
WM k_Ref_expression p_Ref_expression_3 [.ref x0, .int x1, .int r12, Jv, Jv] [] g10 0 0 Rt)))) ∧
(¬ x2 = (45 : Int32) →
kd h x0 = 13 ∧
SpI k_Ref_term [.ref x0, .int x1, .int (1 : Int32)] h (fun r3 g1 =>
(r3 = 0 →
Rt (.int (0 : Int32)) g1) ∧
(¬ r3 = 0 →
kd g1 x0 = 13 ∧
SpI k_Ref_next [.ref x0] g1 (fun r6 g4 =>
WM k_Ref_expression p_Ref_expression_3 [.ref x0, .int x1, .int r6, Jv, Jv] [] g4 0 0 Rt))))) : WM k_Ref_expression p_Ref_expression_2 [.ref x0, .int x1, .int x2, Jv, Jv] [] h 0 0 Rt := WM_at (hs := HH_Ref_expression) G_Ref_expression 92 21 rfl ⟨fun c13 => ⟨(H.1 c13).1, SpI.mono ((H.1 c13).2) (fun r9 g7 qg7 => ⟨fun c14 => ⟨(Or.inl rfl), (qg7.1 c14)⟩, qg7.2⟩)⟩, fun c13 => ⟨(H.2 c13).1, SpI.mono ((H.2 c13).2) (fun r3 g1 qg1 => ⟨fun c15 => ⟨(Or.inl rfl), (qg1.1 c15)⟩, qg1.2⟩)⟩⟩
set_option maxRecDepth 100000 in
set_option maxHeartbeats 4000000 in
theorem v_Ref_expression_3 (x0 : Nat) (x1 : Int32) (x2 : Int32) (h : MH) (Rt : Value → MH → Prop) (H :
(x2 = (43 : Int32) →
WM k_Ref_expression p_Ref_expression_4 [.ref x0, .int x1, .int x2, Jv, Jv] [] h 0 0 Rt) ∧
(¬ x2 = (43 : Int32) →
(x2 = (45 : Int32) →
WM k_Ref_expression p_Ref_expression_4 [.ref x0, .int x1, .int x2, Jv, Jv] [] h 0 0 Rt) ∧
(¬ x2 = (45 : Int32) →
(x1.toInt < (2 : Int32).toInt →
WM k_Ref_expression p_Ref_expression_5 [.ref x0, .int x1, .int x2, Jv, Jv] [.int (44 : Int32)] h 0 0 Rt) ∧
(¬ x1.toInt < (2 : Int32).toInt →
WM k_Ref_expression p_Ref_expression_5 [.ref x0, .int x1, .int x2, Jv, Jv] [.int (-1 : Int32)] h 0 0 Rt)))) : WM k_Ref_expression p_Ref_expression_3 [.ref x0, .int x1, .int x2, Jv, Jv] [] h 0 0 Rt := WM_at (hs := HH_Ref_expression) G_Ref_expression 92 36 rfl H
set_option maxRecDepth 100000 in
set_option maxHeartbeats 4000000 in
theorem v_Ref_expression_4 (x0 : Nat) (x1 : Int32) (x2 : Int32) (h : MH) (Rt : Value → MH → Prop) (H :
kd h x0 = 13 ∧
∀ g2 : MH, g2 = wi h x0 12 ((mi h x0 12) + (1 : Int32)) →
(x2 = (45 : Int32) →
SpI k_Ref_term [.ref x0, .int x1, .int (-1 : Int32)] g2 (fun r9 g8 =>
(r9 = 0 →
Rt (.int (0 : Int32)) g8) ∧
(¬ r9 = 0 →
kd g8 x0 = 13 ∧
SpI k_Ref_next [.ref x0] g8 (fun r12 g10 =>
WM k_Ref_expression p_Ref_expression_3 [.ref x0, .int x1, .int r12, Jv, Jv] [] g10 0 0 Rt)))) ∧
(¬ x2 = (45 : Int32) →
SpI k_Ref_term [.ref x0, .int x1, .int (1 : Int32)] g2 (fun r4 g3 =>
(r4 = 0 →
Rt (.int (0 : Int32)) g3) ∧
(¬ r4 = 0 →
kd g3 x0 = 13 ∧
SpI k_Ref_next [.ref x0] g3 (fun r7 g5 =>
WM k_Ref_expression p_Ref_expression_3 [.ref x0, .int x1, .int r7, Jv, Jv] [] g5 0 0 Rt))))) : WM k_Ref_expression p_Ref_expression_4 [.ref x0, .int x1, .int x2, Jv, Jv] [] h 0 0 Rt := WM_at (hs := HH_Ref_expression) G_Ref_expression 92 42 rfl ⟨H.1, ⟨H.1, ⟨fun c13 => ⟨H.1, SpI.mono ((H.2 _ rfl).1 c13) (fun r9 g8 qg8 => ⟨fun c14 => ⟨(Or.inl rfl), (qg8.1 c14)⟩, qg8.2⟩)⟩, fun c13 => ⟨H.1, SpI.mono ((H.2 _ rfl).2 c13) (fun r4 g3 qg3 => ⟨fun c15 => ⟨(Or.inl rfl), (qg3.1 c15)⟩, qg3.2⟩)⟩⟩⟩⟩
set_option maxRecDepth 100000 in
set_option maxHeartbeats 4000000 in
theorem v_Ref_expression_5 (x0 : Nat) (x1 : Int32) (x2 : Int32) (s0 : Int32) (h : MH) (Rt : Value → MH → Prop) (H :
(x2 = s0 →
(x1.toInt < (2 : Int32).toInt →
kd h x0 = 13 ∧
∀ g2 : MH, g2 = wi h x0 12 ((mi h x0 12) + (1 : Int32)) →
Rt (.int (1 : Int32)) g2) ∧
(¬ x1.toInt < (2 : Int32).toInt →
Rt (.int (1 : Int32)) h)) ∧
(¬ x2 = s0 →
kd h x0 = 13 ∧
SpI k_Ref_wrong [.ref x0, .int (1 : Int32), .int (mi h x0 12)] h (fun r5 g4 =>
(r5 = 0 ∨ r5 = 1) ∧
Rt (.int r5) g4))) : WM k_Ref_expression p_Ref_expression_5 [.ref x0, .int x1, .int x2, Jv, Jv] [.int s0] h 0 0 Rt := WM_at (hs := HH_Ref_expression) G_Ref_expression 92 70 rfl ⟨fun c7 => ⟨fun c8 => ⟨((H.1 c7).1 c8).1, ⟨((H.1 c7).1 c8).1, ⟨(Or.inr rfl), (((H.1 c7).1 c8).2 _ rfl)⟩⟩⟩, fun c8 => ⟨(Or.inr rfl), ((H.1 c7).2 c8)⟩⟩, fun c7 => ⟨(H.2 c7).1, ⟨(H.2 c7).1, (H.2 c7).2⟩⟩⟩
set_option maxRecDepth 100000 in
set_option maxHeartbeats 4000000 in
theorem v_Ref_closed (x0 : Nat) (x1 : Nat) (h : MH) (Rt : Value → MH → Prop) (H :
WM k_Ref_closed p_Ref_closed_1 [.ref x0, .ref x1, .int (0 : Int32), .int (0 : Int32)] [] h 0 0 Rt) : Sp k_Ref_closed [.ref x0, .ref x1] h Rt := Sp_intro2 (by decide) (by decide +kernel) rfl (Nat.le_of_ble_eq_true rfl) (WM_at (hs := HH_Ref_closed) G_Ref_closed 52 0 rfl H)
set_option maxRecDepth 100000 in
set_option maxHeartbeats 4000000 in
theorem v_Ref_closed_1 (x0 : Nat) (x1 : Nat) (x2 : Int32) (x3 : Int32) (h : MH) (Rt : Value → MH → Prop) (H :
(x3.toInt < (9 : Int32).toInt →
kd h x0 = 20 ∧
InB x3 (ln h x0) ∧
((mi h x0 (ix x3)).toInt < (-1 : Int32).toInt →
Rt (.int (-1 : Int32)) h) ∧
(¬ (mi h x0 (ix x3)).toInt < (-1 : Int32).toInt →
((1 : Int32).toInt < (mi h x0 (ix x3)).toInt →
Rt (.int (-1 : Int32)) h) ∧
(¬ (1 : Int32).toInt < (mi h x0 (ix x3)).toInt →
WM k_Ref_closed p_Ref_closed_1 [.ref x0, .ref x1, .int ((((3 : Int32) * x2) + (mi h x0 (ix x3))) + (1 : Int32)), .int (x3 + (1 : Int32))] [] h 0 0 Rt))) ∧
(¬ x3.toInt < (9 : Int32).toInt →
kd h x1 = 20 ∧
InB (0 : Int32) (ln h x1) ∧
InB (1 : Int32) (ln h x1) ∧
InB (2 : Int32) (ln h x1) ∧
Rt (.int (((((13824 : Int32) * x2) + ((576 : Int32) * (mi h x1 (ix (0 : Int32))))) + ((24 : Int32) * (mi h x1 (ix (1 : Int32))))) + (mi h x1 (ix (2 : Int32))))) h)) : WM k_Ref_closed p_Ref_closed_1 [.ref x0, .ref x1, .int x2, .int x3] [] h 0 0 Rt := WM_at (hs := HH_Ref_closed) G_Ref_closed 52 4 rfl ⟨fun c7 => ⟨(H.1 c7).1, ⟨((H.1 c7).2).1, ⟨(((H.1 c7).2).2).1, fun c8 => ⟨(H.1 c7).1, ⟨((H.1 c7).2).1, ⟨((((H.1 c7).2).2).2 c8).1, fun c9 => ⟨(H.1 c7).1, ⟨((H.1 c7).2).1, (((((H.1 c7).2).2).2 c8).2 c9)⟩⟩⟩⟩⟩⟩⟩⟩, fun c7 => ⟨(H.2 c7).1, ⟨((H.2 c7).2).1, ⟨(H.2 c7).1, ⟨(((H.2 c7).2).2).1, ⟨(H.2 c7).1, (((H.2 c7).2).2).2⟩⟩⟩⟩⟩⟩
set_option maxRecDepth 100000 in
set_option maxHeartbeats 4000000 in
theorem v_Ref_determinant (x0 : Nat) (h : MH) (Rt : Value → MH → Prop) (H :
kd h x0 = 20 ∧
InB (0 : Int32) (ln h x0) ∧
InB (4 : Int32) (ln h x0) ∧
InB (8 : Int32) (ln h x0) ∧
InB (5 : Int32) (ln h x0) ∧
InB (7 : Int32) (ln h x0) ∧
InB (1 : Int32) (ln h x0) ∧
InB (3 : Int32) (ln h x0) ∧
InB (6 : Int32) (ln h x0) ∧
InB (2 : Int32) (ln h x0) ∧
Rt (.int ((((mi h x0 (ix (0 : Int32))) * (((mi h x0 (ix (4 : Int32))) * (mi h x0 (ix (8 : Int32)))) - ((mi h x0 (ix (5 : Int32))) * (mi h x0 (ix (7 : Int32)))))) - ((mi h x0 (ix (1 : Int32))) * (((mi h x0 (ix (3 : Int32))) * (mi h x0 (ix (8 : Int32)))) - ((mi h x0 (ix (5 : Int32))) * (mi h x0 (ix (6 : Int32))))))) + ((mi h x0 (ix (2 : Int32))) * (((mi h x0 (ix (3 : Int32))) * (mi h x0 (ix (7 : Int32)))) - ((mi h x0 (ix (4 : Int32))) * (mi h x0 (ix (6 : Int32)))))))) h) : Sp k_Ref_determinant [.ref x0] h Rt := Sp_intro2 (by decide) (by decide +kernel) rfl (Nat.le_of_ble_eq_true rfl) (WM_at (hs := HH_Ref_determinant) G_Ref_determinant 61 0 rfl ⟨H.1, ⟨H.2.1, ⟨H.1, ⟨H.2.2.1, ⟨H.1, ⟨H.2.2.2.1, ⟨H.1, ⟨H.2.2.2.2.1, ⟨H.1, ⟨H.2.2.2.2.2.1, ⟨H.1, ⟨H.2.2.2.2.2.2.1, ⟨H.1, ⟨H.2.2.2.2.2.2.2.1, ⟨H.1, ⟨H.2.2.2.1, ⟨H.1, ⟨H.2.2.2.2.1, ⟨H.1, ⟨H.2.2.2.2.2.2.2.2.1, ⟨H.1, ⟨H.2.2.2.2.2.2.2.2.2.1, ⟨H.1, ⟨H.2.2.2.2.2.2.2.1, ⟨H.1, ⟨H.2.2.2.2.2.1, ⟨H.1, ⟨H.2.2.1, ⟨H.1, ⟨H.2.2.2.2.2.2.2.2.1, H.2.2.2.2.2.2.2.2.2.2⟩⟩⟩⟩⟩⟩⟩⟩⟩⟩⟩⟩⟩⟩⟩⟩⟩⟩⟩⟩⟩⟩⟩⟩⟩⟩⟩⟩⟩⟩)
set_option maxRecDepth 100000 in
set_option maxHeartbeats 4000000 in
theorem v_Ref_told0 (x0 : Nat) (x1 : Int32) (h : MH) (Rt : Value → MH → Prop) (H :
kd h x0 = 13 ∧
kd h (mr h x0 0) = 20 ∧
InB (mi h x0 1) (ln h (mr h x0 0)) ∧
∀ g4 : MH, g4 = wi h (mr h x0 0) (ix (mi h x0 1)) x1 →
∀ g5 : MH, g5 = wi g4 x0 1 ((mi g4 x0 1) + (1 : Int32)) →
Rt (.int ((mi g5 x0 1) - (1 : Int32))) g5) : Sp k_Ref_told0 [.ref x0, .int x1] h Rt := Sp_intro2 (by decide) (by decide +kernel) rfl (Nat.le_of_ble_eq_true rfl) (WM_at (hs := HH_Ref_told0) G_Ref_told0 18 0 rfl ⟨H.1, ⟨H.1, ⟨H.2.1, ⟨H.2.2.1, ⟨H.1, ⟨H.1, ⟨H.1, ((H.2.2.2 _ rfl) _ rfl)⟩⟩⟩⟩⟩⟩⟩)
set_option maxRecDepth 100000 in
set_option maxHeartbeats 4000000 in
theorem v_Ref_read (x0 : Nat) (h : MH) (Rt : Value → MH → Prop) (H :
kd h x0 = 13 ∧
∀ g2 : MH, g2 = wi h x0 10 (0 : Int32) →
∀ g3 : MH, g3 = wi g2 x0 11 (-1 : Int32) →
∀ g4 : MH, g4 = wi g3 x0 12 (0 : Int32) →
WM k_Ref_read p_Ref_read_1 [.ref x0, .int (0 : Int32), Jv, Jv, Jv] [] g4 0 0 Rt) : Sp k_Ref_read [.ref x0] h Rt := Sp_intro2 (by decide) (by decide +kernel) rfl (Nat.le_of_ble_eq_true rfl) (WM_at (hs := HH_Ref_read) G_Ref_read 108 0 rfl ⟨H.1, ⟨H.1, ⟨H.1, (((H.2 _ rfl) _ rfl) _ rfl)⟩⟩⟩)
set_option maxRecDepth 100000 in
set_option maxHeartbeats 4000000 in
theorem v_Ref_read_1 (x0 : Nat) (x1 : Int32) (h : MH) (Rt : Value → MH → Prop) (H :
(x1.toInt < (9 : Int32).toInt →
kd h x0 = 13 ∧
kd h (mr h x0 59) = 20 ∧
InB x1 (ln h (mr h x0 59)) ∧
∀ g4 : MH, g4 = wi h (mr h x0 59) (ix x1) (0 : Int32) →
WM k_Ref_read p_Ref_read_1 [.ref x0, .int (x1 + (1 : Int32)), Jv, Jv, Jv] [] g4 0 0 Rt) ∧
(¬ x1.toInt < (9 : Int32).toInt →
WM k_Ref_read p_Ref_read_2 [.ref x0, .int (0 : Int32), Jv, Jv, Jv] [] h 0 0 Rt)) : WM k_Ref_read p_Ref_read_1 [.ref x0, .int x1, Jv, Jv, Jv] [] h 0 0 Rt := WM_at (hs := HH_Ref_read) G_Ref_read 108 11 rfl ⟨fun c5 => ⟨(H.1 c5).1, ⟨((H.1 c5).2).1, ⟨(((H.1 c5).2).2).1, ((((H.1 c5).2).2).2 _ rfl)⟩⟩⟩, H.2⟩
set_option maxRecDepth 100000 in
set_option maxHeartbeats 4000000 in
theorem v_Ref_read_2 (x0 : Nat) (x1 : Int32) (h : MH) (Rt : Value → MH → Prop) (H :
(x1.toInt < (3 : Int32).toInt →
kd h x0 = 13 ∧
kd h (mr h x0 60) = 20 ∧
InB x1 (ln h (mr h x0 60)) ∧
∀ g13 : MH, g13 = wi h (mr h x0 60) (ix x1) (0 : Int32) →
WM k_Ref_read p_Ref_read_2 [.ref x0, .int (x1 + (1 : Int32)), Jv, Jv, Jv] [] g13 0 0 Rt) ∧
(¬ x1.toInt < (3 : Int32).toInt →
kd h x0 = 13 ∧
SpI k_Ref_expression [.ref x0, .int (0 : Int32)] h (fun r3 g1 =>
(r3 = 0 →
WM k_Ref_read p_Ref_read_3 [.ref x0, Jv, Jv, Jv, Jv] [.int (0 : Int32)] g1 0 0 Rt) ∧
(¬ r3 = 0 →
kd g1 x0 = 13 ∧
SpI k_Ref_expression [.ref x0, .int (1 : Int32)] g1 (fun r6 g4 =>
(r6 = 0 →
WM k_Ref_read p_Ref_read_3 [.ref x0, Jv, Jv, Jv, Jv] [.int (0 : Int32)] g4 0 0 Rt) ∧
(¬ r6 = 0 →
kd g4 x0 = 13 ∧
SpI k_Ref_expression [.ref x0, .int (2 : Int32)] g4 (fun r9 g7 =>
(r9 = 0 →
WM k_Ref_read p_Ref_read_3 [.ref x0, Jv, Jv, Jv, Jv] [.int (0 : Int32)] g7 0 0 Rt) ∧
(¬ r9 = 0 →
WM k_Ref_read p_Ref_read_3 [.ref x0, Jv, Jv, Jv, Jv] [.int (1 : Int32)] g7 0 0 Rt)))))))) : WM k_Ref_read p_Ref_read_2 [.ref x0, .int x1, Jv, Jv, Jv] [] h 0 0 Rt := WM_at (hs := HH_Ref_read) G_Ref_read 108 23 rfl ⟨fun c14 => ⟨(H.1 c14).1, ⟨((H.1 c14).2).1, ⟨(((H.1 c14).2).2).1, ((((H.1 c14).2).2).2 _ rfl)⟩⟩⟩, H.2⟩
set_option maxRecDepth 100000 in
set_option maxHeartbeats 4000000 in
theorem v_Ref_read_3 (x0 : Nat) (s0 : Int32) (h : MH) (Rt : Value → MH → Prop) (H :
kd h x0 = 13 ∧
∀ g2 : MH, g2 = wi h x0 9 (0 : Int32) →
(s0 = 0 →
Rt (.int (-1 : Int32)) g2) ∧
(¬ s0 = 0 →
SpI k_Ref_closed [.ref (mr h x0 59), .ref (mr h x0 60)] g2 (fun r4 g3 =>
kd g3 x0 = 13 ∧
SpI k_Ref_determinant [.ref (mr g3 x0 59)] g3 (fun r7 g6 =>
(r4 = (-1 : Int32) →
kd g6 x0 = 13 ∧
SpI k_Ref_wrong [.ref x0, .int (3 : Int32), .int (mi h x0 9)] g6 (fun r16 g14 =>
(r16 = 0 →
Rt (.int (-1 : Int32)) g14) ∧
(¬ r16 = 0 →
kd g14 x0 = 13 ∧
SpI k_Ref_told0 [.ref x0, .int r4] g14 (fun r19 g17 =>
Rt (.int r19) g17)))) ∧
(¬ r4 = (-1 : Int32) →
(r7 = (1 : Int32) →
WM k_Ref_read p_Ref_read_4 [.ref x0, .int s0, Jv, .int r4, Jv] [] g6 0 0 Rt) ∧
(¬ r7 = (1 : Int32) →
(r7 = (-1 : Int32) →
WM k_Ref_read p_Ref_read_4 [.ref x0, .int s0, Jv, .int r4, Jv] [] g6 0 0 Rt) ∧
(¬ r7 = (-1 : Int32) →
kd g6 x0 = 13 ∧
SpI k_Ref_wrong [.ref x0, .int (4 : Int32), .int (mi h x0 9)] g6 (fun r10 g8 =>
(r10 = 0 →
Rt (.int (-1 : Int32)) g8) ∧
(¬ r10 = 0 →
kd g8 x0 = 13 ∧
SpI k_Ref_told0 [.ref x0, .int r4] g8 (fun r13 g11 =>
Rt (.int r13) g11)))))))))) : WM k_Ref_read p_Ref_read_3 [.ref x0, Jv, Jv, Jv, Jv] [.int s0] h 0 0 Rt := WM_at (hs := HH_Ref_read) G_Ref_read 108 48 rfl ⟨H.1, ⟨H.1, ⟨(H.2 _ rfl).1, fun c20 => ⟨H.1, ⟨H.1, ((H.2 _ rfl).2 c20)⟩⟩⟩⟩⟩
set_option maxRecDepth 100000 in
set_option maxHeartbeats 4000000 in
theorem v_Ref_read_4 (x0 : Nat) (x1 : Int32) (x3 : Int32) (h : MH) (Rt : Value → MH → Prop) (H :
kd h x0 = 13 ∧
((mi h x0 1) = (40 : Int32) →
SpI k_Ref_wrong [.ref x0, .int (5 : Int32), .int (-1 : Int32)] h (fun r5 g4 =>
(r5 = 0 →
Rt (.int (-1 : Int32)) g4) ∧
(¬ r5 = 0 →
kd g4 x0 = 13 ∧
SpI k_Ref_told0 [.ref x0, .int x3] g4 (fun r8 g6 =>
Rt (.int r8) g6)))) ∧
(¬ (mi h x0 1) = (40 : Int32) →
(x1 = 0 →
Rt (.int (-1 : Int32)) h) ∧
(¬ x1 = 0 →
SpI k_Ref_told0 [.ref x0, .int x3] h (fun r3 g2 =>
Rt (.int r3) g2)))) : WM k_Ref_read p_Ref_read_4 [.ref x0, .int x1, Jv, .int x3, Jv] [] h 0 0 Rt := WM_at (hs := HH_Ref_read) G_Ref_read 108 90 rfl ⟨H.1, ⟨fun c9 => ⟨H.1, (H.2.1 c9)⟩, fun c9 => ⟨(H.2.2 c9).1, fun c10 => ⟨H.1, ((H.2.2 c9).2 c10)⟩⟩⟩⟩
set_option maxRecDepth 100000 in
set_option maxHeartbeats 4000000 in
theorem v_Ho_fault (x0 : Nat) (x1 : Int32) (h : MH) (Rt : Value → MH → Prop) (H :
(x1 = 0 →
kd h x0 = 12 ∧
kd h (mr h x0 0) = 10 ∧
Rt (.int (mi h (mr h x0 0) 4)) h) ∧
(¬ x1 = 0 →
(x1 = (1 : Int32) →
kd h x0 = 12 ∧
kd h (mr h x0 0) = 10 ∧
Rt (.int (mi h (mr h x0 0) 5)) h) ∧
(¬ x1 = (1 : Int32) →
Rt (.int (-1 : Int32)) h))) : Sp k_Ho_fault [.ref x0, .int x1] h Rt := Sp_intro2 (by decide) (by decide +kernel) rfl (Nat.le_of_ble_eq_true rfl) (WM_at (hs := HH_Ho_fault) G_Ho_fault 16 0 rfl H)
set_option maxRecDepth 100000 in
set_option maxHeartbeats 4000000 in
theorem v_Ref_fault (x0 : Nat) (x1 : Int32) (h : MH) (Rt : Value → MH → Prop) (H :
(x1 = 0 →
kd h x0 = 13 ∧
Rt (.int (mi h x0 10)) h) ∧
(¬ x1 = 0 →
(x1 = (1 : Int32) →
kd h x0 = 13 ∧
Rt (.int (mi h x0 11)) h) ∧
(¬ x1 = (1 : Int32) →
Rt (.int (-1 : Int32)) h))) : Sp k_Ref_fault [.ref x0, .int x1] h Rt := Sp_intro2 (by decide) (by decide +kernel) rfl (Nat.le_of_ble_eq_true rfl) (WM_at (hs := HH_Ref_fault) G_Ref_fault 14 0 rfl H)
set_option maxRecDepth 100000 in
set_option maxHeartbeats 4000000 in
theorem v_Motion_open (x0 : Nat) (x1 : Int32) (h : MH) (Rt : Value → MH → Prop) (H :
WM k_Motion_open p_Motion_open_1 [.ref x0, Jv, .int (x1 / (13824 : Int32)), .int (irm x1 (13824 : Int32)), .int (8 : Int32)] [] h 0 0 Rt) : Sp k_Motion_open [.ref x0, .int x1] h Rt := Sp_intro2 (by decide) (by decide +kernel) rfl (Nat.le_of_ble_eq_true rfl) (WM_at (hs := HH_Motion_open) G_Motion_open 46 0 rfl ⟨(by decide), ⟨(by decide), H⟩⟩)
set_option maxRecDepth 100000 in
set_option maxHeartbeats 4000000 in
theorem v_Motion_open_1 (x0 : Nat) (x2 : Int32) (x3 : Int32) (x4 : Int32) (h : MH) (Rt : Value → MH → Prop) (H :
(x4.toInt < 0 →
WM k_Motion_open p_Motion_open_2 [.ref x0, Jv, Jv, .int x3, .int (2 : Int32)] [] h 0 0 Rt) ∧
(¬ x4.toInt < 0 →
kd h x0 = 7 ∧
kd h (mr h x0 0) = 20 ∧
InB x4 (ln h (mr h x0 0)) ∧
∀ g4 : MH, g4 = wi h (mr h x0 0) (ix x4) ((irm x2 (3 : Int32)) - (1 : Int32)) →
WM k_Motion_open p_Motion_open_1 [.ref x0, Jv, .int (x2 / (3 : Int32)), .int x3, .int (x4 + (-1 : Int32))] [] g4 0 0 Rt)) : WM k_Motion_open p_Motion_open_1 [.ref x0, Jv, .int x2, .int x3, .int x4] [] h 0 0 Rt := WM_at (hs := HH_Motion_open) G_Motion_open 46 10 rfl ⟨H.1, fun c5 => ⟨(H.2 c5).1, ⟨(by decide), ⟨((H.2 c5).2).1, ⟨(((H.2 c5).2).2).1, ⟨(by decide), ((((H.2 c5).2).2).2 _ rfl)⟩⟩⟩⟩⟩⟩
set_option maxRecDepth 100000 in
set_option maxHeartbeats 4000000 in
theorem v_Motion_open_2 (x0 : Nat) (x3 : Int32) (x4 : Int32) (h : MH) (Rt : Value → MH → Prop) (H :
(x4.toInt < 0 →
Rt .null h) ∧
(¬ x4.toInt < 0 →
kd h x0 = 7 ∧
kd h (mr h x0 1) = 20 ∧
InB x4 (ln h (mr h x0 1)) ∧
∀ g4 : MH, g4 = wi h (mr h x0 1) (ix x4) (irm x3 (24 : Int32)) →
WM k_Motion_open p_Motion_open_2 [.ref x0, Jv, Jv, .int (x3 / (24 : Int32)), .int (x4 + (-1 : Int32))] [] g4 0 0 Rt)) : WM k_Motion_open p_Motion_open_2 [.ref x0, Jv, Jv, .int x3, .int x4] [] h 0 0 Rt := WM_at (hs := HH_Motion_open) G_Motion_open 46 29 rfl ⟨H.1, fun c5 => ⟨(H.2 c5).1, ⟨(by decide), ⟨((H.2 c5).2).1, ⟨(((H.2 c5).2).2).1, ⟨(by decide), ((((H.2 c5).2).2).2 _ rfl)⟩⟩⟩⟩⟩⟩
set_option maxRecDepth 100000 in
set_option maxHeartbeats 4000000 in
theorem v_Ho_operation (x0 : Nat) (x1 : Int32) (x2 : Int32) (h : MH) (Rt : Value → MH → Prop) (H :
(x1.toInt < 0 →
Rt (.int (-1 : Int32)) h) ∧
(¬ x1.toInt < 0 →
(x1.toInt < (19683 : Int32).toInt →
(x2.toInt < 0 →
Rt (.int (-1 : Int32)) h) ∧
(¬ x2.toInt < 0 →
(x2.toInt < (13824 : Int32).toInt →
kd h x0 = 12 ∧
((mi h x0 3).toInt < (40 : Int32).toInt →
kd h (mr h x0 9) = 7 ∧
SpV k_Motion_open [.ref (mr h x0 9), .int ((x1 * (13824 : Int32)) + x2)] h (fun g2 =>
kd g2 x0 = 12 ∧
kd g2 (mr g2 x0 9) = 7 ∧
SpI k_Motion_determinant [.ref (mr g2 x0 9)] g2 (fun r7 g5 =>
SpI k_Math_absII [.int r7] g5 (fun r9 g8 =>
(r9 = (1 : Int32) →
kd g8 x0 = 12 ∧
SpI k_Ho_keepOperation [.ref x0, .int ((x1 * (13824 : Int32)) + x2)] g8 (fun r12 g10 =>
Rt (.int r12) g10)) ∧
(¬ r9 = (1 : Int32) →
Rt (.int (-1 : Int32)) g8))))) ∧
(¬ (mi h x0 3).toInt < (40 : Int32).toInt →
Rt (.int (-1 : Int32)) h)) ∧
(¬ x2.toInt < (13824 : Int32).toInt →
Rt (.int (-1 : Int32)) h))) ∧
(¬ x1.toInt < (19683 : Int32).toInt →
Rt (.int (-1 : Int32)) h))) : Sp k_Ho_operation [.ref x0, .int x1, .int x2] h Rt := Sp_intro2 (by decide) (by decide +kernel) rfl (Nat.le_of_ble_eq_true rfl) (WM_at (hs := HH_Ho_operation) G_Ho_operation 39 0 rfl ⟨H.1, fun c13 => ⟨fun c14 => ⟨((H.2 c13).1 c14).1, fun c15 => ⟨fun c16 => ⟨((((H.2 c13).1 c14).2 c15).1 c16).1, ⟨fun c17 => ⟨((((H.2 c13).1 c14).2 c15).1 c16).1, ((((((H.2 c13).1 c14).2 c15).1 c16).2).1 c17)⟩, (((((H.2 c13).1 c14).2 c15).1 c16).2).2⟩⟩, (((H.2 c13).1 c14).2 c15).2⟩⟩, (H.2 c13).2⟩⟩)
set_option maxRecDepth 100000 in
set_option maxHeartbeats 4000000 in
theorem v_Ref_open (x0 : Int32) (x1 : Nat) (x2 : Nat) (h : MH) (Rt : Value → MH → Prop) (H :
WM k_Ref_open p_Ref_open_1 [Jv, .ref x1, .ref x2, .int (x0 / (13824 : Int32)), .int (irm x0 (13824 : Int32)), .int (8 : Int32)] [] h 0 0 Rt) : Sp k_Ref_open [.int x0, .ref x1, .ref x2] h Rt := Sp_intro2 (by decide) (by decide +kernel) rfl (Nat.le_of_ble_eq_true rfl) (WM_at (hs := HH_Ref_open) G_Ref_open 44 0 rfl ⟨(by decide), ⟨(by decide), H⟩⟩)
set_option maxRecDepth 100000 in
set_option maxHeartbeats 4000000 in
theorem v_Ref_open_1 (x1 : Nat) (x2 : Nat) (x3 : Int32) (x4 : Int32) (x5 : Int32) (h : MH) (Rt : Value → MH → Prop) (H :
(x5.toInt < 0 →
WM k_Ref_open p_Ref_open_2 [Jv, Jv, .ref x2, Jv, .int x4, .int (2 : Int32)] [] h 0 0 Rt) ∧
(¬ x5.toInt < 0 →
kd h x1 = 20 ∧
InB x5 (ln h x1) ∧
∀ g3 : MH, g3 = wi h x1 (ix x5) ((irm x3 (3 : Int32)) - (1 : Int32)) →
WM k_Ref_open p_Ref_open_1 [Jv, .ref x1, .ref x2, .int (x3 / (3 : Int32)), .int x4, .int (x5 + (-1 : Int32))] [] g3 0 0 Rt)) : WM k_Ref_open p_Ref_open_1 [Jv, .ref x1, .ref x2, .int x3, .int x4, .int x5] [] h 0 0 Rt := WM_at (hs := HH_Ref_open) G_Ref_open 44 10 rfl ⟨H.1, fun c4 => ⟨(by decide), ⟨(H.2 c4).1, ⟨((H.2 c4).2).1, ⟨(by decide), (((H.2 c4).2).2 _ rfl)⟩⟩⟩⟩⟩
set_option maxRecDepth 100000 in
set_option maxHeartbeats 4000000 in
theorem v_Ref_open_2 (x2 : Nat) (x4 : Int32) (x5 : Int32) (h : MH) (Rt : Value → MH → Prop) (H :
(x5.toInt < 0 →
Rt .null h) ∧
(¬ x5.toInt < 0 →
kd h x2 = 20 ∧
InB x5 (ln h x2) ∧
∀ g3 : MH, g3 = wi h x2 (ix x5) (irm x4 (24 : Int32)) →
WM k_Ref_open p_Ref_open_2 [Jv, Jv, .ref x2, Jv, .int (x4 / (24 : Int32)), .int (x5 + (-1 : Int32))] [] g3 0 0 Rt)) : WM k_Ref_open p_Ref_open_2 [Jv, Jv, .ref x2, Jv, .int x4, .int x5] [] h 0 0 Rt := WM_at (hs := HH_Ref_open) G_Ref_open 44 28 rfl ⟨H.1, fun c4 => ⟨(by decide), ⟨(H.2 c4).1, ⟨((H.2 c4).2).1, ⟨(by decide), (((H.2 c4).2).2 _ rfl)⟩⟩⟩⟩⟩
set_option maxRecDepth 100000 in
set_option maxHeartbeats 4000000 in
theorem v_Ref_operation (x0 : Nat) (x1 : Int32) (x2 : Int32) (h : MH) (Rt : Value → MH → Prop) (H :
kd h x0 = 13 ∧
((mi h x0 1) = (40 : Int32) →
Rt (.int (-1 : Int32)) h) ∧
(¬ (mi h x0 1) = (40 : Int32) →
(x1.toInt < 0 →
Rt (.int (-1 : Int32)) h) ∧
(¬ x1.toInt < 0 →
(x1.toInt < (19683 : Int32).toInt →
(x2.toInt < 0 →
Rt (.int (-1 : Int32)) h) ∧
(¬ x2.toInt < 0 →
(x2.toInt < (13824 : Int32).toInt →
SpV k_Ref_open [.int (((13824 : Int32) * x1) + x2), .ref (mr h x0 3), .ref (mr h x0 4)] h (fun g2 =>
kd g2 x0 = 13 ∧
SpI k_Ref_determinant [.ref (mr g2 x0 3)] g2 (fun r5 g4 =>
(r5 = (1 : Int32) →
kd g4 x0 = 13 ∧
SpI k_Ref_told0 [.ref x0, .int (((13824 : Int32) * x1) + x2)] g4 (fun r8 g6 =>
Rt (.int r8) g6)) ∧
(¬ r5 = (1 : Int32) →
(r5 = (-1 : Int32) →
kd g4 x0 = 13 ∧
SpI k_Ref_told0 [.ref x0, .int (((13824 : Int32) * x1) + x2)] g4 (fun r11 g9 =>
Rt (.int r11) g9)) ∧
(¬ r5 = (-1 : Int32) →
Rt (.int (-1 : Int32)) g4))))) ∧
(¬ x2.toInt < (13824 : Int32).toInt →
Rt (.int (-1 : Int32)) h))) ∧
(¬ x1.toInt < (19683 : Int32).toInt →
Rt (.int (-1 : Int32)) h)))) : Sp k_Ref_operation [.ref x0, .int x1, .int x2] h Rt := Sp_intro2 (by decide) (by decide +kernel) rfl (Nat.le_of_ble_eq_true rfl) (WM_at (hs := HH_Ref_operation) G_Ref_operation 45 0 rfl ⟨H.1, ⟨H.2.1, fun c12 => ⟨(H.2.2 c12).1, fun c13 => ⟨fun c14 => ⟨(((H.2.2 c12).2 c13).1 c14).1, fun c15 => ⟨fun c16 => ⟨H.1, ⟨H.1, (((((H.2.2 c12).2 c13).1 c14).2 c15).1 c16)⟩⟩, ((((H.2.2 c12).2 c13).1 c14).2 c15).2⟩⟩, ((H.2.2 c12).2 c13).2⟩⟩⟩⟩)
set_option maxRecDepth 100000 in
set_option maxHeartbeats 4000000 in
theorem v_Scribe_writeChar (x0 : Nat) (x1 : Int32) (h : MH) (Rt : Value → MH → Prop) (H :
kd h x0 = 10 ∧
kd h (mr h x0 7) = 23 ∧
((mi h x0 8).toInt < (Int32.ofNat (ln h (mr h x0 7))).toInt →
InB (mi h x0 8) (ln h (mr h x0 7)) ∧
(0 ≤ ((x1.toUInt32 % 65536).toInt32).toInt ∧ ((x1.toUInt32 % 65536).toInt32).toInt < 65536) ∧
∀ g5 : MH, g5 = wi h (mr h x0 7) (ix (mi h x0 8)) ((x1.toUInt32 % 65536).toInt32) →
∀ g6 : MH, g6 = wi g5 x0 8 ((mi g5 x0 8) + (1 : Int32)) →
Rt .null g6) ∧
(¬ (mi h x0 8).toInt < (Int32.ofNat (ln h (mr h x0 7))).toInt →
Rt .null h)) : Sp k_Scribe_writeChar [.ref x0, .int x1] h Rt := Sp_intro2 (by decide) (by decide +kernel) rfl (Nat.le_of_ble_eq_true rfl) (WM_at (hs := HH_Scribe_writeChar) G_Scribe_writeChar 21 0 rfl ⟨H.1, ⟨H.1, ⟨H.2.1, ⟨fun c7 => ⟨H.1, ⟨H.1, ⟨H.2.1, ⟨(H.2.2.1 c7).1, ⟨((H.2.2.1 c7).2).1, ⟨H.1, ⟨H.1, ((((H.2.2.1 c7).2).2 _ rfl) _ rfl)⟩⟩⟩⟩⟩⟩⟩, H.2.2.2⟩⟩⟩⟩)
set_option maxRecDepth 100000 in
set_option maxHeartbeats 4000000 in
theorem v_Scribe_writeLetters (x0 : Nat) (x1 : Nat) (x2 : Int32) (h : MH) (Rt : Value → MH → Prop) (H :
WM k_Scribe_writeLetters p_Scribe_writeLetters_1 [.ref x0, .ref x1, .int x2, .int (1 : Int32), .int (0 : Int32), Jv] [] h 0 0 Rt) : Sp k_Scribe_writeLetters [.ref x0, .ref x1, .int x2] h Rt := Sp_intro2 (by decide) (by decide +kernel) rfl (Nat.le_of_ble_eq_true rfl) (WM_at (hs := HH_Scribe_writeLetters) G_Scribe_writeLetters 42 0 rfl H)
set_option maxRecDepth 100000 in
set_option maxHeartbeats 4000000 in
theorem v_Scribe_writeLetters_1 (x0 : Nat) (x1 : Nat) (x2 : Int32) (x3 : Int32) (x4 : Int32) (h : MH) (Rt : Value → MH → Prop) (H :
(x4.toInt < (3 : Int32).toInt →
kd h x1 = 7 ∧
kd h (mr h x1 0) = 20 ∧
InB (((3 : Int32) * x2) + x4) (ln h (mr h x1 0)) ∧
((mi h (mr h x1 0) (ix (((3 : Int32) * x2) + x4))).toInt < 0 →
kd h x0 = 10 ∧
SpV k_Scribe_writeChar [.ref x0, .int (45 : Int32)] h (fun g6 =>
WM k_Scribe_writeLetters p_Scribe_writeLetters_2 [.ref x0, .ref x1, .int x2, .int x3, .int x4, .int (mi h (mr h x1 0) (ix (((3 : Int32) * x2) + x4)))] [] g6 0 0 Rt)) ∧
(¬ (mi h (mr h x1 0) (ix (((3 : Int32) * x2) + x4))).toInt < 0 →
(0 < (mi h (mr h x1 0) (ix (((3 : Int32) * x2) + x4))).toInt →
(x3 = 0 →
kd h x0 = 10 ∧
SpV k_Scribe_writeChar [.ref x0, .int (43 : Int32)] h (fun g4 =>
WM k_Scribe_writeLetters p_Scribe_writeLetters_2 [.ref x0, .ref x1, .int x2, .int x3, .int x4, .int (mi h (mr h x1 0) (ix (((3 : Int32) * x2) + x4)))] [] g4 0 0 Rt)) ∧
(¬ x3 = 0 →
WM k_Scribe_writeLetters p_Scribe_writeLetters_2 [.ref x0, .ref x1, .int x2, .int x3, .int x4, .int (mi h (mr h x1 0) (ix (((3 : Int32) * x2) + x4)))] [] h 0 0 Rt)) ∧
(¬ 0 < (mi h (mr h x1 0) (ix (((3 : Int32) * x2) + x4))).toInt →
WM k_Scribe_writeLetters p_Scribe_writeLetters_2 [.ref x0, .ref x1, .int x2, .int x3, .int x4, .int (mi h (mr h x1 0) (ix (((3 : Int32) * x2) + x4)))] [] h 0 0 Rt))) ∧
(¬ x4.toInt < (3 : Int32).toInt →
Rt .null h)) : WM k_Scribe_writeLetters p_Scribe_writeLetters_1 [.ref x0, .ref x1, .int x2, .int x3, .int x4, Jv] [] h 0 0 Rt := WM_at (hs := HH_Scribe_writeLetters) G_Scribe_writeLetters 42 4 rfl H
set_option maxRecDepth 100000 in
set_option maxHeartbeats 4000000 in
theorem v_Scribe_writeLetters_2 (x0 : Nat) (x1 : Nat) (x2 : Int32) (x3 : Int32) (x4 : Int32) (x5 : Int32) (h : MH) (Rt : Value → MH → Prop) (H :
(x5 = 0 →
WM k_Scribe_writeLetters p_Scribe_writeLetters_1 [.ref x0, .ref x1, .int x2, .int x3, .int (x4 + (1 : Int32)), Jv] [] h 0 0 Rt) ∧
(¬ x5 = 0 →
kd h x0 = 10 ∧
SpV k_Scribe_writeChar [.ref x0, .int ((120 : Int32) + x4)] h (fun g1 =>
WM k_Scribe_writeLetters p_Scribe_writeLetters_1 [.ref x0, .ref x1, .int x2, .int (0 : Int32), .int (x4 + (1 : Int32)), Jv] [] g1 0 0 Rt))) : WM k_Scribe_writeLetters p_Scribe_writeLetters_2 [.ref x0, .ref x1, .int x2, .int x3, .int x4, .int x5] [] h 0 0 Rt := WM_at (hs := HH_Scribe_writeLetters) G_Scribe_writeLetters 42 29 rfl H
set_option maxRecDepth 100000 in
set_option maxHeartbeats 4000000 in
theorem v_Math_maxJJJ (x0 : Int64) (x2 : Int64) (h : MH) (Rt : Value → MH → Prop) (H :
((lg_cmp x0 x2).toInt < 0 →
Rt (.long x2) h) ∧
(¬ (lg_cmp x0 x2).toInt < 0 →
Rt (.long x0) h)) : Sp k_Math_maxJJJ [.long x0, .long x2] h Rt := Sp_intro2 (by decide) (by decide +kernel) rfl (Nat.le_of_ble_eq_true rfl) (WM_at (hs := HH_Math_maxJJJ) G_Math_maxJJJ 9 0 rfl H)
set_option maxRecDepth 100000 in
set_option maxHeartbeats 4000000 in
theorem v_Ho_commonDivisor (x0 : Int64) (x2 : Int64) (h : MH) (Rt : Value → MH → Prop) (H :
WM k_Ho_commonDivisor p_Ho_commonDivisor_1 [Jv, Jv, Jv, Jv, .long x0, Jv, .long x2, Jv, .int (0 : Int32), Jv, Jv] [] h 0 0 Rt) : Sp k_Ho_commonDivisor [.long x0, .long x2] h Rt := Sp_intro2 (by decide) (by decide +kernel) rfl (Nat.le_of_ble_eq_true rfl) (WM_at (hs := HH_Ho_commonDivisor) G_Ho_commonDivisor 28 0 rfl H)
set_option maxRecDepth 100000 in
set_option maxHeartbeats 4000000 in
theorem v_Ho_commonDivisor_1 (x4 : Int64) (x6 : Int64) (x8 : Int32) (h : MH) (Rt : Value → MH → Prop) (H :
(x8.toInt < (100 : Int32).toInt →
((lg_cmp x6 (0 : Int64)) = 0 →
SpL k_Math_maxJJJ [.long x4, .long (1 : Int64)] h (fun r4 g3 =>
Rt (.long r4) g3)) ∧
(¬ (lg_cmp x6 (0 : Int64)) = 0 →
x6 ≠ 0 ∧
WM k_Ho_commonDivisor p_Ho_commonDivisor_1 [Jv, Jv, Jv, Jv, .long x6, Jv, .long (lrm x4 x6), Jv, .int (x8 + (1 : Int32)), Jv, Jv] [] h 0 0 Rt)) ∧
(¬ x8.toInt < (100 : Int32).toInt →
SpL k_Math_maxJJJ [.long x4, .long (1 : Int64)] h (fun r2 g1 =>
Rt (.long r2) g1))) : WM k_Ho_commonDivisor p_Ho_commonDivisor_1 [Jv, Jv, Jv, Jv, .long x4, Jv, .long x6, Jv, .int x8, Jv, Jv] [] h 0 0 Rt := WM_at (hs := HH_Ho_commonDivisor) G_Ho_commonDivisor 28 6 rfl H
set_option maxRecDepth 100000 in
set_option maxHeartbeats 4000000 in
theorem v_Scribe_writeNumber (x0 : Nat) (x1 : Int32) (h : MH) (Rt : Value → MH → Prop) (H :
((9 : Int32).toInt < x1.toInt →
kd h x0 = 10 ∧
SpV k_Scribe_writeChar [.ref x0, .int ((48 : Int32) + (x1 / (10 : Int32)))] h (fun g3 =>
kd g3 x0 = 10 ∧
SpV k_Scribe_writeChar [.ref x0, .int ((48 : Int32) + (irm x1 (10 : Int32)))] g3 (fun g5 =>
Rt .null g5))) ∧
(¬ (9 : Int32).toInt < x1.toInt →
kd h x0 = 10 ∧
SpV k_Scribe_writeChar [.ref x0, .int ((48 : Int32) + (irm x1 (10 : Int32)))] h (fun g1 =>
Rt .null g1))) : Sp k_Scribe_writeNumber [.ref x0, .int x1] h Rt := Sp_intro2 (by decide) (by decide +kernel) rfl (Nat.le_of_ble_eq_true rfl) (WM_at (hs := HH_Scribe_writeNumber) G_Scribe_writeNumber 19 0 rfl ⟨fun c7 => ⟨(by decide), ⟨(H.1 c7).1, SpV.mono ((H.1 c7).2) (fun g3 qg3 => ⟨(by decide), qg3⟩)⟩⟩, fun c7 => ⟨(by decide), (H.2 c7)⟩⟩)
set_option maxRecDepth 100000 in
set_option maxHeartbeats 4000000 in
theorem v_Scribe_writeShift (x0 : Nat) (x1 : Int32) (h : MH) (Rt : Value → MH → Prop) (H :
(x1 = 0 →
Rt .null h) ∧
(¬ x1 = 0 →
SpL k_Ho_commonDivisor [.long x1.toInt64, .long (24 : Int64)] h (fun r2 g1 =>
kd g1 x0 = 10 ∧
SpV k_Scribe_writeChar [.ref x0, .int (43 : Int32)] g1 (fun g3 =>
r2.toInt32 ≠ 0 ∧
kd g3 x0 = 10 ∧
SpV k_Scribe_writeNumber [.ref x0, .int (x1 / r2.toInt32)] g3 (fun g6 =>
kd g6 x0 = 10 ∧
SpV k_Scribe_writeChar [.ref x0, .int (47 : Int32)] g6 (fun g8 =>
kd g8 x0 = 10 ∧
SpV k_Scribe_writeNumber [.ref x0, .int ((24 : Int32) / r2.toInt32)] g8 (fun g10 =>
Rt .null g10))))))) : Sp k_Scribe_writeShift [.ref x0, .int x1] h Rt := Sp_intro2 (by decide) (by decide +kernel) rfl (Nat.le_of_ble_eq_true rfl) (WM_at (hs := HH_Scribe_writeShift) G_Scribe_writeShift 27 0 rfl ⟨H.1, fun c12 => SpL.mono (H.2 c12) (fun r2 g1 qg1 => ⟨qg1.1, SpV.mono qg1.2 (fun g3 qg3 => ⟨qg3.1, ⟨qg3.2.1, SpV.mono qg3.2.2 (fun g6 qg6 => ⟨qg6.1, SpV.mono qg6.2 (fun g8 qg8 => ⟨qg3.1, qg8⟩)⟩)⟩⟩)⟩)⟩)
set_option maxRecDepth 100000 in
set_option maxHeartbeats 4000000 in
theorem v_Scribe_write (x0 : Nat) (x1 : Nat) (h : MH) (Rt : Value → MH → Prop) (H :
kd h x0 = 10 ∧
∀ g2 : MH, g2 = wi h x0 8 (0 : Int32) →
WM k_Scribe_write p_Scribe_write_1 [.ref x0, .ref x1, .int (0 : Int32)] [] g2 0 0 Rt) : Sp k_Scribe_write [.ref x0, .ref x1] h Rt := Sp_intro2 (by decide) (by decide +kernel) rfl (Nat.le_of_ble_eq_true rfl) (WM_at (hs := HH_Scribe_write) G_Scribe_write 29 0 rfl ⟨H.1, (H.2 _ rfl)⟩)
set_option maxRecDepth 100000 in
set_option maxHeartbeats 4000000 in
theorem v_Scribe_write_1 (x0 : Nat) (x1 : Nat) (x2 : Int32) (h : MH) (Rt : Value → MH → Prop) (H :
(x2.toInt < (3 : Int32).toInt →
(0 < x2.toInt →
kd h x0 = 10 ∧
SpV k_Scribe_writeChar [.ref x0, .int (44 : Int32)] h (fun g2 =>
WM k_Scribe_write p_Scribe_write_2 [.ref x0, .ref x1, .int x2] [] g2 0 0 Rt)) ∧
(¬ 0 < x2.toInt →
WM k_Scribe_write p_Scribe_write_2 [.ref x0, .ref x1, .int x2] [] h 0 0 Rt)) ∧
(¬ x2.toInt < (3 : Int32).toInt →
kd h x0 = 10 ∧
Rt (.int (mi h x0 8)) h)) : WM k_Scribe_write p_Scribe_write_1 [.ref x0, .ref x1, .int x2] [] h 0 0 Rt := WM_at (hs := HH_Scribe_write) G_Scribe_write 29 5 rfl H
set_option maxRecDepth 100000 in
set_option maxHeartbeats 4000000 in
theorem v_Scribe_write_2 (x0 : Nat) (x1 : Nat) (x2 : Int32) (h : MH) (Rt : Value → MH → Prop) (H :
kd h x0 = 10 ∧
SpV k_Scribe_writeLetters [.ref x0, .ref x1, .int x2] h (fun g1 =>
kd g1 x1 = 7 ∧
kd g1 (mr g1 x1 1) = 20 ∧
InB x2 (ln g1 (mr g1 x1 1)) ∧
kd g1 x0 = 10 ∧
SpV k_Scribe_writeShift [.ref x0, .int (mi g1 (mr g1 x1 1) (ix x2))] g1 (fun g6 =>
WM k_Scribe_write p_Scribe_write_1 [.ref x0, .ref x1, .int (x2 + (1 : Int32))] [] g6 0 0 Rt))) : WM k_Scribe_write p_Scribe_write_2 [.ref x0, .ref x1, .int x2] [] h 0 0 Rt := WM_at (hs := HH_Scribe_write) G_Scribe_write 29 13 rfl H
set_option maxRecDepth 100000 in
set_option maxHeartbeats 4000000 in
theorem v_Ho_tell (x0 : Nat) (x1 : Int32) (h : MH) (Rt : Value → MH → Prop) (H :
(x1.toInt < 0 →
Rt (.int (-1 : Int32)) h) ∧
(¬ x1.toInt < 0 →
kd h x0 = 12 ∧
(x1.toInt < (mi h x0 3).toInt →
kd h (mr h x0 1) = 20 ∧
InB x1 (ln h (mr h x0 1)) ∧
kd h (mr h x0 9) = 7 ∧
SpV k_Motion_open [.ref (mr h x0 9), .int (mi h (mr h x0 1) (ix x1))] h (fun g4 =>
kd g4 x0 = 12 ∧
kd g4 (mr g4 x0 0) = 10 ∧
SpI k_Scribe_write [.ref (mr g4 x0 0), .ref (mr g4 x0 9)] g4 (fun r9 g7 =>
Rt (.int r9) g7))) ∧
(¬ x1.toInt < (mi h x0 3).toInt →
Rt (.int (-1 : Int32)) h))) : Sp k_Ho_tell [.ref x0, .int x1] h Rt := Sp_intro2 (by decide) (by decide +kernel) rfl (Nat.le_of_ble_eq_true rfl) (WM_at (hs := HH_Ho_tell) G_Ho_tell 22 0 rfl ⟨H.1, fun c10 => ⟨(H.2 c10).1, ⟨fun c11 => ⟨(H.2 c10).1, ⟨(H.2 c10).1, ⟨(((H.2 c10).2).1 c11).1, ⟨((((H.2 c10).2).1 c11).2).1, ⟨(((((H.2 c10).2).1 c11).2).2).1, SpV.mono ((((((H.2 c10).2).1 c11).2).2).2) (fun g4 qg4 => ⟨qg4.1, ⟨qg4.1, qg4.2⟩⟩)⟩⟩⟩⟩⟩, ((H.2 c10).2).2⟩⟩⟩)
set_option maxRecDepth 100000 in
set_option maxHeartbeats 4000000 in
theorem v_Ref_isOperation (x0 : Nat) (x1 : Int32) (h : MH) (Rt : Value → MH → Prop) (H :
(x1.toInt < 0 →
Rt (.int (0 : Int32)) h) ∧
(¬ x1.toInt < 0 →
kd h x0 = 13 ∧
(x1.toInt < (mi h x0 1).toInt →
Rt (.int (1 : Int32)) h) ∧
(¬ x1.toInt < (mi h x0 1).toInt →
Rt (.int (0 : Int32)) h))) : Sp k_Ref_isOperation [.ref x0, .int x1] h Rt := Sp_intro2 (by decide) (by decide +kernel) rfl (Nat.le_of_ble_eq_true rfl) (WM_at (hs := HH_Ref_isOperation) G_Ref_isOperation 11 0 rfl ⟨fun c2 => ⟨(Or.inl rfl), (H.1 c2)⟩, fun c2 => ⟨(H.2 c2).1, ⟨fun c3 => ⟨(Or.inr rfl), (((H.2 c2).2).1 c3)⟩, fun c3 => ⟨(Or.inl rfl), (((H.2 c2).2).2 c3)⟩⟩⟩⟩)
set_option maxRecDepth 100000 in
set_option maxHeartbeats 4000000 in
theorem v_Ref_say (x0 : Nat) (x1 : Int32) (h : MH) (Rt : Value → MH → Prop) (H :
kd h x0 = 13 ∧
kd h (mr h x0 13) = 20 ∧
InB (mi h x0 14) (ln h (mr h x0 13)) ∧
∀ g4 : MH, g4 = wi h (mr h x0 13) (ix (mi h x0 14)) x1 →
∀ g5 : MH, g5 = wi g4 x0 14 ((mi g4 x0 14) + (1 : Int32)) →
Rt .null g5) : Sp k_Ref_say [.ref x0, .int x1] h Rt := Sp_intro2 (by decide) (by decide +kernel) rfl (Nat.le_of_ble_eq_true rfl) (WM_at (hs := HH_Ref_say) G_Ref_say 14 0 rfl ⟨H.1, ⟨H.1, ⟨H.2.1, ⟨H.2.2.1, ⟨H.1, ⟨H.1, ((H.2.2.2 _ rfl) _ rfl)⟩⟩⟩⟩⟩⟩)
set_option maxRecDepth 100000 in
set_option maxHeartbeats 4000000 in
theorem v_Ref_common (x0 : Nat) (x1 : Int32) (x2 : Int32) (h : MH) (Rt : Value → MH → Prop) (H :
WM k_Ref_common p_Ref_common_1 [Jv, Jv, Jv, .int x1, .int x2, Jv] [] h 0 0 Rt) : Sp k_Ref_common [.ref x0, .int x1, .int x2] h Rt := Sp_intro2 (by decide) (by decide +kernel) rfl (Nat.le_of_ble_eq_true rfl) (WM_at (hs := HH_Ref_common) G_Ref_common 18 0 rfl H)
set_option maxRecDepth 100000 in
set_option maxHeartbeats 4000000 in
theorem v_Ref_common_1 (x3 : Int32) (x4 : Int32) (h : MH) (Rt : Value → MH → Prop) (H :
(x4 = 0 →
Rt (.int x3) h) ∧
(¬ x4 = 0 →
x4 ≠ 0 ∧
WM k_Ref_common p_Ref_common_1 [Jv, Jv, Jv, .int x4, .int (irm x3 x4), Jv] [] h 0 0 Rt)) : WM k_Ref_common p_Ref_common_1 [Jv, Jv, Jv, .int x3, .int x4, Jv] [] h 0 0 Rt := WM_at (hs := HH_Ref_common) G_Ref_common 18 4 rfl H
set_option maxRecDepth 100000 in
set_option maxHeartbeats 4000000 in
theorem v_Ref_sayNumber (x0 : Nat) (x1 : Int32) (h : MH) (Rt : Value → MH → Prop) (H :
((9 : Int32).toInt < x1.toInt →
kd h x0 = 13 ∧
SpV k_Ref_say [.ref x0, .int ((48 : Int32) + (x1 / (10 : Int32)))] h (fun g3 =>
kd g3 x0 = 13 ∧
SpV k_Ref_say [.ref x0, .int ((48 : Int32) + (irm x1 (10 : Int32)))] g3 (fun g5 =>
Rt .null g5))) ∧
(¬ (9 : Int32).toInt < x1.toInt →
kd h x0 = 13 ∧
SpV k_Ref_say [.ref x0, .int ((48 : Int32) + (irm x1 (10 : Int32)))] h (fun g1 =>
Rt .null g1))) : Sp k_Ref_sayNumber [.ref x0, .int x1] h Rt := Sp_intro2 (by decide) (by decide +kernel) rfl (Nat.le_of_ble_eq_true rfl) (WM_at (hs := HH_Ref_sayNumber) G_Ref_sayNumber 19 0 rfl ⟨fun c7 => ⟨(by decide), ⟨(H.1 c7).1, SpV.mono ((H.1 c7).2) (fun g3 qg3 => ⟨(by decide), qg3⟩)⟩⟩, fun c7 => ⟨(by decide), (H.2 c7)⟩⟩)
set_option maxRecDepth 100000 in
set_option maxHeartbeats 4000000 in
theorem v_Ref_tellOperation (x0 : Nat) (x1 : Int32) (h : MH) (Rt : Value → MH → Prop) (H :
kd h x0 = 13 ∧
∀ g2 : MH, g2 = wi h x0 14 (0 : Int32) →
SpV k_Ref_open [.int x1, .ref (mr h x0 3), .ref (mr h x0 4)] g2 (fun g3 =>
WM k_Ref_tellOperation p_Ref_tellOperation_1 [.ref x0, Jv, .int (0 : Int32), Jv, Jv, Jv] [] g3 0 0 Rt)) : Sp k_Ref_tellOperation [.ref x0, .int x1] h Rt := Sp_intro2 (by decide) (by decide +kernel) rfl (Nat.le_of_ble_eq_true rfl) (WM_at (hs := HH_Ref_tellOperation) G_Ref_tellOperation 101 0 rfl ⟨H.1, ⟨H.1, ⟨H.1, (H.2 _ rfl)⟩⟩⟩)
set_option maxRecDepth 100000 in
set_option maxHeartbeats 4000000 in
theorem v_Ref_tellOperation_1 (x0 : Nat) (x2 : Int32) (h : MH) (Rt : Value → MH → Prop) (H :
(x2.toInt < (3 : Int32).toInt →
(0 < x2.toInt →
kd h x0 = 13 ∧
SpV k_Ref_say [.ref x0, .int (44 : Int32)] h (fun g3 =>
kd g3 x0 = 13 ∧
WM k_Ref_tellOperation p_Ref_tellOperation_2 [.ref x0, Jv, .int x2, .int (mi g3 x0 14), .int (0 : Int32), Jv] [] g3 0 0 Rt)) ∧
(¬ 0 < x2.toInt →
kd h x0 = 13 ∧
WM k_Ref_tellOperation p_Ref_tellOperation_2 [.ref x0, Jv, .int x2, .int (mi h x0 14), .int (0 : Int32), Jv] [] h 0 0 Rt)) ∧
(¬ x2.toInt < (3 : Int32).toInt →
kd h x0 = 13 ∧
Rt (.int (mi h x0 14)) h)) : WM k_Ref_tellOperation p_Ref_tellOperation_1 [.ref x0, Jv, .int x2, Jv, Jv, Jv] [] h 0 0 Rt := WM_at (hs := HH_Ref_tellOperation) G_Ref_tellOperation 101 11 rfl H
set_option maxRecDepth 100000 in
set_option maxHeartbeats 4000000 in
theorem v_Ref_tellOperation_2 (x0 : Nat) (x2 : Int32) (x3 : Int32) (x4 : Int32) (h : MH) (Rt : Value → MH → Prop) (H :
(x4.toInt < (3 : Int32).toInt →
kd h x0 = 13 ∧
kd h (mr h x0 3) = 20 ∧
InB (((3 : Int32) * x2) + x4) (ln h (mr h x0 3)) ∧
((mi h (mr h x0 3) (ix (((3 : Int32) * x2) + x4))) = 0 →
WM k_Ref_tellOperation p_Ref_tellOperation_2 [.ref x0, Jv, .int x2, .int x3, .int (x4 + (1 : Int32)), Jv] [] h 0 0 Rt) ∧
(¬ (mi h (mr h x0 3) (ix (((3 : Int32) * x2) + x4))) = 0 →
((mi h (mr h x0 3) (ix (((3 : Int32) * x2) + x4))).toInt < 0 →
SpV k_Ref_say [.ref x0, .int (45 : Int32)] h (fun g12 =>
kd g12 x0 = 13 ∧
SpV k_Ref_say [.ref x0, .int ((120 : Int32) + x4)] g12 (fun g13 =>
WM k_Ref_tellOperation p_Ref_tellOperation_2 [.ref x0, Jv, .int x2, .int x3, .int (x4 + (1 : Int32)), Jv] [] g13 0 0 Rt))) ∧
(¬ (mi h (mr h x0 3) (ix (((3 : Int32) * x2) + x4))).toInt < 0 →
(x3.toInt < (mi h x0 14).toInt →
SpV k_Ref_say [.ref x0, .int (43 : Int32)] h (fun g9 =>
kd g9 x0 = 13 ∧
SpV k_Ref_say [.ref x0, .int ((120 : Int32) + x4)] g9 (fun g10 =>
WM k_Ref_tellOperation p_Ref_tellOperation_2 [.ref x0, Jv, .int x2, .int x3, .int (x4 + (1 : Int32)), Jv] [] g10 0 0 Rt))) ∧
(¬ x3.toInt < (mi h x0 14).toInt →
SpV k_Ref_say [.ref x0, .int ((120 : Int32) + x4)] h (fun g8 =>
WM k_Ref_tellOperation p_Ref_tellOperation_2 [.ref x0, Jv, .int x2, .int x3, .int (x4 + (1 : Int32)), Jv] [] g8 0 0 Rt))))) ∧
(¬ x4.toInt < (3 : Int32).toInt →
kd h x0 = 13 ∧
kd h (mr h x0 4) = 20 ∧
InB x2 (ln h (mr h x0 4)) ∧
((mi h (mr h x0 4) (ix x2)) = 0 →
WM k_Ref_tellOperation p_Ref_tellOperation_1 [.ref x0, Jv, .int (x2 + (1 : Int32)), Jv, Jv, Jv] [] h 0 0 Rt) ∧
(¬ (mi h (mr h x0 4) (ix x2)) = 0 →
(x3.toInt < (mi h x0 14).toInt →
SpV k_Ref_say [.ref x0, .int (43 : Int32)] h (fun g4 =>
WM k_Ref_tellOperation p_Ref_tellOperation_3 [.ref x0, Jv, .int x2, Jv, Jv, Jv] [] g4 0 0 Rt)) ∧
(¬ x3.toInt < (mi h x0 14).toInt →
WM k_Ref_tellOperation p_Ref_tellOperation_3 [.ref x0, Jv, .int x2, Jv, Jv, Jv] [] h 0 0 Rt)))) : WM k_Ref_tellOperation p_Ref_tellOperation_2 [.ref x0, Jv, .int x2, .int x3, .int x4, Jv] [] h 0 0 Rt := WM_at (hs := HH_Ref_tellOperation) G_Ref_tellOperation 101 24 rfl ⟨fun c15 => ⟨(H.1 c15).1, ⟨((H.1 c15).2).1, ⟨(((H.1 c15).2).2).1, ⟨((((H.1 c15).2).2).2).1, fun c16 => ⟨fun c17 => ⟨(H.1 c15).1, ((((((H.1 c15).2).2).2).2 c16).1 c17)⟩, fun c17 => ⟨(H.1 c15).1, ⟨fun c18 => ⟨(H.1 c15).1, (((((((H.1 c15).2).2).2).2 c16).2 c17).1 c18)⟩, fun c18 => ⟨(H.1 c15).1, (((((((H.1 c15).2).2).2).2 c16).2 c17).2 c18)⟩⟩⟩⟩⟩⟩⟩⟩, fun c15 => ⟨(H.2 c15).1, ⟨((H.2 c15).2).1, ⟨(((H.2 c15).2).2).1, ⟨((((H.2 c15).2).2).2).1, fun c19 => ⟨(H.2 c15).1, ⟨fun c20 => ⟨(H.2 c15).1, ((((((H.2 c15).2).2).2).2 c19).1 c20)⟩, (((((H.2 c15).2).2).2).2 c19).2⟩⟩⟩⟩⟩⟩⟩
set_option maxRecDepth 100000 in
set_option maxHeartbeats 4000000 in
theorem v_Ref_tellOperation_3 (x0 : Nat) (x2 : Int32) (h : MH) (Rt : Value → MH → Prop) (H :
kd h x0 = 13 ∧
kd h (mr h x0 4) = 20 ∧
InB x2 (ln h (mr h x0 4)) ∧
SpI k_Ref_common [.ref x0, .int (24 : Int32), .int (mi h (mr h x0 4) (ix x2))] h (fun r5 g4 =>
kd g4 x0 = 13 ∧
kd g4 (mr g4 x0 4) = 20 ∧
InB x2 (ln g4 (mr g4 x0 4)) ∧
r5 ≠ 0 ∧
SpV k_Ref_sayNumber [.ref x0, .int ((mi g4 (mr g4 x0 4) (ix x2)) / r5)] g4 (fun g10 =>
kd g10 x0 = 13 ∧
SpV k_Ref_say [.ref x0, .int (47 : Int32)] g10 (fun g11 =>
kd g11 x0 = 13 ∧
SpV k_Ref_sayNumber [.ref x0, .int ((24 : Int32) / r5)] g11 (fun g13 =>
WM k_Ref_tellOperation p_Ref_tellOperation_1 [.ref x0, Jv, .int (x2 + (1 : Int32)), Jv, Jv, Jv] [] g13 0 0 Rt))))) : WM k_Ref_tellOperation p_Ref_tellOperation_3 [.ref x0, Jv, .int x2, Jv, Jv, Jv] [] h 0 0 Rt := WM_at (hs := HH_Ref_tellOperation) G_Ref_tellOperation 101 71 rfl ⟨H.1, ⟨H.2.1, ⟨H.2.2.1, ⟨H.1, SpI.mono H.2.2.2 (fun r5 g4 qg4 => ⟨qg4.1, ⟨qg4.2.1, ⟨qg4.2.2.1, ⟨qg4.2.2.2.1, ⟨qg4.1, SpV.mono qg4.2.2.2.2 (fun g10 qg10 => ⟨qg10.1, SpV.mono qg10.2 (fun g11 qg11 => ⟨qg4.2.2.2.1, qg11⟩)⟩)⟩⟩⟩⟩⟩)⟩⟩⟩⟩
set_option maxRecDepth 100000 in
set_option maxHeartbeats 4000000 in
theorem v_Ref_tell (x0 : Nat) (x1 : Int32) (h : MH) (Rt : Value → MH → Prop) (H :
kd h x0 = 13 ∧
SpI k_Ref_isOperation [.ref x0, .int x1] h (fun r3 g1 =>
(r3 = 0 →
Rt (.int (-1 : Int32)) g1) ∧
(¬ r3 = 0 →
kd g1 x0 = 13 ∧
kd g1 (mr g1 x0 0) = 20 ∧
InB x1 (ln g1 (mr g1 x0 0)) ∧
SpI k_Ref_tellOperation [.ref x0, .int (mi g1 (mr g1 x0 0) (ix x1))] g1 (fun r8 g7 =>
Rt (.int r8) g7)))) : Sp k_Ref_tell [.ref x0, .int x1] h Rt := Sp_intro2 (by decide) (by decide +kernel) rfl (Nat.le_of_ble_eq_true rfl) (WM_at (hs := HH_Ref_tell) G_Ref_tell 14 0 rfl ⟨H.1, SpI.mono H.2 (fun r3 g1 qg1 => ⟨qg1.1, fun c9 => ⟨(qg1.2 c9).1, ⟨((qg1.2 c9).2).1, ⟨(((qg1.2 c9).2).2).1, ⟨(qg1.2 c9).1, (((qg1.2 c9).2).2).2⟩⟩⟩⟩⟩)⟩)
set_option maxRecDepth 100000 in
set_option maxHeartbeats 4000000 in
theorem v_Ho_groupAt (x0 : Nat) (x1 : Int32) (h : MH) (Rt : Value → MH → Prop) (H :
(x1.toInt < 0 →
Rt (.ref 0) h) ∧
(¬ x1.toInt < 0 →
kd h x0 = 12 ∧
(x1.toInt < (mi h x0 6).toInt →
kd h (mr h x0 5) = 24 ∧
InB x1 (ln h (mr h x0 5)) ∧
Rt (.ref (mr h (mr h x0 5) (ix x1))) h) ∧
(¬ x1.toInt < (mi h x0 6).toInt →
Rt (.ref 0) h))) : Sp k_Ho_groupAt [.ref x0, .int x1] h Rt := Sp_intro2 (by decide) (by decide +kernel) rfl (Nat.le_of_ble_eq_true rfl) (WM_at (hs := HH_Ho_groupAt) G_Ho_groupAt 14 0 rfl ⟨H.1, fun c4 => ⟨(H.2 c4).1, ⟨fun c5 => ⟨(H.2 c4).1, (((H.2 c4).2).1 c5)⟩, ((H.2 c4).2).2⟩⟩⟩)
set_option maxRecDepth 100000 in
set_option maxHeartbeats 4000000 in
theorem v_Ho_tellOf (x0 : Nat) (x1 : Int32) (x2 : Int32) (h : MH) (Rt : Value → MH → Prop) (H :
kd h x0 = 12 ∧
SpR k_Ho_groupAt [.ref x0, .int x1] h (fun r3 g1 =>
(r3 = 0 →
Rt (.int (-1 : Int32)) g1) ∧
(¬ r3 = 0 →
(x2.toInt < 0 →
Rt (.int (-1 : Int32)) g1) ∧
(¬ x2.toInt < 0 →
kd g1 r3 = 4 ∧
kd g1 (mr g1 r3 0) = 9 ∧
(x2.toInt < (mi g1 (mr g1 r3 0) 1).toInt →
kd g1 x0 = 12 ∧
kd g1 (mr g1 (mr g1 r3 0) 0) = 20 ∧
InB x2 (ln g1 (mr g1 (mr g1 r3 0) 0)) ∧
kd g1 (mr g1 x0 9) = 7 ∧
SpV k_Motion_open [.ref (mr g1 x0 9), .int (mi g1 (mr g1 (mr g1 r3 0) 0) (ix x2))] g1 (fun g9 =>
kd g9 x0 = 12 ∧
kd g9 (mr g9 x0 0) = 10 ∧
SpI k_Scribe_write [.ref (mr g9 x0 0), .ref (mr g9 x0 9)] g9 (fun r14 g12 =>
Rt (.int r14) g12))) ∧
(¬ x2.toInt < (mi g1 (mr g1 r3 0) 1).toInt →
Rt (.int (-1 : Int32)) g1))))) : Sp k_Ho_tellOf [.ref x0, .int x1, .int x2] h Rt := Sp_intro2 (by decide) (by decide +kernel) rfl (Nat.le_of_ble_eq_true rfl) (WM_at (hs := HH_Ho_tellOf) G_Ho_tellOf 30 0 rfl ⟨H.1, SpR.mono H.2 (fun r3 g1 qg1 => ⟨qg1.1, fun c15 => ⟨(qg1.2 c15).1, fun c16 => ⟨((qg1.2 c15).2 c16).1, ⟨(((qg1.2 c15).2 c16).2).1, ⟨fun c17 => ⟨(((((qg1.2 c15).2 c16).2).2).1 c17).1, ⟨((qg1.2 c15).2 c16).1, ⟨(((qg1.2 c15).2 c16).2).1, ⟨((((((qg1.2 c15).2 c16).2).2).1 c17).2).1, ⟨(((((((qg1.2 c15).2 c16).2).2).1 c17).2).2).1, ⟨((((((((qg1.2 c15).2 c16).2).2).1 c17).2).2).2).1, SpV.mono (((((((((qg1.2 c15).2 c16).2).2).1 c17).2).2).2).2) (fun g9 qg9 => ⟨qg9.1, ⟨qg9.1, qg9.2⟩⟩)⟩⟩⟩⟩⟩⟩, ((((qg1.2 c15).2 c16).2).2).2⟩⟩⟩⟩⟩)⟩)
set_option maxRecDepth 100000 in
set_option maxHeartbeats 4000000 in
theorem v_Ref_isGroup (x0 : Nat) (x1 : Int32) (h : MH) (Rt : Value → MH → Prop) (H :
(x1.toInt < 0 →
Rt (.int (0 : Int32)) h) ∧
(¬ x1.toInt < 0 →
kd h x0 = 13 ∧
(x1.toInt < (mi h x0 17).toInt →
Rt (.int (1 : Int32)) h) ∧
(¬ x1.toInt < (mi h x0 17).toInt →
Rt (.int (0 : Int32)) h))) : Sp k_Ref_isGroup [.ref x0, .int x1] h Rt := Sp_intro2 (by decide) (by decide +kernel) rfl (Nat.le_of_ble_eq_true rfl) (WM_at (hs := HH_Ref_isGroup) G_Ref_isGroup 11 0 rfl ⟨fun c2 => ⟨(Or.inl rfl), (H.1 c2)⟩, fun c2 => ⟨(H.2 c2).1, ⟨fun c3 => ⟨(Or.inr rfl), (((H.2 c2).2).1 c3)⟩, fun c3 => ⟨(Or.inl rfl), (((H.2 c2).2).2 c3)⟩⟩⟩⟩)
set_option maxRecDepth 100000 in
set_option maxHeartbeats 4000000 in
theorem v_Ref_tellOf (x0 : Nat) (x1 : Int32) (x2 : Int32) (h : MH) (Rt : Value → MH → Prop) (H :
kd h x0 = 13 ∧
SpI k_Ref_isGroup [.ref x0, .int x1] h (fun r3 g1 =>
(r3 = 0 →
Rt (.int (-1 : Int32)) g1) ∧
(¬ r3 = 0 →
(x2.toInt < 0 →
Rt (.int (-1 : Int32)) g1) ∧
(¬ x2.toInt < 0 →
kd g1 x0 = 13 ∧
kd g1 (mr g1 x0 16) = 20 ∧
InB x1 (ln g1 (mr g1 x0 16)) ∧
(x2.toInt < (mi g1 (mr g1 x0 16) (ix x1)).toInt →
kd g1 (mr g1 x0 15) = 20 ∧
InB (((192 : Int32) * x1) + x2) (ln g1 (mr g1 x0 15)) ∧
SpI k_Ref_tellOperation [.ref x0, .int (mi g1 (mr g1 x0 15) (ix (((192 : Int32) * x1) + x2)))] g1 (fun r10 g9 =>
Rt (.int r10) g9)) ∧
(¬ x2.toInt < (mi g1 (mr g1 x0 16) (ix x1)).toInt →
Rt (.int (-1 : Int32)) g1))))) : Sp k_Ref_tellOf [.ref x0, .int x1, .int x2] h Rt := Sp_intro2 (by decide) (by decide +kernel) rfl (Nat.le_of_ble_eq_true rfl) (WM_at (hs := HH_Ref_tellOf) G_Ref_tellOf 26 0 rfl ⟨H.1, SpI.mono H.2 (fun r3 g1 qg1 => ⟨qg1.1, fun c11 => ⟨(qg1.2 c11).1, fun c12 => ⟨((qg1.2 c11).2 c12).1, ⟨(((qg1.2 c11).2 c12).2).1, ⟨((((qg1.2 c11).2 c12).2).2).1, ⟨fun c13 => ⟨((qg1.2 c11).2 c12).1, ⟨((((((qg1.2 c11).2 c12).2).2).2).1 c13).1, ⟨(((((((qg1.2 c11).2 c12).2).2).2).1 c13).2).1, ⟨((qg1.2 c11).2 c12).1, (((((((qg1.2 c11).2 c12).2).2).2).1 c13).2).2⟩⟩⟩⟩, (((((qg1.2 c11).2 c12).2).2).2).2⟩⟩⟩⟩⟩⟩)⟩)
set_option maxRecDepth 100000 in
set_option maxHeartbeats 4000000 in
theorem v_Ho_letter (x0 : Nat) (x1 : Int32) (h : MH) (Rt : Value → MH → Prop) (H :
(x1.toInt < 0 →
Rt (.int (-1 : Int32)) h) ∧
(¬ x1.toInt < 0 →
kd h x0 = 12 ∧
kd h (mr h x0 0) = 10 ∧
(x1.toInt < (mi h (mr h x0 0) 8).toInt →
kd h (mr h (mr h x0 0) 7) = 23 ∧
InB x1 (ln h (mr h (mr h x0 0) 7)) ∧
Rt (.int (mi h (mr h (mr h x0 0) 7) (ix x1))) h) ∧
(¬ x1.toInt < (mi h (mr h x0 0) 8).toInt →
Rt (.int (-1 : Int32)) h))) : Sp k_Ho_letter [.ref x0, .int x1] h Rt := Sp_intro2 (by decide) (by decide +kernel) rfl (Nat.le_of_ble_eq_true rfl) (WM_at (hs := HH_Ho_letter) G_Ho_letter 16 0 rfl ⟨H.1, fun c5 => ⟨(H.2 c5).1, ⟨((H.2 c5).2).1, ⟨fun c6 => ⟨(H.2 c5).1, ⟨((H.2 c5).2).1, ((((H.2 c5).2).2).1 c6)⟩⟩, (((H.2 c5).2).2).2⟩⟩⟩⟩)
set_option maxRecDepth 100000 in
set_option maxHeartbeats 4000000 in
theorem v_Ref_letter (x0 : Nat) (x1 : Int32) (h : MH) (Rt : Value → MH → Prop) (H :
(x1.toInt < 0 →
Rt (.int (-1 : Int32)) h) ∧
(¬ x1.toInt < 0 →
kd h x0 = 13 ∧
(x1.toInt < (mi h x0 14).toInt →
kd h (mr h x0 13) = 20 ∧
InB x1 (ln h (mr h x0 13)) ∧
Rt (.int (mi h (mr h x0 13) (ix x1))) h) ∧
(¬ x1.toInt < (mi h x0 14).toInt →
Rt (.int (-1 : Int32)) h))) : Sp k_Ref_letter [.ref x0, .int x1] h Rt := Sp_intro2 (by decide) (by decide +kernel) rfl (Nat.le_of_ble_eq_true rfl) (WM_at (hs := HH_Ref_letter) G_Ref_letter 14 0 rfl ⟨H.1, fun c4 => ⟨(H.2 c4).1, ⟨fun c5 => ⟨(H.2 c4).1, (((H.2 c4).2).1 c5)⟩, ((H.2 c4).2).2⟩⟩⟩)
set_option maxRecDepth 100000 in
set_option maxHeartbeats 4000000 in
theorem v_Ho_choose (x0 : Nat) (x1 : Int32) (h : MH) (Rt : Value → MH → Prop) (H :
(x1.toInt < 0 →
Rt (.int (0 : Int32)) h) ∧
(¬ x1.toInt < 0 →
kd h x0 = 12 ∧
(x1.toInt < (mi h x0 3).toInt →
kd h (mr h x0 2) = 22 ∧
InB x1 (ln h (mr h x0 2)) ∧
((mi h (mr h x0 2) (ix x1)) = 0 →
∀ g5 : MH, g5 = wi h (mr h x0 2) (ix x1) (1 : Int32) →
Rt (.int (1 : Int32)) g5) ∧
(¬ (mi h (mr h x0 2) (ix x1)) = 0 →
∀ g4 : MH, g4 = wi h (mr h x0 2) (ix x1) (0 : Int32) →
Rt (.int (1 : Int32)) g4)) ∧
(¬ x1.toInt < (mi h x0 3).toInt →
Rt (.int (0 : Int32)) h))) : Sp k_Ho_choose [.ref x0, .int x1] h Rt := Sp_intro2 (by decide) (by decide +kernel) rfl (Nat.le_of_ble_eq_true rfl) (WM_at (hs := HH_Ho_choose) G_Ho_choose 23 0 rfl ⟨fun c6 => ⟨(Or.inl rfl), (H.1 c6)⟩, fun c6 => ⟨(H.2 c6).1, ⟨fun c7 => ⟨(H.2 c6).1, ⟨(H.2 c6).1, ⟨(((H.2 c6).2).1 c7).1, ⟨((((H.2 c6).2).1 c7).2).1, ⟨fun c8 => ⟨(((H.2 c6).2).1 c7).1, ⟨((((H.2 c6).2).1 c7).2).1, ⟨(Or.inr rfl), ⟨(Or.inr rfl), (((((((H.2 c6).2).1 c7).2).2).1 c8) _ rfl)⟩⟩⟩⟩, fun c8 => ⟨(((H.2 c6).2).1 c7).1, ⟨((((H.2 c6).2).1 c7).2).1, ⟨(Or.inl rfl), ⟨(Or.inr rfl), (((((((H.2 c6).2).1 c7).2).2).2 c8) _ rfl)⟩⟩⟩⟩⟩⟩⟩⟩⟩, fun c7 => ⟨(Or.inl rfl), (((H.2 c6).2).2 c7)⟩⟩⟩⟩)
set_option maxRecDepth 100000 in
set_option maxHeartbeats 4000000 in
theorem v_Ref_choose (x0 : Nat) (x1 : Int32) (h : MH) (Rt : Value → MH → Prop) (H :
kd h x0 = 13 ∧
SpI k_Ref_isOperation [.ref x0, .int x1] h (fun r3 g1 =>
(r3 = 0 →
Rt (.int (0 : Int32)) g1) ∧
(¬ r3 = 0 →
kd g1 x0 = 13 ∧
kd g1 (mr g1 x0 2) = 20 ∧
InB x1 (ln g1 (mr g1 x0 2)) ∧
∀ g7 : MH, g7 = wi g1 (mr g1 x0 2) (ix x1) ((1 : Int32) - (mi g1 (mr g1 x0 2) (ix x1))) →
Rt (.int (1 : Int32)) g7))) : Sp k_Ref_choose [.ref x0, .int x1] h Rt := Sp_intro2 (by decide) (by decide +kernel) rfl (Nat.le_of_ble_eq_true rfl) (WM_at (hs := HH_Ref_choose) G_Ref_choose 19 0 rfl ⟨H.1, SpI.mono H.2 (fun r3 g1 qg1 => ⟨fun c8 => ⟨(Or.inl rfl), (qg1.1 c8)⟩, fun c8 => ⟨(qg1.2 c8).1, ⟨(qg1.2 c8).1, ⟨((qg1.2 c8).2).1, ⟨(((qg1.2 c8).2).2).1, ⟨((qg1.2 c8).2).1, ⟨(((qg1.2 c8).2).2).1, ⟨(Or.inr rfl), ((((qg1.2 c8).2).2).2 _ rfl)⟩⟩⟩⟩⟩⟩⟩⟩)⟩)
set_option maxRecDepth 100000 in
set_option maxHeartbeats 4000000 in
theorem v_Row_clear (x0 : Nat) (h : MH) (Rt : Value → MH → Prop) (H :
kd h x0 = 9 ∧
∀ g2 : MH, g2 = wi h x0 1 (0 : Int32) →
Rt .null g2) : Sp k_Row_clear [.ref x0] h Rt := Sp_intro2 (by decide) (by decide +kernel) rfl (Nat.le_of_ble_eq_true rfl) (WM_at (hs := HH_Row_clear) G_Row_clear 5 0 rfl ⟨H.1, (H.2 _ rfl)⟩)
set_option maxRecDepth 100000 in
set_option maxHeartbeats 4000000 in
theorem v_Row_seat (x0 : Nat) (x1 : Int32) (h : MH) (Rt : Value → MH → Prop) (H :
kd h x0 = 9 ∧
WM k_Row_seat p_Row_seat_1 [.ref x0, .int x1, .int (0 : Int32), .int (mi h x0 1), .int (0 : Int32), Jv] [] h 0 0 Rt) : Sp k_Row_seat [.ref x0, .int x1] h Rt := Sp_intro2 (by decide) (by decide +kernel) rfl (Nat.le_of_ble_eq_true rfl) (WM_at (hs := HH_Row_seat) G_Row_seat 37 0 rfl H)
set_option maxRecDepth 100000 in
set_option maxHeartbeats 4000000 in
theorem v_Row_seat_1 (x0 : Nat) (x1 : Int32) (x2 : Int32) (x3 : Int32) (x4 : Int32) (h : MH) (Rt : Value → MH → Prop) (H :
(x4.toInt < (32 : Int32).toInt →
(x2.toInt < x3.toInt →
kd h x0 = 9 ∧
kd h (mr h x0 0) = 20 ∧
InB (((x2 + x3).toUInt32 >>> ((1 : Int32).toUInt32 &&& Int32.toUInt32 31)).toInt32) (ln h (mr h x0 0)) ∧
((mi h (mr h x0 0) (ix (((x2 + x3).toUInt32 >>> ((1 : Int32).toUInt32 &&& Int32.toUInt32 31)).toInt32))).toInt < x1.toInt →
WM k_Row_seat p_Row_seat_1 [.ref x0, .int x1, .int (((x2 + x3).toUInt32 >>> ((1 : Int32).toUInt32 &&& Int32.toUInt32 31)).toInt32 + (1 : Int32)), .int x3, .int (x4 + (1 : Int32)), Jv] [] h 0 0 Rt) ∧
(¬ (mi h (mr h x0 0) (ix (((x2 + x3).toUInt32 >>> ((1 : Int32).toUInt32 &&& Int32.toUInt32 31)).toInt32))).toInt < x1.toInt →
WM k_Row_seat p_Row_seat_1 [.ref x0, .int x1, .int x2, .int (((x2 + x3).toUInt32 >>> ((1 : Int32).toUInt32 &&& Int32.toUInt32 31)).toInt32), .int (x4 + (1 : Int32)), Jv] [] h 0 0 Rt)) ∧
(¬ x2.toInt < x3.toInt →
Rt (.int x2) h)) ∧
(¬ x4.toInt < (32 : Int32).toInt →
Rt (.int x2) h)) : WM k_Row_seat p_Row_seat_1 [.ref x0, .int x1, .int x2, .int x3, .int x4, Jv] [] h 0 0 Rt := WM_at (hs := HH_Row_seat) G_Row_seat 37 7 rfl H
set_option maxRecDepth 100000 in
set_option maxHeartbeats 4000000 in
theorem v_Row_put (x0 : Nat) (x1 : Int32) (h : MH) (Rt : Value → MH → Prop) (H :
kd h x0 = 9 ∧
SpI k_Row_seat [.ref x0, .int x1] h (fun r3 g1 =>
kd g1 x0 = 9 ∧
(r3.toInt < (mi g1 x0 1).toInt →
kd g1 (mr g1 x0 0) = 20 ∧
InB r3 (ln g1 (mr g1 x0 0)) ∧
((mi g1 (mr g1 x0 0) (ix r3)) = x1 →
Rt (.int (1 : Int32)) g1) ∧
(¬ (mi g1 (mr g1 x0 0) (ix r3)) = x1 →
WM k_Row_put p_Row_put_1 [.ref x0, .int x1, .int r3] [] g1 0 0 Rt)) ∧
(¬ r3.toInt < (mi g1 x0 1).toInt →
WM k_Row_put p_Row_put_1 [.ref x0, .int x1, .int r3] [] g1 0 0 Rt))) : Sp k_Row_put [.ref x0, .int x1] h Rt := Sp_intro2 (by decide) (by decide +kernel) rfl (Nat.le_of_ble_eq_true rfl) (WM_at (hs := HH_Row_put) G_Row_put 51 0 rfl ⟨H.1, SpI.mono H.2 (fun r3 g1 qg1 => ⟨qg1.1, ⟨fun c7 => ⟨qg1.1, ⟨(qg1.2.1 c7).1, ⟨((qg1.2.1 c7).2).1, ⟨fun c8 => ⟨(Or.inr rfl), ((((qg1.2.1 c7).2).2).1 c8)⟩, (((qg1.2.1 c7).2).2).2⟩⟩⟩⟩, qg1.2.2⟩⟩)⟩)
set_option maxRecDepth 100000 in
set_option maxHeartbeats 4000000 in
theorem v_Row_put_1 (x0 : Nat) (x1 : Int32) (x2 : Int32) (h : MH) (Rt : Value → MH → Prop) (H :
kd h x0 = 9 ∧
kd h (mr h x0 0) = 20 ∧
((mi h x0 1).toInt < (Int32.ofNat (ln h (mr h x0 0))).toInt →
(0 ≤ x2.toInt ∧ 0 ≤ (x2 + (1 : Int32)).toInt ∧ 0 ≤ ((mi h x0 1) - x2).toInt ∧ x2.toInt + ((mi h x0 1) - x2).toInt ≤ ln h (mr h x0 0) ∧ (x2 + (1 : Int32)).toInt + ((mi h x0 1) - x2).toInt ≤ ln h (mr h x0 0)) ∧
∀ g4 : MH, g4 = cpI h (mr h x0 0) (ix x2) (mr h x0 0) (ix (x2 + (1 : Int32))) (ix ((mi h x0 1) - x2)) →
InB x2 (ln h (mr h x0 0)) ∧
∀ g6 : MH, g6 = wi g4 (mr h x0 0) (ix x2) x1 →
∀ g7 : MH, g7 = wi g6 x0 1 ((mi g6 x0 1) + (1 : Int32)) →
Rt (.int (1 : Int32)) g7) ∧
(¬ (mi h x0 1).toInt < (Int32.ofNat (ln h (mr h x0 0))).toInt →
Rt (.int (0 : Int32)) h)) : WM k_Row_put p_Row_put_1 [.ref x0, .int x1, .int x2] [] h 0 0 Rt := WM_at (hs := HH_Row_put) G_Row_put 51 16 rfl ⟨H.1, ⟨H.1, ⟨H.2.1, ⟨fun c8 => ⟨H.1, ⟨H.1, ⟨H.1, ⟨H.2.1, ⟨H.2.1, ⟨(H.2.2.1 c8).1, ⟨H.1, ⟨H.2.1, ⟨((H.2.2.1 c8).2 _ rfl).1, ⟨H.1, ⟨H.1, ⟨(Or.inr rfl), ((((H.2.2.1 c8).2 _ rfl).2 _ rfl) _ rfl)⟩⟩⟩⟩⟩⟩⟩⟩⟩⟩⟩⟩, fun c8 => ⟨(Or.inl rfl), (H.2.2.2 c8)⟩⟩⟩⟩⟩
set_option maxRecDepth 100000 in
set_option maxHeartbeats 4000000 in
theorem v_Closure_begin (x0 : Nat) (h : MH) (Rt : Value → MH → Prop) (H :
kd h x0 = 2 ∧
kd h (mr h x0 0) = 9 ∧
SpV k_Row_clear [.ref (mr h x0 0)] h (fun g2 =>
kd g2 x0 = 2 ∧
kd g2 (mr g2 x0 0) = 9 ∧
SpI k_Row_put [.ref (mr g2 x0 0), .int (227874816 : Int32)] g2 (fun r7 g5 =>
kd g5 x0 = 2 ∧
kd g5 (mr g5 x0 1) = 20 ∧
InB (0 : Int32) (ln g5 (mr g5 x0 1)) ∧
∀ g11 : MH, g11 = wi g5 (mr g5 x0 1) (ix (0 : Int32)) (227874816 : Int32) →
∀ g12 : MH, g12 = wi g11 x0 3 (0 : Int32) →
Rt .null g12))) : Sp k_Closure_begin [.ref x0] h Rt := Sp_intro2 (by decide) (by decide +kernel) rfl (Nat.le_of_ble_eq_true rfl) (WM_at (hs := HH_Closure_begin) G_Closure_begin 18 0 rfl ⟨H.1, ⟨H.2.1, SpV.mono H.2.2 (fun g2 qg2 => ⟨qg2.1, ⟨qg2.2.1, SpI.mono qg2.2.2 (fun r7 g5 qg5 => ⟨qg5.1, ⟨qg5.2.1, ⟨qg5.2.2.1, ⟨qg5.1, ((qg5.2.2.2 _ rfl) _ rfl)⟩⟩⟩⟩)⟩⟩)⟩⟩)
set_option maxRecDepth 100000 in
set_option maxHeartbeats 4000000 in
theorem v_Row_find (x0 : Nat) (x1 : Int32) (h : MH) (Rt : Value → MH → Prop) (H :
kd h x0 = 9 ∧
SpI k_Row_seat [.ref x0, .int x1] h (fun r3 g1 =>
kd g1 x0 = 9 ∧
(r3.toInt < (mi g1 x0 1).toInt →
kd g1 (mr g1 x0 0) = 20 ∧
InB r3 (ln g1 (mr g1 x0 0)) ∧
((mi g1 (mr g1 x0 0) (ix r3)) = x1 →
Rt (.int r3) g1) ∧
(¬ (mi g1 (mr g1 x0 0) (ix r3)) = x1 →
Rt (.int (-1 : Int32)) g1)) ∧
(¬ r3.toInt < (mi g1 x0 1).toInt →
Rt (.int (-1 : Int32)) g1))) : Sp k_Row_find [.ref x0, .int x1] h Rt := Sp_intro2 (by decide) (by decide +kernel) rfl (Nat.le_of_ble_eq_true rfl) (WM_at (hs := HH_Row_find) G_Row_find 19 0 rfl ⟨H.1, SpI.mono H.2 (fun r3 g1 qg1 => ⟨qg1.1, ⟨fun c7 => ⟨qg1.1, (qg1.2.1 c7)⟩, qg1.2.2⟩⟩)⟩)
set_option maxRecDepth 100000 in
set_option maxHeartbeats 4000000 in
theorem v_Motion_join (x0 : Nat) (x1 : Nat) (x2 : Nat) (h : MH) (Rt : Value → MH → Prop) (H :
WM k_Motion_join p_Motion_join_1 [.ref x0, .ref x1, .ref x2, .int (0 : Int32), Jv, Jv] [] h 0 0 Rt) : Sp k_Motion_join [.ref x0, .ref x1, .ref x2] h Rt := Sp_intro2 (by decide) (by decide +kernel) rfl (Nat.le_of_ble_eq_true rfl) (WM_at (hs := HH_Motion_join) G_Motion_join 89 0 rfl H)
set_option maxRecDepth 100000 in
set_option maxHeartbeats 4000000 in
theorem v_Motion_join_1 (x0 : Nat) (x1 : Nat) (x2 : Nat) (x3 : Int32) (h : MH) (Rt : Value → MH → Prop) (H :
(x3.toInt < (9 : Int32).toInt →
kd h x1 = 7 ∧
kd h (mr h x1 1) = 20 ∧
InB (x3 / (3 : Int32)) (ln h (mr h x1 1)) ∧
WM k_Motion_join p_Motion_join_2 [.ref x0, .ref x1, .ref x2, .int x3, .int (mi h (mr h x1 1) (ix (x3 / (3 : Int32)))), .int (0 : Int32)] [] h 0 0 Rt) ∧
(¬ x3.toInt < (9 : Int32).toInt →
Rt .null h)) : WM k_Motion_join p_Motion_join_1 [.ref x0, .ref x1, .ref x2, .int x3, Jv, Jv] [] h 0 0 Rt := WM_at (hs := HH_Motion_join) G_Motion_join 89 2 rfl ⟨fun c4 => ⟨(H.1 c4).1, ⟨(by decide), (H.1 c4).2⟩⟩, H.2⟩
set_option maxRecDepth 100000 in
set_option maxHeartbeats 4000000 in
theorem v_Motion_join_2 (x0 : Nat) (x1 : Nat) (x2 : Nat) (x3 : Int32) (x4 : Int32) (x5 : Int32) (h : MH) (Rt : Value → MH → Prop) (H :
(x5.toInt < (3 : Int32).toInt →
kd h x0 = 7 ∧
kd h x1 = 7 ∧
kd h (mr h x1 0) = 20 ∧
InB x3 (ln h (mr h x1 0)) ∧
kd h x2 = 7 ∧
kd h (mr h x2 0) = 20 ∧
InB x5 (ln h (mr h x2 0)) ∧
InB (x3 + (1 : Int32)) (ln h (mr h x1 0)) ∧
InB ((3 : Int32) + x5) (ln h (mr h x2 0)) ∧
InB (x3 + (2 : Int32)) (ln h (mr h x1 0)) ∧
InB ((6 : Int32) + x5) (ln h (mr h x2 0)) ∧
kd h (mr h x0 0) = 20 ∧
InB (x3 + x5) (ln h (mr h x0 0)) ∧
∀ g20 : MH, g20 = wi h (mr h x0 0) (ix (x3 + x5)) ((((mi h (mr h x1 0) (ix x3)) * (mi h (mr h x2 0) (ix x5))) + ((mi h (mr h x1 0) (ix (x3 + (1 : Int32)))) * (mi h (mr h x2 0) (ix ((3 : Int32) + x5))))) + ((mi h (mr h x1 0) (ix (x3 + (2 : Int32)))) * (mi h (mr h x2 0) (ix ((6 : Int32) + x5))))) →
InB (x3 + x5) (ln h (mr h x1 0)) ∧
kd h (mr h x2 1) = 20 ∧
InB x5 (ln h (mr h x2 1)) ∧
WM k_Motion_join p_Motion_join_3 [.ref x0, .ref x1, .ref x2, .int x3, .int (x4 + ((mi g20 (mr h x1 0) (ix (x3 + x5))) * (mi g20 (mr h x2 1) (ix x5)))), .int x5] [] g20 0 0 Rt) ∧
(¬ x5.toInt < (3 : Int32).toInt →
kd h x0 = 7 ∧
SpI k_Math_floorMod [.int x4, .int (24 : Int32)] h (fun r3 g2 =>
kd g2 (mr h x0 1) = 20 ∧
InB (x3 / (3 : Int32)) (ln g2 (mr h x0 1)) ∧
∀ g6 : MH, g6 = wi g2 (mr h x0 1) (ix (x3 / (3 : Int32))) r3 →
WM k_Motion_join p_Motion_join_1 [.ref x0, .ref x1, .ref x2, .int (x3 + (3 : Int32)), Jv, Jv] [] g6 0 0 Rt))) : WM k_Motion_join p_Motion_join_2 [.ref x0, .ref x1, .ref x2, .int x3, .int x4, .int x5] [] h 0 0 Rt := WM_at (hs := HH_Motion_join) G_Motion_join 89 14 rfl ⟨fun c24 => ⟨(H.1 c24).1, ⟨((H.1 c24).2).1, ⟨(((H.1 c24).2).2).1, ⟨((((H.1 c24).2).2).2).1, ⟨(((((H.1 c24).2).2).2).2).1, ⟨((((((H.1 c24).2).2).2).2).2).1, ⟨(((((((H.1 c24).2).2).2).2).2).2).1, ⟨((H.1 c24).2).1, ⟨(((H.1 c24).2).2).1, ⟨((((((((H.1 c24).2).2).2).2).2).2).2).1, ⟨(((((H.1 c24).2).2).2).2).1, ⟨((((((H.1 c24).2).2).2).2).2).1, ⟨(((((((((H.1 c24).2).2).2).2).2).2).2).2).1, ⟨((H.1 c24).2).1, ⟨(((H.1 c24).2).2).1, ⟨((((((((((H.1 c24).2).2).2).2).2).2).2).2).2).1, ⟨(((((H.1 c24).2).2).2).2).1, ⟨((((((H.1 c24).2).2).2).2).2).1, ⟨(((((((((((H.1 c24).2).2).2).2).2).2).2).2).2).2).1, ⟨((((((((((((H.1 c24).2).2).2).2).2).2).2).2).2).2).2).1, ⟨(((((((((((((H.1 c24).2).2).2).2).2).2).2).2).2).2).2).2).1, ⟨((H.1 c24).2).1, ⟨(((H.1 c24).2).2).1, ⟨((((((((((((((H.1 c24).2).2).2).2).2).2).2).2).2).2).2).2).2 _ rfl).1, ⟨(((((H.1 c24).2).2).2).2).1, ((((((((((((((H.1 c24).2).2).2).2).2).2).2).2).2).2).2).2).2 _ rfl).2⟩⟩⟩⟩⟩⟩⟩⟩⟩⟩⟩⟩⟩⟩⟩⟩⟩⟩⟩⟩⟩⟩⟩⟩⟩, fun c24 => ⟨(H.2 c24).1, ⟨(by decide), SpI.mono ((H.2 c24).2) (fun r3 g2 qg2 => ⟨qg2.1, ⟨qg2.2.1, (qg2.2.2 _ rfl)⟩⟩)⟩⟩⟩
set_option maxRecDepth 100000 in
set_option maxHeartbeats 4000000 in
theorem v_Motion_join_3 (x0 : Nat) (x1 : Nat) (x2 : Nat) (x3 : Int32) (x4 : Int32) (x5 : Int32) (h : MH) (Rt : Value → MH → Prop) (H :
WM k_Motion_join p_Motion_join_2 [.ref x0, .ref x1, .ref x2, .int x3, .int x4, .int (x5 + (1 : Int32))] [] h 0 0 Rt) : WM k_Motion_join p_Motion_join_3 [.ref x0, .ref x1, .ref x2, .int x3, .int x4, .int x5] [] h 0 0 Rt := WM_at (hs := HH_Motion_join) G_Motion_join 89 74 rfl H
set_option maxRecDepth 100000 in
set_option maxHeartbeats 4000000 in
theorem v_Closure_extend (x0 : Nat) (x1 : Int32) (x2 : Int32) (h : MH) (Rt : Value → MH → Prop) (H :
kd h x0 = 2 ∧
kd h (mr h x0 4) = 7 ∧
SpV k_Motion_open [.ref (mr h x0 4), .int x1] h (fun g2 =>
WM k_Closure_extend p_Closure_extend_1 [.ref x0, Jv, Jv, .int x2, Jv, Jv] [] g2 0 0 Rt)) : Sp k_Closure_extend [.ref x0, .int x1, .int x2] h Rt := Sp_intro2 (by decide) (by decide +kernel) rfl (Nat.le_of_ble_eq_true rfl) (WM_at (hs := HH_Closure_extend) G_Closure_extend 57 0 rfl H)
set_option maxRecDepth 100000 in
set_option maxHeartbeats 4000000 in
theorem v_Closure_extend_1 (x0 : Nat) (x3 : Int32) (h : MH) (Rt : Value → MH → Prop) (H :
kd h x0 = 2 ∧
(x3.toInt < (mi h x0 3).toInt →
kd h (mr h x0 2) = 20 ∧
InB x3 (ln h (mr h x0 2)) ∧
kd h (mr h x0 5) = 7 ∧
SpV k_Motion_open [.ref (mr h x0 5), .int (mi h (mr h x0 2) (ix x3))] h (fun g4 =>
kd g4 x0 = 2 ∧
kd g4 (mr g4 x0 6) = 7 ∧
SpV k_Motion_join [.ref (mr g4 x0 6), .ref (mr g4 x0 4), .ref (mr g4 x0 5)] g4 (fun g7 =>
kd g7 x0 = 2 ∧
kd g7 (mr g7 x0 6) = 7 ∧
SpI k_Motion_code [.ref (mr g7 x0 6)] g7 (fun r12 g10 =>
kd g10 x0 = 2 ∧
kd g10 (mr g10 x0 0) = 9 ∧
(r12 = (-1 : Int32) →
Rt (.int (0 : Int32)) g10) ∧
(¬ r12 = (-1 : Int32) →
SpI k_Row_put [.ref (mr g10 x0 0), .int r12] g10 (fun r16 g15 =>
(r16 = 0 →
Rt (.int (0 : Int32)) g15) ∧
(¬ r16 = 0 →
kd g15 x0 = 2 ∧
kd g15 (mr g15 x0 0) = 9 ∧
((mi g10 (mr g10 x0 0) 1).toInt < (mi g15 (mr g15 x0 0) 1).toInt →
kd g15 (mr g15 x0 1) = 20 ∧
InB (mi g10 (mr g10 x0 0) 1) (ln g15 (mr g15 x0 1)) ∧
∀ g21 : MH, g21 = wi g15 (mr g15 x0 1) (ix (mi g10 (mr g10 x0 0) 1)) r12 →
WM k_Closure_extend p_Closure_extend_1 [.ref x0, Jv, Jv, .int (x3 + (1 : Int32)), Jv, Jv] [] g21 0 0 Rt) ∧
(¬ (mi g10 (mr g10 x0 0) 1).toInt < (mi g15 (mr g15 x0 0) 1).toInt →
WM k_Closure_extend p_Closure_extend_1 [.ref x0, Jv, Jv, .int (x3 + (1 : Int32)), Jv, Jv] [] g15 0 0 Rt)))))))) ∧
(¬ x3.toInt < (mi h x0 3).toInt →
Rt (.int (1 : Int32)) h)) : WM k_Closure_extend p_Closure_extend_1 [.ref x0, Jv, Jv, .int x3, Jv, Jv] [] h 0 0 Rt := WM_at (hs := HH_Closure_extend) G_Closure_extend 57 6 rfl ⟨H.1, ⟨fun c22 => ⟨H.1, ⟨H.1, ⟨(H.2.1 c22).1, ⟨((H.2.1 c22).2).1, ⟨(((H.2.1 c22).2).2).1, SpV.mono ((((H.2.1 c22).2).2).2) (fun g4 qg4 => ⟨qg4.1, ⟨qg4.1, ⟨qg4.1, ⟨qg4.2.1, SpV.mono qg4.2.2 (fun g7 qg7 => ⟨qg7.1, ⟨qg7.2.1, SpI.mono qg7.2.2 (fun r12 g10 qg10 => ⟨qg10.1, ⟨qg10.2.1, ⟨fun c23 => ⟨(Or.inl rfl), (qg10.2.2.1 c23)⟩, fun c23 => ⟨qg10.1, ⟨qg10.2.1, SpI.mono (qg10.2.2.2 c23) (fun r16 g15 qg15 => ⟨fun c24 => ⟨(Or.inl rfl), (qg15.1 c24)⟩, fun c24 => ⟨(qg15.2 c24).1, ⟨((qg15.2 c24).2).1, ⟨fun c25 => ⟨(qg15.2 c24).1, ⟨((((qg15.2 c24).2).2).1 c25).1, ⟨(((((qg15.2 c24).2).2).1 c25).2).1, ((((((qg15.2 c24).2).2).1 c25).2).2 _ rfl)⟩⟩⟩, (((qg15.2 c24).2).2).2⟩⟩⟩⟩)⟩⟩⟩⟩⟩)⟩⟩)⟩⟩⟩⟩)⟩⟩⟩⟩⟩, fun c22 => ⟨(Or.inr rfl), (H.2.2 c22)⟩⟩⟩
set_option maxRecDepth 100000 in
set_option maxHeartbeats 4000000 in
theorem v_Closure_take (x0 : Nat) (x1 : Int32) (h : MH) (Rt : Value → MH → Prop) (H :
kd h x0 = 2 ∧
kd h (mr h x0 0) = 9 ∧
SpI k_Row_find [.ref (mr h x0 0), .int x1] h (fun r4 g2 =>
(r4 = (-1 : Int32) →
kd g2 x0 = 2 ∧
((mi g2 x0 3).toInt < (8 : Int32).toInt →
kd g2 (mr g2 x0 0) = 9 ∧
kd g2 (mr g2 x0 2) = 20 ∧
InB (mi g2 x0 3) (ln g2 (mr g2 x0 2)) ∧
∀ g9 : MH, g9 = wi g2 (mr g2 x0 2) (ix (mi g2 x0 3)) x1 →
∀ g10 : MH, g10 = wi g9 x0 3 ((mi g9 x0 3) + (1 : Int32)) →
WM k_Closure_take p_Closure_take_1 [.ref x0, Jv, .int (mi g2 (mr g2 x0 0) 1), .int (0 : Int32)] [] g10 0 0 Rt) ∧
(¬ (mi g2 x0 3).toInt < (8 : Int32).toInt →
Rt (.int (0 : Int32)) g2)) ∧
(¬ r4 = (-1 : Int32) →
Rt (.int (1 : Int32)) g2))) : Sp k_Closure_take [.ref x0, .int x1] h Rt := Sp_intro2 (by decide) (by decide +kernel) rfl (Nat.le_of_ble_eq_true rfl) (WM_at (hs := HH_Closure_take) G_Closure_take 63 0 rfl ⟨H.1, ⟨H.2.1, SpI.mono H.2.2 (fun r4 g2 qg2 => ⟨fun c11 => ⟨(qg2.1 c11).1, ⟨fun c12 => ⟨(qg2.1 c11).1, ⟨(((qg2.1 c11).2).1 c12).1, ⟨(qg2.1 c11).1, ⟨(qg2.1 c11).1, ⟨((((qg2.1 c11).2).1 c12).2).1, ⟨(((((qg2.1 c11).2).1 c12).2).2).1, ⟨(qg2.1 c11).1, ⟨(qg2.1 c11).1, (((((((qg2.1 c11).2).1 c12).2).2).2 _ rfl) _ rfl)⟩⟩⟩⟩⟩⟩⟩⟩, fun c12 => ⟨(Or.inl rfl), (((qg2.1 c11).2).2 c12)⟩⟩⟩, fun c11 => ⟨(Or.inr rfl), (qg2.2 c11)⟩⟩)⟩⟩)
set_option maxRecDepth 100000 in
set_option maxHeartbeats 4000000 in
theorem v_Closure_take_1 (x0 : Nat) (x2 : Int32) (x3 : Int32) (h : MH) (Rt : Value → MH → Prop) (H :
kd h x0 = 2 ∧
kd h (mr h x0 0) = 9 ∧
(x3.toInt < (mi h (mr h x0 0) 1).toInt →
(x3.toInt < (192 : Int32).toInt →
kd h (mr h x0 1) = 20 ∧
InB x3 (ln h (mr h x0 1)) ∧
(x3.toInt < x2.toInt →
SpI k_Closure_extend [.ref x0, .int (mi h (mr h x0 1) (ix x3)), .int ((mi h x0 3) - (1 : Int32))] h (fun r8 g7 =>
(r8 = 0 →
Rt (.int (0 : Int32)) g7) ∧
(¬ r8 = 0 →
WM k_Closure_take p_Closure_take_1 [.ref x0, Jv, .int x2, .int (x3 + (1 : Int32))] [] g7 0 0 Rt))) ∧
(¬ x3.toInt < x2.toInt →
SpI k_Closure_extend [.ref x0, .int (mi h (mr h x0 1) (ix x3)), .int (0 : Int32)] h (fun r6 g5 =>
(r6 = 0 →
Rt (.int (0 : Int32)) g5) ∧
(¬ r6 = 0 →
WM k_Closure_take p_Closure_take_1 [.ref x0, Jv, .int x2, .int (x3 + (1 : Int32))] [] g5 0 0 Rt)))) ∧
(¬ x3.toInt < (192 : Int32).toInt →
Rt (.int (1 : Int32)) h)) ∧
(¬ x3.toInt < (mi h (mr h x0 0) 1).toInt →
Rt (.int (1 : Int32)) h)) : WM k_Closure_take p_Closure_take_1 [.ref x0, Jv, .int x2, .int x3] [] h 0 0 Rt := WM_at (hs := HH_Closure_take) G_Closure_take 63 32 rfl ⟨H.1, ⟨H.2.1, ⟨fun c9 => ⟨fun c10 => ⟨H.1, ⟨((H.2.2.1 c9).1 c10).1, ⟨(((H.2.2.1 c9).1 c10).2).1, ⟨fun c11 => ⟨H.1, ⟨H.1, SpI.mono (((((H.2.2.1 c9).1 c10).2).2).1 c11) (fun r8 g7 qg7 => ⟨fun c12 => ⟨(Or.inl rfl), (qg7.1 c12)⟩, qg7.2⟩)⟩⟩, fun c11 => ⟨H.1, SpI.mono (((((H.2.2.1 c9).1 c10).2).2).2 c11) (fun r6 g5 qg5 => ⟨fun c13 => ⟨(Or.inl rfl), (qg5.1 c13)⟩, qg5.2⟩)⟩⟩⟩⟩⟩, fun c10 => ⟨(Or.inr rfl), ((H.2.2.1 c9).2 c10)⟩⟩, fun c9 => ⟨(Or.inr rfl), (H.2.2.2 c9)⟩⟩⟩⟩
set_option maxRecDepth 100000 in
set_option maxHeartbeats 4000000 in
theorem v_Row_sameAs (x0 : Nat) (x1 : Nat) (h : MH) (Rt : Value → MH → Prop) (H :
kd h x0 = 9 ∧
kd h x1 = 9 ∧
((mi h x0 1) = (mi h x1 1) →
WM k_Row_sameAs p_Row_sameAs_1 [.ref x0, .ref x1, .int (0 : Int32)] [] h 0 0 Rt) ∧
(¬ (mi h x0 1) = (mi h x1 1) →
Rt (.int (0 : Int32)) h)) : Sp k_Row_sameAs [.ref x0, .ref x1] h Rt := Sp_intro2 (by decide) (by decide +kernel) rfl (Nat.le_of_ble_eq_true rfl) (WM_at (hs := HH_Row_sameAs) G_Row_sameAs 29 0 rfl ⟨H.1, ⟨H.2.1, ⟨H.2.2.1, fun c3 => ⟨(Or.inl rfl), (H.2.2.2 c3)⟩⟩⟩⟩)
set_option maxRecDepth 100000 in
set_option maxHeartbeats 4000000 in
theorem v_Row_sameAs_1 (x0 : Nat) (x1 : Nat) (x2 : Int32) (h : MH) (Rt : Value → MH → Prop) (H :
kd h x0 = 9 ∧
(x2.toInt < (mi h x0 1).toInt →
kd h (mr h x0 0) = 20 ∧
InB x2 (ln h (mr h x0 0)) ∧
kd h x1 = 9 ∧
kd h (mr h x1 0) = 20 ∧
InB x2 (ln h (mr h x1 0)) ∧
((mi h (mr h x0 0) (ix x2)) = (mi h (mr h x1 0) (ix x2)) →
WM k_Row_sameAs p_Row_sameAs_1 [.ref x0, .ref x1, .int (x2 + (1 : Int32))] [] h 0 0 Rt) ∧
(¬ (mi h (mr h x0 0) (ix x2)) = (mi h (mr h x1 0) (ix x2)) →
Rt (.int (0 : Int32)) h)) ∧
(¬ x2.toInt < (mi h x0 1).toInt →
Rt (.int (1 : Int32)) h)) : WM k_Row_sameAs p_Row_sameAs_1 [.ref x0, .ref x1, .int x2] [] h 0 0 Rt := WM_at (hs := HH_Row_sameAs) G_Row_sameAs 29 9 rfl ⟨H.1, ⟨fun c7 => ⟨H.1, ⟨(H.2.1 c7).1, ⟨((H.2.1 c7).2).1, ⟨(((H.2.1 c7).2).2).1, ⟨((((H.2.1 c7).2).2).2).1, ⟨(((((H.2.1 c7).2).2).2).2).1, ⟨((((((H.2.1 c7).2).2).2).2).2).1, fun c8 => ⟨(Or.inl rfl), (((((((H.2.1 c7).2).2).2).2).2).2 c8)⟩⟩⟩⟩⟩⟩⟩⟩, fun c7 => ⟨(Or.inr rfl), (H.2.2 c7)⟩⟩⟩
set_option maxRecDepth 100000 in
set_option maxHeartbeats 4000000 in
theorem v_Math_minIII (x0 : Int32) (x1 : Int32) (h : MH) (Rt : Value → MH → Prop) (H :
(x1.toInt < x0.toInt →
Rt (.int x1) h) ∧
(¬ x1.toInt < x0.toInt →
Rt (.int x0) h)) : Sp k_Math_minIII [.int x0, .int x1] h Rt := Sp_intro2 (by decide) (by decide +kernel) rfl (Nat.le_of_ble_eq_true rfl) (WM_at (hs := HH_Math_minIII) G_Math_minIII 8 0 rfl H)
set_option maxRecDepth 100000 in
set_option maxHeartbeats 4000000 in
theorem v_Row_copy (x0 : Nat) (x1 : Nat) (h : MH) (Rt : Value → MH → Prop) (H :
kd h x1 = 9 ∧
kd h x0 = 9 ∧
kd h (mr h x0 0) = 20 ∧
SpI k_Math_minIII [.int (mi h x1 1), .int (Int32.ofNat (ln h (mr h x0 0)))] h (fun r5 g4 =>
kd g4 x0 = 9 ∧
∀ g7 : MH, g7 = wi g4 x0 1 r5 →
kd g4 x1 = 9 ∧
kd g4 (mr g4 x1 0) = 20 ∧
kd g4 (mr g4 x0 0) = 20 ∧
(0 ≤ (0 : Int32).toInt ∧ 0 ≤ (0 : Int32).toInt ∧ 0 ≤ (mi g7 x0 1).toInt ∧ (0 : Int32).toInt + (mi g7 x0 1).toInt ≤ ln g4 (mr g4 x1 0) ∧ (0 : Int32).toInt + (mi g7 x0 1).toInt ≤ ln g4 (mr g4 x0 0)) ∧
∀ g12 : MH, g12 = cpI g7 (mr g4 x1 0) (ix (0 : Int32)) (mr g4 x0 0) (ix (0 : Int32)) (ix (mi g7 x0 1)) →
Rt .null g12)) : Sp k_Row_copy [.ref x0, .ref x1] h Rt := Sp_intro2 (by decide) (by decide +kernel) rfl (Nat.le_of_ble_eq_true rfl) (WM_at (hs := HH_Row_copy) G_Row_copy 19 0 rfl ⟨H.1, ⟨H.2.1, ⟨H.2.2.1, SpI.mono H.2.2.2 (fun r5 g4 qg4 => ⟨qg4.1, ⟨(qg4.2 _ rfl).1, ⟨qg4.1, ⟨qg4.1, ⟨((qg4.2 _ rfl).2).1, ⟨(((qg4.2 _ rfl).2).2).1, ⟨((((qg4.2 _ rfl).2).2).2).1, (((((qg4.2 _ rfl).2).2).2).2 _ rfl)⟩⟩⟩⟩⟩⟩⟩)⟩⟩⟩)
set_option maxRecDepth 100000 in
set_option maxHeartbeats 4000000 in
theorem v_Arrays_copyOf (x0 : Nat) (x1 : Int32) (h : MH) (Rt : Value → MH → Prop) (H :
kd h x0 = 20 ∧
(x1 = (Int32.ofNat (ln h x0)) →
False) ∧
(¬ x1 = (Int32.ofNat (ln h x0)) →
0 ≤ x1.toInt ∧
gd (0 + ix x1) 8 (
∀ g3 : MH, g3 = nw h 20 (ix x1) →
kd g3 x0 = 20 ∧
gd ((0 + ix x1) + 0) 8 (
SpI k_Math_minIII [.int (Int32.ofNat (ln g3 x0)), .int x1] g3 (fun r6 g5 =>
kd g5 x0 = 20 ∧
kd g5 (hn h) = 20 ∧
(0 ≤ (0 : Int32).toInt ∧ 0 ≤ (0 : Int32).toInt ∧ 0 ≤ r6.toInt ∧ (0 : Int32).toInt + r6.toInt ≤ ln g5 x0 ∧ (0 : Int32).toInt + r6.toInt ≤ ln g5 (hn h)) ∧
∀ g10 : MH, g10 = cpI g5 x0 (ix (0 : Int32)) (hn h) (ix (0 : Int32)) (ix r6) →
gd ((0 + ix x1) + 0) 8 (
Rt (.ref (hn h)) g10)))))) : Sp k_Arrays_copyOf [.ref x0, .int x1] h Rt := Sp_intro2 (by decide) (by decide +kernel) rfl (Nat.le_of_ble_eq_true rfl) (WM_at (hs := HH_Arrays_copyOf) G_Arrays_copyOf 20 0 rfl ⟨H.1, ⟨H.2.1, fun c11 => ⟨(H.2.2 c11).1, gd_mono (a := (0 + ix x1)) (b := 8) (fun q => ⟨(q _ rfl).1, gd_mono (a := ((0 + ix x1) + 0)) (b := 8) (fun q => SpI.mono q (fun r6 g5 qg5 => ⟨qg5.1, ⟨qg5.2.1, ⟨qg5.2.2.1, (qg5.2.2.2 _ rfl)⟩⟩⟩)) ((q _ rfl).2)⟩) ((H.2.2 c11).2)⟩⟩⟩)
set_option maxRecDepth 100000 in
set_option maxHeartbeats 4000000 in
theorem v_Group_init (x0 : Nat) (x1 : Nat) (h : MH) (Rt : Value → MH → Prop) (H :
x0 ≠ 0 ∧
kd h x0 = 4 ∧
∀ g3 : MH, g3 = wi h x0 2 (-1 : Int32) →
WM k_Group_init p_Group_init_1 [.ref x0, .ref x1] [] g3 0 0 Rt) : Sp k_Group_init [.ref x0, .ref x1] h Rt := Sp_intro2 (by decide) (by decide +kernel) rfl (Nat.le_of_ble_eq_true rfl) (WM_at (hs := HH_Group_init) G_Group_init 35 0 rfl ⟨H.1, ⟨H.2.1, (H.2.2 _ rfl)⟩⟩)
set_option maxRecDepth 100000 in
set_option maxHeartbeats 4000000 in
theorem v_Group_init_1 (x0 : Nat) (x1 : Nat) (cc ss : Nat) (h : MH) (Rt : Value → MH → Prop) (H :
kd h x0 = 4 ∧
∀ g2 : MH, g2 = wr h x0 3 0 →
∀ g3 : MH, g3 = wi g2 x0 4 (0 : Int32) →
WM k_Group_init p_Group_init_2 [.ref x0, .ref x1] [] g3 cc ss Rt) : WM k_Group_init p_Group_init_1 [.ref x0, .ref x1] [] h cc ss Rt := WM_at (hs := HH_Group_init) G_Group_init 35 5 rfl ⟨H.1, ⟨H.1, ((H.2 _ rfl) _ rfl)⟩⟩
set_option maxRecDepth 100000 in
set_option maxHeartbeats 4000000 in
theorem v_Group_init_2 (x0 : Nat) (x1 : Nat) (cc ss : Nat) (h : MH) (Rt : Value → MH → Prop) (H :
gd (cc + 1) 3 (
gd (ss + 2) 410 (
∀ g1 : MH, g1 = nw h 9 0 →
kd g1 x1 = 2 ∧
kd g1 (mr g1 x1 0) = 9 ∧
kd g1 (hn h) = 9 ∧
gd ((cc + 1) + 1) 3 (
gd ((ss + 2) + 400) 410 (
SpV k_Row_init [.ref (hn h), .int (mi g1 (mr g1 x1 0) 1)] g1 (fun g4 =>
kd g4 x0 = 4 ∧
∀ g7 : MH, g7 = wr g4 x0 0 (hn h) →
WM k_Group_init p_Group_init_3 [.ref x0, .ref x1] [] g7 ((cc + 1) + 1) ((ss + 2) + 400) Rt)))))) : WM k_Group_init p_Group_init_2 [.ref x0, .ref x1] [] h cc ss Rt := WM_at (hs := HH_Group_init) G_Group_init 35 11 rfl (gd_mono (a := (cc + 1)) (b := 3) (fun q => gd_mono (a := (ss + 2)) (b := 410) (fun q => ⟨(q _ rfl).1, ⟨((q _ rfl).2).1, ⟨(((q _ rfl).2).2).1, gd_mono (a := ((cc + 1) + 1)) (b := 3) (fun q => gd_mono (a := ((ss + 2) + 400)) (b := 410) (fun q => SpV.mono q (fun g4 qg4 => ⟨qg4.1, (qg4.2 _ rfl)⟩)) q) ((((q _ rfl).2).2).2)⟩⟩⟩) q) H)
set_option maxRecDepth 100000 in
set_option maxHeartbeats 4000000 in
theorem v_Group_init_3 (x0 : Nat) (x1 : Nat) (cc ss : Nat) (h : MH) (Rt : Value → MH → Prop) (H :
kd h x0 = 4 ∧
kd h x1 = 2 ∧
kd h (mr h x0 0) = 9 ∧
gd (cc + 0) 3 (
gd (ss + 0) 410 (
SpV k_Row_copy [.ref (mr h x0 0), .ref (mr h x1 0)] h (fun g3 =>
kd g3 x1 = 2 ∧
gd ((cc + 0) + 0) 3 (
gd ((ss + 0) + 0) 410 (
SpI k_Math_maxIII [.int (mi g3 x1 3), .int (0 : Int32)] g3 (fun r7 g6 =>
gd (((cc + 0) + 0) + 1) 3 (
gd (((ss + 0) + 0) + 8) 410 (
SpR k_Arrays_copyOf [.ref (mr g3 x1 2), .int r7] g6 (fun r9 g8 =>
kd g8 x0 = 4 ∧
∀ g11 : MH, g11 = wr g8 x0 1 r9 →
WM k_Group_init p_Group_init_4 [Jv, Jv] [] g11 (((cc + 0) + 0) + 1) (((ss + 0) + 0) + 8) Rt)))))))))) : WM k_Group_init p_Group_init_3 [.ref x0, .ref x1] [] h cc ss Rt := WM_at (hs := HH_Group_init) G_Group_init 35 19 rfl ⟨H.1, ⟨H.2.1, ⟨H.2.2.1, gd_mono (a := (cc + 0)) (b := 3) (fun q => gd_mono (a := (ss + 0)) (b := 410) (fun q => SpV.mono q (fun g3 qg3 => ⟨qg3.1, ⟨qg3.1, gd_mono (a := ((cc + 0) + 0)) (b := 3) (fun q => gd_mono (a := ((ss + 0) + 0)) (b := 410) (fun q => SpI.mono q (fun r7 g6 qg6 => gd_mono (a := (((cc + 0) + 0) + 1)) (b := 3) (fun q => gd_mono (a := (((ss + 0) + 0) + 8)) (b := 410) (fun q => SpR.mono q (fun r9 g8 qg8 => ⟨qg8.1, (qg8.2 _ rfl)⟩)) q) qg6)) q) qg3.2⟩⟩)) q) H.2.2.2⟩⟩⟩
set_option maxRecDepth 100000 in
set_option maxHeartbeats 4000000 in
theorem v_Group_init_4 (cc ss : Nat) (h : MH) (Rt : Value → MH → Prop) (H :
gd cc 3 (
gd ss 410 (
Rt .null h))) : WM k_Group_init p_Group_init_4 [Jv, Jv] [] h cc ss Rt := WM_at (hs := HH_Group_init) G_Group_init 35 33 rfl H
set_option maxRecDepth 100000 in
set_option maxHeartbeats 4000000 in
theorem v_Ho_keepGroup (x0 : Nat) (h : MH) (Rt : Value → MH → Prop) (H :
WM k_Ho_keepGroup p_Ho_keepGroup_1 [.ref x0, .int (0 : Int32), Jv] [] h 0 0 Rt) : Sp k_Ho_keepGroup [.ref x0] h Rt := Sp_intro2 (by decide) (by decide +kernel) rfl (Nat.le_of_ble_eq_true rfl) (WM_at (hs := HH_Ho_keepGroup) G_Ho_keepGroup 51 0 rfl H)
set_option maxRecDepth 100000 in
set_option maxHeartbeats 4000000 in
theorem v_Ho_keepGroup_1 (x0 : Nat) (x1 : Int32) (cc ss : Nat) (h : MH) (Rt : Value → MH → Prop) (H :
kd h x0 = 12 ∧
(x1.toInt < (mi h x0 6).toInt →
kd h (mr h x0 5) = 24 ∧
InB x1 (ln h (mr h x0 5)) ∧
((mr h (mr h x0 5) (ix x1)) = 0 →
WM k_Ho_keepGroup p_Ho_keepGroup_1 [.ref x0, .int (x1 + (1 : Int32)), Jv] [] h cc ss Rt) ∧
(¬ (mr h (mr h x0 5) (ix x1)) = 0 →
kd h (mr h (mr h x0 5) (ix x1)) = 4 ∧
kd h (mr h x0 4) = 2 ∧
kd h (mr h (mr h (mr h x0 5) (ix x1)) 0) = 9 ∧
gd (cc + 0) 4 (
gd (ss + 0) 415 (
SpI k_Row_sameAs [.ref (mr h (mr h (mr h x0 5) (ix x1)) 0), .ref (mr h (mr h x0 4) 0)] h (fun r18 g16 =>
(r18 = 0 →
WM k_Ho_keepGroup p_Ho_keepGroup_1 [.ref x0, .int (x1 + (1 : Int32)), Jv] [] g16 (cc + 0) (ss + 0) Rt) ∧
(¬ r18 = 0 →
gd (cc + 0) 4 (
gd (ss + 0) 415 (
Rt (.int x1) g16)))))))) ∧
(¬ x1.toInt < (mi h x0 6).toInt →
((mi h x0 6).toInt < (60 : Int32).toInt →
gd (cc + 1) 4 (
gd (ss + 5) 415 (
∀ g2 : MH, g2 = nw h 4 0 →
kd g2 x0 = 12 ∧
kd g2 (hn h) = 4 ∧
gd ((cc + 1) + 3) 4 (
gd ((ss + 5) + 410) 415 (
SpV k_Group_init [.ref (hn h), .ref (mr g2 x0 4)] g2 (fun g4 =>
kd g4 (mr h x0 5) = 24 ∧
InB (mi h x0 6) (ln g4 (mr h x0 5)) ∧
kd g4 (hn h) = 4 ∧
∀ g9 : MH, g9 = wr g4 (mr h x0 5) (ix (mi h x0 6)) (hn h) →
kd g4 x0 = 12 ∧
∀ g11 : MH, g11 = wi g9 x0 6 ((mi g4 x0 6) + (1 : Int32)) →
gd ((cc + 1) + 3) 4 (
gd ((ss + 5) + 410) 415 (
Rt (.int (mi h x0 6)) g11)))))))) ∧
(¬ (mi h x0 6).toInt < (60 : Int32).toInt →
gd cc 4 (
gd ss 415 (
Rt (.int (-1 : Int32)) h))))) : WM k_Ho_keepGroup p_Ho_keepGroup_1 [.ref x0, .int x1, Jv] [] h cc ss Rt := WM_at (hs := HH_Ho_keepGroup) G_Ho_keepGroup 51 2 rfl ⟨H.1, ⟨fun c19 => ⟨H.1, ⟨(H.2.1 c19).1, ⟨((H.2.1 c19).2).1, ⟨(((H.2.1 c19).2).2).1, fun c20 => ⟨((((H.2.1 c19).2).2).2 c20).1, ⟨H.1, ((((H.2.1 c19).2).2).2 c20).2⟩⟩⟩⟩⟩⟩, fun c19 => ⟨H.1, ⟨fun c21 => ⟨H.1, ⟨H.1, gd_mono (a := (cc + 1)) (b := 4) (fun q => gd_mono (a := (ss + 5)) (b := 415) (fun q => ⟨(q _ rfl).1, ⟨((q _ rfl).2).1, gd_mono (a := ((cc + 1) + 3)) (b := 4) (fun q => gd_mono (a := ((ss + 5) + 410)) (b := 415) (fun q => SpV.mono q (fun g4 qg4 => ⟨qg4.1, ⟨qg4.2.1, ⟨qg4.2.2.1, ⟨(qg4.2.2.2 _ rfl).1, ⟨(qg4.2.2.2 _ rfl).1, ((qg4.2.2.2 _ rfl).2 _ rfl)⟩⟩⟩⟩⟩)) q) (((q _ rfl).2).2)⟩⟩) q) ((H.2.2 c19).1 c21)⟩⟩, (H.2.2 c19).2⟩⟩⟩⟩
set_option maxRecDepth 100000 in
set_option maxHeartbeats 4000000 in
theorem v_Ho_group (x0 : Nat) (h : MH) (Rt : Value → MH → Prop) (H :
kd h x0 = 12 ∧
kd h (mr h x0 4) = 2 ∧
SpV k_Closure_begin [.ref (mr h x0 4)] h (fun g2 =>
WM k_Ho_group p_Ho_group_1 [.ref x0, .int (1 : Int32), .int (0 : Int32)] [] g2 0 0 Rt)) : Sp k_Ho_group [.ref x0] h Rt := Sp_intro2 (by decide) (by decide +kernel) rfl (Nat.le_of_ble_eq_true rfl) (WM_at (hs := HH_Ho_group) G_Ho_group 45 0 rfl H)
set_option maxRecDepth 100000 in
set_option maxHeartbeats 4000000 in
theorem v_Ho_group_1 (x0 : Nat) (x1 : Int32) (x2 : Int32) (cc ss : Nat) (h : MH) (Rt : Value → MH → Prop) (H :
kd h x0 = 12 ∧
(x2.toInt < (mi h x0 3).toInt →
kd h (mr h x0 2) = 22 ∧
InB x2 (ln h (mr h x0 2)) ∧
((mi h (mr h x0 2) (ix x2)) = 0 →
WM k_Ho_group p_Ho_group_1 [.ref x0, .int x1, .int (x2 + (1 : Int32))] [] h cc ss Rt) ∧
(¬ (mi h (mr h x0 2) (ix x2)) = 0 →
(x1 = 0 →
∀ g6 : MH, g6 = wi h (mr h x0 2) (ix x2) (0 : Int32) →
WM k_Ho_group p_Ho_group_1 [.ref x0, .int (0 : Int32), .int (x2 + (1 : Int32))] [] g6 cc ss Rt) ∧
(¬ x1 = 0 →
kd h (mr h x0 1) = 20 ∧
InB x2 (ln h (mr h x0 1)) ∧
kd h (mr h x0 4) = 2 ∧
gd (cc + 0) 4 (
gd (ss + 0) 415 (
SpI k_Closure_take [.ref (mr h x0 4), .int (mi h (mr h x0 1) (ix x2))] h (fun r11 g9 =>
(r11 = 0 →
kd g9 x0 = 12 ∧
kd g9 (mr g9 x0 2) = 22 ∧
InB x2 (ln g9 (mr g9 x0 2)) ∧
∀ g15 : MH, g15 = wi g9 (mr g9 x0 2) (ix x2) (0 : Int32) →
WM k_Ho_group p_Ho_group_1 [.ref x0, .int (0 : Int32), .int (x2 + (1 : Int32))] [] g15 (cc + 0) (ss + 0) Rt) ∧
(¬ r11 = 0 →
kd g9 x0 = 12 ∧
kd g9 (mr g9 x0 2) = 22 ∧
InB x2 (ln g9 (mr g9 x0 2)) ∧
∀ g19 : MH, g19 = wi g9 (mr g9 x0 2) (ix x2) (0 : Int32) →
WM k_Ho_group p_Ho_group_1 [.ref x0, .int (1 : Int32), .int (x2 + (1 : Int32))] [] g19 (cc + 0) (ss + 0) Rt))))))) ∧
(¬ x2.toInt < (mi h x0 3).toInt →
(x1 = 0 →
gd cc 4 (
gd ss 415 (
Rt (.int (-1 : Int32)) h))) ∧
(¬ x1 = 0 →
gd (cc + 4) 4 (
gd (ss + 415) 415 (
SpI k_Ho_keepGroup [.ref x0] h (fun r3 g2 =>
gd (cc + 4) 4 (
gd (ss + 415) 415 (
Rt (.int r3) g2)))))))) : WM k_Ho_group p_Ho_group_1 [.ref x0, .int x1, .int x2] [] h cc ss Rt := WM_at (hs := HH_Ho_group) G_Ho_group 45 7 rfl ⟨H.1, ⟨fun c20 => ⟨H.1, ⟨(H.2.1 c20).1, ⟨((H.2.1 c20).2).1, ⟨(((H.2.1 c20).2).2).1, fun c21 => ⟨fun c22 => ⟨H.1, ⟨(H.2.1 c20).1, ⟨((H.2.1 c20).2).1, ⟨(Or.inl rfl), ((((((H.2.1 c20).2).2).2 c21).1 c22) _ rfl)⟩⟩⟩⟩, fun c22 => ⟨H.1, ⟨H.1, ⟨(((((H.2.1 c20).2).2).2 c21).2 c22).1, ⟨((((((H.2.1 c20).2).2).2 c21).2 c22).2).1, ⟨(((((((H.2.1 c20).2).2).2 c21).2 c22).2).2).1, gd_mono (a := (cc + 0)) (b := 4) (fun q => gd_mono (a := (ss + 0)) (b := 415) (fun q => SpI.mono q (fun r11 g9 qg9 => ⟨fun c23 => ⟨(qg9.1 c23).1, ⟨((qg9.1 c23).2).1, ⟨(((qg9.1 c23).2).2).1, ⟨(Or.inl rfl), ((((qg9.1 c23).2).2).2 _ rfl)⟩⟩⟩⟩, fun c23 => ⟨(qg9.2 c23).1, ⟨((qg9.2 c23).2).1, ⟨(((qg9.2 c23).2).2).1, ⟨(Or.inl rfl), ((((qg9.2 c23).2).2).2 _ rfl)⟩⟩⟩⟩⟩)) q) ((((((((H.2.1 c20).2).2).2 c21).2 c22).2).2).2)⟩⟩⟩⟩⟩⟩⟩⟩⟩⟩, fun c20 => ⟨(H.2.2 c20).1, fun c24 => ⟨H.1, ((H.2.2 c20).2 c24)⟩⟩⟩⟩
set_option maxRecDepth 100000 in
set_option maxHeartbeats 4000000 in
theorem v_Ref_identity  (h : MH) (Rt : Value → MH → Prop) (H :
WM k_Ref_identity p_Ref_identity_1 [.int (0 : Int32), .int (0 : Int32)] [] h 0 0 Rt) : Sp k_Ref_identity [] h Rt := Sp_intro2 (by decide) (by decide +kernel) rfl (Nat.le_of_ble_eq_true rfl) (WM_at (hs := HH_Ref_identity) G_Ref_identity 26 0 rfl H)
set_option maxRecDepth 100000 in
set_option maxHeartbeats 4000000 in
theorem v_Ref_identity_1 (x0 : Int32) (x1 : Int32) (h : MH) (Rt : Value → MH → Prop) (H :
(x1.toInt < (9 : Int32).toInt →
((irm x1 (4 : Int32)) = 0 →
WM k_Ref_identity p_Ref_identity_1 [.int (((3 : Int32) * x0) + (2 : Int32)), .int (x1 + (1 : Int32))] [] h 0 0 Rt) ∧
(¬ (irm x1 (4 : Int32)) = 0 →
WM k_Ref_identity p_Ref_identity_1 [.int (((3 : Int32) * x0) + (1 : Int32)), .int (x1 + (1 : Int32))] [] h 0 0 Rt)) ∧
(¬ x1.toInt < (9 : Int32).toInt →
Rt (.int ((13824 : Int32) * x0)) h)) : WM k_Ref_identity p_Ref_identity_1 [.int x0, .int x1] [] h 0 0 Rt := WM_at (hs := HH_Ref_identity) G_Ref_identity 26 4 rfl ⟨fun c1 => ⟨(by decide), (H.1 c1)⟩, H.2⟩
set_option maxRecDepth 100000 in
set_option maxHeartbeats 4000000 in
theorem v_Ref_times (x0 : Nat) (x1 : Int32) (x2 : Int32) (h : MH) (Rt : Value → MH → Prop) (H :
kd h x0 = 13 ∧
SpV k_Ref_open [.int x1, .ref (mr h x0 3), .ref (mr h x0 4)] h (fun g2 =>
kd g2 x0 = 13 ∧
SpV k_Ref_open [.int x2, .ref (mr g2 x0 5), .ref (mr g2 x0 6)] g2 (fun g4 =>
WM k_Ref_times p_Ref_times_1 [.ref x0, Jv, Jv, .int (0 : Int32), Jv] [] g4 0 0 Rt))) : Sp k_Ref_times [.ref x0, .int x1, .int x2] h Rt := Sp_intro2 (by decide) (by decide +kernel) rfl (Nat.le_of_ble_eq_true rfl) (WM_at (hs := HH_Ref_times) G_Ref_times 140 0 rfl ⟨H.1, ⟨H.1, SpV.mono H.2 (fun g2 qg2 => ⟨qg2.1, ⟨qg2.1, qg2.2⟩⟩)⟩⟩)
set_option maxRecDepth 100000 in
set_option maxHeartbeats 4000000 in
theorem v_Ref_times_1 (x0 : Nat) (x3 : Int32) (h : MH) (Rt : Value → MH → Prop) (H :
(x3.toInt < (3 : Int32).toInt →
WM k_Ref_times p_Ref_times_2 [.ref x0, Jv, Jv, .int x3, .int (0 : Int32)] [] h 0 0 Rt) ∧
(¬ x3.toInt < (3 : Int32).toInt →
kd h x0 = 13 ∧
SpI k_Ref_closed [.ref (mr h x0 59), .ref (mr h x0 60)] h (fun r3 g2 =>
Rt (.int r3) g2))) : WM k_Ref_times p_Ref_times_1 [.ref x0, Jv, Jv, .int x3, Jv] [] h 0 0 Rt := WM_at (hs := HH_Ref_times) G_Ref_times 140 14 rfl ⟨H.1, fun c4 => ⟨(H.2 c4).1, ⟨(H.2 c4).1, (H.2 c4).2⟩⟩⟩
set_option maxRecDepth 100000 in
set_option maxHeartbeats 4000000 in
theorem v_Ref_times_2 (x0 : Nat) (x3 : Int32) (x4 : Int32) (h : MH) (Rt : Value → MH → Prop) (H :
(x4.toInt < (3 : Int32).toInt →
kd h x0 = 13 ∧
kd h (mr h x0 3) = 20 ∧
InB ((3 : Int32) * x3) (ln h (mr h x0 3)) ∧
kd h (mr h x0 5) = 20 ∧
InB x4 (ln h (mr h x0 5)) ∧
InB (((3 : Int32) * x3) + (1 : Int32)) (ln h (mr h x0 3)) ∧
InB ((3 : Int32) + x4) (ln h (mr h x0 5)) ∧
InB (((3 : Int32) * x3) + (2 : Int32)) (ln h (mr h x0 3)) ∧
InB ((6 : Int32) + x4) (ln h (mr h x0 5)) ∧
kd h (mr h x0 59) = 20 ∧
InB (((3 : Int32) * x3) + x4) (ln h (mr h x0 59)) ∧
∀ g23 : MH, g23 = wi h (mr h x0 59) (ix (((3 : Int32) * x3) + x4)) ((((mi h (mr h x0 3) (ix ((3 : Int32) * x3))) * (mi h (mr h x0 5) (ix x4))) + ((mi h (mr h x0 3) (ix (((3 : Int32) * x3) + (1 : Int32)))) * (mi h (mr h x0 5) (ix ((3 : Int32) + x4))))) + ((mi h (mr h x0 3) (ix (((3 : Int32) * x3) + (2 : Int32)))) * (mi h (mr h x0 5) (ix ((6 : Int32) + x4))))) →
WM k_Ref_times p_Ref_times_2 [.ref x0, Jv, Jv, .int x3, .int (x4 + (1 : Int32))] [] g23 0 0 Rt) ∧
(¬ x4.toInt < (3 : Int32).toInt →
kd h x0 = 13 ∧
kd h (mr h x0 3) = 20 ∧
InB ((3 : Int32) * x3) (ln h (mr h x0 3)) ∧
kd h (mr h x0 6) = 20 ∧
InB (0 : Int32) (ln h (mr h x0 6)) ∧
InB (((3 : Int32) * x3) + (1 : Int32)) (ln h (mr h x0 3)) ∧
InB (1 : Int32) (ln h (mr h x0 6)) ∧
InB (((3 : Int32) * x3) + (2 : Int32)) (ln h (mr h x0 3)) ∧
InB (2 : Int32) (ln h (mr h x0 6)) ∧
kd h (mr h x0 4) = 20 ∧
InB x3 (ln h (mr h x0 4)) ∧
WM k_Ref_times p_Ref_times_3 [.ref x0, Jv, Jv, .int x3, .int (((((mi h (mr h x0 3) (ix ((3 : Int32) * x3))) * (mi h (mr h x0 6) (ix (0 : Int32)))) + ((mi h (mr h x0 3) (ix (((3 : Int32) * x3) + (1 : Int32)))) * (mi h (mr h x0 6) (ix (1 : Int32))))) + ((mi h (mr h x0 3) (ix (((3 : Int32) * x3) + (2 : Int32)))) * (mi h (mr h x0 6) (ix (2 : Int32))))) + (mi h (mr h x0 4) (ix x3)))] [] h 0 0 Rt)) : WM k_Ref_times p_Ref_times_2 [.ref x0, Jv, Jv, .int x3, .int x4] [] h 0 0 Rt := WM_at (hs := HH_Ref_times) G_Ref_times 140 19 rfl ⟨fun c24 => ⟨(H.1 c24).1, ⟨(H.1 c24).1, ⟨((H.1 c24).2).1, ⟨(((H.1 c24).2).2).1, ⟨(H.1 c24).1, ⟨((((H.1 c24).2).2).2).1, ⟨(((((H.1 c24).2).2).2).2).1, ⟨(H.1 c24).1, ⟨((H.1 c24).2).1, ⟨((((((H.1 c24).2).2).2).2).2).1, ⟨(H.1 c24).1, ⟨((((H.1 c24).2).2).2).1, ⟨(((((((H.1 c24).2).2).2).2).2).2).1, ⟨(H.1 c24).1, ⟨((H.1 c24).2).1, ⟨((((((((H.1 c24).2).2).2).2).2).2).2).1, ⟨(H.1 c24).1, ⟨((((H.1 c24).2).2).2).1, ⟨(((((((((H.1 c24).2).2).2).2).2).2).2).2).1, ⟨((((((((((H.1 c24).2).2).2).2).2).2).2).2).2).1, ⟨(((((((((((H.1 c24).2).2).2).2).2).2).2).2).2).2).1, ((((((((((((H.1 c24).2).2).2).2).2).2).2).2).2).2).2 _ rfl)⟩⟩⟩⟩⟩⟩⟩⟩⟩⟩⟩⟩⟩⟩⟩⟩⟩⟩⟩⟩⟩, fun c24 => ⟨(H.2 c24).1, ⟨((H.2 c24).2).1, ⟨(((H.2 c24).2).2).1, ⟨(H.2 c24).1, ⟨((((H.2 c24).2).2).2).1, ⟨(((((H.2 c24).2).2).2).2).1, ⟨(H.2 c24).1, ⟨((H.2 c24).2).1, ⟨((((((H.2 c24).2).2).2).2).2).1, ⟨(H.2 c24).1, ⟨((((H.2 c24).2).2).2).1, ⟨(((((((H.2 c24).2).2).2).2).2).2).1, ⟨(H.2 c24).1, ⟨((H.2 c24).2).1, ⟨((((((((H.2 c24).2).2).2).2).2).2).2).1, ⟨(H.2 c24).1, ⟨((((H.2 c24).2).2).2).1, ⟨(((((((((H.2 c24).2).2).2).2).2).2).2).2).1, ⟨(H.2 c24).1, (((((((((H.2 c24).2).2).2).2).2).2).2).2).2⟩⟩⟩⟩⟩⟩⟩⟩⟩⟩⟩⟩⟩⟩⟩⟩⟩⟩⟩⟩
set_option maxRecDepth 100000 in
set_option maxHeartbeats 4000000 in
theorem v_Ref_times_3 (x0 : Nat) (x3 : Int32) (x4 : Int32) (h : MH) (Rt : Value → MH → Prop) (H :
kd h x0 = 13 ∧
kd h (mr h x0 60) = 20 ∧
InB x3 (ln h (mr h x0 60)) ∧
∀ g4 : MH, g4 = wi h (mr h x0 60) (ix x3) (irm ((irm x4 (24 : Int32)) + (24 : Int32)) (24 : Int32)) →
WM k_Ref_times p_Ref_times_1 [.ref x0, Jv, Jv, .int (x3 + (1 : Int32)), Jv] [] g4 0 0 Rt) : WM k_Ref_times p_Ref_times_3 [.ref x0, Jv, Jv, .int x3, .int x4] [] h 0 0 Rt := WM_at (hs := HH_Ref_times) G_Ref_times 140 120 rfl ⟨H.1, ⟨(by decide), ⟨(by decide), ⟨H.2.1, ⟨H.2.2.1, (H.2.2.2 _ rfl)⟩⟩⟩⟩⟩
set_option maxRecDepth 100000 in
set_option maxHeartbeats 4000000 in
theorem v_Ref_isListed (x0 : Nat) (x1 : Int32) (h : MH) (Rt : Value → MH → Prop) (H :
WM k_Ref_isListed p_Ref_isListed_1 [.ref x0, .int x1, .int (0 : Int32)] [] h 0 0 Rt) : Sp k_Ref_isListed [.ref x0, .int x1] h Rt := Sp_intro2 (by decide) (by decide +kernel) rfl (Nat.le_of_ble_eq_true rfl) (WM_at (hs := HH_Ref_isListed) G_Ref_isListed 19 0 rfl H)
set_option maxRecDepth 100000 in
set_option maxHeartbeats 4000000 in
theorem v_Ref_isListed_1 (x0 : Nat) (x1 : Int32) (x2 : Int32) (h : MH) (Rt : Value → MH → Prop) (H :
kd h x0 = 13 ∧
(x2.toInt < (mi h x0 19).toInt →
kd h (mr h x0 18) = 20 ∧
InB x2 (ln h (mr h x0 18)) ∧
((mi h (mr h x0 18) (ix x2)) = x1 →
Rt (.int (1 : Int32)) h) ∧
(¬ (mi h (mr h x0 18) (ix x2)) = x1 →
WM k_Ref_isListed p_Ref_isListed_1 [.ref x0, .int x1, .int (x2 + (1 : Int32))] [] h 0 0 Rt)) ∧
(¬ x2.toInt < (mi h x0 19).toInt →
Rt (.int (0 : Int32)) h)) : WM k_Ref_isListed p_Ref_isListed_1 [.ref x0, .int x1, .int x2] [] h 0 0 Rt := WM_at (hs := HH_Ref_isListed) G_Ref_isListed 19 2 rfl ⟨H.1, ⟨fun c4 => ⟨H.1, ⟨(H.2.1 c4).1, ⟨((H.2.1 c4).2).1, ⟨fun c5 => ⟨(Or.inr rfl), ((((H.2.1 c4).2).2).1 c5)⟩, (((H.2.1 c4).2).2).2⟩⟩⟩⟩, fun c4 => ⟨(Or.inl rfl), (H.2.2 c4)⟩⟩⟩
set_option maxRecDepth 100000 in
set_option maxHeartbeats 4000000 in
theorem v_Ref_numbered (x0 : Nat) (h : MH) (Rt : Value → MH → Prop) (H :
WM k_Ref_numbered p_Ref_numbered_1 [.ref x0, .int (1 : Int32), Jv, Jv] [] h 0 0 Rt) : Sp k_Ref_numbered [.ref x0] h Rt := Sp_intro2 (by decide) (by decide +kernel) rfl (Nat.le_of_ble_eq_true rfl) (WM_at (hs := HH_Ref_numbered) G_Ref_numbered 138 0 rfl H)
set_option maxRecDepth 100000 in
set_option maxHeartbeats 4000000 in
theorem v_Ref_numbered_1 (x0 : Nat) (x1 : Int32) (h : MH) (Rt : Value → MH → Prop) (H :
kd h x0 = 13 ∧
(x1.toInt < (mi h x0 19).toInt →
kd h (mr h x0 18) = 20 ∧
InB x1 (ln h (mr h x0 18)) ∧
WM k_Ref_numbered p_Ref_numbered_2 [.ref x0, .int x1, .int (mi h (mr h x0 18) (ix x1)), .int x1] [] h 0 0 Rt) ∧
(¬ x1.toInt < (mi h x0 19).toInt →
WM k_Ref_numbered p_Ref_numbered_3 [.ref x0, .int (0 : Int32), Jv, Jv] [] h 0 0 Rt)) : WM k_Ref_numbered p_Ref_numbered_1 [.ref x0, .int x1, Jv, Jv] [] h 0 0 Rt := WM_at (hs := HH_Ref_numbered) G_Ref_numbered 138 2 rfl ⟨H.1, ⟨fun c4 => ⟨H.1, (H.2.1 c4)⟩, H.2.2⟩⟩
set_option maxRecDepth 100000 in
set_option maxHeartbeats 4000000 in
theorem v_Ref_numbered_2 (x0 : Nat) (x1 : Int32) (x2 : Int32) (x3 : Int32) (h : MH) (Rt : Value → MH → Prop) (H :
(0 < x3.toInt →
kd h x0 = 13 ∧
kd h (mr h x0 18) = 20 ∧
InB (x3 - (1 : Int32)) (ln h (mr h x0 18)) ∧
(x2.toInt < (mi h (mr h x0 18) (ix (x3 - (1 : Int32)))).toInt →
InB x3 (ln h (mr h x0 18)) ∧
∀ g11 : MH, g11 = wi h (mr h x0 18) (ix x3) (mi h (mr h x0 18) (ix (x3 - (1 : Int32)))) →
WM k_Ref_numbered p_Ref_numbered_2 [.ref x0, .int x1, .int x2, .int (x3 + (-1 : Int32))] [] g11 0 0 Rt) ∧
(¬ x2.toInt < (mi h (mr h x0 18) (ix (x3 - (1 : Int32)))).toInt →
InB x3 (ln h (mr h x0 18)) ∧
∀ g9 : MH, g9 = wi h (mr h x0 18) (ix x3) x2 →
WM k_Ref_numbered p_Ref_numbered_1 [.ref x0, .int (x1 + (1 : Int32)), Jv, Jv] [] g9 0 0 Rt)) ∧
(¬ 0 < x3.toInt →
kd h x0 = 13 ∧
kd h (mr h x0 18) = 20 ∧
InB x3 (ln h (mr h x0 18)) ∧
∀ g4 : MH, g4 = wi h (mr h x0 18) (ix x3) x2 →
WM k_Ref_numbered p_Ref_numbered_1 [.ref x0, .int (x1 + (1 : Int32)), Jv, Jv] [] g4 0 0 Rt)) : WM k_Ref_numbered p_Ref_numbered_2 [.ref x0, .int x1, .int x2, .int x3] [] h 0 0 Rt := WM_at (hs := HH_Ref_numbered) G_Ref_numbered 138 13 rfl ⟨fun c12 => ⟨(H.1 c12).1, ⟨((H.1 c12).2).1, ⟨(((H.1 c12).2).2).1, ⟨fun c13 => ⟨(H.1 c12).1, ⟨(H.1 c12).1, ⟨((H.1 c12).2).1, ⟨(((H.1 c12).2).2).1, ⟨((H.1 c12).2).1, ⟨(((((H.1 c12).2).2).2).1 c13).1, ((((((H.1 c12).2).2).2).1 c13).2 _ rfl)⟩⟩⟩⟩⟩⟩, fun c13 => ⟨(H.1 c12).1, ⟨((H.1 c12).2).1, ⟨(((((H.1 c12).2).2).2).2 c13).1, ((((((H.1 c12).2).2).2).2 c13).2 _ rfl)⟩⟩⟩⟩⟩⟩⟩, fun c12 => ⟨(H.2 c12).1, ⟨((H.2 c12).2).1, ⟨(((H.2 c12).2).2).1, ((((H.2 c12).2).2).2 _ rfl)⟩⟩⟩⟩
set_option maxRecDepth 100000 in
set_option maxHeartbeats 4000000 in
theorem v_Ref_numbered_3 (x0 : Nat) (x1 : Int32) (h : MH) (Rt : Value → MH → Prop) (H :
kd h x0 = 13 ∧
(x1.toInt < (mi h x0 17).toInt →
kd h (mr h x0 16) = 20 ∧
InB x1 (ln h (mr h x0 16)) ∧
((mi h (mr h x0 16) (ix x1)) = (mi h x0 19) →
WM k_Ref_numbered p_Ref_numbered_4 [.ref x0, .int x1, .int (1 : Int32), .int (0 : Int32)] [] h 0 0 Rt) ∧
(¬ (mi h (mr h x0 16) (ix x1)) = (mi h x0 19) →
WM k_Ref_numbered p_Ref_numbered_4 [.ref x0, .int x1, .int (0 : Int32), .int (0 : Int32)] [] h 0 0 Rt)) ∧
(¬ x1.toInt < (mi h x0 17).toInt →
((mi h x0 17) = (60 : Int32) →
Rt (.int (-1 : Int32)) h) ∧
(¬ (mi h x0 17) = (60 : Int32) →
WM k_Ref_numbered p_Ref_numbered_5 [.ref x0, .int (0 : Int32), Jv, Jv] [] h 0 0 Rt))) : WM k_Ref_numbered p_Ref_numbered_3 [.ref x0, .int x1, Jv, Jv] [] h 0 0 Rt := WM_at (hs := HH_Ref_numbered) G_Ref_numbered 138 44 rfl ⟨H.1, ⟨fun c4 => ⟨H.1, ⟨(H.2.1 c4).1, ⟨((H.2.1 c4).2).1, ⟨H.1, ((H.2.1 c4).2).2⟩⟩⟩⟩, fun c4 => ⟨H.1, (H.2.2 c4)⟩⟩⟩
set_option maxRecDepth 100000 in
set_option maxHeartbeats 4000000 in
theorem v_Ref_numbered_4 (x0 : Nat) (x1 : Int32) (x2 : Int32) (x3 : Int32) (h : MH) (Rt : Value → MH → Prop) (H :
kd h x0 = 13 ∧
(x3.toInt < (mi h x0 19).toInt →
(x2 = 0 →
(x2 = 0 →
WM k_Ref_numbered p_Ref_numbered_3 [.ref x0, .int (x1 + (1 : Int32)), Jv, Jv] [] h 0 0 Rt) ∧
(¬ x2 = 0 →
Rt (.int x1) h)) ∧
(¬ x2 = 0 →
kd h (mr h x0 15) = 20 ∧
InB (((192 : Int32) * x1) + x3) (ln h (mr h x0 15)) ∧
kd h (mr h x0 18) = 20 ∧
InB x3 (ln h (mr h x0 18)) ∧
((mi h (mr h x0 15) (ix (((192 : Int32) * x1) + x3))) = (mi h (mr h x0 18) (ix x3)) →
WM k_Ref_numbered p_Ref_numbered_4 [.ref x0, .int x1, .int (1 : Int32), .int (x3 + (1 : Int32))] [] h 0 0 Rt) ∧
(¬ (mi h (mr h x0 15) (ix (((192 : Int32) * x1) + x3))) = (mi h (mr h x0 18) (ix x3)) →
WM k_Ref_numbered p_Ref_numbered_4 [.ref x0, .int x1, .int (0 : Int32), .int (x3 + (1 : Int32))] [] h 0 0 Rt))) ∧
(¬ x3.toInt < (mi h x0 19).toInt →
(x2 = 0 →
WM k_Ref_numbered p_Ref_numbered_3 [.ref x0, .int (x1 + (1 : Int32)), Jv, Jv] [] h 0 0 Rt) ∧
(¬ x2 = 0 →
Rt (.int x1) h))) : WM k_Ref_numbered p_Ref_numbered_4 [.ref x0, .int x1, .int x2, .int x3] [] h 0 0 Rt := WM_at (hs := HH_Ref_numbered) G_Ref_numbered 138 61 rfl ⟨H.1, ⟨fun c6 => ⟨(H.2.1 c6).1, fun c7 => ⟨H.1, ⟨((H.2.1 c6).2 c7).1, ⟨(((H.2.1 c6).2 c7).2).1, ⟨H.1, (((H.2.1 c6).2 c7).2).2⟩⟩⟩⟩⟩, H.2.2⟩⟩
set_option maxRecDepth 100000 in
set_option maxHeartbeats 4000000 in
theorem v_Ref_numbered_5 (x0 : Nat) (x1 : Int32) (h : MH) (Rt : Value → MH → Prop) (H :
kd h x0 = 13 ∧
(x1.toInt < (mi h x0 19).toInt →
kd h (mr h x0 18) = 20 ∧
InB x1 (ln h (mr h x0 18)) ∧
kd h (mr h x0 15) = 20 ∧
InB (((192 : Int32) * (mi h x0 17)) + x1) (ln h (mr h x0 15)) ∧
∀ g10 : MH, g10 = wi h (mr h x0 15) (ix (((192 : Int32) * (mi h x0 17)) + x1)) (mi h (mr h x0 18) (ix x1)) →
WM k_Ref_numbered p_Ref_numbered_5 [.ref x0, .int (x1 + (1 : Int32)), Jv, Jv] [] g10 0 0 Rt) ∧
(¬ x1.toInt < (mi h x0 19).toInt →
kd h (mr h x0 16) = 20 ∧
InB (mi h x0 17) (ln h (mr h x0 16)) ∧
∀ g4 : MH, g4 = wi h (mr h x0 16) (ix (mi h x0 17)) (mi h x0 19) →
∀ g5 : MH, g5 = wi g4 x0 17 ((mi g4 x0 17) + (1 : Int32)) →
Rt (.int ((mi g5 x0 17) - (1 : Int32))) g5)) : WM k_Ref_numbered p_Ref_numbered_5 [.ref x0, .int x1, Jv, Jv] [] h 0 0 Rt := WM_at (hs := HH_Ref_numbered) G_Ref_numbered 138 100 rfl ⟨H.1, ⟨fun c11 => ⟨H.1, ⟨H.1, ⟨H.1, ⟨(H.2.1 c11).1, ⟨((H.2.1 c11).2).1, ⟨(((H.2.1 c11).2).2).1, ⟨((((H.2.1 c11).2).2).2).1, (((((H.2.1 c11).2).2).2).2 _ rfl)⟩⟩⟩⟩⟩⟩⟩, fun c11 => ⟨H.1, ⟨H.1, ⟨H.1, ⟨(H.2.2 c11).1, ⟨((H.2.2 c11).2).1, ⟨H.1, ⟨H.1, ⟨H.1, ((((H.2.2 c11).2).2 _ rfl) _ rfl)⟩⟩⟩⟩⟩⟩⟩⟩⟩⟩
set_option maxRecDepth 100000 in
set_option maxHeartbeats 4000000 in
theorem v_Ref_group (x0 : Nat) (h : MH) (Rt : Value → MH → Prop) (H :
kd h x0 = 13 ∧
∀ g2 : MH, g2 = wi h x0 19 (1 : Int32) →
SpI k_Ref_identity [] g2 (fun r4 g3 =>
kd g3 (mr h x0 18) = 20 ∧
InB (0 : Int32) (ln g3 (mr h x0 18)) ∧
∀ g7 : MH, g7 = wi g3 (mr h x0 18) (ix (0 : Int32)) r4 →
WM k_Ref_group p_Ref_group_1 [.ref x0, .int (1 : Int32), .int (0 : Int32), Jv, Jv] [] g7 0 0 Rt)) : Sp k_Ref_group [.ref x0] h Rt := Sp_intro2 (by decide) (by decide +kernel) rfl (Nat.le_of_ble_eq_true rfl) (WM_at (hs := HH_Ref_group) G_Ref_group 105 0 rfl ⟨H.1, ⟨H.1, SpI.mono (H.2 _ rfl) (fun r4 g3 qg3 => ⟨qg3.1, ⟨qg3.2.1, (qg3.2.2 _ rfl)⟩⟩)⟩⟩)
set_option maxRecDepth 100000 in
set_option maxHeartbeats 4000000 in
theorem v_Ref_group_1 (x0 : Nat) (x1 : Int32) (x2 : Int32) (h : MH) (Rt : Value → MH → Prop) (H :
kd h x0 = 13 ∧
(x2.toInt < (mi h x0 19).toInt →
(x1 = 0 →
WM k_Ref_group p_Ref_group_5 [.ref x0, .int x1, .int (0 : Int32), Jv, Jv] [] h 0 0 Rt) ∧
(¬ x1 = 0 →
WM k_Ref_group p_Ref_group_2 [.ref x0, .int x1, .int x2, .int (0 : Int32), Jv] [] h 0 0 Rt)) ∧
(¬ x2.toInt < (mi h x0 19).toInt →
WM k_Ref_group p_Ref_group_5 [.ref x0, .int x1, .int (0 : Int32), Jv, Jv] [] h 0 0 Rt)) : WM k_Ref_group p_Ref_group_1 [.ref x0, .int x1, .int x2, Jv, Jv] [] h 0 0 Rt := WM_at (hs := HH_Ref_group) G_Ref_group 105 12 rfl H
set_option maxRecDepth 100000 in
set_option maxHeartbeats 4000000 in
theorem v_Ref_group_2 (x0 : Nat) (x1 : Int32) (x2 : Int32) (x3 : Int32) (h : MH) (Rt : Value → MH → Prop) (H :
kd h x0 = 13 ∧
(x3.toInt < (mi h x0 1).toInt →
(x1 = 0 →
WM k_Ref_group p_Ref_group_1 [.ref x0, .int x1, .int (x2 + (1 : Int32)), Jv, Jv] [] h 0 0 Rt) ∧
(¬ x1 = 0 →
kd h (mr h x0 2) = 20 ∧
InB x3 (ln h (mr h x0 2)) ∧
((mi h (mr h x0 2) (ix x3)) = 0 →
WM k_Ref_group p_Ref_group_2 [.ref x0, .int x1, .int x2, .int (x3 + (1 : Int32)), Jv] [] h 0 0 Rt) ∧
(¬ (mi h (mr h x0 2) (ix x3)) = 0 →
kd h (mr h x0 18) = 20 ∧
InB x2 (ln h (mr h x0 18)) ∧
kd h (mr h x0 0) = 20 ∧
InB x3 (ln h (mr h x0 0)) ∧
SpI k_Ref_times [.ref x0, .int (mi h (mr h x0 18) (ix x2)), .int (mi h (mr h x0 0) (ix x3))] h (fun r9 g8 =>
(r9 = (-1 : Int32) →
WM k_Ref_group p_Ref_group_3 [.ref x0, Jv, .int x2, .int x3, .int r9] [.int (0 : Int32)] g8 0 0 Rt) ∧
(¬ r9 = (-1 : Int32) →
WM k_Ref_group p_Ref_group_3 [.ref x0, Jv, .int x2, .int x3, .int r9] [.int (1 : Int32)] g8 0 0 Rt))))) ∧
(¬ x3.toInt < (mi h x0 1).toInt →
WM k_Ref_group p_Ref_group_1 [.ref x0, .int x1, .int (x2 + (1 : Int32)), Jv, Jv] [] h 0 0 Rt)) : WM k_Ref_group p_Ref_group_2 [.ref x0, .int x1, .int x2, .int x3, Jv] [] h 0 0 Rt := WM_at (hs := HH_Ref_group) G_Ref_group 105 20 rfl ⟨H.1, ⟨fun c10 => ⟨(H.2.1 c10).1, fun c11 => ⟨H.1, ⟨((H.2.1 c10).2 c11).1, ⟨(((H.2.1 c10).2 c11).2).1, ⟨((((H.2.1 c10).2 c11).2).2).1, fun c12 => ⟨H.1, ⟨(((((H.2.1 c10).2 c11).2).2).2 c12).1, ⟨((((((H.2.1 c10).2 c11).2).2).2 c12).2).1, ⟨H.1, ⟨(((((((H.2.1 c10).2 c11).2).2).2 c12).2).2).1, ⟨((((((((H.2.1 c10).2 c11).2).2).2 c12).2).2).2).1, ⟨H.1, ((((((((H.2.1 c10).2 c11).2).2).2 c12).2).2).2).2⟩⟩⟩⟩⟩⟩⟩⟩⟩⟩⟩⟩, H.2.2⟩⟩
set_option maxRecDepth 100000 in
set_option maxHeartbeats 4000000 in
theorem v_Ref_group_3 (x0 : Nat) (x2 : Int32) (x3 : Int32) (x4 : Int32) (s0 : Int32) (h : MH) (Rt : Value → MH → Prop) (H :
(s0 = 0 →
WM k_Ref_group p_Ref_group_2 [.ref x0, .int s0, .int x2, .int (x3 + (1 : Int32)), Jv] [] h 0 0 Rt) ∧
(¬ s0 = 0 →
kd h x0 = 13 ∧
SpI k_Ref_isListed [.ref x0, .int x4] h (fun r3 g1 =>
(r3 = 0 →
kd g1 x0 = 13 ∧
((mi g1 x0 19).toInt < (192 : Int32).toInt →
WM k_Ref_group p_Ref_group_4 [.ref x0, Jv, .int x2, .int x3, .int x4] [.int (1 : Int32)] g1 0 0 Rt) ∧
(¬ (mi g1 x0 19).toInt < (192 : Int32).toInt →
WM k_Ref_group p_Ref_group_4 [.ref x0, Jv, .int x2, .int x3, .int x4] [.int (0 : Int32)] g1 0 0 Rt)) ∧
(¬ r3 = 0 →
WM k_Ref_group p_Ref_group_2 [.ref x0, .int s0, .int x2, .int (x3 + (1 : Int32)), Jv] [] g1 0 0 Rt)))) : WM k_Ref_group p_Ref_group_3 [.ref x0, Jv, .int x2, .int x3, .int x4] [.int s0] h 0 0 Rt := WM_at (hs := HH_Ref_group) G_Ref_group 105 49 rfl H
set_option maxRecDepth 100000 in
set_option maxHeartbeats 4000000 in
theorem v_Ref_group_4 (x0 : Nat) (x2 : Int32) (x3 : Int32) (x4 : Int32) (s0 : Int32) (h : MH) (Rt : Value → MH → Prop) (H :
(s0 = 0 →
WM k_Ref_group p_Ref_group_2 [.ref x0, .int s0, .int x2, .int (x3 + (1 : Int32)), Jv] [] h 0 0 Rt) ∧
(¬ s0 = 0 →
kd h x0 = 13 ∧
kd h (mr h x0 18) = 20 ∧
InB (mi h x0 19) (ln h (mr h x0 18)) ∧
∀ g4 : MH, g4 = wi h (mr h x0 18) (ix (mi h x0 19)) x4 →
∀ g5 : MH, g5 = wi g4 x0 19 ((mi g4 x0 19) + (1 : Int32)) →
WM k_Ref_group p_Ref_group_2 [.ref x0, .int s0, .int x2, .int (x3 + (1 : Int32)), Jv] [] g5 0 0 Rt)) : WM k_Ref_group p_Ref_group_4 [.ref x0, Jv, .int x2, .int x3, .int x4] [.int s0] h 0 0 Rt := WM_at (hs := HH_Ref_group) G_Ref_group 105 64 rfl ⟨H.1, fun c6 => ⟨(H.2 c6).1, ⟨(H.2 c6).1, ⟨((H.2 c6).2).1, ⟨(((H.2 c6).2).2).1, ⟨(H.2 c6).1, ⟨(H.2 c6).1, (((((H.2 c6).2).2).2 _ rfl) _ rfl)⟩⟩⟩⟩⟩⟩⟩
set_option maxRecDepth 100000 in
set_option maxHeartbeats 4000000 in
theorem v_Ref_group_5 (x0 : Nat) (x1 : Int32) (x2 : Int32) (h : MH) (Rt : Value → MH → Prop) (H :
kd h x0 = 13 ∧
(x2.toInt < (mi h x0 1).toInt →
kd h (mr h x0 2) = 20 ∧
InB x2 (ln h (mr h x0 2)) ∧
∀ g6 : MH, g6 = wi h (mr h x0 2) (ix x2) (0 : Int32) →
WM k_Ref_group p_Ref_group_5 [.ref x0, .int x1, .int (x2 + (1 : Int32)), Jv, Jv] [] g6 0 0 Rt) ∧
(¬ x2.toInt < (mi h x0 1).toInt →
(x1 = 0 →
Rt (.int (-1 : Int32)) h) ∧
(¬ x1 = 0 →
SpI k_Ref_numbered [.ref x0] h (fun r3 g2 =>
Rt (.int r3) g2)))) : WM k_Ref_group p_Ref_group_5 [.ref x0, .int x1, .int x2, Jv, Jv] [] h 0 0 Rt := WM_at (hs := HH_Ref_group) G_Ref_group 105 86 rfl ⟨H.1, ⟨fun c7 => ⟨H.1, ⟨(H.2.1 c7).1, ⟨((H.2.1 c7).2).1, (((H.2.1 c7).2).2 _ rfl)⟩⟩⟩, fun c7 => ⟨(H.2.2 c7).1, fun c8 => ⟨H.1, ((H.2.2 c7).2 c8)⟩⟩⟩⟩
set_option maxRecDepth 100000 in
set_option maxHeartbeats 4000000 in
theorem v_Group_bringsMatrix (x0 : Nat) (x1 : Int32) (h : MH) (Rt : Value → MH → Prop) (H :
(x1 = 0 →
Rt (.int (1 : Int32)) h) ∧
(¬ x1 = 0 →
kd h x0 = 4 ∧
kd h (mr h x0 0) = 9 ∧
kd h (mr h (mr h x0 0) 0) = 20 ∧
InB x1 (ln h (mr h (mr h x0 0) 0)) ∧
InB (x1 - (1 : Int32)) (ln h (mr h (mr h x0 0) 0)) ∧
(((mi h (mr h (mr h x0 0) 0) (ix x1)) / (13824 : Int32)) = ((mi h (mr h (mr h x0 0) 0) (ix (x1 - (1 : Int32)))) / (13824 : Int32)) →
Rt (.int (0 : Int32)) h) ∧
(¬ ((mi h (mr h (mr h x0 0) 0) (ix x1)) / (13824 : Int32)) = ((mi h (mr h (mr h x0 0) 0) (ix (x1 - (1 : Int32)))) / (13824 : Int32)) →
Rt (.int (1 : Int32)) h))) : Sp k_Group_bringsMatrix [.ref x0, .int x1] h Rt := Sp_intro2 (by decide) (by decide +kernel) rfl (Nat.le_of_ble_eq_true rfl) (WM_at (hs := HH_Group_bringsMatrix) G_Group_bringsMatrix 24 0 rfl ⟨fun c6 => ⟨(Or.inr rfl), (H.1 c6)⟩, fun c6 => ⟨(H.2 c6).1, ⟨((H.2 c6).2).1, ⟨(((H.2 c6).2).2).1, ⟨((((H.2 c6).2).2).2).1, ⟨(by decide), ⟨(H.2 c6).1, ⟨((H.2 c6).2).1, ⟨(((H.2 c6).2).2).1, ⟨(((((H.2 c6).2).2).2).2).1, ⟨(by decide), ⟨fun c7 => ⟨(Or.inl rfl), (((((((H.2 c6).2).2).2).2).2).1 c7)⟩, fun c7 => ⟨(Or.inr rfl), (((((((H.2 c6).2).2).2).2).2).2 c7)⟩⟩⟩⟩⟩⟩⟩⟩⟩⟩⟩⟩⟩)
set_option maxRecDepth 100000 in
set_option maxHeartbeats 4000000 in
theorem v_Group_countMatrices (x0 : Nat) (h : MH) (Rt : Value → MH → Prop) (H :
WM k_Group_countMatrices p_Group_countMatrices_1 [.ref x0, .int (0 : Int32), .int (0 : Int32)] [] h 0 0 Rt) : Sp k_Group_countMatrices [.ref x0] h Rt := Sp_intro2 (by decide) (by decide +kernel) rfl (Nat.le_of_ble_eq_true rfl) (WM_at (hs := HH_Group_countMatrices) G_Group_countMatrices 19 0 rfl H)
set_option maxRecDepth 100000 in
set_option maxHeartbeats 4000000 in
theorem v_Group_countMatrices_1 (x0 : Nat) (x1 : Int32) (x2 : Int32) (h : MH) (Rt : Value → MH → Prop) (H :
kd h x0 = 4 ∧
kd h (mr h x0 0) = 9 ∧
(x2.toInt < (mi h (mr h x0 0) 1).toInt →
SpI k_Group_bringsMatrix [.ref x0, .int x2] h (fun r4 g3 =>
(r4 = 0 →
WM k_Group_countMatrices p_Group_countMatrices_1 [.ref x0, .int x1, .int (x2 + (1 : Int32))] [] g3 0 0 Rt) ∧
(¬ r4 = 0 →
WM k_Group_countMatrices p_Group_countMatrices_1 [.ref x0, .int (x1 + (1 : Int32)), .int (x2 + (1 : Int32))] [] g3 0 0 Rt))) ∧
(¬ x2.toInt < (mi h (mr h x0 0) 1).toInt →
Rt (.int x1) h)) : WM k_Group_countMatrices p_Group_countMatrices_1 [.ref x0, .int x1, .int x2] [] h 0 0 Rt := WM_at (hs := HH_Group_countMatrices) G_Group_countMatrices 19 4 rfl ⟨H.1, ⟨H.2.1, ⟨fun c5 => ⟨H.1, (H.2.2.1 c5)⟩, H.2.2.2⟩⟩⟩
set_option maxRecDepth 100000 in
set_option maxHeartbeats 4000000 in
theorem v_Group_countCentrings (x0 : Nat) (h : MH) (Rt : Value → MH → Prop) (H :
kd h x0 = 4 ∧
kd h (mr h x0 0) = 9 ∧
SpI k_Row_seat [.ref (mr h x0 0), .int (227888640 : Int32)] h (fun r4 g2 =>
kd g2 x0 = 4 ∧
kd g2 (mr g2 x0 0) = 9 ∧
SpI k_Row_seat [.ref (mr g2 x0 0), .int (227874816 : Int32)] g2 (fun r8 g6 =>
Rt (.int (r4 - r8)) g6))) : Sp k_Group_countCentrings [.ref x0] h Rt := Sp_intro2 (by decide) (by decide +kernel) rfl (Nat.le_of_ble_eq_true rfl) (WM_at (hs := HH_Group_countCentrings) G_Group_countCentrings 11 0 rfl H)
set_option maxRecDepth 100000 in
set_option maxHeartbeats 4000000 in
theorem v_Group_hasCentring (x0 : Nat) (x1 : Int32) (h : MH) (Rt : Value → MH → Prop) (H :
kd h x0 = 4 ∧
kd h (mr h x0 0) = 9 ∧
SpI k_Row_find [.ref (mr h x0 0), .int ((227874816 : Int32) + x1)] h (fun r4 g2 =>
(r4 = (-1 : Int32) →
Rt (.int (0 : Int32)) g2) ∧
(¬ r4 = (-1 : Int32) →
Rt (.int (1 : Int32)) g2))) : Sp k_Group_hasCentring [.ref x0, .int x1] h Rt := Sp_intro2 (by decide) (by decide +kernel) rfl (Nat.le_of_ble_eq_true rfl) (WM_at (hs := HH_Group_hasCentring) G_Group_hasCentring 13 0 rfl ⟨H.1, ⟨H.2.1, SpI.mono H.2.2 (fun r4 g2 qg2 => ⟨fun c5 => ⟨(Or.inl rfl), (qg2.1 c5)⟩, fun c5 => ⟨(Or.inr rfl), (qg2.2 c5)⟩⟩)⟩⟩)
