set_option maxRecDepth 100000 in
set_option maxHeartbeats 4000000 in
theorem v_Ref_oneMultiple (x0 : Nat) (x1 : Int32) (x2 : Int32) (x3 : Int32) (x4 : Int32) (x5 : Int32) (x6 : Int32) (x7 : Int32) (h : MH) (Rt : Value → MH → Prop) (H :
kd h x0 = 13 ∧
SpL k_Ref_dot [.ref (mr h x0 29), .int x1, .long x2.toInt64, .long (0 : Int64), .long (0 : Int64), .long x2.toInt64, .long (0 : Int64), .long (0 : Int64)] h (fun r3 g2 =>
kd g2 (mr h x0 33) = 21 ∧
InB (0 : Int32) (ln g2 (mr h x0 33)) ∧
∀ g6 : MH, g6 = wl g2 (mr h x0 33) (ix (0 : Int32)) r3 →
kd g2 x0 = 13 ∧
SpL k_Ref_dot [.ref (mr g2 x0 29), .int x1, .long x3.toInt64, .long x4.toInt64, .long (0 : Int64), .long x3.toInt64, .long x4.toInt64, .long (0 : Int64)] g6 (fun r9 g8 =>
kd g8 (mr g2 x0 33) = 21 ∧
InB (1 : Int32) (ln g8 (mr g2 x0 33)) ∧
∀ g12 : MH, g12 = wl g8 (mr g2 x0 33) (ix (1 : Int32)) r9 →
kd g8 x0 = 13 ∧
SpL k_Ref_dot [.ref (mr g8 x0 29), .int x1, .long x5.toInt64, .long x6.toInt64, .long x7.toInt64, .long x5.toInt64, .long x6.toInt64, .long x7.toInt64] g12 (fun r15 g14 =>
kd g14 (mr g8 x0 33) = 21 ∧
InB (2 : Int32) (ln g14 (mr g8 x0 33)) ∧
∀ g18 : MH, g18 = wl g14 (mr g8 x0 33) (ix (2 : Int32)) r15 →
kd g14 x0 = 13 ∧
SpL k_Ref_dot [.ref (mr g14 x0 29), .int x1, .long x3.toInt64, .long x4.toInt64, .long (0 : Int64), .long x5.toInt64, .long x6.toInt64, .long x7.toInt64] g18 (fun r21 g20 =>
kd g20 (mr g14 x0 33) = 21 ∧
InB (3 : Int32) (ln g20 (mr g14 x0 33)) ∧
∀ g24 : MH, g24 = wl g20 (mr g14 x0 33) (ix (3 : Int32)) r21 →
WM k_Ref_oneMultiple p_Ref_oneMultiple_1 [.ref x0, .int x1, .int x2, .int x3, .int x4, .int x5, .int x6, .int x7, Jv, Jv] [] g24 0 0 Rt))))) : Sp k_Ref_oneMultiple [.ref x0, .int x1, .int x2, .int x3, .int x4, .int x5, .int x6, .int x7] h Rt := Sp_intro2 (by decide) (by decide +kernel) rfl (Nat.le_of_ble_eq_true rfl) (WM_at (hs := HH_Ref_oneMultiple) G_Ref_oneMultiple 183 0 rfl ⟨H.1, ⟨H.1, SpL.mono H.2 (fun r3 g2 qg2 => ⟨qg2.1, ⟨qg2.2.1, ⟨(qg2.2.2 _ rfl).1, ⟨(qg2.2.2 _ rfl).1, SpL.mono ((qg2.2.2 _ rfl).2) (fun r9 g8 qg8 => ⟨qg8.1, ⟨qg8.2.1, ⟨(qg8.2.2 _ rfl).1, ⟨(qg8.2.2 _ rfl).1, SpL.mono ((qg8.2.2 _ rfl).2) (fun r15 g14 qg14 => ⟨qg14.1, ⟨qg14.2.1, ⟨(qg14.2.2 _ rfl).1, ⟨(qg14.2.2 _ rfl).1, SpL.mono ((qg14.2.2 _ rfl).2) (fun r21 g20 qg20 => ⟨qg20.1, ⟨qg20.2.1, (qg20.2.2 _ rfl)⟩⟩)⟩⟩⟩⟩)⟩⟩⟩⟩)⟩⟩⟩⟩)⟩⟩)
set_option maxRecDepth 100000 in
set_option maxHeartbeats 4000000 in
theorem v_Ref_oneMultiple_1 (x0 : Nat) (x1 : Int32) (x2 : Int32) (x3 : Int32) (x4 : Int32) (x5 : Int32) (x6 : Int32) (x7 : Int32) (h : MH) (Rt : Value → MH → Prop) (H :
kd h x0 = 13 ∧
SpL k_Ref_dot [.ref (mr h x0 29), .int x1, .long x2.toInt64, .long (0 : Int64), .long (0 : Int64), .long x5.toInt64, .long x6.toInt64, .long x7.toInt64] h (fun r3 g2 =>
kd g2 (mr h x0 33) = 21 ∧
InB (4 : Int32) (ln g2 (mr h x0 33)) ∧
∀ g6 : MH, g6 = wl g2 (mr h x0 33) (ix (4 : Int32)) r3 →
kd g2 x0 = 13 ∧
SpL k_Ref_dot [.ref (mr g2 x0 29), .int x1, .long x2.toInt64, .long (0 : Int64), .long (0 : Int64), .long x3.toInt64, .long x4.toInt64, .long (0 : Int64)] g6 (fun r9 g8 =>
kd g8 (mr g2 x0 33) = 21 ∧
InB (5 : Int32) (ln g8 (mr g2 x0 33)) ∧
∀ g12 : MH, g12 = wl g8 (mr g2 x0 33) (ix (5 : Int32)) r9 →
kd g8 x0 = 13 ∧
SpV k_Ref_reduce [.ref x0] g12 (fun g13 =>
kd g13 x0 = 13 ∧
WM k_Ref_oneMultiple p_Ref_oneMultiple_2 [.ref x0, Jv, Jv, Jv, Jv, Jv, Jv, Jv, .int (mi g13 x0 35), Jv] [] g13 0 0 Rt)))) : WM k_Ref_oneMultiple p_Ref_oneMultiple_1 [.ref x0, .int x1, .int x2, .int x3, .int x4, .int x5, .int x6, .int x7, Jv, Jv] [] h 0 0 Rt := WM_at (hs := HH_Ref_oneMultiple) G_Ref_oneMultiple 183 73 rfl ⟨H.1, ⟨H.1, SpL.mono H.2 (fun r3 g2 qg2 => ⟨qg2.1, ⟨qg2.2.1, ⟨(qg2.2.2 _ rfl).1, ⟨(qg2.2.2 _ rfl).1, SpL.mono ((qg2.2.2 _ rfl).2) (fun r9 g8 qg8 => ⟨qg8.1, ⟨qg8.2.1, (qg8.2.2 _ rfl)⟩⟩)⟩⟩⟩⟩)⟩⟩
set_option maxRecDepth 100000 in
set_option maxHeartbeats 4000000 in
theorem v_Ref_oneMultiple_2 (x0 : Nat) (x8 : Int32) (h : MH) (Rt : Value → MH → Prop) (H :
(0 < x8.toInt →
kd h x0 = 13 ∧
SpI k_Ref_compared [.ref x0, .int (x8 - (1 : Int32))] h (fun r3 g1 =>
(r3.toInt < 0 →
WM k_Ref_oneMultiple p_Ref_oneMultiple_2 [.ref x0, Jv, Jv, Jv, Jv, Jv, Jv, Jv, .int (x8 + (-1 : Int32)), Jv] [] g1 0 0 Rt) ∧
(¬ r3.toInt < 0 →
WM k_Ref_oneMultiple p_Ref_oneMultiple_3 [.ref x0, Jv, Jv, Jv, Jv, Jv, Jv, Jv, .int x8, Jv] [] g1 0 0 Rt))) ∧
(¬ 0 < x8.toInt →
WM k_Ref_oneMultiple p_Ref_oneMultiple_3 [.ref x0, Jv, Jv, Jv, Jv, Jv, Jv, Jv, .int x8, Jv] [] h 0 0 Rt)) : WM k_Ref_oneMultiple p_Ref_oneMultiple_2 [.ref x0, Jv, Jv, Jv, Jv, Jv, Jv, Jv, .int x8, Jv] [] h 0 0 Rt := WM_at (hs := HH_Ref_oneMultiple) G_Ref_oneMultiple 183 113 rfl H
set_option maxRecDepth 100000 in
set_option maxHeartbeats 4000000 in
theorem v_Ref_oneMultiple_3 (x0 : Nat) (x8 : Int32) (h : MH) (Rt : Value → MH → Prop) (H :
(0 < x8.toInt →
kd h x0 = 13 ∧
SpI k_Ref_compared [.ref x0, .int (x8 - (1 : Int32))] h (fun r4 g2 =>
(r4 = 0 →
Rt .null g2) ∧
(¬ r4 = 0 →
kd g2 x0 = 13 ∧
WM k_Ref_oneMultiple p_Ref_oneMultiple_4 [.ref x0, Jv, Jv, Jv, Jv, Jv, Jv, Jv, .int x8, .int (((6 : Int32) * (mi g2 x0 35)) - (1 : Int32))] [] g2 0 0 Rt))) ∧
(¬ 0 < x8.toInt →
kd h x0 = 13 ∧
WM k_Ref_oneMultiple p_Ref_oneMultiple_4 [.ref x0, Jv, Jv, Jv, Jv, Jv, Jv, Jv, .int x8, .int (((6 : Int32) * (mi h x0 35)) - (1 : Int32))] [] h 0 0 Rt)) : WM k_Ref_oneMultiple p_Ref_oneMultiple_3 [.ref x0, Jv, Jv, Jv, Jv, Jv, Jv, Jv, .int x8, Jv] [] h 0 0 Rt := WM_at (hs := HH_Ref_oneMultiple) G_Ref_oneMultiple 183 123 rfl H
set_option maxRecDepth 100000 in
set_option maxHeartbeats 4000000 in
theorem v_Ref_oneMultiple_4 (x0 : Nat) (x8 : Int32) (x9 : Int32) (h : MH) (Rt : Value → MH → Prop) (H :
(x9.toInt < ((6 : Int32) * x8).toInt →
WM k_Ref_oneMultiple p_Ref_oneMultiple_5 [.ref x0, Jv, Jv, Jv, Jv, Jv, Jv, Jv, .int x8, .int (0 : Int32)] [] h 0 0 Rt) ∧
(¬ x9.toInt < ((6 : Int32) * x8).toInt →
kd h x0 = 13 ∧
kd h (mr h x0 34) = 21 ∧
InB x9 (ln h (mr h x0 34)) ∧
InB (x9 + (6 : Int32)) (ln h (mr h x0 34)) ∧
∀ g5 : MH, g5 = wl h (mr h x0 34) (ix (x9 + (6 : Int32))) (ml h (mr h x0 34) (ix x9)) →
WM k_Ref_oneMultiple p_Ref_oneMultiple_4 [.ref x0, Jv, Jv, Jv, Jv, Jv, Jv, Jv, .int x8, .int (x9 + (-1 : Int32))] [] g5 0 0 Rt)) : WM k_Ref_oneMultiple p_Ref_oneMultiple_4 [.ref x0, Jv, Jv, Jv, Jv, Jv, Jv, Jv, .int x8, .int x9] [] h 0 0 Rt := WM_at (hs := HH_Ref_oneMultiple) G_Ref_oneMultiple 183 139 rfl ⟨H.1, fun c6 => ⟨(H.2 c6).1, ⟨(H.2 c6).1, ⟨((H.2 c6).2).1, ⟨(((H.2 c6).2).2).1, ⟨((H.2 c6).2).1, ⟨((((H.2 c6).2).2).2).1, (((((H.2 c6).2).2).2).2 _ rfl)⟩⟩⟩⟩⟩⟩⟩
set_option maxRecDepth 100000 in
set_option maxHeartbeats 4000000 in
theorem v_Ref_oneMultiple_5 (x0 : Nat) (x8 : Int32) (x9 : Int32) (h : MH) (Rt : Value → MH → Prop) (H :
(x9.toInt < (6 : Int32).toInt →
kd h x0 = 13 ∧
kd h (mr h x0 33) = 21 ∧
InB x9 (ln h (mr h x0 33)) ∧
kd h (mr h x0 34) = 21 ∧
InB (((6 : Int32) * x8) + x9) (ln h (mr h x0 34)) ∧
∀ g8 : MH, g8 = wl h (mr h x0 34) (ix (((6 : Int32) * x8) + x9)) (ml h (mr h x0 33) (ix x9)) →
WM k_Ref_oneMultiple p_Ref_oneMultiple_5 [.ref x0, Jv, Jv, Jv, Jv, Jv, Jv, Jv, .int x8, .int (x9 + (1 : Int32))] [] g8 0 0 Rt) ∧
(¬ x9.toInt < (6 : Int32).toInt →
kd h x0 = 13 ∧
∀ g2 : MH, g2 = wi h x0 35 ((mi h x0 35) + (1 : Int32)) →
Rt .null g2)) : WM k_Ref_oneMultiple p_Ref_oneMultiple_5 [.ref x0, Jv, Jv, Jv, Jv, Jv, Jv, Jv, .int x8, .int x9] [] h 0 0 Rt := WM_at (hs := HH_Ref_oneMultiple) G_Ref_oneMultiple 183 158 rfl ⟨fun c9 => ⟨(H.1 c9).1, ⟨(H.1 c9).1, ⟨((H.1 c9).2).1, ⟨(((H.1 c9).2).2).1, ⟨((((H.1 c9).2).2).2).1, ⟨(((((H.1 c9).2).2).2).2).1, ((((((H.1 c9).2).2).2).2).2 _ rfl)⟩⟩⟩⟩⟩⟩, fun c9 => ⟨(H.2 c9).1, ⟨(H.2 c9).1, ((H.2 c9).2 _ rfl)⟩⟩⟩
set_option maxRecDepth 100000 in
set_option maxHeartbeats 4000000 in
theorem v_Ref_multiply (x0 : Nat) (x1 : Int32) (x2 : Int32) (h : MH) (Rt : Value → MH → Prop) (H :
kd h x0 = 13 ∧
((mi h x0 36) = x1 →
((mi h x0 37) = x2 →
Rt .null h) ∧
(¬ (mi h x0 37) = x2 →
WM k_Ref_multiply p_Ref_multiply_1 [.ref x0, .int x1, .int x2, Jv, Jv, Jv, Jv, Jv, Jv] [] h 0 0 Rt)) ∧
(¬ (mi h x0 36) = x1 →
WM k_Ref_multiply p_Ref_multiply_1 [.ref x0, .int x1, .int x2, Jv, Jv, Jv, Jv, Jv, Jv] [] h 0 0 Rt)) : Sp k_Ref_multiply [.ref x0, .int x1, .int x2] h Rt := Sp_intro2 (by decide) (by decide +kernel) rfl (Nat.le_of_ble_eq_true rfl) (WM_at (hs := HH_Ref_multiply) G_Ref_multiply 86 0 rfl ⟨H.1, ⟨fun c2 => ⟨H.1, (H.2.1 c2)⟩, H.2.2⟩⟩)
set_option maxRecDepth 100000 in
set_option maxHeartbeats 4000000 in
theorem v_Ref_multiply_1 (x0 : Nat) (x1 : Int32) (x2 : Int32) (h : MH) (Rt : Value → MH → Prop) (H :
kd h x0 = 13 ∧
∀ g2 : MH, g2 = wi h x0 36 x1 →
∀ g3 : MH, g3 = wi g2 x0 37 x2 →
∀ g4 : MH, g4 = wi g3 x0 35 (0 : Int32) →
WM k_Ref_multiply p_Ref_multiply_2 [.ref x0, .int x1, .int x2, .int (1 : Int32), Jv, Jv, Jv, Jv, Jv] [] g4 0 0 Rt) : WM k_Ref_multiply p_Ref_multiply_1 [.ref x0, .int x1, .int x2, Jv, Jv, Jv, Jv, Jv, Jv] [] h 0 0 Rt := WM_at (hs := HH_Ref_multiply) G_Ref_multiply 86 9 rfl ⟨H.1, ⟨H.1, ⟨H.1, (((H.2 _ rfl) _ rfl) _ rfl)⟩⟩⟩
set_option maxRecDepth 100000 in
set_option maxHeartbeats 4000000 in
theorem v_Ref_multiply_2 (x0 : Nat) (x1 : Int32) (x2 : Int32) (x3 : Int32) (h : MH) (Rt : Value → MH → Prop) (H :
(x2.toInt < x3.toInt →
Rt .null h) ∧
(¬ x2.toInt < x3.toInt →
x3 ≠ 0 ∧
((irm x2 x3) = 0 →
WM k_Ref_multiply p_Ref_multiply_3 [.ref x0, .int x1, .int x2, .int x3, .int (1 : Int32), Jv, Jv, Jv, Jv] [] h 0 0 Rt) ∧
(¬ (irm x2 x3) = 0 →
WM k_Ref_multiply p_Ref_multiply_2 [.ref x0, .int x1, .int x2, .int (x3 + (1 : Int32)), Jv, Jv, Jv, Jv, Jv] [] h 0 0 Rt))) : WM k_Ref_multiply p_Ref_multiply_2 [.ref x0, .int x1, .int x2, .int x3, Jv, Jv, Jv, Jv, Jv] [] h 0 0 Rt := WM_at (hs := HH_Ref_multiply) G_Ref_multiply 86 20 rfl H
set_option maxRecDepth 100000 in
set_option maxHeartbeats 4000000 in
theorem v_Ref_multiply_3 (x0 : Nat) (x1 : Int32) (x2 : Int32) (x3 : Int32) (x4 : Int32) (h : MH) (Rt : Value → MH → Prop) (H :
x3 ≠ 0 ∧
((x2 / x3).toInt < x4.toInt →
WM k_Ref_multiply p_Ref_multiply_2 [.ref x0, .int x1, .int x2, .int (x3 + (1 : Int32)), Jv, Jv, Jv, Jv, Jv] [] h 0 0 Rt) ∧
(¬ (x2 / x3).toInt < x4.toInt →
x4 ≠ 0 ∧
((irm (x2 / x3) x4) = 0 →
WM k_Ref_multiply p_Ref_multiply_4 [.ref x0, .int x1, .int x2, .int x3, .int x4, .int ((x2 / x3) / x4), .int (0 : Int32), Jv, Jv] [] h 0 0 Rt) ∧
(¬ (irm (x2 / x3) x4) = 0 →
WM k_Ref_multiply p_Ref_multiply_3 [.ref x0, .int x1, .int x2, .int x3, .int (x4 + (1 : Int32)), Jv, Jv, Jv, Jv] [] h 0 0 Rt))) : WM k_Ref_multiply p_Ref_multiply_3 [.ref x0, .int x1, .int x2, .int x3, .int x4, Jv, Jv, Jv, Jv] [] h 0 0 Rt := WM_at (hs := HH_Ref_multiply) G_Ref_multiply 86 30 rfl ⟨H.1, ⟨H.2.1, fun c3 => ⟨H.1, ⟨(H.2.2 c3).1, ⟨fun c4 => ⟨H.1, ⟨(H.2.2 c3).1, (((H.2.2 c3).2).1 c4)⟩⟩, ((H.2.2 c3).2).2⟩⟩⟩⟩⟩
set_option maxRecDepth 100000 in
set_option maxHeartbeats 4000000 in
theorem v_Ref_multiply_4 (x0 : Nat) (x1 : Int32) (x2 : Int32) (x3 : Int32) (x4 : Int32) (x5 : Int32) (x6 : Int32) (h : MH) (Rt : Value → MH → Prop) (H :
(x6.toInt < x3.toInt →
WM k_Ref_multiply p_Ref_multiply_5 [.ref x0, .int x1, .int x2, .int x3, .int x4, .int x5, .int x6, .int (0 : Int32), Jv] [] h 0 0 Rt) ∧
(¬ x6.toInt < x3.toInt →
WM k_Ref_multiply p_Ref_multiply_3 [.ref x0, .int x1, .int x2, .int x3, .int (x4 + (1 : Int32)), Jv, Jv, Jv, Jv] [] h 0 0 Rt)) : WM k_Ref_multiply p_Ref_multiply_4 [.ref x0, .int x1, .int x2, .int x3, .int x4, .int x5, .int x6, Jv, Jv] [] h 0 0 Rt := WM_at (hs := HH_Ref_multiply) G_Ref_multiply 86 50 rfl H
set_option maxRecDepth 100000 in
set_option maxHeartbeats 4000000 in
theorem v_Ref_multiply_5 (x0 : Nat) (x1 : Int32) (x2 : Int32) (x3 : Int32) (x4 : Int32) (x5 : Int32) (x6 : Int32) (x7 : Int32) (h : MH) (Rt : Value → MH → Prop) (H :
(x7.toInt < x3.toInt →
WM k_Ref_multiply p_Ref_multiply_6 [.ref x0, .int x1, .int x2, .int x3, .int x4, .int x5, .int x6, .int x7, .int (0 : Int32)] [] h 0 0 Rt) ∧
(¬ x7.toInt < x3.toInt →
WM k_Ref_multiply p_Ref_multiply_4 [.ref x0, .int x1, .int x2, .int x3, .int x4, .int x5, .int (x6 + (1 : Int32)), Jv, Jv] [] h 0 0 Rt)) : WM k_Ref_multiply p_Ref_multiply_5 [.ref x0, .int x1, .int x2, .int x3, .int x4, .int x5, .int x6, .int x7, Jv] [] h 0 0 Rt := WM_at (hs := HH_Ref_multiply) G_Ref_multiply 86 55 rfl H
set_option maxRecDepth 100000 in
set_option maxHeartbeats 4000000 in
theorem v_Ref_multiply_6 (x0 : Nat) (x1 : Int32) (x2 : Int32) (x3 : Int32) (x4 : Int32) (x5 : Int32) (x6 : Int32) (x7 : Int32) (x8 : Int32) (h : MH) (Rt : Value → MH → Prop) (H :
(x8.toInt < x4.toInt →
kd h x0 = 13 ∧
SpV k_Ref_oneMultiple [.ref x0, .int ((6 : Int32) * x1), .int x3, .int x6, .int x4, .int x7, .int x8, .int x5] h (fun g1 =>
WM k_Ref_multiply p_Ref_multiply_6 [.ref x0, .int x1, .int x2, .int x3, .int x4, .int x5, .int x6, .int x7, .int (x8 + (1 : Int32))] [] g1 0 0 Rt)) ∧
(¬ x8.toInt < x4.toInt →
WM k_Ref_multiply p_Ref_multiply_5 [.ref x0, .int x1, .int x2, .int x3, .int x4, .int x5, .int x6, .int (x7 + (1 : Int32)), Jv] [] h 0 0 Rt)) : WM k_Ref_multiply p_Ref_multiply_6 [.ref x0, .int x1, .int x2, .int x3, .int x4, .int x5, .int x6, .int x7, .int x8] [] h 0 0 Rt := WM_at (hs := HH_Ref_multiply) G_Ref_multiply 86 60 rfl H
set_option maxRecDepth 100000 in
set_option maxHeartbeats 4000000 in
theorem v_Ref_multiples (x0 : Nat) (x1 : Int32) (x2 : Int32) (h : MH) (Rt : Value → MH → Prop) (H :
kd h x0 = 13 ∧
SpI k_Ref_isCell [.ref x0, .int x1] h (fun r3 g1 =>
(r3 = 0 →
Rt (.int (-1 : Int32)) g1) ∧
(¬ r3 = 0 →
(x2.toInt < (1 : Int32).toInt →
Rt (.int (-1 : Int32)) g1) ∧
(¬ x2.toInt < (1 : Int32).toInt →
((12 : Int32).toInt < x2.toInt →
Rt (.int (-1 : Int32)) g1) ∧
(¬ (12 : Int32).toInt < x2.toInt →
kd g1 x0 = 13 ∧
SpV k_Ref_multiply [.ref x0, .int x1, .int x2] g1 (fun g4 =>
kd g4 x0 = 13 ∧
Rt (.int (mi g4 x0 35)) g4)))))) : Sp k_Ref_multiples [.ref x0, .int x1, .int x2] h Rt := Sp_intro2 (by decide) (by decide +kernel) rfl (Nat.le_of_ble_eq_true rfl) (WM_at (hs := HH_Ref_multiples) G_Ref_multiples 20 0 rfl H)
set_option maxRecDepth 100000 in
set_option maxHeartbeats 4000000 in
theorem v_Ho_multiple (x0 : Nat) (x1 : Int32) (x2 : Int32) (x3 : Int32) (x4 : Int32) (h : MH) (Rt : Value → MH → Prop) (H :
kd h x0 = 12 ∧
SpR k_Ho_cellAt [.ref x0, .int x1] h (fun r3 g1 =>
(r3 = 0 →
Rt (.long (0 : Int64)) g1) ∧
(¬ r3 = 0 →
(x2.toInt < (1 : Int32).toInt →
Rt (.long (0 : Int64)) g1) ∧
(¬ x2.toInt < (1 : Int32).toInt →
((12 : Int32).toInt < x2.toInt →
Rt (.long (0 : Int64)) g1) ∧
(¬ (12 : Int32).toInt < x2.toInt →
(x4.toInt < 0 →
Rt (.long (0 : Int64)) g1) ∧
(¬ x4.toInt < 0 →
((5 : Int32).toInt < x4.toInt →
Rt (.long (0 : Int64)) g1) ∧
(¬ (5 : Int32).toInt < x4.toInt →
(x3.toInt < 0 →
Rt (.long (0 : Int64)) g1) ∧
(¬ x3.toInt < 0 →
kd g1 r3 = 1 ∧
SpI k_Cell_countMultiples [.ref r3, .int x2] g1 (fun r6 g4 =>
(x3.toInt < r6.toInt →
kd g4 r3 = 1 ∧
kd g4 (mr g4 r3 3) = 28 ∧
InB x2 (ln g4 (mr g4 r3 3)) ∧
((mr g4 (mr g4 r3 3) (ix x2)) = 0 →
Rt (.long (0 : Int64)) g4) ∧
(¬ (mr g4 (mr g4 r3 3) (ix x2)) = 0 →
kd g4 (mr g4 (mr g4 r3 3) (ix x2)) = 21 ∧
InB (((6 : Int32) * x3) + x4) (ln g4 (mr g4 (mr g4 r3 3) (ix x2))) ∧
Rt (.long (ml g4 (mr g4 (mr g4 r3 3) (ix x2)) (ix (((6 : Int32) * x3) + x4)))) g4)) ∧
(¬ x3.toInt < r6.toInt →
Rt (.long (0 : Int64)) g4)))))))))) : Sp k_Ho_multiple [.ref x0, .int x1, .int x2, .int x3, .int x4] h Rt := Sp_intro2 (by decide) (by decide +kernel) rfl (Nat.le_of_ble_eq_true rfl) (WM_at (hs := HH_Ho_multiple) G_Ho_multiple 46 0 rfl H)
set_option maxRecDepth 100000 in
set_option maxHeartbeats 4000000 in
theorem v_Ref_multiple (x0 : Nat) (x1 : Int32) (x2 : Int32) (x3 : Int32) (x4 : Int32) (h : MH) (Rt : Value → MH → Prop) (H :
kd h x0 = 13 ∧
SpI k_Ref_isCell [.ref x0, .int x1] h (fun r3 g1 =>
(r3 = 0 →
Rt (.long (0 : Int64)) g1) ∧
(¬ r3 = 0 →
(x2.toInt < (1 : Int32).toInt →
Rt (.long (0 : Int64)) g1) ∧
(¬ x2.toInt < (1 : Int32).toInt →
((12 : Int32).toInt < x2.toInt →
Rt (.long (0 : Int64)) g1) ∧
(¬ (12 : Int32).toInt < x2.toInt →
(x4.toInt < 0 →
Rt (.long (0 : Int64)) g1) ∧
(¬ x4.toInt < 0 →
((5 : Int32).toInt < x4.toInt →
Rt (.long (0 : Int64)) g1) ∧
(¬ (5 : Int32).toInt < x4.toInt →
(x3.toInt < 0 →
Rt (.long (0 : Int64)) g1) ∧
(¬ x3.toInt < 0 →
kd g1 x0 = 13 ∧
SpV k_Ref_multiply [.ref x0, .int x1, .int x2] g1 (fun g4 =>
kd g4 x0 = 13 ∧
(x3.toInt < (mi g4 x0 35).toInt →
kd g4 (mr g4 x0 34) = 21 ∧
InB (((6 : Int32) * x3) + x4) (ln g4 (mr g4 x0 34)) ∧
Rt (.long (ml g4 (mr g4 x0 34) (ix (((6 : Int32) * x3) + x4)))) g4) ∧
(¬ x3.toInt < (mi g4 x0 35).toInt →
Rt (.long (0 : Int64)) g4)))))))))) : Sp k_Ref_multiple [.ref x0, .int x1, .int x2, .int x3, .int x4] h Rt := Sp_intro2 (by decide) (by decide +kernel) rfl (Nat.le_of_ble_eq_true rfl) (WM_at (hs := HH_Ref_multiple) G_Ref_multiple 39 0 rfl ⟨H.1, SpI.mono H.2 (fun r3 g1 qg1 => ⟨qg1.1, fun c9 => ⟨(qg1.2 c9).1, fun c10 => ⟨((qg1.2 c9).2 c10).1, fun c11 => ⟨(((qg1.2 c9).2 c10).2 c11).1, fun c12 => ⟨((((qg1.2 c9).2 c10).2 c11).2 c12).1, fun c13 => ⟨(((((qg1.2 c9).2 c10).2 c11).2 c12).2 c13).1, fun c14 => ⟨((((((qg1.2 c9).2 c10).2 c11).2 c12).2 c13).2 c14).1, SpV.mono (((((((qg1.2 c9).2 c10).2 c11).2 c12).2 c13).2 c14).2) (fun g4 qg4 => ⟨qg4.1, ⟨fun c15 => ⟨qg4.1, (qg4.2.1 c15)⟩, qg4.2.2⟩⟩)⟩⟩⟩⟩⟩⟩⟩)⟩)
set_option maxRecDepth 100000 in
set_option maxHeartbeats 4000000 in
theorem v_Model_init (x0 : Nat) (x1 : Nat) (x2 : Nat) (h : MH) (Rt : Value → MH → Prop) (H :
x0 ≠ 0 ∧
∀ g2 : MH, g2 = nw h 20 (ix (900 : Int32)) →
kd g2 x0 = 6 ∧
∀ g4 : MH, g4 = wr g2 x0 2 (hn h) →
WM k_Model_init p_Model_init_1 [.ref x0, .ref x1, .ref x2] [] g4 1 900 Rt) : Sp k_Model_init [.ref x0, .ref x1, .ref x2] h Rt := Sp_intro2 (by decide) (by decide +kernel) rfl (Nat.le_of_ble_eq_true rfl) (WM_at (hs := HH_Model_init) G_Model_init 38 0 rfl ⟨H.1, ⟨(by decide), ⟨(H.2 _ rfl).1, ((H.2 _ rfl).2 _ rfl)⟩⟩⟩)
set_option maxRecDepth 100000 in
set_option maxHeartbeats 4000000 in
theorem v_Model_init_1 (x0 : Nat) (x1 : Nat) (x2 : Nat) (cc ss : Nat) (h : MH) (Rt : Value → MH → Prop) (H :
gd (cc + 1) 6 (
gd (ss + ix (300 : Int32)) 1639 (
∀ g1 : MH, g1 = nw h 20 (ix (300 : Int32)) →
kd g1 x0 = 6 ∧
∀ g3 : MH, g3 = wr g1 x0 3 (hn h) →
WM k_Model_init p_Model_init_2 [.ref x0, .ref x1, .ref x2] [] g3 (cc + 1) (ss + ix (300 : Int32)) Rt))) : WM k_Model_init p_Model_init_1 [.ref x0, .ref x1, .ref x2] [] h cc ss Rt := WM_at (hs := HH_Model_init) G_Model_init 38 6 rfl ⟨(by decide), gd_mono (a := (cc + 1)) (b := 6) (fun q => gd_mono (a := (ss + ix (300 : Int32))) (b := 1639) (fun q => ⟨(q _ rfl).1, ((q _ rfl).2 _ rfl)⟩) q) H⟩
set_option maxRecDepth 100000 in
set_option maxHeartbeats 4000000 in
theorem v_Model_init_2 (x0 : Nat) (x1 : Nat) (x2 : Nat) (cc ss : Nat) (h : MH) (Rt : Value → MH → Prop) (H :
kd h x0 = 6 ∧
∀ g2 : MH, g2 = wi h x0 4 (0 : Int32) →
gd (cc + 1) 6 (
gd (ss + ix (30 : Int32)) 1639 (
∀ g3 : MH, g3 = nw g2 20 (ix (30 : Int32)) →
kd g3 x0 = 6 ∧
∀ g5 : MH, g5 = wr g3 x0 5 (hn h) →
WM k_Model_init p_Model_init_3 [.ref x0, .ref x1, .ref x2] [] g5 (cc + 1) (ss + ix (30 : Int32)) Rt))) : WM k_Model_init p_Model_init_2 [.ref x0, .ref x1, .ref x2] [] h cc ss Rt := WM_at (hs := HH_Model_init) G_Model_init 38 10 rfl ⟨H.1, ⟨(by decide), gd_mono (a := (cc + 1)) (b := 6) (fun q => gd_mono (a := (ss + ix (30 : Int32))) (b := 1639) (fun q => ⟨(q _ rfl).1, ((q _ rfl).2 _ rfl)⟩) q) (H.2 _ rfl)⟩⟩
set_option maxRecDepth 100000 in
set_option maxHeartbeats 4000000 in
theorem v_Model_init_3 (x0 : Nat) (x1 : Nat) (x2 : Nat) (cc ss : Nat) (h : MH) (Rt : Value → MH → Prop) (H :
kd h x0 = 6 ∧
∀ g2 : MH, g2 = wi h x0 6 (0 : Int32) →
gd (cc + 1) 6 (
gd (ss + 2) 1639 (
∀ g3 : MH, g3 = nw g2 9 0 →
kd g3 (hn h) = 9 ∧
gd ((cc + 1) + 1) 6 (
gd ((ss + 2) + 400) 1639 (
SpV k_Row_init [.ref (hn h), .int (300 : Int32)] g3 (fun g4 =>
kd g4 x0 = 6 ∧
∀ g7 : MH, g7 = wr g4 x0 7 (hn h) →
WM k_Model_init p_Model_init_4 [.ref x0, .ref x1, .ref x2] [] g7 ((cc + 1) + 1) ((ss + 2) + 400) Rt)))))) : WM k_Model_init p_Model_init_3 [.ref x0, .ref x1, .ref x2] [] h cc ss Rt := WM_at (hs := HH_Model_init) G_Model_init 38 17 rfl ⟨H.1, gd_mono (a := (cc + 1)) (b := 6) (fun q => gd_mono (a := (ss + 2)) (b := 1639) (fun q => ⟨(q _ rfl).1, gd_mono (a := ((cc + 1) + 1)) (b := 6) (fun q => gd_mono (a := ((ss + 2) + 400)) (b := 1639) (fun q => SpV.mono q (fun g4 qg4 => ⟨qg4.1, (qg4.2 _ rfl)⟩)) q) ((q _ rfl).2)⟩) q) (H.2 _ rfl)⟩
set_option maxRecDepth 100000 in
set_option maxHeartbeats 4000000 in
theorem v_Model_init_4 (x0 : Nat) (x1 : Nat) (x2 : Nat) (cc ss : Nat) (h : MH) (Rt : Value → MH → Prop) (H :
gd (cc + 1) 6 (
gd (ss + ix (7 : Int32)) 1639 (
∀ g1 : MH, g1 = nw h 27 (ix (7 : Int32)) →
kd g1 x0 = 6 ∧
∀ g3 : MH, g3 = wr g1 x0 8 (hn h) →
WM k_Model_init p_Model_init_5 [.ref x0, .ref x1, .ref x2] [] g3 (cc + 1) (ss + ix (7 : Int32)) Rt))) : WM k_Model_init p_Model_init_4 [.ref x0, .ref x1, .ref x2] [] h cc ss Rt := WM_at (hs := HH_Model_init) G_Model_init 38 26 rfl ⟨(by decide), gd_mono (a := (cc + 1)) (b := 6) (fun q => gd_mono (a := (ss + ix (7 : Int32))) (b := 1639) (fun q => ⟨(q _ rfl).1, ((q _ rfl).2 _ rfl)⟩) q) H⟩
set_option maxRecDepth 100000 in
set_option maxHeartbeats 4000000 in
theorem v_Model_init_5 (x0 : Nat) (x1 : Nat) (x2 : Nat) (cc ss : Nat) (h : MH) (Rt : Value → MH → Prop) (H :
kd h x0 = 6 ∧
∀ g2 : MH, g2 = wr h x0 0 x1 →
∀ g3 : MH, g3 = wr g2 x0 1 x2 →
WM k_Model_init p_Model_init_6 [Jv, Jv, Jv] [] g3 cc ss Rt) : WM k_Model_init p_Model_init_5 [.ref x0, .ref x1, .ref x2] [] h cc ss Rt := WM_at (hs := HH_Model_init) G_Model_init 38 30 rfl ⟨H.1, ⟨H.1, ((H.2 _ rfl) _ rfl)⟩⟩
set_option maxRecDepth 100000 in
set_option maxHeartbeats 4000000 in
theorem v_Model_init_6 (cc ss : Nat) (h : MH) (Rt : Value → MH → Prop) (H :
gd cc 6 (
gd ss 1639 (
Rt .null h))) : WM k_Model_init p_Model_init_6 [Jv, Jv, Jv] [] h cc ss Rt := WM_at (hs := HH_Model_init) G_Model_init 38 36 rfl H
set_option maxRecDepth 100000 in
set_option maxHeartbeats 4000000 in
theorem v_Ho_model (x0 : Nat) (x1 : Int32) (x2 : Int32) (h : MH) (Rt : Value → MH → Prop) (H :
kd h x0 = 12 ∧
SpR k_Ho_groupAt [.ref x0, .int x1] h (fun r3 g1 =>
kd g1 x0 = 12 ∧
SpR k_Ho_cellAt [.ref x0, .int x2] g1 (fun r6 g4 =>
kd g4 x0 = 12 ∧
((mi g4 x0 16).toInt < (20 : Int32).toInt →
(r3 = 0 →
Rt (.int (-1 : Int32)) g4) ∧
(¬ r3 = 0 →
(r6 = 0 →
Rt (.int (-1 : Int32)) g4) ∧
(¬ r6 = 0 →
SpI k_Ho_keptBy [.ref x0, .ref r3, .ref r6] g4 (fun r9 g8 =>
(r9 = 0 →
Rt (.int (-1 : Int32)) g8) ∧
(¬ r9 = 0 →
kd g8 x0 = 12 ∧
∀ g11 : MH, g11 = nw g8 6 0 →
kd g11 r6 = 1 ∧
kd g11 (hn g8) = 6 ∧
SpV k_Model_init [.ref (hn g8), .ref r3, .ref (mr g11 r6 0)] g11 (fun g13 =>
kd g13 (mr g8 x0 15) = 26 ∧
InB (mi g8 x0 16) (ln g13 (mr g8 x0 15)) ∧
kd g13 (hn g8) = 6 ∧
∀ g18 : MH, g18 = wr g13 (mr g8 x0 15) (ix (mi g8 x0 16)) (hn g8) →
kd g13 x0 = 12 ∧
∀ g20 : MH, g20 = wi g18 x0 16 ((mi g13 x0 16) + (1 : Int32)) →
Rt (.int (mi g8 x0 16)) g20)))))) ∧
(¬ (mi g4 x0 16).toInt < (20 : Int32).toInt →
Rt (.int (-1 : Int32)) g4)))) : Sp k_Ho_model [.ref x0, .int x1, .int x2] h Rt := Sp_intro2 (by decide) (by decide +kernel) rfl (Nat.le_of_ble_eq_true rfl) (WM_at (hs := HH_Ho_model) G_Ho_model 45 0 rfl ⟨H.1, SpR.mono H.2 (fun r3 g1 qg1 => ⟨qg1.1, SpR.mono qg1.2 (fun r6 g4 qg4 => ⟨qg4.1, ⟨fun c21 => ⟨(qg4.2.1 c21).1, fun c22 => ⟨((qg4.2.1 c21).2 c22).1, fun c23 => ⟨qg4.1, SpI.mono (((qg4.2.1 c21).2 c22).2 c23) (fun r9 g8 qg8 => ⟨qg8.1, fun c24 => ⟨(qg8.2 c24).1, ⟨(qg8.2 c24).1, ⟨((qg8.2 c24).2 _ rfl).1, ⟨(((qg8.2 c24).2 _ rfl).2).1, SpV.mono ((((qg8.2 c24).2 _ rfl).2).2) (fun g13 qg13 => ⟨qg13.1, ⟨qg13.2.1, ⟨qg13.2.2.1, ⟨(qg13.2.2.2 _ rfl).1, ⟨(qg13.2.2.2 _ rfl).1, ((qg13.2.2.2 _ rfl).2 _ rfl)⟩⟩⟩⟩⟩)⟩⟩⟩⟩⟩)⟩⟩⟩, qg4.2.2⟩⟩)⟩)⟩)
set_option maxRecDepth 100000 in
set_option maxHeartbeats 4000000 in
theorem v_Ref_model (x0 : Nat) (x1 : Int32) (x2 : Int32) (h : MH) (Rt : Value → MH → Prop) (H :
kd h x0 = 13 ∧
((mi h x0 45) = (20 : Int32) →
Rt (.int (-1 : Int32)) h) ∧
(¬ (mi h x0 45) = (20 : Int32) →
SpI k_Ref_fits [.ref x0, .int x1, .int x2] h (fun r3 g2 =>
(r3 = 0 →
Rt (.int (-1 : Int32)) g2) ∧
(¬ r3 = 0 →
kd g2 x0 = 13 ∧
kd g2 (mr g2 x0 38) = 20 ∧
InB (mi g2 x0 45) (ln g2 (mr g2 x0 38)) ∧
∀ g7 : MH, g7 = wi g2 (mr g2 x0 38) (ix (mi g2 x0 45)) x1 →
kd g2 (mr g2 x0 39) = 20 ∧
InB (mi g7 x0 45) (ln g2 (mr g2 x0 39)) ∧
∀ g10 : MH, g10 = wi g7 (mr g2 x0 39) (ix (mi g7 x0 45)) x2 →
∀ g11 : MH, g11 = wi g10 x0 45 ((mi g10 x0 45) + (1 : Int32)) →
Rt (.int ((mi g11 x0 45) - (1 : Int32))) g11)))) : Sp k_Ref_model [.ref x0, .int x1, .int x2] h Rt := Sp_intro2 (by decide) (by decide +kernel) rfl (Nat.le_of_ble_eq_true rfl) (WM_at (hs := HH_Ref_model) G_Ref_model 35 0 rfl ⟨H.1, ⟨H.2.1, fun c12 => ⟨H.1, SpI.mono (H.2.2 c12) (fun r3 g2 qg2 => ⟨qg2.1, fun c13 => ⟨(qg2.2 c13).1, ⟨(qg2.2 c13).1, ⟨((qg2.2 c13).2).1, ⟨(((qg2.2 c13).2).2).1, ⟨(qg2.2 c13).1, ⟨(qg2.2 c13).1, ⟨((((qg2.2 c13).2).2).2 _ rfl).1, ⟨(((((qg2.2 c13).2).2).2 _ rfl).2).1, ⟨(qg2.2 c13).1, ⟨(qg2.2 c13).1, ⟨(qg2.2 c13).1, (((((((qg2.2 c13).2).2).2 _ rfl).2).2 _ rfl) _ rfl)⟩⟩⟩⟩⟩⟩⟩⟩⟩⟩⟩⟩)⟩⟩⟩)
set_option maxRecDepth 100000 in
set_option maxHeartbeats 4000000 in
theorem v_Ho_modelAt (x0 : Nat) (x1 : Int32) (h : MH) (Rt : Value → MH → Prop) (H :
(x1.toInt < 0 →
Rt (.ref 0) h) ∧
(¬ x1.toInt < 0 →
kd h x0 = 12 ∧
(x1.toInt < (mi h x0 16).toInt →
kd h (mr h x0 15) = 26 ∧
InB x1 (ln h (mr h x0 15)) ∧
Rt (.ref (mr h (mr h x0 15) (ix x1))) h) ∧
(¬ x1.toInt < (mi h x0 16).toInt →
Rt (.ref 0) h))) : Sp k_Ho_modelAt [.ref x0, .int x1] h Rt := Sp_intro2 (by decide) (by decide +kernel) rfl (Nat.le_of_ble_eq_true rfl) (WM_at (hs := HH_Ho_modelAt) G_Ho_modelAt 14 0 rfl ⟨H.1, fun c4 => ⟨(H.2 c4).1, ⟨fun c5 => ⟨(H.2 c4).1, (((H.2 c4).2).1 c5)⟩, ((H.2 c4).2).2⟩⟩⟩)
set_option maxRecDepth 100000 in
set_option maxHeartbeats 4000000 in
theorem v_Model_atomAt (x0 : Nat) (x1 : Int32) (h : MH) (Rt : Value → MH → Prop) (H :
kd h x0 = 6 ∧
kd h (mr h x0 7) = 9 ∧
SpI k_Row_seat [.ref (mr h x0 7), .int (x1 * (512 : Int32))] h (fun r4 g2 =>
kd g2 x0 = 6 ∧
kd g2 (mr g2 x0 7) = 9 ∧
(r4.toInt < (mi g2 (mr g2 x0 7) 1).toInt →
kd g2 (mr g2 (mr g2 x0 7) 0) = 20 ∧
InB r4 (ln g2 (mr g2 (mr g2 x0 7) 0)) ∧
(((mi g2 (mr g2 (mr g2 x0 7) 0) (ix r4)) / (512 : Int32)) = x1 →
Rt (.int (irm (mi g2 (mr g2 (mr g2 x0 7) 0) (ix r4)) (512 : Int32))) g2) ∧
(¬ ((mi g2 (mr g2 (mr g2 x0 7) 0) (ix r4)) / (512 : Int32)) = x1 →
Rt (.int (-1 : Int32)) g2)) ∧
(¬ r4.toInt < (mi g2 (mr g2 x0 7) 1).toInt →
Rt (.int (-1 : Int32)) g2))) : Sp k_Model_atomAt [.ref x0, .int x1] h Rt := Sp_intro2 (by decide) (by decide +kernel) rfl (Nat.le_of_ble_eq_true rfl) (WM_at (hs := HH_Model_atomAt) G_Model_atomAt 32 0 rfl ⟨H.1, ⟨H.2.1, SpI.mono H.2.2 (fun r4 g2 qg2 => ⟨qg2.1, ⟨qg2.2.1, ⟨fun c9 => ⟨qg2.1, ⟨qg2.2.1, ⟨(qg2.2.2.1 c9).1, ⟨((qg2.2.2.1 c9).2).1, ⟨(by decide), ⟨fun c10 => ⟨qg2.1, ⟨qg2.2.1, ⟨(qg2.2.2.1 c9).1, ⟨((qg2.2.2.1 c9).2).1, ⟨(by decide), ((((qg2.2.2.1 c9).2).2).1 c10)⟩⟩⟩⟩⟩, (((qg2.2.2.1 c9).2).2).2⟩⟩⟩⟩⟩⟩, qg2.2.2.2⟩⟩⟩)⟩⟩)
set_option maxRecDepth 100000 in
set_option maxHeartbeats 4000000 in
theorem v_Model_put (x0 : Nat) (x1 : Int32) (h : MH) (Rt : Value → MH → Prop) (H :
kd h x0 = 6 ∧
kd h (mr h x0 2) = 20 ∧
InB ((3 : Int32) * (mi h x0 4)) (ln h (mr h x0 2)) ∧
∀ g4 : MH, g4 = wi h (mr h x0 2) (ix ((3 : Int32) * (mi h x0 4))) (x1 / (576 : Int32)) →
InB (((3 : Int32) * (mi g4 x0 4)) + (1 : Int32)) (ln h (mr h x0 2)) ∧
∀ g6 : MH, g6 = wi g4 (mr h x0 2) (ix (((3 : Int32) * (mi g4 x0 4)) + (1 : Int32))) (irm (x1 / (24 : Int32)) (24 : Int32)) →
InB (((3 : Int32) * (mi g6 x0 4)) + (2 : Int32)) (ln h (mr h x0 2)) ∧
∀ g8 : MH, g8 = wi g6 (mr h x0 2) (ix (((3 : Int32) * (mi g6 x0 4)) + (2 : Int32))) (irm x1 (24 : Int32)) →
kd h (mr h x0 3) = 20 ∧
InB (mi g8 x0 4) (ln h (mr h x0 3)) ∧
∀ g11 : MH, g11 = wi g8 (mr h x0 3) (ix (mi g8 x0 4)) (mi g8 x0 6) →
WM k_Model_put p_Model_put_1 [.ref x0, .int x1] [] g11 0 0 Rt) : Sp k_Model_put [.ref x0, .int x1] h Rt := Sp_intro2 (by decide) (by decide +kernel) rfl (Nat.le_of_ble_eq_true rfl) (WM_at (hs := HH_Model_put) G_Model_put 61 0 rfl ⟨H.1, ⟨H.1, ⟨(by decide), ⟨H.2.1, ⟨H.2.2.1, ⟨H.1, ⟨H.1, ⟨(by decide), ⟨(by decide), ⟨H.2.1, ⟨(H.2.2.2 _ rfl).1, ⟨H.1, ⟨H.1, ⟨(by decide), ⟨H.2.1, ⟨((H.2.2.2 _ rfl).2 _ rfl).1, ⟨H.1, ⟨H.1, ⟨H.1, ⟨(((H.2.2.2 _ rfl).2 _ rfl).2 _ rfl).1, ⟨((((H.2.2.2 _ rfl).2 _ rfl).2 _ rfl).2).1, (((((H.2.2.2 _ rfl).2 _ rfl).2 _ rfl).2).2 _ rfl)⟩⟩⟩⟩⟩⟩⟩⟩⟩⟩⟩⟩⟩⟩⟩⟩⟩⟩⟩⟩⟩)
set_option maxRecDepth 100000 in
set_option maxHeartbeats 4000000 in
theorem v_Model_put_1 (x0 : Nat) (x1 : Int32) (h : MH) (Rt : Value → MH → Prop) (H :
kd h x0 = 6 ∧
kd h (mr h x0 7) = 9 ∧
SpI k_Row_put [.ref (mr h x0 7), .int ((x1 * (512 : Int32)) + (mi h x0 4))] h (fun r4 g2 =>
kd g2 x0 = 6 ∧
∀ g6 : MH, g6 = wi g2 x0 4 ((mi g2 x0 4) + (1 : Int32)) →
Rt .null g6)) : WM k_Model_put p_Model_put_1 [.ref x0, .int x1] [] h 0 0 Rt := WM_at (hs := HH_Model_put) G_Model_put 61 43 rfl ⟨H.1, ⟨H.1, ⟨H.2.1, SpI.mono H.2.2 (fun r4 g2 qg2 => ⟨qg2.1, ⟨qg2.1, (qg2.2 _ rfl)⟩⟩)⟩⟩⟩
set_option maxRecDepth 100000 in
set_option maxHeartbeats 4000000 in
theorem v_Model_settle (x0 : Nat) (x1 : Int32) (x2 : Nat) (h : MH) (Rt : Value → MH → Prop) (H :
kd h x0 = 6 ∧
((mi h x0 6).toInt < (30 : Int32).toInt →
kd h x2 = 9 ∧
((300 : Int32).toInt < ((mi h x0 4) + (mi h x2 1)).toInt →
Rt (.int (0 : Int32)) h) ∧
(¬ (300 : Int32).toInt < ((mi h x0 4) + (mi h x2 1)).toInt →
WM k_Model_settle p_Model_settle_1 [.ref x0, .int x1, .ref x2, .int (0 : Int32)] [] h 0 0 Rt)) ∧
(¬ (mi h x0 6).toInt < (30 : Int32).toInt →
Rt (.int (0 : Int32)) h)) : Sp k_Model_settle [.ref x0, .int x1, .ref x2] h Rt := Sp_intro2 (by decide) (by decide +kernel) rfl (Nat.le_of_ble_eq_true rfl) (WM_at (hs := HH_Model_settle) G_Model_settle 60 0 rfl ⟨H.1, ⟨fun c3 => ⟨H.1, ⟨(H.2.1 c3).1, ⟨fun c4 => ⟨(Or.inl rfl), (((H.2.1 c3).2).1 c4)⟩, ((H.2.1 c3).2).2⟩⟩⟩, fun c3 => ⟨(Or.inl rfl), (H.2.2 c3)⟩⟩⟩)
set_option maxRecDepth 100000 in
set_option maxHeartbeats 4000000 in
theorem v_Model_settle_1 (x0 : Nat) (x1 : Int32) (x2 : Nat) (x3 : Int32) (h : MH) (Rt : Value → MH → Prop) (H :
kd h x2 = 9 ∧
(x3.toInt < (mi h x2 1).toInt →
kd h (mr h x2 0) = 20 ∧
InB x3 (ln h (mr h x2 0)) ∧
kd h x0 = 6 ∧
SpI k_Model_atomAt [.ref x0, .int (mi h (mr h x2 0) (ix x3))] h (fun r6 g4 =>
(r6 = (-1 : Int32) →
WM k_Model_settle p_Model_settle_1 [.ref x0, .int x1, .ref x2, .int (x3 + (1 : Int32))] [] g4 0 0 Rt) ∧
(¬ r6 = (-1 : Int32) →
Rt (.int (0 : Int32)) g4))) ∧
(¬ x3.toInt < (mi h x2 1).toInt →
WM k_Model_settle p_Model_settle_2 [.ref x0, .int x1, .ref x2, .int (0 : Int32)] [] h 0 0 Rt)) : WM k_Model_settle p_Model_settle_1 [.ref x0, .int x1, .ref x2, .int x3] [] h 0 0 Rt := WM_at (hs := HH_Model_settle) G_Model_settle 60 15 rfl ⟨H.1, ⟨fun c7 => ⟨H.1, ⟨(H.2.1 c7).1, ⟨((H.2.1 c7).2).1, ⟨(((H.2.1 c7).2).2).1, SpI.mono ((((H.2.1 c7).2).2).2) (fun r6 g4 qg4 => ⟨qg4.1, fun c8 => ⟨(Or.inl rfl), (qg4.2 c8)⟩⟩)⟩⟩⟩⟩, H.2.2⟩⟩
set_option maxRecDepth 100000 in
set_option maxHeartbeats 4000000 in
theorem v_Model_settle_2 (x0 : Nat) (x1 : Int32) (x2 : Nat) (x3 : Int32) (h : MH) (Rt : Value → MH → Prop) (H :
kd h x2 = 9 ∧
(x3.toInt < (mi h x2 1).toInt →
kd h (mr h x2 0) = 20 ∧
InB x3 (ln h (mr h x2 0)) ∧
kd h x0 = 6 ∧
SpV k_Model_put [.ref x0, .int (mi h (mr h x2 0) (ix x3))] h (fun g9 =>
WM k_Model_settle p_Model_settle_2 [.ref x0, .int x1, .ref x2, .int (x3 + (1 : Int32))] [] g9 0 0 Rt)) ∧
(¬ x3.toInt < (mi h x2 1).toInt →
kd h x0 = 6 ∧
kd h (mr h x0 5) = 20 ∧
InB (mi h x0 6) (ln h (mr h x0 5)) ∧
∀ g5 : MH, g5 = wi h (mr h x0 5) (ix (mi h x0 6)) x1 →
∀ g6 : MH, g6 = wi g5 x0 6 ((mi g5 x0 6) + (1 : Int32)) →
Rt (.int (1 : Int32)) g6)) : WM k_Model_settle p_Model_settle_2 [.ref x0, .int x1, .ref x2, .int x3] [] h 0 0 Rt := WM_at (hs := HH_Model_settle) G_Model_settle 60 33 rfl ⟨H.1, ⟨fun c11 => ⟨H.1, (H.2.1 c11)⟩, fun c11 => ⟨(H.2.2 c11).1, ⟨(H.2.2 c11).1, ⟨((H.2.2 c11).2).1, ⟨(((H.2.2 c11).2).2).1, ⟨(H.2.2 c11).1, ⟨(H.2.2 c11).1, ⟨(Or.inr rfl), (((((H.2.2 c11).2).2).2 _ rfl) _ rfl)⟩⟩⟩⟩⟩⟩⟩⟩⟩
set_option maxRecDepth 100000 in
set_option maxHeartbeats 4000000 in
theorem v_Ho_atom (x0 : Nat) (x1 : Int32) (x2 : Int32) (x3 : Int32) (h : MH) (Rt : Value → MH → Prop) (H :
kd h x0 = 12 ∧
SpR k_Ho_modelAt [.ref x0, .int x1] h (fun r3 g1 =>
(r3 = 0 →
Rt (.int (-1 : Int32)) g1) ∧
(¬ r3 = 0 →
(x2 = 0 →
Rt (.int (-1 : Int32)) g1) ∧
(¬ x2 = 0 →
(x2.toInt < (-99 : Int32).toInt →
Rt (.int (-1 : Int32)) g1) ∧
(¬ x2.toInt < (-99 : Int32).toInt →
((99 : Int32).toInt < x2.toInt →
Rt (.int (-1 : Int32)) g1) ∧
(¬ (99 : Int32).toInt < x2.toInt →
(x3.toInt < 0 →
Rt (.int (-1 : Int32)) g1) ∧
(¬ x3.toInt < 0 →
(x3.toInt < (13824 : Int32).toInt →
kd g1 r3 = 6 ∧
kd g1 x0 = 12 ∧
SpV k_Ho_gatherOrbit [.ref x0, .ref (mr g1 r3 0), .int x3] g1 (fun g5 =>
kd g5 x0 = 12 ∧
kd g5 r3 = 6 ∧
SpI k_Model_settle [.ref r3, .int x2, .ref (mr g5 x0 10)] g5 (fun r10 g8 =>
(r10 = 0 →
Rt (.int (-1 : Int32)) g8) ∧
(¬ r10 = 0 →
kd g8 r3 = 6 ∧
Rt (.int (mi g8 r3 4)) g8)))) ∧
(¬ x3.toInt < (13824 : Int32).toInt →
Rt (.int (-1 : Int32)) g1)))))))) : Sp k_Ho_atom [.ref x0, .int x1, .int x2, .int x3] h Rt := Sp_intro2 (by decide) (by decide +kernel) rfl (Nat.le_of_ble_eq_true rfl) (WM_at (hs := HH_Ho_atom) G_Ho_atom 38 0 rfl H)
set_option maxRecDepth 100000 in
set_option maxHeartbeats 4000000 in
theorem v_Ref_isModel (x0 : Nat) (x1 : Int32) (h : MH) (Rt : Value → MH → Prop) (H :
(x1.toInt < 0 →
Rt (.int (0 : Int32)) h) ∧
(¬ x1.toInt < 0 →
kd h x0 = 13 ∧
(x1.toInt < (mi h x0 45).toInt →
Rt (.int (1 : Int32)) h) ∧
(¬ x1.toInt < (mi h x0 45).toInt →
Rt (.int (0 : Int32)) h))) : Sp k_Ref_isModel [.ref x0, .int x1] h Rt := Sp_intro2 (by decide) (by decide +kernel) rfl (Nat.le_of_ble_eq_true rfl) (WM_at (hs := HH_Ref_isModel) G_Ref_isModel 11 0 rfl ⟨fun c2 => ⟨(Or.inl rfl), (H.1 c2)⟩, fun c2 => ⟨(H.2 c2).1, ⟨fun c3 => ⟨(Or.inr rfl), (((H.2 c2).2).1 c3)⟩, fun c3 => ⟨(Or.inl rfl), (((H.2 c2).2).2 c3)⟩⟩⟩⟩)
set_option maxRecDepth 100000 in
set_option maxHeartbeats 4000000 in
theorem v_Ref_atom (x0 : Nat) (x1 : Int32) (x2 : Int32) (x3 : Int32) (h : MH) (Rt : Value → MH → Prop) (H :
kd h x0 = 13 ∧
SpI k_Ref_isModel [.ref x0, .int x1] h (fun r3 g1 =>
(r3 = 0 →
Rt (.int (-1 : Int32)) g1) ∧
(¬ r3 = 0 →
kd g1 x0 = 13 ∧
kd g1 (mr g1 x0 40) = 20 ∧
InB x1 (ln g1 (mr g1 x0 40)) ∧
((mi g1 (mr g1 x0 40) (ix x1)) = (30 : Int32) →
Rt (.int (-1 : Int32)) g1) ∧
(¬ (mi g1 (mr g1 x0 40) (ix x1)) = (30 : Int32) →
(x2.toInt < (-99 : Int32).toInt →
Rt (.int (-1 : Int32)) g1) ∧
(¬ x2.toInt < (-99 : Int32).toInt →
((99 : Int32).toInt < x2.toInt →
Rt (.int (-1 : Int32)) g1) ∧
(¬ (99 : Int32).toInt < x2.toInt →
(x2 = 0 →
Rt (.int (-1 : Int32)) g1) ∧
(¬ x2 = 0 →
(x3.toInt < 0 →
Rt (.int (-1 : Int32)) g1) ∧
(¬ x3.toInt < 0 →
(x3.toInt < (13824 : Int32).toInt →
kd g1 (mr g1 x0 38) = 20 ∧
InB x1 (ln g1 (mr g1 x0 38)) ∧
SpI k_Ref_orbitOf [.ref x0, .int (mi g1 (mr g1 x0 38) (ix x1)), .int x3] g1 (fun r10 g9 =>
kd g9 x0 = 13 ∧
kd g9 (mr g9 x0 41) = 20 ∧
InB x1 (ln g9 (mr g9 x0 41)) ∧
((300 : Int32).toInt < ((mi g9 (mr g9 x0 41) (ix x1)) + r10).toInt →
Rt (.int (-1 : Int32)) g9) ∧
(¬ (300 : Int32).toInt < ((mi g9 (mr g9 x0 41) (ix x1)) + r10).toInt →
WM k_Ref_atom p_Ref_atom_1 [.ref x0, .int x1, .int x2, Jv, .int r10, .int (0 : Int32), Jv] [] g9 0 0 Rt))) ∧
(¬ x3.toInt < (13824 : Int32).toInt →
Rt (.int (-1 : Int32)) g1))))))))) : Sp k_Ref_atom [.ref x0, .int x1, .int x2, .int x3] h Rt := Sp_intro2 (by decide) (by decide +kernel) rfl (Nat.le_of_ble_eq_true rfl) (WM_at (hs := HH_Ref_atom) G_Ref_atom 141 0 rfl ⟨H.1, SpI.mono H.2 (fun r3 g1 qg1 => ⟨qg1.1, fun c14 => ⟨(qg1.2 c14).1, ⟨((qg1.2 c14).2).1, ⟨(((qg1.2 c14).2).2).1, ⟨((((qg1.2 c14).2).2).2).1, fun c15 => ⟨(((((qg1.2 c14).2).2).2).2 c15).1, fun c16 => ⟨((((((qg1.2 c14).2).2).2).2 c15).2 c16).1, fun c17 => ⟨(((((((qg1.2 c14).2).2).2).2 c15).2 c16).2 c17).1, fun c18 => ⟨((((((((qg1.2 c14).2).2).2).2 c15).2 c16).2 c17).2 c18).1, fun c19 => ⟨fun c20 => ⟨(qg1.2 c14).1, ⟨((((((((((qg1.2 c14).2).2).2).2 c15).2 c16).2 c17).2 c18).2 c19).1 c20).1, ⟨(((((((((((qg1.2 c14).2).2).2).2 c15).2 c16).2 c17).2 c18).2 c19).1 c20).2).1, ⟨(qg1.2 c14).1, (((((((((((qg1.2 c14).2).2).2).2 c15).2 c16).2 c17).2 c18).2 c19).1 c20).2).2⟩⟩⟩⟩, (((((((((qg1.2 c14).2).2).2).2 c15).2 c16).2 c17).2 c18).2 c19).2⟩⟩⟩⟩⟩⟩⟩⟩⟩⟩)⟩)
set_option maxRecDepth 100000 in
set_option maxHeartbeats 4000000 in
theorem v_Ref_atom_1 (x0 : Nat) (x1 : Int32) (x2 : Int32) (x4 : Int32) (x5 : Int32) (h : MH) (Rt : Value → MH → Prop) (H :
kd h x0 = 13 ∧
kd h (mr h x0 41) = 20 ∧
InB x1 (ln h (mr h x0 41)) ∧
(x5.toInt < (mi h (mr h x0 41) (ix x1)).toInt →
WM k_Ref_atom p_Ref_atom_2 [.ref x0, .int x1, .int x2, Jv, .int x4, .int x5, .int (0 : Int32)] [] h 0 0 Rt) ∧
(¬ x5.toInt < (mi h (mr h x0 41) (ix x1)).toInt →
WM k_Ref_atom p_Ref_atom_3 [.ref x0, .int x1, .int x2, Jv, .int x4, .int (0 : Int32), Jv] [] h 0 0 Rt)) : WM k_Ref_atom p_Ref_atom_1 [.ref x0, .int x1, .int x2, Jv, .int x4, .int x5, Jv] [] h 0 0 Rt := WM_at (hs := HH_Ref_atom) G_Ref_atom 141 45 rfl H
set_option maxRecDepth 100000 in
set_option maxHeartbeats 4000000 in
theorem v_Ref_atom_2 (x0 : Nat) (x1 : Int32) (x2 : Int32) (x4 : Int32) (x5 : Int32) (x6 : Int32) (h : MH) (Rt : Value → MH → Prop) (H :
(x6.toInt < x4.toInt →
kd h x0 = 13 ∧
kd h (mr h x0 42) = 20 ∧
InB (((300 : Int32) * x1) + x5) (ln h (mr h x0 42)) ∧
kd h (mr h x0 27) = 20 ∧
InB x6 (ln h (mr h x0 27)) ∧
((mi h (mr h x0 42) (ix (((300 : Int32) * x1) + x5))) = (mi h (mr h x0 27) (ix x6)) →
Rt (.int (-1 : Int32)) h) ∧
(¬ (mi h (mr h x0 42) (ix (((300 : Int32) * x1) + x5))) = (mi h (mr h x0 27) (ix x6)) →
WM k_Ref_atom p_Ref_atom_2 [.ref x0, .int x1, .int x2, Jv, .int x4, .int x5, .int (x6 + (1 : Int32))] [] h 0 0 Rt)) ∧
(¬ x6.toInt < x4.toInt →
WM k_Ref_atom p_Ref_atom_1 [.ref x0, .int x1, .int x2, Jv, .int x4, .int (x5 + (1 : Int32)), Jv] [] h 0 0 Rt)) : WM k_Ref_atom p_Ref_atom_2 [.ref x0, .int x1, .int x2, Jv, .int x4, .int x5, .int x6] [] h 0 0 Rt := WM_at (hs := HH_Ref_atom) G_Ref_atom 141 53 rfl ⟨fun c6 => ⟨(H.1 c6).1, ⟨((H.1 c6).2).1, ⟨(((H.1 c6).2).2).1, ⟨(H.1 c6).1, (((H.1 c6).2).2).2⟩⟩⟩⟩, H.2⟩
set_option maxRecDepth 100000 in
set_option maxHeartbeats 4000000 in
theorem v_Ref_atom_3 (x0 : Nat) (x1 : Int32) (x2 : Int32) (x4 : Int32) (x5 : Int32) (h : MH) (Rt : Value → MH → Prop) (H :
(x5.toInt < x4.toInt →
kd h x0 = 13 ∧
kd h (mr h x0 41) = 20 ∧
InB x1 (ln h (mr h x0 41)) ∧
kd h (mr h x0 27) = 20 ∧
InB x5 (ln h (mr h x0 27)) ∧
kd h (mr h x0 42) = 20 ∧
InB (((300 : Int32) * x1) + (mi h (mr h x0 41) (ix x1))) (ln h (mr h x0 42)) ∧
∀ g17 : MH, g17 = wi h (mr h x0 42) (ix (((300 : Int32) * x1) + (mi h (mr h x0 41) (ix x1)))) (mi h (mr h x0 27) (ix x5)) →
kd h (mr h x0 43) = 20 ∧
InB (((300 : Int32) * x1) + (mi h (mr h x0 41) (ix x1))) (ln h (mr h x0 43)) ∧
∀ g20 : MH, g20 = wi g17 (mr h x0 43) (ix (((300 : Int32) * x1) + (mi h (mr h x0 41) (ix x1)))) x2 →
kd h (mr h x0 40) = 20 ∧
InB x1 (ln h (mr h x0 40)) ∧
kd h (mr h x0 44) = 20 ∧
InB (((300 : Int32) * x1) + (mi h (mr h x0 41) (ix x1))) (ln h (mr h x0 44)) ∧
∀ g25 : MH, g25 = wi g20 (mr h x0 44) (ix (((300 : Int32) * x1) + (mi h (mr h x0 41) (ix x1)))) (mi g20 (mr h x0 40) (ix x1)) →
∀ g26 : MH, g26 = wi g25 (mr h x0 41) (ix x1) ((mi g25 (mr h x0 41) (ix x1)) + (1 : Int32)) →
WM k_Ref_atom p_Ref_atom_4 [.ref x0, .int x1, .int x2, Jv, .int x4, .int x5, Jv] [] g26 0 0 Rt) ∧
(¬ x5.toInt < x4.toInt →
kd h x0 = 13 ∧
kd h (mr h x0 40) = 20 ∧
InB x1 (ln h (mr h x0 40)) ∧
∀ g4 : MH, g4 = wi h (mr h x0 40) (ix x1) ((mi h (mr h x0 40) (ix x1)) + (1 : Int32)) →
((mi g4 x0 51) = x1 →
∀ g7 : MH, g7 = wi g4 x0 51 (-1 : Int32) →
kd h (mr h x0 41) = 20 ∧
InB x1 (ln h (mr h x0 41)) ∧
Rt (.int (mi g7 (mr h x0 41) (ix x1))) g7) ∧
(¬ (mi g4 x0 51) = x1 →
kd h (mr h x0 41) = 20 ∧
InB x1 (ln h (mr h x0 41)) ∧
Rt (.int (mi g4 (mr h x0 41) (ix x1))) g4))) : WM k_Ref_atom p_Ref_atom_3 [.ref x0, .int x1, .int x2, Jv, .int x4, .int x5, Jv] [] h 0 0 Rt := WM_at (hs := HH_Ref_atom) G_Ref_atom 141 77 rfl ⟨fun c27 => ⟨(H.1 c27).1, ⟨((H.1 c27).2).1, ⟨(((H.1 c27).2).2).1, ⟨(H.1 c27).1, ⟨(H.1 c27).1, ⟨((((H.1 c27).2).2).2).1, ⟨(((((H.1 c27).2).2).2).2).1, ⟨((((((H.1 c27).2).2).2).2).2).1, ⟨(((((((H.1 c27).2).2).2).2).2).2).1, ⟨(H.1 c27).1, ⟨((((((((H.1 c27).2).2).2).2).2).2).2 _ rfl).1, ⟨(((((((((H.1 c27).2).2).2).2).2).2).2 _ rfl).2).1, ⟨(H.1 c27).1, ⟨(H.1 c27).1, ⟨((((((((((H.1 c27).2).2).2).2).2).2).2 _ rfl).2).2 _ rfl).1, ⟨(((((((((((H.1 c27).2).2).2).2).2).2).2 _ rfl).2).2 _ rfl).2).1, ⟨((((((((((((H.1 c27).2).2).2).2).2).2).2 _ rfl).2).2 _ rfl).2).2).1, ⟨(((((((((((((H.1 c27).2).2).2).2).2).2).2 _ rfl).2).2 _ rfl).2).2).2).1, ⟨(H.1 c27).1, ⟨((H.1 c27).2).1, ⟨(((H.1 c27).2).2).1, ⟨((H.1 c27).2).1, ⟨(((H.1 c27).2).2).1, (((((((((((((((H.1 c27).2).2).2).2).2).2).2 _ rfl).2).2 _ rfl).2).2).2).2 _ rfl) _ rfl)⟩⟩⟩⟩⟩⟩⟩⟩⟩⟩⟩⟩⟩⟩⟩⟩⟩⟩⟩⟩⟩⟩⟩, fun c27 => ⟨(H.2 c27).1, ⟨((H.2 c27).2).1, ⟨(((H.2 c27).2).2).1, ⟨((H.2 c27).2).1, ⟨(((H.2 c27).2).2).1, ⟨(H.2 c27).1, ⟨fun c28 => ⟨(H.2 c27).1, ⟨(H.2 c27).1, ((((((H.2 c27).2).2).2 _ rfl).1 c28) _ rfl)⟩⟩, fun c28 => ⟨(H.2 c27).1, (((((H.2 c27).2).2).2 _ rfl).2 c28)⟩⟩⟩⟩⟩⟩⟩⟩⟩
set_option maxRecDepth 100000 in
set_option maxHeartbeats 4000000 in
theorem v_Ref_atom_4 (x0 : Nat) (x1 : Int32) (x2 : Int32) (x4 : Int32) (x5 : Int32) (h : MH) (Rt : Value → MH → Prop) (H :
WM k_Ref_atom p_Ref_atom_3 [.ref x0, .int x1, .int x2, Jv, .int x4, .int (x5 + (1 : Int32)), Jv] [] h 0 0 Rt) : WM k_Ref_atom p_Ref_atom_4 [.ref x0, .int x1, .int x2, Jv, .int x4, .int x5, Jv] [] h 0 0 Rt := WM_at (hs := HH_Ref_atom) G_Ref_atom 141 118 rfl H
set_option maxRecDepth 100000 in
set_option maxHeartbeats 4000000 in
theorem v_Model_holds (x0 : Nat) (x1 : Int32) (h : MH) (Rt : Value → MH → Prop) (H :
(x1.toInt < 0 →
Rt (.int (0 : Int32)) h) ∧
(¬ x1.toInt < 0 →
kd h x0 = 6 ∧
(x1.toInt < (mi h x0 4).toInt →
Rt (.int (1 : Int32)) h) ∧
(¬ x1.toInt < (mi h x0 4).toInt →
Rt (.int (0 : Int32)) h))) : Sp k_Model_holds [.ref x0, .int x1] h Rt := Sp_intro2 (by decide) (by decide +kernel) rfl (Nat.le_of_ble_eq_true rfl) (WM_at (hs := HH_Model_holds) G_Model_holds 11 0 rfl ⟨fun c2 => ⟨(Or.inl rfl), (H.1 c2)⟩, fun c2 => ⟨(H.2 c2).1, ⟨fun c3 => ⟨(Or.inr rfl), (((H.2 c2).2).1 c3)⟩, fun c3 => ⟨(Or.inl rfl), (((H.2 c2).2).2 c3)⟩⟩⟩⟩)
set_option maxRecDepth 100000 in
set_option maxHeartbeats 4000000 in
theorem v_Model_placeOf (x0 : Nat) (x1 : Int32) (h : MH) (Rt : Value → MH → Prop) (H :
kd h x0 = 6 ∧
kd h (mr h x0 2) = 20 ∧
InB ((3 : Int32) * x1) (ln h (mr h x0 2)) ∧
InB (((3 : Int32) * x1) + (1 : Int32)) (ln h (mr h x0 2)) ∧
InB (((3 : Int32) * x1) + (2 : Int32)) (ln h (mr h x0 2)) ∧
Rt (.int (((((mi h (mr h x0 2) (ix ((3 : Int32) * x1))) * (24 : Int32)) + (mi h (mr h x0 2) (ix (((3 : Int32) * x1) + (1 : Int32))))) * (24 : Int32)) + (mi h (mr h x0 2) (ix (((3 : Int32) * x1) + (2 : Int32)))))) h) : Sp k_Model_placeOf [.ref x0, .int x1] h Rt := Sp_intro2 (by decide) (by decide +kernel) rfl (Nat.le_of_ble_eq_true rfl) (WM_at (hs := HH_Model_placeOf) G_Model_placeOf 30 0 rfl ⟨H.1, ⟨H.2.1, ⟨H.2.2.1, ⟨H.1, ⟨H.2.1, ⟨H.2.2.2.1, ⟨H.1, ⟨H.2.1, H.2.2.2.2⟩⟩⟩⟩⟩⟩⟩⟩)
set_option maxRecDepth 100000 in
set_option maxHeartbeats 4000000 in
theorem v_Model_weightOf (x0 : Nat) (x1 : Int32) (h : MH) (Rt : Value → MH → Prop) (H :
kd h x0 = 6 ∧
kd h (mr h x0 3) = 20 ∧
InB x1 (ln h (mr h x0 3)) ∧
kd h (mr h x0 5) = 20 ∧
InB (mi h (mr h x0 3) (ix x1)) (ln h (mr h x0 5)) ∧
Rt (.int (mi h (mr h x0 5) (ix (mi h (mr h x0 3) (ix x1))))) h) : Sp k_Model_weightOf [.ref x0, .int x1] h Rt := Sp_intro2 (by decide) (by decide +kernel) rfl (Nat.le_of_ble_eq_true rfl) (WM_at (hs := HH_Model_weightOf) G_Model_weightOf 9 0 rfl ⟨H.1, ⟨H.1, H.2⟩⟩)
set_option maxRecDepth 100000 in
set_option maxHeartbeats 4000000 in
theorem v_Ho_placed (x0 : Nat) (x1 : Int32) (x2 : Int32) (x3 : Int32) (h : MH) (Rt : Value → MH → Prop) (H :
kd h x0 = 12 ∧
SpR k_Ho_modelAt [.ref x0, .int x1] h (fun r3 g1 =>
(r3 = 0 →
Rt (.int (-1 : Int32)) g1) ∧
(¬ r3 = 0 →
kd g1 r3 = 6 ∧
SpI k_Model_holds [.ref r3, .int x2] g1 (fun r6 g4 =>
(r6 = 0 →
Rt (.int (-1 : Int32)) g4) ∧
(¬ r6 = 0 →
(x3 = (0 : Int32) →
kd g4 r3 = 6 ∧
SpI k_Model_placeOf [.ref r3, .int x2] g4 (fun r15 g13 =>
Rt (.int r15) g13)) ∧
(¬ x3 = (0 : Int32) →
(x3 = (1 : Int32) →
kd g4 r3 = 6 ∧
SpI k_Model_weightOf [.ref r3, .int x2] g4 (fun r12 g10 =>
Rt (.int r12) g10)) ∧
(¬ x3 = (1 : Int32) →
(x3 = (2 : Int32) →
kd g4 r3 = 6 ∧
kd g4 (mr g4 r3 3) = 20 ∧
InB x2 (ln g4 (mr g4 r3 3)) ∧
Rt (.int (mi g4 (mr g4 r3 3) (ix x2))) g4) ∧
(¬ x3 = (2 : Int32) →
Rt (.int (-1 : Int32)) g4)))))))) : Sp k_Ho_placed [.ref x0, .int x1, .int x2, .int x3] h Rt := Sp_intro2 (by decide) (by decide +kernel) rfl (Nat.le_of_ble_eq_true rfl) (WM_at (hs := HH_Ho_placed) G_Ho_placed 30 0 rfl H)
set_option maxRecDepth 100000 in
set_option maxHeartbeats 4000000 in
theorem v_Ref_isPlaced (x0 : Nat) (x1 : Int32) (x2 : Int32) (h : MH) (Rt : Value → MH → Prop) (H :
kd h x0 = 13 ∧
SpI k_Ref_isModel [.ref x0, .int x1] h (fun r3 g1 =>
(r3 = 0 →
Rt (.int (0 : Int32)) g1) ∧
(¬ r3 = 0 →
(x2.toInt < 0 →
Rt (.int (0 : Int32)) g1) ∧
(¬ x2.toInt < 0 →
kd g1 x0 = 13 ∧
kd g1 (mr g1 x0 41) = 20 ∧
InB x1 (ln g1 (mr g1 x0 41)) ∧
(x2.toInt < (mi g1 (mr g1 x0 41) (ix x1)).toInt →
Rt (.int (1 : Int32)) g1) ∧
(¬ x2.toInt < (mi g1 (mr g1 x0 41) (ix x1)).toInt →
Rt (.int (0 : Int32)) g1))))) : Sp k_Ref_isPlaced [.ref x0, .int x1, .int x2] h Rt := Sp_intro2 (by decide) (by decide +kernel) rfl (Nat.le_of_ble_eq_true rfl) (WM_at (hs := HH_Ref_isPlaced) G_Ref_isPlaced 17 0 rfl ⟨H.1, SpI.mono H.2 (fun r3 g1 qg1 => ⟨fun c7 => ⟨(Or.inl rfl), (qg1.1 c7)⟩, fun c7 => ⟨fun c8 => ⟨(Or.inl rfl), ((qg1.2 c7).1 c8)⟩, fun c8 => ⟨((qg1.2 c7).2 c8).1, ⟨(((qg1.2 c7).2 c8).2).1, ⟨((((qg1.2 c7).2 c8).2).2).1, ⟨fun c9 => ⟨(Or.inr rfl), ((((((qg1.2 c7).2 c8).2).2).2).1 c9)⟩, fun c9 => ⟨(Or.inl rfl), ((((((qg1.2 c7).2 c8).2).2).2).2 c9)⟩⟩⟩⟩⟩⟩⟩)⟩)
set_option maxRecDepth 100000 in
set_option maxHeartbeats 4000000 in
theorem v_Ref_placed (x0 : Nat) (x1 : Int32) (x2 : Int32) (x3 : Int32) (h : MH) (Rt : Value → MH → Prop) (H :
kd h x0 = 13 ∧
SpI k_Ref_isPlaced [.ref x0, .int x1, .int x2] h (fun r3 g1 =>
(r3 = 0 →
Rt (.int (-1 : Int32)) g1) ∧
(¬ r3 = 0 →
(x3 = 0 →
kd g1 x0 = 13 ∧
kd g1 (mr g1 x0 42) = 20 ∧
InB (((300 : Int32) * x1) + x2) (ln g1 (mr g1 x0 42)) ∧
Rt (.int (mi g1 (mr g1 x0 42) (ix (((300 : Int32) * x1) + x2)))) g1) ∧
(¬ x3 = 0 →
(x3 = (1 : Int32) →
kd g1 x0 = 13 ∧
kd g1 (mr g1 x0 43) = 20 ∧
InB (((300 : Int32) * x1) + x2) (ln g1 (mr g1 x0 43)) ∧
Rt (.int (mi g1 (mr g1 x0 43) (ix (((300 : Int32) * x1) + x2)))) g1) ∧
(¬ x3 = (1 : Int32) →
(x3 = (2 : Int32) →
kd g1 x0 = 13 ∧
kd g1 (mr g1 x0 44) = 20 ∧
InB (((300 : Int32) * x1) + x2) (ln g1 (mr g1 x0 44)) ∧
Rt (.int (mi g1 (mr g1 x0 44) (ix (((300 : Int32) * x1) + x2)))) g1) ∧
(¬ x3 = (2 : Int32) →
Rt (.int (-1 : Int32)) g1)))))) : Sp k_Ref_placed [.ref x0, .int x1, .int x2, .int x3] h Rt := Sp_intro2 (by decide) (by decide +kernel) rfl (Nat.le_of_ble_eq_true rfl) (WM_at (hs := HH_Ref_placed) G_Ref_placed 39 0 rfl H)
set_option maxRecDepth 100000 in
set_option maxHeartbeats 4000000 in
theorem v_Arrays_fillaJJ (x0 : Nat) (x1 : Int64) (h : MH) (Rt : Value → MH → Prop) (H :
kd h x0 = 21 ∧
WM k_Arrays_fillaJJ p_Arrays_fillaJJ_1 [.ref x0, .long x1, Jv, .int (0 : Int32), .int (Int32.ofNat (ln h x0))] [] h 0 0 Rt) : Sp k_Arrays_fillaJJ [.ref x0, .long x1] h Rt := Sp_intro2 (by decide) (by decide +kernel) rfl (Nat.le_of_ble_eq_true rfl) (WM_at (hs := HH_Arrays_fillaJJ) G_Arrays_fillaJJ 16 0 rfl H)
set_option maxRecDepth 100000 in
set_option maxHeartbeats 4000000 in
theorem v_Arrays_fillaJJ_1 (x0 : Nat) (x1 : Int64) (x3 : Int32) (x4 : Int32) (h : MH) (Rt : Value → MH → Prop) (H :
(x3.toInt < x4.toInt →
kd h x0 = 21 ∧
InB x3 (ln h x0) ∧
∀ g3 : MH, g3 = wl h x0 (ix x3) x1 →
WM k_Arrays_fillaJJ p_Arrays_fillaJJ_1 [.ref x0, .long x1, Jv, .int (x3 + (1 : Int32)), .int x4] [] g3 0 0 Rt) ∧
(¬ x3.toInt < x4.toInt →
Rt .null h)) : WM k_Arrays_fillaJJ p_Arrays_fillaJJ_1 [.ref x0, .long x1, Jv, .int x3, .int x4] [] h 0 0 Rt := WM_at (hs := HH_Arrays_fillaJJ) G_Arrays_fillaJJ 16 5 rfl ⟨fun c4 => ⟨(H.1 c4).1, ⟨((H.1 c4).2).1, (((H.1 c4).2).2 _ rfl)⟩⟩, H.2⟩
set_option maxRecDepth 100000 in
set_option maxHeartbeats 4000000 in
theorem v_Wave_addHeaps (x0 : Nat) (x1 : Nat) (x2 : Int32) (h : MH) (Rt : Value → MH → Prop) (H :
SpV k_Arrays_fillaJJ [.ref x1, .long (0 : Int64)] h (fun g1 =>
WM k_Wave_addHeaps p_Wave_addHeaps_1 [.ref x0, .ref x1, .int x2, .int (0 : Int32), Jv, Jv, Jv, Jv] [] g1 0 0 Rt)) : Sp k_Wave_addHeaps [.ref x0, .ref x1, .int x2] h Rt := Sp_intro2 (by decide) (by decide +kernel) rfl (Nat.le_of_ble_eq_true rfl) (WM_at (hs := HH_Wave_addHeaps) G_Wave_addHeaps 51 0 rfl H)
set_option maxRecDepth 100000 in
set_option maxHeartbeats 4000000 in
theorem v_Wave_addHeaps_1 (x0 : Nat) (x1 : Nat) (x2 : Int32) (x3 : Int32) (h : MH) (Rt : Value → MH → Prop) (H :
(x3.toInt < (24 : Int32).toInt →
kd h x0 = 11 ∧
kd h (mr h x0 3) = 20 ∧
InB x3 (ln h (mr h x0 3)) ∧
((lg_cmp ((mi h (mr h x0 3) (ix x3)).toInt64) (0 : Int64)) = 0 →
WM k_Wave_addHeaps p_Wave_addHeaps_1 [.ref x0, .ref x1, .int x2, .int (x3 + (1 : Int32)), Jv, Jv, Jv, Jv] [] h 0 0 Rt) ∧
(¬ (lg_cmp ((mi h (mr h x0 3) (ix x3)).toInt64) (0 : Int64)) = 0 →
WM k_Wave_addHeaps p_Wave_addHeaps_2 [.ref x0, .ref x1, .int x2, .int x3, .long ((mi h (mr h x0 3) (ix x3)).toInt64), Jv, .int ((4 : Int32) * (irm (x3 + x2) (24 : Int32))), .int (0 : Int32)] [] h 0 0 Rt)) ∧
(¬ x3.toInt < (24 : Int32).toInt →
Rt .null h)) : WM k_Wave_addHeaps p_Wave_addHeaps_1 [.ref x0, .ref x1, .int x2, .int x3, Jv, Jv, Jv, Jv] [] h 0 0 Rt := WM_at (hs := HH_Wave_addHeaps) G_Wave_addHeaps 51 5 rfl ⟨fun c4 => ⟨(H.1 c4).1, ⟨((H.1 c4).2).1, ⟨(((H.1 c4).2).2).1, ⟨((((H.1 c4).2).2).2).1, fun c5 => ⟨(by decide), (((((H.1 c4).2).2).2).2 c5)⟩⟩⟩⟩⟩, H.2⟩
set_option maxRecDepth 100000 in
set_option maxHeartbeats 4000000 in
theorem v_Wave_addHeaps_2 (x0 : Nat) (x1 : Nat) (x2 : Int32) (x3 : Int32) (x4 : Int64) (x6 : Int32) (x7 : Int32) (h : MH) (Rt : Value → MH → Prop) (H :
(x7.toInt < (4 : Int32).toInt →
kd h x1 = 21 ∧
InB x7 (ln h x1) ∧
kd h 3 = 19 ∧
InB (x6 + x7) (ln h 3) ∧
∀ g5 : MH, g5 = wl h x1 (ix x7) ((ml h x1 (ix x7)) + (x4 * (mi h 3 (ix (x6 + x7))).toInt64)) →
WM k_Wave_addHeaps p_Wave_addHeaps_2 [.ref x0, .ref x1, .int x2, .int x3, .long x4, Jv, .int x6, .int (x7 + (1 : Int32))] [] g5 0 0 Rt) ∧
(¬ x7.toInt < (4 : Int32).toInt →
WM k_Wave_addHeaps p_Wave_addHeaps_1 [.ref x0, .ref x1, .int x2, .int (x3 + (1 : Int32)), Jv, Jv, Jv, Jv] [] h 0 0 Rt)) : WM k_Wave_addHeaps p_Wave_addHeaps_2 [.ref x0, .ref x1, .int x2, .int x3, .long x4, Jv, .int x6, .int x7] [] h 0 0 Rt := WM_at (hs := HH_Wave_addHeaps) G_Wave_addHeaps 51 28 rfl ⟨fun c6 => ⟨(H.1 c6).1, ⟨((H.1 c6).2).1, ⟨(((H.1 c6).2).2).1, ⟨((((H.1 c6).2).2).2).1, ⟨(H.1 c6).1, ⟨((H.1 c6).2).1, (((((H.1 c6).2).2).2).2 _ rfl)⟩⟩⟩⟩⟩⟩, H.2⟩
set_option maxRecDepth 100000 in
set_option maxHeartbeats 4000000 in
theorem v_Wave_addSquare (x0 : Nat) (x1 : Nat) (h : MH) (Rt : Value → MH → Prop) (H :
kd h x0 = 11 ∧
kd h (mr h x0 2) = 21 ∧
InB (0 : Int32) (ln h (mr h x0 2)) ∧
kd h x1 = 21 ∧
InB (0 : Int32) (ln h x1) ∧
InB (1 : Int32) (ln h x1) ∧
InB (2 : Int32) (ln h x1) ∧
InB (3 : Int32) (ln h x1) ∧
∀ g9 : MH, g9 = wl h (mr h x0 2) (ix (0 : Int32)) ((ml h (mr h x0 2) (ix (0 : Int32))) + (((((ml h x1 (ix (0 : Int32))) * (ml h x1 (ix (0 : Int32)))) + (((2 : Int64) * (ml h x1 (ix (1 : Int32)))) * (ml h x1 (ix (1 : Int32))))) + (((3 : Int64) * (ml h x1 (ix (2 : Int32)))) * (ml h x1 (ix (2 : Int32))))) + (((6 : Int64) * (ml h x1 (ix (3 : Int32)))) * (ml h x1 (ix (3 : Int32)))))) →
InB (1 : Int32) (ln h (mr h x0 2)) ∧
∀ g11 : MH, g11 = wl g9 (mr h x0 2) (ix (1 : Int32)) ((ml g9 (mr h x0 2) (ix (1 : Int32))) + ((((2 : Int64) * (ml g9 x1 (ix (0 : Int32)))) * (ml g9 x1 (ix (1 : Int32)))) + (((6 : Int64) * (ml g9 x1 (ix (2 : Int32)))) * (ml g9 x1 (ix (3 : Int32)))))) →
WM k_Wave_addSquare p_Wave_addSquare_1 [.ref x0, .ref x1] [] g11 0 0 Rt) : Sp k_Wave_addSquare [.ref x0, .ref x1] h Rt := Sp_intro2 (by decide) (by decide +kernel) rfl (Nat.le_of_ble_eq_true rfl) (WM_at (hs := HH_Wave_addSquare) G_Wave_addSquare 124 0 rfl ⟨H.1, ⟨H.2.1, ⟨H.2.2.1, ⟨H.2.2.2.1, ⟨H.2.2.2.2.1, ⟨H.2.2.2.1, ⟨H.2.2.2.2.1, ⟨H.2.2.2.1, ⟨H.2.2.2.2.2.1, ⟨H.2.2.2.1, ⟨H.2.2.2.2.2.1, ⟨H.2.2.2.1, ⟨H.2.2.2.2.2.2.1, ⟨H.2.2.2.1, ⟨H.2.2.2.2.2.2.1, ⟨H.2.2.2.1, ⟨H.2.2.2.2.2.2.2.1, ⟨H.2.2.2.1, ⟨H.2.2.2.2.2.2.2.1, ⟨H.2.1, ⟨H.2.2.1, ⟨H.1, ⟨H.2.1, ⟨(H.2.2.2.2.2.2.2.2 _ rfl).1, ⟨H.2.2.2.1, ⟨H.2.2.2.2.1, ⟨H.2.2.2.1, ⟨H.2.2.2.2.2.1, ⟨H.2.2.2.1, ⟨H.2.2.2.2.2.2.1, ⟨H.2.2.2.1, ⟨H.2.2.2.2.2.2.2.1, ⟨H.2.1, ⟨(H.2.2.2.2.2.2.2.2 _ rfl).1, ((H.2.2.2.2.2.2.2.2 _ rfl).2 _ rfl)⟩⟩⟩⟩⟩⟩⟩⟩⟩⟩⟩⟩⟩⟩⟩⟩⟩⟩⟩⟩⟩⟩⟩⟩⟩⟩⟩⟩⟩⟩⟩⟩⟩⟩)
set_option maxRecDepth 100000 in
set_option maxHeartbeats 4000000 in
theorem v_Wave_addSquare_1 (x0 : Nat) (x1 : Nat) (h : MH) (Rt : Value → MH → Prop) (H :
kd h x0 = 11 ∧
kd h (mr h x0 2) = 21 ∧
InB (2 : Int32) (ln h (mr h x0 2)) ∧
kd h x1 = 21 ∧
InB (0 : Int32) (ln h x1) ∧
InB (2 : Int32) (ln h x1) ∧
InB (1 : Int32) (ln h x1) ∧
InB (3 : Int32) (ln h x1) ∧
∀ g9 : MH, g9 = wl h (mr h x0 2) (ix (2 : Int32)) ((ml h (mr h x0 2) (ix (2 : Int32))) + ((((2 : Int64) * (ml h x1 (ix (0 : Int32)))) * (ml h x1 (ix (2 : Int32)))) + (((4 : Int64) * (ml h x1 (ix (1 : Int32)))) * (ml h x1 (ix (3 : Int32)))))) →
InB (3 : Int32) (ln h (mr h x0 2)) ∧
∀ g11 : MH, g11 = wl g9 (mr h x0 2) (ix (3 : Int32)) ((ml g9 (mr h x0 2) (ix (3 : Int32))) + ((((2 : Int64) * (ml g9 x1 (ix (0 : Int32)))) * (ml g9 x1 (ix (3 : Int32)))) + (((2 : Int64) * (ml g9 x1 (ix (1 : Int32)))) * (ml g9 x1 (ix (2 : Int32)))))) →
Rt .null g11) : WM k_Wave_addSquare p_Wave_addSquare_1 [.ref x0, .ref x1] [] h 0 0 Rt := WM_at (hs := HH_Wave_addSquare) G_Wave_addSquare 124 70 rfl ⟨H.1, ⟨H.2.1, ⟨H.2.2.1, ⟨H.2.2.2.1, ⟨H.2.2.2.2.1, ⟨H.2.2.2.1, ⟨H.2.2.2.2.2.1, ⟨H.2.2.2.1, ⟨H.2.2.2.2.2.2.1, ⟨H.2.2.2.1, ⟨H.2.2.2.2.2.2.2.1, ⟨H.2.1, ⟨H.2.2.1, ⟨H.1, ⟨H.2.1, ⟨(H.2.2.2.2.2.2.2.2 _ rfl).1, ⟨H.2.2.2.1, ⟨H.2.2.2.2.1, ⟨H.2.2.2.1, ⟨H.2.2.2.2.2.2.2.1, ⟨H.2.2.2.1, ⟨H.2.2.2.2.2.2.1, ⟨H.2.2.2.1, ⟨H.2.2.2.2.2.1, ⟨H.2.1, ⟨(H.2.2.2.2.2.2.2.2 _ rfl).1, ((H.2.2.2.2.2.2.2.2 _ rfl).2 _ rfl)⟩⟩⟩⟩⟩⟩⟩⟩⟩⟩⟩⟩⟩⟩⟩⟩⟩⟩⟩⟩⟩⟩⟩⟩⟩⟩
set_option maxRecDepth 100000 in
set_option maxHeartbeats 4000000 in
theorem v_Wave_sum (x0 : Nat) (x1 : Nat) (x2 : Int32) (x3 : Int32) (x4 : Int32) (h : MH) (Rt : Value → MH → Prop) (H :
kd h x0 = 11 ∧
SpV k_Arrays_fillaII [.ref (mr h x0 3), .int (0 : Int32)] h (fun g2 =>
WM k_Wave_sum p_Wave_sum_1 [.ref x0, .ref x1, .int x2, .int x3, .int x4, .int (0 : Int32), Jv] [] g2 0 0 Rt)) : Sp k_Wave_sum [.ref x0, .ref x1, .int x2, .int x3, .int x4] h Rt := Sp_intro2 (by decide) (by decide +kernel) rfl (Nat.le_of_ble_eq_true rfl) (WM_at (hs := HH_Wave_sum) G_Wave_sum 79 0 rfl H)
set_option maxRecDepth 100000 in
set_option maxHeartbeats 4000000 in
theorem v_Wave_sum_1 (x0 : Nat) (x1 : Nat) (x2 : Int32) (x3 : Int32) (x4 : Int32) (x5 : Int32) (h : MH) (Rt : Value → MH → Prop) (H :
kd h x1 = 6 ∧
(x5.toInt < (mi h x1 4).toInt →
kd h (mr h x1 2) = 20 ∧
InB ((3 : Int32) * x5) (ln h (mr h x1 2)) ∧
InB (((3 : Int32) * x5) + (1 : Int32)) (ln h (mr h x1 2)) ∧
InB (((3 : Int32) * x5) + (2 : Int32)) (ln h (mr h x1 2)) ∧
kd h x0 = 11 ∧
SpI k_Math_floorMod [.int (((x2 * (mi h (mr h x1 2) (ix ((3 : Int32) * x5)))) + (x3 * (mi h (mr h x1 2) (ix (((3 : Int32) * x5) + (1 : Int32)))))) + (x4 * (mi h (mr h x1 2) (ix (((3 : Int32) * x5) + (2 : Int32)))))), .int (24 : Int32)] h (fun r14 g13 =>
kd g13 (mr h x0 3) = 20 ∧
InB r14 (ln g13 (mr h x0 3)) ∧
kd g13 x1 = 6 ∧
SpI k_Model_weightOf [.ref x1, .int x5] g13 (fun r19 g17 =>
kd g17 (mr h x0 3) = 20 ∧
InB r14 (ln g17 (mr h x0 3)) ∧
∀ g22 : MH, g22 = wi g17 (mr h x0 3) (ix r14) ((mi g13 (mr h x0 3) (ix r14)) + r19) →
WM k_Wave_sum p_Wave_sum_1 [.ref x0, .ref x1, .int x2, .int x3, .int x4, .int (x5 + (1 : Int32)), Jv] [] g22 0 0 Rt))) ∧
(¬ x5.toInt < (mi h x1 4).toInt →
kd h x0 = 11 ∧
SpV k_Wave_addHeaps [.ref x0, .ref (mr h x0 0), .int (0 : Int32)] h (fun g3 =>
kd g3 x0 = 11 ∧
SpV k_Wave_addHeaps [.ref x0, .ref (mr g3 x0 1), .int (18 : Int32)] g3 (fun g5 =>
kd g5 x0 = 11 ∧
SpV k_Arrays_fillaJJ [.ref (mr g5 x0 2), .long (0 : Int64)] g5 (fun g7 =>
WM k_Wave_sum p_Wave_sum_2 [.ref x0, Jv, Jv, Jv, Jv, Jv, Jv] [] g7 0 0 Rt))))) : WM k_Wave_sum p_Wave_sum_1 [.ref x0, .ref x1, .int x2, .int x3, .int x4, .int x5, Jv] [] h 0 0 Rt := WM_at (hs := HH_Wave_sum) G_Wave_sum 79 6 rfl ⟨H.1, ⟨fun c23 => ⟨H.1, ⟨(H.2.1 c23).1, ⟨((H.2.1 c23).2).1, ⟨H.1, ⟨(H.2.1 c23).1, ⟨(((H.2.1 c23).2).2).1, ⟨H.1, ⟨(H.2.1 c23).1, ⟨((((H.2.1 c23).2).2).2).1, ⟨(((((H.2.1 c23).2).2).2).2).1, SpI.mono ((((((H.2.1 c23).2).2).2).2).2) (fun r14 g13 qg13 => ⟨qg13.1, ⟨qg13.2.1, ⟨qg13.2.2.1, SpI.mono qg13.2.2.2 (fun r19 g17 qg17 => ⟨qg17.1, ⟨qg17.2.1, (qg17.2.2 _ rfl)⟩⟩)⟩⟩⟩)⟩⟩⟩⟩⟩⟩⟩⟩⟩⟩, fun c23 => ⟨(H.2.2 c23).1, ⟨(H.2.2 c23).1, SpV.mono ((H.2.2 c23).2) (fun g3 qg3 => ⟨qg3.1, ⟨qg3.1, qg3.2⟩⟩)⟩⟩⟩⟩
set_option maxRecDepth 100000 in
set_option maxHeartbeats 4000000 in
theorem v_Wave_sum_2 (x0 : Nat) (h : MH) (Rt : Value → MH → Prop) (H :
kd h x0 = 11 ∧
SpV k_Wave_addSquare [.ref x0, .ref (mr h x0 0)] h (fun g2 =>
kd g2 x0 = 11 ∧
SpV k_Wave_addSquare [.ref x0, .ref (mr g2 x0 1)] g2 (fun g4 =>
Rt .null g4))) : WM k_Wave_sum p_Wave_sum_2 [.ref x0, Jv, Jv, Jv, Jv, Jv, Jv] [] h 0 0 Rt := WM_at (hs := HH_Wave_sum) G_Wave_sum 79 69 rfl ⟨H.1, ⟨H.1, SpV.mono H.2 (fun g2 qg2 => ⟨qg2.1, ⟨qg2.1, qg2.2⟩⟩)⟩⟩
set_option maxRecDepth 100000 in
set_option maxHeartbeats 4000000 in
theorem v_Ho_amplitude (x0 : Nat) (x1 : Int32) (x2 : Int32) (x3 : Int32) (x4 : Int32) (x5 : Int32) (h : MH) (Rt : Value → MH → Prop) (H :
kd h x0 = 12 ∧
SpR k_Ho_modelAt [.ref x0, .int x1] h (fun r3 g1 =>
(r3 = 0 →
Rt (.long (0 : Int64)) g1) ∧
(¬ r3 = 0 →
(x5.toInt < 0 →
Rt (.long (0 : Int64)) g1) ∧
(¬ x5.toInt < 0 →
((11 : Int32).toInt < x5.toInt →
Rt (.long (0 : Int64)) g1) ∧
(¬ (11 : Int32).toInt < x5.toInt →
SpI k_Ho_isWave [.int x2, .int x3, .int x4] g1 (fun r5 g4 =>
(r5 = 0 →
Rt (.long (0 : Int64)) g4) ∧
(¬ r5 = 0 →
kd g4 x0 = 12 ∧
kd g4 (mr g4 x0 17) = 11 ∧
SpV k_Wave_sum [.ref (mr g4 x0 17), .ref r3, .int x2, .int x3, .int x4] g4 (fun g7 =>
(x5.toInt < (4 : Int32).toInt →
kd g7 x0 = 12 ∧
kd g7 (mr g7 x0 17) = 11 ∧
kd g7 (mr g7 (mr g7 x0 17) 0) = 21 ∧
InB x5 (ln g7 (mr g7 (mr g7 x0 17) 0)) ∧
Rt (.long (ml g7 (mr g7 (mr g7 x0 17) 0) (ix x5))) g7) ∧
(¬ x5.toInt < (4 : Int32).toInt →
(x5.toInt < (8 : Int32).toInt →
kd g7 x0 = 12 ∧
kd g7 (mr g7 x0 17) = 11 ∧
kd g7 (mr g7 (mr g7 x0 17) 1) = 21 ∧
InB (x5 - (4 : Int32)) (ln g7 (mr g7 (mr g7 x0 17) 1)) ∧
Rt (.long (ml g7 (mr g7 (mr g7 x0 17) 1) (ix (x5 - (4 : Int32))))) g7) ∧
(¬ x5.toInt < (8 : Int32).toInt →
kd g7 x0 = 12 ∧
kd g7 (mr g7 x0 17) = 11 ∧
kd g7 (mr g7 (mr g7 x0 17) 2) = 21 ∧
InB (x5 - (8 : Int32)) (ln g7 (mr g7 (mr g7 x0 17) 2)) ∧
Rt (.long (ml g7 (mr g7 (mr g7 x0 17) 2) (ix (x5 - (8 : Int32))))) g7)))))))))) : Sp k_Ho_amplitude [.ref x0, .int x1, .int x2, .int x3, .int x4, .int x5] h Rt := Sp_intro2 (by decide) (by decide +kernel) rfl (Nat.le_of_ble_eq_true rfl) (WM_at (hs := HH_Ho_amplitude) G_Ho_amplitude 54 0 rfl H)
set_option maxRecDepth 100000 in
set_option maxHeartbeats 4000000 in
theorem v_Ref_addCosine (x0 : Nat) (x1 : Int32) (x2 : Int32) (x3 : Int64) (h : MH) (Rt : Value → MH → Prop) (H :
((12 : Int32).toInt < x2.toInt →
((6 : Int32).toInt < ((24 : Int32) - x2).toInt →
WM k_Ref_addCosine p_Ref_addCosine_1 [.ref x0, .int x1, Jv, Jv, Jv, .int ((24 : Int32) - x2), Jv, Jv, Jv] [.long (-x3)] h 0 0 Rt) ∧
(¬ (6 : Int32).toInt < ((24 : Int32) - x2).toInt →
WM k_Ref_addCosine p_Ref_addCosine_1 [.ref x0, .int x1, Jv, Jv, Jv, .int ((24 : Int32) - x2), Jv, Jv, Jv] [.long x3] h 0 0 Rt)) ∧
(¬ (12 : Int32).toInt < x2.toInt →
((6 : Int32).toInt < x2.toInt →
WM k_Ref_addCosine p_Ref_addCosine_1 [.ref x0, .int x1, Jv, Jv, Jv, .int x2, Jv, Jv, Jv] [.long (-x3)] h 0 0 Rt) ∧
(¬ (6 : Int32).toInt < x2.toInt →
WM k_Ref_addCosine p_Ref_addCosine_1 [.ref x0, .int x1, Jv, Jv, Jv, .int x2, Jv, Jv, Jv] [.long x3] h 0 0 Rt))) : Sp k_Ref_addCosine [.ref x0, .int x1, .int x2, .long x3] h Rt := Sp_intro2 (by decide) (by decide +kernel) rfl (Nat.le_of_ble_eq_true rfl) (WM_at (hs := HH_Ref_addCosine) G_Ref_addCosine 128 0 rfl H)
set_option maxRecDepth 100000 in
set_option maxHeartbeats 4000000 in
theorem v_Ref_addCosine_1 (x0 : Nat) (x1 : Int32) (x5 : Int32) (s0 : Int64) (h : MH) (Rt : Value → MH → Prop) (H :
((6 : Int32).toInt < x5.toInt →
WM k_Ref_addCosine p_Ref_addCosine_2 [.ref x0, .int x1, Jv, Jv, Jv, Jv, .long s0, Jv, Jv] [.int ((12 : Int32) - x5)] h 0 0 Rt) ∧
(¬ (6 : Int32).toInt < x5.toInt →
WM k_Ref_addCosine p_Ref_addCosine_2 [.ref x0, .int x1, Jv, Jv, Jv, Jv, .long s0, Jv, Jv] [.int x5] h 0 0 Rt)) : WM k_Ref_addCosine p_Ref_addCosine_1 [.ref x0, .int x1, Jv, Jv, Jv, .int x5, Jv, Jv, Jv] [.long s0] h 0 0 Rt := WM_at (hs := HH_Ref_addCosine) G_Ref_addCosine 128 16 rfl H
set_option maxRecDepth 100000 in
set_option maxHeartbeats 4000000 in
theorem v_Ref_addCosine_2 (x0 : Nat) (x1 : Int32) (x6 : Int64) (s0 : Int32) (h : MH) (Rt : Value → MH → Prop) (H :
(s0 = (0 : Int32) →
kd h x0 = 13 ∧
kd h (mr h x0 46) = 21 ∧
InB x1 (ln h (mr h x0 46)) ∧
∀ g32 : MH, g32 = wl h (mr h x0 46) (ix x1) ((ml h (mr h x0 46) (ix x1)) + ((4 : Int64) * x6)) →
Rt .null g32) ∧
(¬ s0 = (0 : Int32) →
(s0 = (1 : Int32) →
kd h x0 = 13 ∧
kd h (mr h x0 46) = 21 ∧
InB (x1 + (1 : Int32)) (ln h (mr h x0 46)) ∧
∀ g26 : MH, g26 = wl h (mr h x0 46) (ix (x1 + (1 : Int32))) ((ml h (mr h x0 46) (ix (x1 + (1 : Int32)))) + x6) →
InB (x1 + (3 : Int32)) (ln h (mr h x0 46)) ∧
∀ g28 : MH, g28 = wl g26 (mr h x0 46) (ix (x1 + (3 : Int32))) ((ml g26 (mr h x0 46) (ix (x1 + (3 : Int32)))) + x6) →
Rt .null g28) ∧
(¬ s0 = (1 : Int32) →
(s0 = (2 : Int32) →
kd h x0 = 13 ∧
kd h (mr h x0 46) = 21 ∧
InB (x1 + (2 : Int32)) (ln h (mr h x0 46)) ∧
∀ g22 : MH, g22 = wl h (mr h x0 46) (ix (x1 + (2 : Int32))) ((ml h (mr h x0 46) (ix (x1 + (2 : Int32)))) + ((2 : Int64) * x6)) →
WM k_Ref_addCosine p_Ref_addCosine_3 [Jv, Jv, Jv, Jv, Jv, Jv, Jv, Jv, Jv] [] g22 0 0 Rt) ∧
(¬ s0 = (2 : Int32) →
(s0 = (3 : Int32) →
kd h x0 = 13 ∧
kd h (mr h x0 46) = 21 ∧
InB (x1 + (1 : Int32)) (ln h (mr h x0 46)) ∧
∀ g18 : MH, g18 = wl h (mr h x0 46) (ix (x1 + (1 : Int32))) ((ml h (mr h x0 46) (ix (x1 + (1 : Int32)))) + ((2 : Int64) * x6)) →
Rt .null g18) ∧
(¬ s0 = (3 : Int32) →
(s0 = (4 : Int32) →
kd h x0 = 13 ∧
kd h (mr h x0 46) = 21 ∧
InB x1 (ln h (mr h x0 46)) ∧
∀ g14 : MH, g14 = wl h (mr h x0 46) (ix x1) ((ml h (mr h x0 46) (ix x1)) + ((2 : Int64) * x6)) →
Rt .null g14) ∧
(¬ s0 = (4 : Int32) →
(s0 = (5 : Int32) →
kd h x0 = 13 ∧
kd h (mr h x0 46) = 21 ∧
InB (x1 + (1 : Int32)) (ln h (mr h x0 46)) ∧
∀ g8 : MH, g8 = wl h (mr h x0 46) (ix (x1 + (1 : Int32))) ((ml h (mr h x0 46) (ix (x1 + (1 : Int32)))) - x6) →
InB (x1 + (3 : Int32)) (ln h (mr h x0 46)) ∧
∀ g10 : MH, g10 = wl g8 (mr h x0 46) (ix (x1 + (3 : Int32))) ((ml g8 (mr h x0 46) (ix (x1 + (3 : Int32)))) + x6) →
WM k_Ref_addCosine p_Ref_addCosine_4 [Jv, Jv, Jv, Jv, Jv, Jv, Jv, Jv, Jv] [] g10 0 0 Rt) ∧
(¬ s0 = (5 : Int32) →
kd h x0 = 13 ∧
kd h (mr h x0 46) = 21 ∧
InB x1 (ln h (mr h x0 46)) ∧
∀ g4 : MH, g4 = wl h (mr h x0 46) (ix x1) ((ml h (mr h x0 46) (ix x1)) + (0 : Int64)) →
Rt .null g4))))))) : WM k_Ref_addCosine p_Ref_addCosine_2 [.ref x0, .int x1, Jv, Jv, Jv, Jv, .long x6, Jv, Jv] [.int s0] h 0 0 Rt := WM_at (hs := HH_Ref_addCosine) G_Ref_addCosine 128 25 rfl ⟨fun c33 => ⟨(H.1 c33).1, ⟨((H.1 c33).2).1, ⟨(((H.1 c33).2).2).1, ⟨((H.1 c33).2).1, ⟨(((H.1 c33).2).2).1, ((((H.1 c33).2).2).2 _ rfl)⟩⟩⟩⟩⟩, fun c33 => ⟨fun c34 => ⟨((H.2 c33).1 c34).1, ⟨(((H.2 c33).1 c34).2).1, ⟨((((H.2 c33).1 c34).2).2).1, ⟨(((H.2 c33).1 c34).2).1, ⟨((((H.2 c33).1 c34).2).2).1, ⟨((H.2 c33).1 c34).1, ⟨(((H.2 c33).1 c34).2).1, ⟨(((((H.2 c33).1 c34).2).2).2 _ rfl).1, ⟨(((H.2 c33).1 c34).2).1, ⟨(((((H.2 c33).1 c34).2).2).2 _ rfl).1, ((((((H.2 c33).1 c34).2).2).2 _ rfl).2 _ rfl)⟩⟩⟩⟩⟩⟩⟩⟩⟩⟩, fun c34 => ⟨fun c35 => ⟨(((H.2 c33).2 c34).1 c35).1, ⟨((((H.2 c33).2 c34).1 c35).2).1, ⟨(((((H.2 c33).2 c34).1 c35).2).2).1, ⟨((((H.2 c33).2 c34).1 c35).2).1, ⟨(((((H.2 c33).2 c34).1 c35).2).2).1, ((((((H.2 c33).2 c34).1 c35).2).2).2 _ rfl)⟩⟩⟩⟩⟩, fun c35 => ⟨fun c36 => ⟨((((H.2 c33).2 c34).2 c35).1 c36).1, ⟨(((((H.2 c33).2 c34).2 c35).1 c36).2).1, ⟨((((((H.2 c33).2 c34).2 c35).1 c36).2).2).1, ⟨(((((H.2 c33).2 c34).2 c35).1 c36).2).1, ⟨((((((H.2 c33).2 c34).2 c35).1 c36).2).2).1, (((((((H.2 c33).2 c34).2 c35).1 c36).2).2).2 _ rfl)⟩⟩⟩⟩⟩, fun c36 => ⟨fun c37 => ⟨(((((H.2 c33).2 c34).2 c35).2 c36).1 c37).1, ⟨((((((H.2 c33).2 c34).2 c35).2 c36).1 c37).2).1, ⟨(((((((H.2 c33).2 c34).2 c35).2 c36).1 c37).2).2).1, ⟨((((((H.2 c33).2 c34).2 c35).2 c36).1 c37).2).1, ⟨(((((((H.2 c33).2 c34).2 c35).2 c36).1 c37).2).2).1, ((((((((H.2 c33).2 c34).2 c35).2 c36).1 c37).2).2).2 _ rfl)⟩⟩⟩⟩⟩, fun c37 => ⟨fun c38 => ⟨((((((H.2 c33).2 c34).2 c35).2 c36).2 c37).1 c38).1, ⟨(((((((H.2 c33).2 c34).2 c35).2 c36).2 c37).1 c38).2).1, ⟨((((((((H.2 c33).2 c34).2 c35).2 c36).2 c37).1 c38).2).2).1, ⟨(((((((H.2 c33).2 c34).2 c35).2 c36).2 c37).1 c38).2).1, ⟨((((((((H.2 c33).2 c34).2 c35).2 c36).2 c37).1 c38).2).2).1, ⟨((((((H.2 c33).2 c34).2 c35).2 c36).2 c37).1 c38).1, ⟨(((((((H.2 c33).2 c34).2 c35).2 c36).2 c37).1 c38).2).1, ⟨(((((((((H.2 c33).2 c34).2 c35).2 c36).2 c37).1 c38).2).2).2 _ rfl).1, ⟨(((((((H.2 c33).2 c34).2 c35).2 c36).2 c37).1 c38).2).1, ⟨(((((((((H.2 c33).2 c34).2 c35).2 c36).2 c37).1 c38).2).2).2 _ rfl).1, ((((((((((H.2 c33).2 c34).2 c35).2 c36).2 c37).1 c38).2).2).2 _ rfl).2 _ rfl)⟩⟩⟩⟩⟩⟩⟩⟩⟩⟩, fun c38 => ⟨((((((H.2 c33).2 c34).2 c35).2 c36).2 c37).2 c38).1, ⟨(((((((H.2 c33).2 c34).2 c35).2 c36).2 c37).2 c38).2).1, ⟨((((((((H.2 c33).2 c34).2 c35).2 c36).2 c37).2 c38).2).2).1, ⟨(((((((H.2 c33).2 c34).2 c35).2 c36).2 c37).2 c38).2).1, ⟨((((((((H.2 c33).2 c34).2 c35).2 c36).2 c37).2 c38).2).2).1, (((((((((H.2 c33).2 c34).2 c35).2 c36).2 c37).2 c38).2).2).2 _ rfl)⟩⟩⟩⟩⟩⟩⟩⟩⟩⟩⟩
set_option maxRecDepth 100000 in
set_option maxHeartbeats 4000000 in
theorem v_Ref_addCosine_3  (h : MH) (Rt : Value → MH → Prop) (H :
Rt .null h) : WM k_Ref_addCosine p_Ref_addCosine_3 [Jv, Jv, Jv, Jv, Jv, Jv, Jv, Jv, Jv] [] h 0 0 Rt := WM_at (hs := HH_Ref_addCosine) G_Ref_addCosine 128 72 rfl H
set_option maxRecDepth 100000 in
set_option maxHeartbeats 4000000 in
theorem v_Ref_addCosine_4  (h : MH) (Rt : Value → MH → Prop) (H :
Rt .null h) : WM k_Ref_addCosine p_Ref_addCosine_4 [Jv, Jv, Jv, Jv, Jv, Jv, Jv, Jv, Jv] [] h 0 0 Rt := WM_at (hs := HH_Ref_addCosine) G_Ref_addCosine 128 117 rfl H
set_option maxRecDepth 100000 in
set_option maxHeartbeats 4000000 in
theorem v_Ref_addSquare (x0 : Nat) (x1 : Int32) (h : MH) (Rt : Value → MH → Prop) (H :
kd h x0 = 13 ∧
kd h (mr h x0 46) = 21 ∧
InB x1 (ln h (mr h x0 46)) ∧
InB (x1 + (1 : Int32)) (ln h (mr h x0 46)) ∧
InB (x1 + (2 : Int32)) (ln h (mr h x0 46)) ∧
InB (x1 + (3 : Int32)) (ln h (mr h x0 46)) ∧
InB (8 : Int32) (ln h (mr h x0 46)) ∧
∀ g8 : MH, g8 = wl h (mr h x0 46) (ix (8 : Int32)) ((ml h (mr h x0 46) (ix (8 : Int32))) + (((((ml h (mr h x0 46) (ix x1)) * (ml h (mr h x0 46) (ix x1))) + (((2 : Int64) * (ml h (mr h x0 46) (ix (x1 + (1 : Int32))))) * (ml h (mr h x0 46) (ix (x1 + (1 : Int32)))))) + (((3 : Int64) * (ml h (mr h x0 46) (ix (x1 + (2 : Int32))))) * (ml h (mr h x0 46) (ix (x1 + (2 : Int32)))))) + (((6 : Int64) * (ml h (mr h x0 46) (ix (x1 + (3 : Int32))))) * (ml h (mr h x0 46) (ix (x1 + (3 : Int32))))))) →
InB (9 : Int32) (ln h (mr h x0 46)) ∧
∀ g10 : MH, g10 = wl g8 (mr h x0 46) (ix (9 : Int32)) ((ml g8 (mr h x0 46) (ix (9 : Int32))) + ((((2 : Int64) * (ml h (mr h x0 46) (ix x1))) * (ml h (mr h x0 46) (ix (x1 + (1 : Int32))))) + (((6 : Int64) * (ml h (mr h x0 46) (ix (x1 + (2 : Int32))))) * (ml h (mr h x0 46) (ix (x1 + (3 : Int32))))))) →
WM k_Ref_addSquare p_Ref_addSquare_1 [.ref x0, Jv, .long (ml h (mr h x0 46) (ix x1)), Jv, .long (ml h (mr h x0 46) (ix (x1 + (1 : Int32)))), Jv, .long (ml h (mr h x0 46) (ix (x1 + (2 : Int32)))), Jv, .long (ml h (mr h x0 46) (ix (x1 + (3 : Int32)))), Jv] [] g10 0 0 Rt) : Sp k_Ref_addSquare [.ref x0, .int x1] h Rt := Sp_intro2 (by decide) (by decide +kernel) rfl (Nat.le_of_ble_eq_true rfl) (WM_at (hs := HH_Ref_addSquare) G_Ref_addSquare 110 0 rfl ⟨H.1, ⟨H.2.1, ⟨H.2.2.1, ⟨H.1, ⟨H.2.1, ⟨H.2.2.2.1, ⟨H.1, ⟨H.2.1, ⟨H.2.2.2.2.1, ⟨H.1, ⟨H.2.1, ⟨H.2.2.2.2.2.1, ⟨H.1, ⟨H.2.1, ⟨H.2.2.2.2.2.2.1, ⟨H.2.1, ⟨H.2.2.2.2.2.2.1, ⟨H.1, ⟨H.2.1, ⟨(H.2.2.2.2.2.2.2 _ rfl).1, ⟨H.2.1, ⟨(H.2.2.2.2.2.2.2 _ rfl).1, ((H.2.2.2.2.2.2.2 _ rfl).2 _ rfl)⟩⟩⟩⟩⟩⟩⟩⟩⟩⟩⟩⟩⟩⟩⟩⟩⟩⟩⟩⟩⟩⟩)
set_option maxRecDepth 100000 in
set_option maxHeartbeats 4000000 in
theorem v_Ref_addSquare_1 (x0 : Nat) (x2 : Int64) (x4 : Int64) (x6 : Int64) (x8 : Int64) (h : MH) (Rt : Value → MH → Prop) (H :
kd h x0 = 13 ∧
kd h (mr h x0 46) = 21 ∧
InB (10 : Int32) (ln h (mr h x0 46)) ∧
∀ g4 : MH, g4 = wl h (mr h x0 46) (ix (10 : Int32)) ((ml h (mr h x0 46) (ix (10 : Int32))) + ((((2 : Int64) * x2) * x6) + (((4 : Int64) * x4) * x8))) →
InB (11 : Int32) (ln h (mr h x0 46)) ∧
∀ g6 : MH, g6 = wl g4 (mr h x0 46) (ix (11 : Int32)) ((ml g4 (mr h x0 46) (ix (11 : Int32))) + ((((2 : Int64) * x2) * x8) + (((2 : Int64) * x4) * x6))) →
Rt .null g6) : WM k_Ref_addSquare p_Ref_addSquare_1 [.ref x0, Jv, .long x2, Jv, .long x4, Jv, .long x6, Jv, .long x8, Jv] [] h 0 0 Rt := WM_at (hs := HH_Ref_addSquare) G_Ref_addSquare 110 72 rfl ⟨H.1, ⟨H.2.1, ⟨H.2.2.1, ⟨H.2.1, ⟨H.2.2.1, ⟨H.1, ⟨H.2.1, ⟨(H.2.2.2 _ rfl).1, ⟨H.2.1, ⟨(H.2.2.2 _ rfl).1, ((H.2.2.2 _ rfl).2 _ rfl)⟩⟩⟩⟩⟩⟩⟩⟩⟩⟩
set_option maxRecDepth 100000 in
set_option maxHeartbeats 4000000 in
theorem v_Ref_waveOf (x0 : Nat) (x1 : Int32) (x2 : Int32) (x3 : Int32) (x4 : Int32) (h : MH) (Rt : Value → MH → Prop) (H :
WM k_Ref_waveOf p_Ref_waveOf_1 [.ref x0, .int x1, .int x2, .int x3, .int x4, .int (0 : Int32), Jv, Jv] [] h 0 0 Rt) : Sp k_Ref_waveOf [.ref x0, .int x1, .int x2, .int x3, .int x4] h Rt := Sp_intro2 (by decide) (by decide +kernel) rfl (Nat.le_of_ble_eq_true rfl) (WM_at (hs := HH_Ref_waveOf) G_Ref_waveOf 95 0 rfl H)
set_option maxRecDepth 100000 in
set_option maxHeartbeats 4000000 in
theorem v_Ref_waveOf_1 (x0 : Nat) (x1 : Int32) (x2 : Int32) (x3 : Int32) (x4 : Int32) (x5 : Int32) (h : MH) (Rt : Value → MH → Prop) (H :
(x5.toInt < (12 : Int32).toInt →
kd h x0 = 13 ∧
kd h (mr h x0 46) = 21 ∧
InB x5 (ln h (mr h x0 46)) ∧
∀ g4 : MH, g4 = wl h (mr h x0 46) (ix x5) (0 : Int64) →
WM k_Ref_waveOf p_Ref_waveOf_1 [.ref x0, .int x1, .int x2, .int x3, .int x4, .int (x5 + (1 : Int32)), Jv, Jv] [] g4 0 0 Rt) ∧
(¬ x5.toInt < (12 : Int32).toInt →
WM k_Ref_waveOf p_Ref_waveOf_2 [.ref x0, .int x1, .int x2, .int x3, .int x4, .int (0 : Int32), Jv, Jv] [] h 0 0 Rt)) : WM k_Ref_waveOf p_Ref_waveOf_1 [.ref x0, .int x1, .int x2, .int x3, .int x4, .int x5, Jv, Jv] [] h 0 0 Rt := WM_at (hs := HH_Ref_waveOf) G_Ref_waveOf 95 2 rfl ⟨fun c5 => ⟨(H.1 c5).1, ⟨((H.1 c5).2).1, ⟨(((H.1 c5).2).2).1, ((((H.1 c5).2).2).2 _ rfl)⟩⟩⟩, H.2⟩
set_option maxRecDepth 100000 in
set_option maxHeartbeats 4000000 in
theorem v_Ref_waveOf_2 (x0 : Nat) (x1 : Int32) (x2 : Int32) (x3 : Int32) (x4 : Int32) (x5 : Int32) (h : MH) (Rt : Value → MH → Prop) (H :
kd h x0 = 13 ∧
kd h (mr h x0 41) = 20 ∧
InB x1 (ln h (mr h x0 41)) ∧
(x5.toInt < (mi h (mr h x0 41) (ix x1)).toInt →
kd h (mr h x0 42) = 20 ∧
InB (((300 : Int32) * x1) + x5) (ln h (mr h x0 42)) ∧
kd h (mr h x0 43) = 20 ∧
InB (((300 : Int32) * x1) + x5) (ln h (mr h x0 43)) ∧
SpV k_Ref_addCosine [.ref x0, .int (0 : Int32), .int (irm ((irm (((x2 * ((mi h (mr h x0 42) (ix (((300 : Int32) * x1) + x5))) / (576 : Int32))) + (x3 * (irm ((mi h (mr h x0 42) (ix (((300 : Int32) * x1) + x5))) / (24 : Int32)) (24 : Int32)))) + (x4 * (irm (mi h (mr h x0 42) (ix (((300 : Int32) * x1) + x5))) (24 : Int32)))) (24 : Int32)) + (24 : Int32)) (24 : Int32)), .long ((mi h (mr h x0 43) (ix (((300 : Int32) * x1) + x5))).toInt64)] h (fun g11 =>
kd g11 x0 = 13 ∧
kd g11 (mr g11 x0 43) = 20 ∧
InB (((300 : Int32) * x1) + x5) (ln g11 (mr g11 x0 43)) ∧
SpV k_Ref_addCosine [.ref x0, .int (4 : Int32), .int (irm ((irm ((irm (((x2 * ((mi h (mr h x0 42) (ix (((300 : Int32) * x1) + x5))) / (576 : Int32))) + (x3 * (irm ((mi h (mr h x0 42) (ix (((300 : Int32) * x1) + x5))) / (24 : Int32)) (24 : Int32)))) + (x4 * (irm (mi h (mr h x0 42) (ix (((300 : Int32) * x1) + x5))) (24 : Int32)))) (24 : Int32)) + (24 : Int32)) (24 : Int32)) + (18 : Int32)) (24 : Int32)), .long ((mi g11 (mr g11 x0 43) (ix (((300 : Int32) * x1) + x5))).toInt64)] g11 (fun g15 =>
WM k_Ref_waveOf p_Ref_waveOf_3 [.ref x0, .int x1, .int x2, .int x3, .int x4, .int x5, Jv, Jv] [] g15 0 0 Rt))) ∧
(¬ x5.toInt < (mi h (mr h x0 41) (ix x1)).toInt →
SpV k_Ref_addSquare [.ref x0, .int (0 : Int32)] h (fun g4 =>
kd g4 x0 = 13 ∧
SpV k_Ref_addSquare [.ref x0, .int (4 : Int32)] g4 (fun g5 =>
Rt .null g5)))) : WM k_Ref_waveOf p_Ref_waveOf_2 [.ref x0, .int x1, .int x2, .int x3, .int x4, .int x5, Jv, Jv] [] h 0 0 Rt := WM_at (hs := HH_Ref_waveOf) G_Ref_waveOf 95 14 rfl ⟨H.1, ⟨H.2.1, ⟨H.2.2.1, ⟨fun c16 => ⟨H.1, ⟨(H.2.2.2.1 c16).1, ⟨((H.2.2.2.1 c16).2).1, ⟨(by decide), ⟨(by decide), ⟨(by decide), ⟨(by decide), ⟨(by decide), ⟨(by decide), ⟨H.1, ⟨(((H.2.2.2.1 c16).2).2).1, ⟨((((H.2.2.2.1 c16).2).2).2).1, ⟨H.1, SpV.mono (((((H.2.2.2.1 c16).2).2).2).2) (fun g11 qg11 => ⟨(by decide), ⟨qg11.1, ⟨qg11.2.1, ⟨qg11.2.2.1, ⟨qg11.1, qg11.2.2.2⟩⟩⟩⟩⟩)⟩⟩⟩⟩⟩⟩⟩⟩⟩⟩⟩⟩⟩, fun c16 => ⟨H.1, (H.2.2.2.2 c16)⟩⟩⟩⟩⟩
set_option maxRecDepth 100000 in
set_option maxHeartbeats 4000000 in
theorem v_Ref_waveOf_3 (x0 : Nat) (x1 : Int32) (x2 : Int32) (x3 : Int32) (x4 : Int32) (x5 : Int32) (h : MH) (Rt : Value → MH → Prop) (H :
WM k_Ref_waveOf p_Ref_waveOf_2 [.ref x0, .int x1, .int x2, .int x3, .int x4, .int (x5 + (1 : Int32)), Jv, Jv] [] h 0 0 Rt) : WM k_Ref_waveOf p_Ref_waveOf_3 [.ref x0, .int x1, .int x2, .int x3, .int x4, .int x5, Jv, Jv] [] h 0 0 Rt := WM_at (hs := HH_Ref_waveOf) G_Ref_waveOf 95 85 rfl H
set_option maxRecDepth 100000 in
set_option maxHeartbeats 4000000 in
theorem v_Ref_amplitude (x0 : Nat) (x1 : Int32) (x2 : Int32) (x3 : Int32) (x4 : Int32) (x5 : Int32) (h : MH) (Rt : Value → MH → Prop) (H :
kd h x0 = 13 ∧
SpI k_Ref_isModel [.ref x0, .int x1] h (fun r3 g1 =>
(r3 = 0 →
Rt (.long (0 : Int64)) g1) ∧
(¬ r3 = 0 →
SpI k_Ref_isWave [.int x2, .int x3, .int x4] g1 (fun r5 g4 =>
(r5 = 0 →
Rt (.long (0 : Int64)) g4) ∧
(¬ r5 = 0 →
(x5.toInt < 0 →
Rt (.long (0 : Int64)) g4) ∧
(¬ x5.toInt < 0 →
((11 : Int32).toInt < x5.toInt →
Rt (.long (0 : Int64)) g4) ∧
(¬ (11 : Int32).toInt < x5.toInt →
kd g4 x0 = 13 ∧
SpV k_Ref_waveOf [.ref x0, .int x1, .int x2, .int x3, .int x4] g4 (fun g6 =>
kd g6 x0 = 13 ∧
kd g6 (mr g6 x0 46) = 21 ∧
InB x5 (ln g6 (mr g6 x0 46)) ∧
Rt (.long (ml g6 (mr g6 x0 46) (ix x5))) g6)))))))) : Sp k_Ref_amplitude [.ref x0, .int x1, .int x2, .int x3, .int x4, .int x5] h Rt := Sp_intro2 (by decide) (by decide +kernel) rfl (Nat.le_of_ble_eq_true rfl) (WM_at (hs := HH_Ref_amplitude) G_Ref_amplitude 28 0 rfl H)
set_option maxRecDepth 100000 in
set_option maxHeartbeats 4000000 in
theorem v_Model_isSelf (x0 : Nat) (x1 : Int32) (x2 : Int32) (x3 : Int32) (h : MH) (Rt : Value → MH → Prop) (H :
(x1 = x2 →
(x3 = (13 : Int32) →
Rt (.int (1 : Int32)) h) ∧
(¬ x3 = (13 : Int32) →
Rt (.int (0 : Int32)) h)) ∧
(¬ x1 = x2 →
Rt (.int (0 : Int32)) h)) : Sp k_Model_isSelf [.ref x0, .int x1, .int x2, .int x3] h Rt := Sp_intro2 (by decide) (by decide +kernel) rfl (Nat.le_of_ble_eq_true rfl) (WM_at (hs := HH_Model_isSelf) G_Model_isSelf 11 0 rfl ⟨fun c1 => ⟨fun c2 => ⟨(Or.inr rfl), ((H.1 c1).1 c2)⟩, fun c2 => ⟨(Or.inl rfl), ((H.1 c1).2 c2)⟩⟩, fun c1 => ⟨(Or.inl rfl), (H.2 c1)⟩⟩)
set_option maxRecDepth 100000 in
set_option maxHeartbeats 4000000 in
theorem v_Model_squareBetween (x0 : Nat) (x1 : Int32) (x2 : Int32) (x3 : Int32) (h : MH) (Rt : Value → MH → Prop) (H :
kd h x0 = 6 ∧
kd h (mr h x0 2) = 20 ∧
InB ((3 : Int32) * x2) (ln h (mr h x0 2)) ∧
InB ((3 : Int32) * x1) (ln h (mr h x0 2)) ∧
SpI k_Ho_part [.int x3, .int (9 : Int32)] h (fun r6 g5 =>
kd g5 x0 = 6 ∧
kd g5 (mr g5 x0 2) = 20 ∧
InB (((3 : Int32) * x2) + (1 : Int32)) (ln g5 (mr g5 x0 2)) ∧
InB (((3 : Int32) * x1) + (1 : Int32)) (ln g5 (mr g5 x0 2)) ∧
SpI k_Ho_part [.int x3, .int (3 : Int32)] g5 (fun r12 g11 =>
kd g11 x0 = 6 ∧
kd g11 (mr g11 x0 2) = 20 ∧
InB (((3 : Int32) * x2) + (2 : Int32)) (ln g11 (mr g11 x0 2)) ∧
InB (((3 : Int32) * x1) + (2 : Int32)) (ln g11 (mr g11 x0 2)) ∧
SpI k_Ho_part [.int x3, .int (1 : Int32)] g11 (fun r18 g17 =>
kd g17 (mr h x0 1) = 3 ∧
SpL k_Form_square [.ref (mr h x0 1), .long ((((mi h (mr h x0 2) (ix ((3 : Int32) * x2))) - (mi h (mr h x0 2) (ix ((3 : Int32) * x1)))) + ((24 : Int32) * r6)).toInt64), .long ((((mi g5 (mr g5 x0 2) (ix (((3 : Int32) * x2) + (1 : Int32)))) - (mi g5 (mr g5 x0 2) (ix (((3 : Int32) * x1) + (1 : Int32))))) + ((24 : Int32) * r12)).toInt64), .long ((((mi g11 (mr g11 x0 2) (ix (((3 : Int32) * x2) + (2 : Int32)))) - (mi g11 (mr g11 x0 2) (ix (((3 : Int32) * x1) + (2 : Int32))))) + ((24 : Int32) * r18)).toInt64)] g17 (fun r21 g19 =>
Rt (.long r21) g19))))) : Sp k_Model_squareBetween [.ref x0, .int x1, .int x2, .int x3] h Rt := Sp_intro2 (by decide) (by decide +kernel) rfl (Nat.le_of_ble_eq_true rfl) (WM_at (hs := HH_Model_squareBetween) G_Model_squareBetween 73 0 rfl ⟨H.1, ⟨H.1, ⟨H.2.1, ⟨H.2.2.1, ⟨H.1, ⟨H.2.1, ⟨H.2.2.2.1, SpI.mono H.2.2.2.2 (fun r6 g5 qg5 => ⟨qg5.1, ⟨qg5.2.1, ⟨qg5.2.2.1, ⟨qg5.1, ⟨qg5.2.1, ⟨qg5.2.2.2.1, SpI.mono qg5.2.2.2.2 (fun r12 g11 qg11 => ⟨qg11.1, ⟨qg11.2.1, ⟨qg11.2.2.1, ⟨qg11.1, ⟨qg11.2.1, qg11.2.2.2⟩⟩⟩⟩⟩)⟩⟩⟩⟩⟩⟩)⟩⟩⟩⟩⟩⟩⟩)
set_option maxRecDepth 100000 in
set_option maxHeartbeats 4000000 in
theorem v_Math_minJJJ (x0 : Int64) (x2 : Int64) (h : MH) (Rt : Value → MH → Prop) (H :
(0 < (lg_cmp x0 x2).toInt →
Rt (.long x2) h) ∧
(¬ 0 < (lg_cmp x0 x2).toInt →
Rt (.long x0) h)) : Sp k_Math_minJJJ [.long x0, .long x2] h Rt := Sp_intro2 (by decide) (by decide +kernel) rfl (Nat.le_of_ble_eq_true rfl) (WM_at (hs := HH_Math_minJJJ) G_Math_minJJJ 9 0 rfl H)
set_option maxRecDepth 100000 in
set_option maxHeartbeats 4000000 in
theorem v_Model_leastBetween (x0 : Nat) (x1 : Int32) (x2 : Int32) (h : MH) (Rt : Value → MH → Prop) (H :
WM k_Model_leastBetween p_Model_leastBetween_1 [.ref x0, .int x1, .int x2, .long (9223372036854775807 : Int64), Jv, .int (0 : Int32)] [] h 0 0 Rt) : Sp k_Model_leastBetween [.ref x0, .int x1, .int x2] h Rt := Sp_intro2 (by decide) (by decide +kernel) rfl (Nat.le_of_ble_eq_true rfl) (WM_at (hs := HH_Model_leastBetween) G_Model_leastBetween 26 0 rfl H)
set_option maxRecDepth 100000 in
set_option maxHeartbeats 4000000 in
theorem v_Model_leastBetween_1 (x0 : Nat) (x1 : Int32) (x2 : Int32) (x3 : Int64) (x5 : Int32) (h : MH) (Rt : Value → MH → Prop) (H :
(x5.toInt < (27 : Int32).toInt →
kd h x0 = 6 ∧
SpI k_Model_isSelf [.ref x0, .int x1, .int x2, .int x5] h (fun r3 g1 =>
(r3 = 0 →
kd g1 x0 = 6 ∧
SpL k_Model_squareBetween [.ref x0, .int x1, .int x2, .int x5] g1 (fun r6 g4 =>
SpL k_Math_minJJJ [.long x3, .long r6] g4 (fun r8 g7 =>
WM k_Model_leastBetween p_Model_leastBetween_1 [.ref x0, .int x1, .int x2, .long r8, Jv, .int (x5 + (1 : Int32))] [] g7 0 0 Rt))) ∧
(¬ r3 = 0 →
WM k_Model_leastBetween p_Model_leastBetween_1 [.ref x0, .int x1, .int x2, .long x3, Jv, .int (x5 + (1 : Int32))] [] g1 0 0 Rt))) ∧
(¬ x5.toInt < (27 : Int32).toInt →
Rt (.long x3) h)) : WM k_Model_leastBetween p_Model_leastBetween_1 [.ref x0, .int x1, .int x2, .long x3, Jv, .int x5] [] h 0 0 Rt := WM_at (hs := HH_Model_leastBetween) G_Model_leastBetween 26 4 rfl H
set_option maxRecDepth 100000 in
set_option maxHeartbeats 4000000 in
theorem v_Ho_distance (x0 : Nat) (x1 : Int32) (x2 : Int32) (x3 : Int32) (h : MH) (Rt : Value → MH → Prop) (H :
kd h x0 = 12 ∧
SpR k_Ho_modelAt [.ref x0, .int x1] h (fun r3 g1 =>
(r3 = 0 →
Rt (.long (0 : Int64)) g1) ∧
(¬ r3 = 0 →
kd g1 r3 = 6 ∧
SpI k_Model_holds [.ref r3, .int x2] g1 (fun r6 g4 =>
(r6 = 0 →
Rt (.long (0 : Int64)) g4) ∧
(¬ r6 = 0 →
kd g4 r3 = 6 ∧
SpI k_Model_holds [.ref r3, .int x3] g4 (fun r9 g7 =>
(r9 = 0 →
Rt (.long (0 : Int64)) g7) ∧
(¬ r9 = 0 →
kd g7 r3 = 6 ∧
SpL k_Model_leastBetween [.ref r3, .int x2, .int x3] g7 (fun r12 g10 =>
Rt (.long r12) g10)))))))) : Sp k_Ho_distance [.ref x0, .int x1, .int x2, .int x3] h Rt := Sp_intro2 (by decide) (by decide +kernel) rfl (Nat.le_of_ble_eq_true rfl) (WM_at (hs := HH_Ho_distance) G_Ho_distance 22 0 rfl H)
set_option maxRecDepth 100000 in
set_option maxHeartbeats 4000000 in
theorem v_Ref_apart (x0 : Nat) (x1 : Int32) (x2 : Int32) (x3 : Int32) (x4 : Int32) (h : MH) (Rt : Value → MH → Prop) (H :
kd h x0 = 13 ∧
kd h (mr h x0 42) = 20 ∧
InB (((300 : Int32) * x1) + x2) (ln h (mr h x0 42)) ∧
InB (((300 : Int32) * x1) + x3) (ln h (mr h x0 42)) ∧
WM k_Ref_apart p_Ref_apart_1 [.ref x0, .int x1, Jv, Jv, Jv, Jv, Jv, .long (((((mi h (mr h x0 42) (ix (((300 : Int32) * x1) + x3))) / (576 : Int32)) - ((mi h (mr h x0 42) (ix (((300 : Int32) * x1) + x2))) / (576 : Int32))) + ((24 : Int32) * ((x4 / (9 : Int32)) - (1 : Int32)))).toInt64), Jv, .long ((((irm ((mi h (mr h x0 42) (ix (((300 : Int32) * x1) + x3))) / (24 : Int32)) (24 : Int32)) - (irm ((mi h (mr h x0 42) (ix (((300 : Int32) * x1) + x2))) / (24 : Int32)) (24 : Int32))) + ((24 : Int32) * ((irm (x4 / (3 : Int32)) (3 : Int32)) - (1 : Int32)))).toInt64), Jv, .long ((((irm (mi h (mr h x0 42) (ix (((300 : Int32) * x1) + x3))) (24 : Int32)) - (irm (mi h (mr h x0 42) (ix (((300 : Int32) * x1) + x2))) (24 : Int32))) + ((24 : Int32) * ((irm x4 (3 : Int32)) - (1 : Int32)))).toInt64), Jv] [] h 0 0 Rt) : Sp k_Ref_apart [.ref x0, .int x1, .int x2, .int x3, .int x4] h Rt := Sp_intro2 (by decide) (by decide +kernel) rfl (Nat.le_of_ble_eq_true rfl) (WM_at (hs := HH_Ref_apart) G_Ref_apart 92 0 rfl ⟨H.1, ⟨H.2.1, ⟨H.2.2.1, ⟨H.1, ⟨H.2.1, ⟨H.2.2.2.1, ⟨(by decide), ⟨(by decide), ⟨(by decide), ⟨(by decide), ⟨(by decide), ⟨(by decide), ⟨(by decide), ⟨(by decide), ⟨(by decide), ⟨(by decide), ⟨(by decide), ⟨(by decide), H.2.2.2.2⟩⟩⟩⟩⟩⟩⟩⟩⟩⟩⟩⟩⟩⟩⟩⟩⟩⟩)
set_option maxRecDepth 100000 in
set_option maxHeartbeats 4000000 in
theorem v_Ref_apart_1 (x0 : Nat) (x1 : Int32) (x7 : Int64) (x9 : Int64) (x11 : Int64) (h : MH) (Rt : Value → MH → Prop) (H :
kd h x0 = 13 ∧
kd h (mr h x0 39) = 20 ∧
InB x1 (ln h (mr h x0 39)) ∧
SpL k_Ref_dot [.ref (mr h x0 29), .int ((6 : Int32) * (mi h (mr h x0 39) (ix x1))), .long x7, .long x9, .long x11, .long x7, .long x9, .long x11] h (fun r5 g4 =>
Rt (.long r5) g4)) : WM k_Ref_apart p_Ref_apart_1 [.ref x0, .int x1, Jv, Jv, Jv, Jv, Jv, .long x7, Jv, .long x9, Jv, .long x11, Jv] [] h 0 0 Rt := WM_at (hs := HH_Ref_apart) G_Ref_apart 92 75 rfl ⟨H.1, ⟨H.1, H.2⟩⟩
set_option maxRecDepth 100000 in
set_option maxHeartbeats 4000000 in
theorem v_Ref_distance (x0 : Nat) (x1 : Int32) (x2 : Int32) (x3 : Int32) (h : MH) (Rt : Value → MH → Prop) (H :
kd h x0 = 13 ∧
SpI k_Ref_isPlaced [.ref x0, .int x1, .int x2] h (fun r3 g1 =>
(r3 = 0 →
Rt (.long (0 : Int64)) g1) ∧
(¬ r3 = 0 →
kd g1 x0 = 13 ∧
SpI k_Ref_isPlaced [.ref x0, .int x1, .int x3] g1 (fun r6 g4 =>
(r6 = 0 →
Rt (.long (0 : Int64)) g4) ∧
(¬ r6 = 0 →
WM k_Ref_distance p_Ref_distance_1 [.ref x0, .int x1, .int x2, .int x3, .long (-1 : Int64), Jv, .int (0 : Int32), Jv, Jv] [] g4 0 0 Rt))))) : Sp k_Ref_distance [.ref x0, .int x1, .int x2, .int x3] h Rt := Sp_intro2 (by decide) (by decide +kernel) rfl (Nat.le_of_ble_eq_true rfl) (WM_at (hs := HH_Ref_distance) G_Ref_distance 48 0 rfl H)
set_option maxRecDepth 100000 in
set_option maxHeartbeats 4000000 in
theorem v_Ref_distance_1 (x0 : Nat) (x1 : Int32) (x2 : Int32) (x3 : Int32) (x4 : Int64) (x6 : Int32) (h : MH) (Rt : Value → MH → Prop) (H :
(x6.toInt < (27 : Int32).toInt →
(x2 = x3 →
(x6 = (13 : Int32) →
WM k_Ref_distance p_Ref_distance_1 [.ref x0, .int x1, .int x2, .int x3, .long x4, Jv, .int (x6 + (1 : Int32)), Jv, Jv] [] h 0 0 Rt) ∧
(¬ x6 = (13 : Int32) →
WM k_Ref_distance p_Ref_distance_2 [.ref x0, .int x1, .int x2, .int x3, .long x4, Jv, .int x6, Jv, Jv] [] h 0 0 Rt)) ∧
(¬ x2 = x3 →
WM k_Ref_distance p_Ref_distance_2 [.ref x0, .int x1, .int x2, .int x3, .long x4, Jv, .int x6, Jv, Jv] [] h 0 0 Rt)) ∧
(¬ x6.toInt < (27 : Int32).toInt →
Rt (.long x4) h)) : WM k_Ref_distance p_Ref_distance_1 [.ref x0, .int x1, .int x2, .int x3, .long x4, Jv, .int x6, Jv, Jv] [] h 0 0 Rt := WM_at (hs := HH_Ref_distance) G_Ref_distance 48 16 rfl H
set_option maxRecDepth 100000 in
set_option maxHeartbeats 4000000 in
theorem v_Ref_distance_2 (x0 : Nat) (x1 : Int32) (x2 : Int32) (x3 : Int32) (x4 : Int64) (x6 : Int32) (h : MH) (Rt : Value → MH → Prop) (H :
kd h x0 = 13 ∧
SpL k_Ref_apart [.ref x0, .int x1, .int x2, .int x3, .int x6] h (fun r3 g1 =>
((lg_cmp x4 (0 : Int64)).toInt < 0 →
WM k_Ref_distance p_Ref_distance_1 [.ref x0, .int x1, .int x2, .int x3, .long r3, Jv, .int (x6 + (1 : Int32)), Jv, Jv] [] g1 0 0 Rt) ∧
(¬ (lg_cmp x4 (0 : Int64)).toInt < 0 →
((lg_cmp r3 x4).toInt < 0 →
WM k_Ref_distance p_Ref_distance_1 [.ref x0, .int x1, .int x2, .int x3, .long r3, Jv, .int (x6 + (1 : Int32)), Jv, Jv] [] g1 0 0 Rt) ∧
(¬ (lg_cmp r3 x4).toInt < 0 →
WM k_Ref_distance p_Ref_distance_1 [.ref x0, .int x1, .int x2, .int x3, .long x4, Jv, .int (x6 + (1 : Int32)), Jv, Jv] [] g1 0 0 Rt)))) : WM k_Ref_distance p_Ref_distance_2 [.ref x0, .int x1, .int x2, .int x3, .long x4, Jv, .int x6, Jv, Jv] [] h 0 0 Rt := WM_at (hs := HH_Ref_distance) G_Ref_distance 48 26 rfl H
set_option maxRecDepth 100000 in
set_option maxHeartbeats 4000000 in
theorem v_Model_countAround (x0 : Nat) (x1 : Int32) (x2 : Int64) (h : MH) (Rt : Value → MH → Prop) (H :
WM k_Model_countAround p_Model_countAround_1 [.ref x0, .int x1, .long x2, Jv, .int (0 : Int32), .int (0 : Int32), Jv] [] h 0 0 Rt) : Sp k_Model_countAround [.ref x0, .int x1, .long x2] h Rt := Sp_intro2 (by decide) (by decide +kernel) rfl (Nat.le_of_ble_eq_true rfl) (WM_at (hs := HH_Model_countAround) G_Model_countAround 35 0 rfl H)
set_option maxRecDepth 100000 in
set_option maxHeartbeats 4000000 in
theorem v_Model_countAround_1 (x0 : Nat) (x1 : Int32) (x2 : Int64) (x4 : Int32) (x5 : Int32) (h : MH) (Rt : Value → MH → Prop) (H :
kd h x0 = 6 ∧
(x5.toInt < (mi h x0 4).toInt →
WM k_Model_countAround p_Model_countAround_2 [.ref x0, .int x1, .long x2, Jv, .int x4, .int x5, .int (0 : Int32)] [] h 0 0 Rt) ∧
(¬ x5.toInt < (mi h x0 4).toInt →
Rt (.int x4) h)) : WM k_Model_countAround p_Model_countAround_1 [.ref x0, .int x1, .long x2, Jv, .int x4, .int x5, Jv] [] h 0 0 Rt := WM_at (hs := HH_Model_countAround) G_Model_countAround 35 4 rfl H
set_option maxRecDepth 100000 in
set_option maxHeartbeats 4000000 in
theorem v_Model_countAround_2 (x0 : Nat) (x1 : Int32) (x2 : Int64) (x4 : Int32) (x5 : Int32) (x6 : Int32) (h : MH) (Rt : Value → MH → Prop) (H :
(x6.toInt < (27 : Int32).toInt →
kd h x0 = 6 ∧
SpI k_Model_isSelf [.ref x0, .int x1, .int x5, .int x6] h (fun r3 g1 =>
(r3 = 0 →
kd g1 x0 = 6 ∧
SpL k_Model_squareBetween [.ref x0, .int x1, .int x5, .int x6] g1 (fun r6 g4 =>
(0 < (lg_cmp r6 x2).toInt →
WM k_Model_countAround p_Model_countAround_2 [.ref x0, .int x1, .long x2, Jv, .int x4, .int x5, .int (x6 + (1 : Int32))] [] g4 0 0 Rt) ∧
(¬ 0 < (lg_cmp r6 x2).toInt →
WM k_Model_countAround p_Model_countAround_2 [.ref x0, .int x1, .long x2, Jv, .int (x4 + (1 : Int32)), .int x5, .int (x6 + (1 : Int32))] [] g4 0 0 Rt))) ∧
(¬ r3 = 0 →
WM k_Model_countAround p_Model_countAround_2 [.ref x0, .int x1, .long x2, Jv, .int x4, .int x5, .int (x6 + (1 : Int32))] [] g1 0 0 Rt))) ∧
(¬ x6.toInt < (27 : Int32).toInt →
WM k_Model_countAround p_Model_countAround_1 [.ref x0, .int x1, .long x2, Jv, .int x4, .int (x5 + (1 : Int32)), Jv] [] h 0 0 Rt)) : WM k_Model_countAround p_Model_countAround_2 [.ref x0, .int x1, .long x2, Jv, .int x4, .int x5, .int x6] [] h 0 0 Rt := WM_at (hs := HH_Model_countAround) G_Model_countAround 35 10 rfl H
set_option maxRecDepth 100000 in
set_option maxHeartbeats 4000000 in
theorem v_Ho_near (x0 : Nat) (x1 : Int32) (x2 : Int32) (x3 : Int64) (h : MH) (Rt : Value → MH → Prop) (H :
kd h x0 = 12 ∧
SpR k_Ho_modelAt [.ref x0, .int x1] h (fun r3 g1 =>
(r3 = 0 →
Rt (.int (-1 : Int32)) g1) ∧
(¬ r3 = 0 →
kd g1 r3 = 6 ∧
SpI k_Model_holds [.ref r3, .int x2] g1 (fun r6 g4 =>
(r6 = 0 →
Rt (.int (-1 : Int32)) g4) ∧
(¬ r6 = 0 →
kd g4 r3 = 6 ∧
SpI k_Model_countAround [.ref r3, .int x2, .long x3] g4 (fun r9 g7 =>
Rt (.int r9) g7)))))) : Sp k_Ho_near [.ref x0, .int x1, .int x2, .long x3] h Rt := Sp_intro2 (by decide) (by decide +kernel) rfl (Nat.le_of_ble_eq_true rfl) (WM_at (hs := HH_Ho_near) G_Ho_near 18 0 rfl H)
set_option maxRecDepth 100000 in
set_option maxHeartbeats 4000000 in
theorem v_Ref_near (x0 : Nat) (x1 : Int32) (x2 : Int32) (x3 : Int64) (h : MH) (Rt : Value → MH → Prop) (H :
kd h x0 = 13 ∧
SpI k_Ref_isPlaced [.ref x0, .int x1, .int x2] h (fun r3 g1 =>
(r3 = 0 →
Rt (.int (-1 : Int32)) g1) ∧
(¬ r3 = 0 →
WM k_Ref_near p_Ref_near_1 [.ref x0, .int x1, .int x2, .long x3, Jv, .int (0 : Int32), .int (0 : Int32), Jv] [] g1 0 0 Rt))) : Sp k_Ref_near [.ref x0, .int x1, .int x2, .long x3] h Rt := Sp_intro2 (by decide) (by decide +kernel) rfl (Nat.le_of_ble_eq_true rfl) (WM_at (hs := HH_Ref_near) G_Ref_near 45 0 rfl H)
set_option maxRecDepth 100000 in
set_option maxHeartbeats 4000000 in
theorem v_Ref_near_1 (x0 : Nat) (x1 : Int32) (x2 : Int32) (x3 : Int64) (x5 : Int32) (x6 : Int32) (h : MH) (Rt : Value → MH → Prop) (H :
kd h x0 = 13 ∧
kd h (mr h x0 41) = 20 ∧
InB x1 (ln h (mr h x0 41)) ∧
(x6.toInt < (mi h (mr h x0 41) (ix x1)).toInt →
WM k_Ref_near p_Ref_near_2 [.ref x0, .int x1, .int x2, .long x3, Jv, .int x5, .int x6, .int (0 : Int32)] [] h 0 0 Rt) ∧
(¬ x6.toInt < (mi h (mr h x0 41) (ix x1)).toInt →
Rt (.int x5) h)) : WM k_Ref_near p_Ref_near_1 [.ref x0, .int x1, .int x2, .long x3, Jv, .int x5, .int x6, Jv] [] h 0 0 Rt := WM_at (hs := HH_Ref_near) G_Ref_near 45 11 rfl H
set_option maxRecDepth 100000 in
set_option maxHeartbeats 4000000 in
theorem v_Ref_near_2 (x0 : Nat) (x1 : Int32) (x2 : Int32) (x3 : Int64) (x5 : Int32) (x6 : Int32) (x7 : Int32) (h : MH) (Rt : Value → MH → Prop) (H :
(x7.toInt < (27 : Int32).toInt →
(x2 = x6 →
(x7 = (13 : Int32) →
WM k_Ref_near p_Ref_near_2 [.ref x0, .int x1, .int x2, .long x3, Jv, .int x5, .int x6, .int (x7 + (1 : Int32))] [] h 0 0 Rt) ∧
(¬ x7 = (13 : Int32) →
WM k_Ref_near p_Ref_near_3 [.ref x0, .int x1, .int x2, .long x3, Jv, .int x5, .int x6, .int x7] [] h 0 0 Rt)) ∧
(¬ x2 = x6 →
WM k_Ref_near p_Ref_near_3 [.ref x0, .int x1, .int x2, .long x3, Jv, .int x5, .int x6, .int x7] [] h 0 0 Rt)) ∧
(¬ x7.toInt < (27 : Int32).toInt →
WM k_Ref_near p_Ref_near_1 [.ref x0, .int x1, .int x2, .long x3, Jv, .int x5, .int (x6 + (1 : Int32)), Jv] [] h 0 0 Rt)) : WM k_Ref_near p_Ref_near_2 [.ref x0, .int x1, .int x2, .long x3, Jv, .int x5, .int x6, .int x7] [] h 0 0 Rt := WM_at (hs := HH_Ref_near) G_Ref_near 45 19 rfl H
set_option maxRecDepth 100000 in
set_option maxHeartbeats 4000000 in
theorem v_Ref_near_3 (x0 : Nat) (x1 : Int32) (x2 : Int32) (x3 : Int64) (x5 : Int32) (x6 : Int32) (x7 : Int32) (h : MH) (Rt : Value → MH → Prop) (H :
kd h x0 = 13 ∧
SpL k_Ref_apart [.ref x0, .int x1, .int x2, .int x6, .int x7] h (fun r3 g1 =>
(0 < (lg_cmp r3 x3).toInt →
WM k_Ref_near p_Ref_near_2 [.ref x0, .int x1, .int x2, .long x3, Jv, .int x5, .int x6, .int (x7 + (1 : Int32))] [] g1 0 0 Rt) ∧
(¬ 0 < (lg_cmp r3 x3).toInt →
WM k_Ref_near p_Ref_near_2 [.ref x0, .int x1, .int x2, .long x3, Jv, .int (x5 + (1 : Int32)), .int x6, .int (x7 + (1 : Int32))] [] g1 0 0 Rt))) : WM k_Ref_near p_Ref_near_3 [.ref x0, .int x1, .int x2, .long x3, Jv, .int x5, .int x6, .int x7] [] h 0 0 Rt := WM_at (hs := HH_Ref_near) G_Ref_near 45 28 rfl H
set_option maxRecDepth 100000 in
set_option maxHeartbeats 4000000 in
theorem v_Lines_init (x0 : Nat) (x1 : Int32) (h : MH) (Rt : Value → MH → Prop) (H :
x0 ≠ 0 ∧
kd h x0 = 5 ∧
∀ g3 : MH, g3 = wi h x0 3 (0 : Int32) →
WM k_Lines_init p_Lines_init_1 [.ref x0, .int x1, Jv, Jv] [] g3 0 0 Rt) : Sp k_Lines_init [.ref x0, .int x1] h Rt := Sp_intro2 (by decide) (by decide +kernel) rfl (Nat.le_of_ble_eq_true rfl) (WM_at (hs := HH_Lines_init) G_Lines_init 39 0 rfl ⟨H.1, ⟨H.2.1, (H.2.2 _ rfl)⟩⟩)
set_option maxRecDepth 100000 in
set_option maxHeartbeats 4000000 in
theorem v_Lines_init_1 (x0 : Nat) (x1 : Int32) (cc ss : Nat) (h : MH) (Rt : Value → MH → Prop) (H :
kd h x0 = 5 ∧
∀ g2 : MH, g2 = wi h x0 4 (0 : Int32) →
∀ g3 : MH, g3 = wi g2 x0 0 x1 →
WM k_Lines_init p_Lines_init_2 [.ref x0, .int x1, Jv, Jv] [] g3 cc ss Rt) : WM k_Lines_init p_Lines_init_1 [.ref x0, .int x1, Jv, Jv] [] h cc ss Rt := WM_at (hs := HH_Lines_init) G_Lines_init 39 5 rfl ⟨H.1, ⟨H.1, ((H.2 _ rfl) _ rfl)⟩⟩
set_option maxRecDepth 100000 in
set_option maxHeartbeats 4000000 in
theorem v_Lines_init_2 (x0 : Nat) (x1 : Int32) (cc ss : Nat) (h : MH) (Rt : Value → MH → Prop) (H :
gd (cc + 0) 2 (
gd (ss + 0) 7686 (
SpI k_Math_maxIII [.int ((((((2 : Int32) * x1) + (1 : Int32)) * (((2 : Int32) * x1) + (1 : Int32))) * (((2 : Int32) * x1) + (1 : Int32))) / (2 : Int32)), .int (0 : Int32)] h (fun r2 g1 =>
0 ≤ ((6 : Int32) * r2).toInt ∧
gd ((cc + 0) + 1) 2 (
gd ((ss + 0) + ix ((6 : Int32) * r2)) 7686 (
∀ g4 : MH, g4 = nw g1 21 (ix ((6 : Int32) * r2)) →
kd g4 x0 = 5 ∧
∀ g6 : MH, g6 = wr g4 x0 1 (hn g1) →
WM k_Lines_init p_Lines_init_3 [.ref x0, Jv, Jv, .int r2] [] g6 ((cc + 0) + 1) ((ss + 0) + ix ((6 : Int32) * r2)) Rt)))))) : WM k_Lines_init p_Lines_init_2 [.ref x0, .int x1, Jv, Jv] [] h cc ss Rt := WM_at (hs := HH_Lines_init) G_Lines_init 39 11 rfl ⟨(by decide), gd_mono (a := (cc + 0)) (b := 2) (fun q => gd_mono (a := (ss + 0)) (b := 7686) (fun q => SpI.mono q (fun r2 g1 qg1 => ⟨qg1.1, gd_mono (a := ((cc + 0) + 1)) (b := 2) (fun q => gd_mono (a := ((ss + 0) + ix ((6 : Int32) * r2))) (b := 7686) (fun q => ⟨(q _ rfl).1, ((q _ rfl).2 _ rfl)⟩) q) qg1.2⟩)) q) H⟩
set_option maxRecDepth 100000 in
set_option maxHeartbeats 4000000 in
theorem v_Lines_init_3 (x0 : Nat) (x3 : Int32) (cc ss : Nat) (h : MH) (Rt : Value → MH → Prop) (H :
0 ≤ x3.toInt ∧
gd (cc + 1) 2 (
gd (ss + ix x3) 7686 (
∀ g2 : MH, g2 = nw h 20 (ix x3) →
kd g2 x0 = 5 ∧
∀ g4 : MH, g4 = wr g2 x0 2 (hn h) →
WM k_Lines_init p_Lines_init_4 [Jv, Jv, Jv, Jv] [] g4 (cc + 1) (ss + ix x3) Rt))) : WM k_Lines_init p_Lines_init_3 [.ref x0, Jv, Jv, .int x3] [] h cc ss Rt := WM_at (hs := HH_Lines_init) G_Lines_init 39 33 rfl ⟨H.1, gd_mono (a := (cc + 1)) (b := 2) (fun q => gd_mono (a := (ss + ix x3)) (b := 7686) (fun q => ⟨(q _ rfl).1, ((q _ rfl).2 _ rfl)⟩) q) H.2⟩
set_option maxRecDepth 100000 in
set_option maxHeartbeats 4000000 in
theorem v_Lines_init_4 (cc ss : Nat) (h : MH) (Rt : Value → MH → Prop) (H :
gd cc 2 (
gd ss 7686 (
Rt .null h))) : WM k_Lines_init p_Lines_init_4 [Jv, Jv, Jv, Jv] [] h cc ss Rt := WM_at (hs := HH_Lines_init) G_Lines_init 39 37 rfl H
