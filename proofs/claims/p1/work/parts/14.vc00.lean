set_option maxRecDepth 100000 in
set_option maxHeartbeats 4000000 in
theorem v_Motion_init (x0 : Nat) (h : MH) (Rt : Value → MH → Prop) (H :
x0 ≠ 0 ∧
∀ g2 : MH, g2 = nw h 20 (ix (9 : Int32)) →
kd g2 x0 = 7 ∧
∀ g4 : MH, g4 = wr g2 x0 0 (hn h) →
WM k_Motion_init p_Motion_init_1 [.ref x0] [] g4 1 9 Rt) : Sp k_Motion_init [.ref x0] h Rt := Sp_intro2 (by decide) (by decide +kernel) rfl (Nat.le_of_ble_eq_true rfl) (WM_at (hs := HH_Motion_init) G_Motion_init 12 0 rfl ⟨H.1, ⟨(by decide), ⟨(H.2 _ rfl).1, ((H.2 _ rfl).2 _ rfl)⟩⟩⟩)
set_option maxRecDepth 100000 in
set_option maxHeartbeats 4000000 in
theorem v_Motion_init_1 (x0 : Nat) (cc ss : Nat) (h : MH) (Rt : Value → MH → Prop) (H :
gd (cc + 1) 2 (
gd (ss + ix (3 : Int32)) 12 (
∀ g1 : MH, g1 = nw h 20 (ix (3 : Int32)) →
kd g1 x0 = 7 ∧
∀ g3 : MH, g3 = wr g1 x0 1 (hn h) →
WM k_Motion_init p_Motion_init_2 [Jv] [] g3 (cc + 1) (ss + ix (3 : Int32)) Rt))) : WM k_Motion_init p_Motion_init_1 [.ref x0] [] h cc ss Rt := WM_at (hs := HH_Motion_init) G_Motion_init 12 6 rfl ⟨(by decide), gd_mono (a := (cc + 1)) (b := 2) (fun q => gd_mono (a := (ss + ix (3 : Int32))) (b := 12) (fun q => ⟨(q _ rfl).1, ((q _ rfl).2 _ rfl)⟩) q) H⟩
set_option maxRecDepth 100000 in
set_option maxHeartbeats 4000000 in
theorem v_Motion_init_2 (cc ss : Nat) (h : MH) (Rt : Value → MH → Prop) (H :
gd cc 2 (
gd ss 12 (
Rt .null h))) : WM k_Motion_init p_Motion_init_2 [Jv] [] h cc ss Rt := WM_at (hs := HH_Motion_init) G_Motion_init 12 10 rfl H
set_option maxRecDepth 100000 in
set_option maxHeartbeats 4000000 in
theorem v_Scribe_init (x0 : Nat) (h : MH) (Rt : Value → MH → Prop) (H :
x0 ≠ 0 ∧
∀ g2 : MH, g2 = nw h 20 (ix (20 : Int32)) →
kd g2 x0 = 10 ∧
∀ g4 : MH, g4 = wr g2 x0 0 (hn h) →
WM k_Scribe_init p_Scribe_init_1 [.ref x0] [] g4 1 20 Rt) : Sp k_Scribe_init [.ref x0] h Rt := Sp_intro2 (by decide) (by decide +kernel) rfl (Nat.le_of_ble_eq_true rfl) (WM_at (hs := HH_Scribe_init) G_Scribe_init 36 0 rfl ⟨H.1, ⟨(by decide), ⟨(H.2 _ rfl).1, ((H.2 _ rfl).2 _ rfl)⟩⟩⟩)
set_option maxRecDepth 100000 in
set_option maxHeartbeats 4000000 in
theorem v_Scribe_init_1 (x0 : Nat) (cc ss : Nat) (h : MH) (Rt : Value → MH → Prop) (H :
gd (cc + 1) 6 (
gd (ss + ix (100 : Int32)) 182 (
∀ g1 : MH, g1 = nw h 20 (ix (100 : Int32)) →
kd g1 x0 = 10 ∧
∀ g3 : MH, g3 = wr g1 x0 1 (hn h) →
WM k_Scribe_init p_Scribe_init_2 [.ref x0] [] g3 (cc + 1) (ss + ix (100 : Int32)) Rt))) : WM k_Scribe_init p_Scribe_init_1 [.ref x0] [] h cc ss Rt := WM_at (hs := HH_Scribe_init) G_Scribe_init 36 6 rfl ⟨(by decide), gd_mono (a := (cc + 1)) (b := 6) (fun q => gd_mono (a := (ss + ix (100 : Int32))) (b := 182) (fun q => ⟨(q _ rfl).1, ((q _ rfl).2 _ rfl)⟩) q) H⟩
set_option maxRecDepth 100000 in
set_option maxHeartbeats 4000000 in
theorem v_Scribe_init_2 (x0 : Nat) (cc ss : Nat) (h : MH) (Rt : Value → MH → Prop) (H :
kd h x0 = 10 ∧
∀ g2 : MH, g2 = wi h x0 2 (0 : Int32) →
∀ g3 : MH, g3 = wi g2 x0 3 (0 : Int32) →
WM k_Scribe_init p_Scribe_init_3 [.ref x0] [] g3 cc ss Rt) : WM k_Scribe_init p_Scribe_init_2 [.ref x0] [] h cc ss Rt := WM_at (hs := HH_Scribe_init) G_Scribe_init 36 10 rfl ⟨H.1, ⟨H.1, ((H.2 _ rfl) _ rfl)⟩⟩
set_option maxRecDepth 100000 in
set_option maxHeartbeats 4000000 in
theorem v_Scribe_init_3 (x0 : Nat) (cc ss : Nat) (h : MH) (Rt : Value → MH → Prop) (H :
kd h x0 = 10 ∧
∀ g2 : MH, g2 = wi h x0 4 (0 : Int32) →
∀ g3 : MH, g3 = wi g2 x0 5 (-1 : Int32) →
WM k_Scribe_init p_Scribe_init_4 [.ref x0] [] g3 cc ss Rt) : WM k_Scribe_init p_Scribe_init_3 [.ref x0] [] h cc ss Rt := WM_at (hs := HH_Scribe_init) G_Scribe_init 36 16 rfl ⟨H.1, ⟨H.1, ((H.2 _ rfl) _ rfl)⟩⟩
set_option maxRecDepth 100000 in
set_option maxHeartbeats 4000000 in
theorem v_Scribe_init_4 (x0 : Nat) (cc ss : Nat) (h : MH) (Rt : Value → MH → Prop) (H :
gd (cc + 1) 6 (
gd (ss + 2) 182 (
∀ g1 : MH, g1 = nw h 7 0 →
kd g1 (hn h) = 7 ∧
gd ((cc + 1) + 2) 6 (
gd ((ss + 2) + 12) 182 (
SpV k_Motion_init [.ref (hn h)] g1 (fun g2 =>
kd g2 x0 = 10 ∧
∀ g5 : MH, g5 = wr g2 x0 6 (hn h) →
WM k_Scribe_init p_Scribe_init_5 [.ref x0] [] g5 ((cc + 1) + 2) ((ss + 2) + 12) Rt)))))) : WM k_Scribe_init p_Scribe_init_4 [.ref x0] [] h cc ss Rt := WM_at (hs := HH_Scribe_init) G_Scribe_init 36 22 rfl (gd_mono (a := (cc + 1)) (b := 6) (fun q => gd_mono (a := (ss + 2)) (b := 182) (fun q => ⟨(q _ rfl).1, gd_mono (a := ((cc + 1) + 2)) (b := 6) (fun q => gd_mono (a := ((ss + 2) + 12)) (b := 182) (fun q => SpV.mono q (fun g2 qg2 => ⟨qg2.1, (qg2.2 _ rfl)⟩)) q) ((q _ rfl).2)⟩) q) H)
set_option maxRecDepth 100000 in
set_option maxHeartbeats 4000000 in
theorem v_Scribe_init_5 (x0 : Nat) (cc ss : Nat) (h : MH) (Rt : Value → MH → Prop) (H :
gd (cc + 1) 6 (
gd (ss + ix (48 : Int32)) 182 (
∀ g1 : MH, g1 = nw h 23 (ix (48 : Int32)) →
kd g1 x0 = 10 ∧
∀ g3 : MH, g3 = wr g1 x0 7 (hn h) →
WM k_Scribe_init p_Scribe_init_6 [.ref x0] [] g3 (cc + 1) (ss + ix (48 : Int32)) Rt))) : WM k_Scribe_init p_Scribe_init_5 [.ref x0] [] h cc ss Rt := WM_at (hs := HH_Scribe_init) G_Scribe_init 36 27 rfl ⟨(by decide), gd_mono (a := (cc + 1)) (b := 6) (fun q => gd_mono (a := (ss + ix (48 : Int32))) (b := 182) (fun q => ⟨(q _ rfl).1, ((q _ rfl).2 _ rfl)⟩) q) H⟩
set_option maxRecDepth 100000 in
set_option maxHeartbeats 4000000 in
theorem v_Scribe_init_6 (x0 : Nat) (cc ss : Nat) (h : MH) (Rt : Value → MH → Prop) (H :
kd h x0 = 10 ∧
∀ g2 : MH, g2 = wi h x0 8 (0 : Int32) →
gd cc 6 (
gd ss 182 (
Rt .null g2))) : WM k_Scribe_init p_Scribe_init_6 [.ref x0] [] h cc ss Rt := WM_at (hs := HH_Scribe_init) G_Scribe_init 36 31 rfl ⟨H.1, (H.2 _ rfl)⟩
set_option maxRecDepth 100000 in
set_option maxHeartbeats 4000000 in
theorem v_Math_maxIII (x0 : Int32) (x1 : Int32) (h : MH) (Rt : Value → MH → Prop) (H :
(x0.toInt < x1.toInt →
Rt (.int x1) h) ∧
(¬ x0.toInt < x1.toInt →
Rt (.int x0) h)) : Sp k_Math_maxIII [.int x0, .int x1] h Rt := Sp_intro2 (by decide) (by decide +kernel) rfl (Nat.le_of_ble_eq_true rfl) (WM_at (hs := HH_Math_maxIII) G_Math_maxIII 8 0 rfl H)
set_option maxRecDepth 100000 in
set_option maxHeartbeats 4000000 in
theorem v_Row_init (x0 : Nat) (x1 : Int32) (h : MH) (Rt : Value → MH → Prop) (H :
x0 ≠ 0 ∧
kd h x0 = 9 ∧
∀ g3 : MH, g3 = wi h x0 1 (0 : Int32) →
WM k_Row_init p_Row_init_1 [.ref x0, .int x1] [] g3 0 0 Rt) : Sp k_Row_init [.ref x0, .int x1] h Rt := Sp_intro2 (by decide) (by decide +kernel) rfl (Nat.le_of_ble_eq_true rfl) (WM_at (hs := HH_Row_init) G_Row_init 13 0 rfl ⟨H.1, ⟨H.2.1, (H.2.2 _ rfl)⟩⟩)
set_option maxRecDepth 100000 in
set_option maxHeartbeats 4000000 in
theorem v_Row_init_1 (x0 : Nat) (x1 : Int32) (cc ss : Nat) (h : MH) (Rt : Value → MH → Prop) (H :
gd (cc + 0) 1 (
gd (ss + 0) 400 (
SpI k_Math_maxIII [.int x1, .int (0 : Int32)] h (fun r2 g1 =>
0 ≤ r2.toInt ∧
gd ((cc + 0) + 1) 1 (
gd ((ss + 0) + ix r2) 400 (
∀ g4 : MH, g4 = nw g1 20 (ix r2) →
kd g4 x0 = 9 ∧
∀ g6 : MH, g6 = wr g4 x0 0 (hn g1) →
WM k_Row_init p_Row_init_2 [Jv, Jv] [] g6 ((cc + 0) + 1) ((ss + 0) + ix r2) Rt)))))) : WM k_Row_init p_Row_init_1 [.ref x0, .int x1] [] h cc ss Rt := WM_at (hs := HH_Row_init) G_Row_init 13 5 rfl (gd_mono (a := (cc + 0)) (b := 1) (fun q => gd_mono (a := (ss + 0)) (b := 400) (fun q => SpI.mono q (fun r2 g1 qg1 => ⟨qg1.1, gd_mono (a := ((cc + 0) + 1)) (b := 1) (fun q => gd_mono (a := ((ss + 0) + ix r2)) (b := 400) (fun q => ⟨(q _ rfl).1, ((q _ rfl).2 _ rfl)⟩) q) qg1.2⟩)) q) H)
set_option maxRecDepth 100000 in
set_option maxHeartbeats 4000000 in
theorem v_Row_init_2 (cc ss : Nat) (h : MH) (Rt : Value → MH → Prop) (H :
gd cc 1 (
gd ss 400 (
Rt .null h))) : WM k_Row_init p_Row_init_2 [Jv, Jv] [] h cc ss Rt := WM_at (hs := HH_Row_init) G_Row_init 13 11 rfl H
set_option maxRecDepth 100000 in
set_option maxHeartbeats 4000000 in
theorem v_Closure_init (x0 : Nat) (h : MH) (Rt : Value → MH → Prop) (H :
x0 ≠ 0 ∧
∀ g2 : MH, g2 = nw h 9 0 →
kd g2 (hn h) = 9 ∧
SpV k_Row_init [.ref (hn h), .int (192 : Int32)] g2 (fun g3 =>
kd g3 x0 = 2 ∧
∀ g6 : MH, g6 = wr g3 x0 0 (hn h) →
WM k_Closure_init p_Closure_init_1 [.ref x0] [] g6 2 402 Rt)) : Sp k_Closure_init [.ref x0] h Rt := Sp_intro2 (by decide) (by decide +kernel) rfl (Nat.le_of_ble_eq_true rfl) (WM_at (hs := HH_Closure_init) G_Closure_init 36 0 rfl ⟨H.1, ⟨(H.2 _ rfl).1, SpV.mono ((H.2 _ rfl).2) (fun g3 qg3 => ⟨qg3.1, (qg3.2 _ rfl)⟩)⟩⟩)
set_option maxRecDepth 100000 in
set_option maxHeartbeats 4000000 in
theorem v_Closure_init_1 (x0 : Nat) (cc ss : Nat) (h : MH) (Rt : Value → MH → Prop) (H :
gd (cc + 1) 13 (
gd (ss + ix (192 : Int32)) 644 (
∀ g1 : MH, g1 = nw h 20 (ix (192 : Int32)) →
kd g1 x0 = 2 ∧
∀ g3 : MH, g3 = wr g1 x0 1 (hn h) →
WM k_Closure_init p_Closure_init_2 [.ref x0] [] g3 (cc + 1) (ss + ix (192 : Int32)) Rt))) : WM k_Closure_init p_Closure_init_1 [.ref x0] [] h cc ss Rt := WM_at (hs := HH_Closure_init) G_Closure_init 36 8 rfl ⟨(by decide), gd_mono (a := (cc + 1)) (b := 13) (fun q => gd_mono (a := (ss + ix (192 : Int32))) (b := 644) (fun q => ⟨(q _ rfl).1, ((q _ rfl).2 _ rfl)⟩) q) H⟩
set_option maxRecDepth 100000 in
set_option maxHeartbeats 4000000 in
theorem v_Closure_init_2 (x0 : Nat) (cc ss : Nat) (h : MH) (Rt : Value → MH → Prop) (H :
gd (cc + 1) 13 (
gd (ss + ix (8 : Int32)) 644 (
∀ g1 : MH, g1 = nw h 20 (ix (8 : Int32)) →
kd g1 x0 = 2 ∧
∀ g3 : MH, g3 = wr g1 x0 2 (hn h) →
WM k_Closure_init p_Closure_init_3 [.ref x0] [] g3 (cc + 1) (ss + ix (8 : Int32)) Rt))) : WM k_Closure_init p_Closure_init_2 [.ref x0] [] h cc ss Rt := WM_at (hs := HH_Closure_init) G_Closure_init 36 12 rfl ⟨(by decide), gd_mono (a := (cc + 1)) (b := 13) (fun q => gd_mono (a := (ss + ix (8 : Int32))) (b := 644) (fun q => ⟨(q _ rfl).1, ((q _ rfl).2 _ rfl)⟩) q) H⟩
set_option maxRecDepth 100000 in
set_option maxHeartbeats 4000000 in
theorem v_Closure_init_3 (x0 : Nat) (cc ss : Nat) (h : MH) (Rt : Value → MH → Prop) (H :
kd h x0 = 2 ∧
∀ g2 : MH, g2 = wi h x0 3 (0 : Int32) →
gd (cc + 1) 13 (
gd (ss + 2) 644 (
∀ g3 : MH, g3 = nw g2 7 0 →
kd g3 (hn h) = 7 ∧
gd ((cc + 1) + 2) 13 (
gd ((ss + 2) + 12) 644 (
SpV k_Motion_init [.ref (hn h)] g3 (fun g4 =>
kd g4 x0 = 2 ∧
∀ g7 : MH, g7 = wr g4 x0 4 (hn h) →
WM k_Closure_init p_Closure_init_4 [.ref x0] [] g7 ((cc + 1) + 2) ((ss + 2) + 12) Rt)))))) : WM k_Closure_init p_Closure_init_3 [.ref x0] [] h cc ss Rt := WM_at (hs := HH_Closure_init) G_Closure_init 36 16 rfl ⟨H.1, gd_mono (a := (cc + 1)) (b := 13) (fun q => gd_mono (a := (ss + 2)) (b := 644) (fun q => ⟨(q _ rfl).1, gd_mono (a := ((cc + 1) + 2)) (b := 13) (fun q => gd_mono (a := ((ss + 2) + 12)) (b := 644) (fun q => SpV.mono q (fun g4 qg4 => ⟨qg4.1, (qg4.2 _ rfl)⟩)) q) ((q _ rfl).2)⟩) q) (H.2 _ rfl)⟩
set_option maxRecDepth 100000 in
set_option maxHeartbeats 4000000 in
theorem v_Closure_init_4 (x0 : Nat) (cc ss : Nat) (h : MH) (Rt : Value → MH → Prop) (H :
gd (cc + 1) 13 (
gd (ss + 2) 644 (
∀ g1 : MH, g1 = nw h 7 0 →
kd g1 (hn h) = 7 ∧
gd ((cc + 1) + 2) 13 (
gd ((ss + 2) + 12) 644 (
SpV k_Motion_init [.ref (hn h)] g1 (fun g2 =>
kd g2 x0 = 2 ∧
∀ g5 : MH, g5 = wr g2 x0 5 (hn h) →
WM k_Closure_init p_Closure_init_5 [.ref x0] [] g5 ((cc + 1) + 2) ((ss + 2) + 12) Rt)))))) : WM k_Closure_init p_Closure_init_4 [.ref x0] [] h cc ss Rt := WM_at (hs := HH_Closure_init) G_Closure_init 36 24 rfl (gd_mono (a := (cc + 1)) (b := 13) (fun q => gd_mono (a := (ss + 2)) (b := 644) (fun q => ⟨(q _ rfl).1, gd_mono (a := ((cc + 1) + 2)) (b := 13) (fun q => gd_mono (a := ((ss + 2) + 12)) (b := 644) (fun q => SpV.mono q (fun g2 qg2 => ⟨qg2.1, (qg2.2 _ rfl)⟩)) q) ((q _ rfl).2)⟩) q) H)
set_option maxRecDepth 100000 in
set_option maxHeartbeats 4000000 in
theorem v_Closure_init_5 (x0 : Nat) (cc ss : Nat) (h : MH) (Rt : Value → MH → Prop) (H :
gd (cc + 1) 13 (
gd (ss + 2) 644 (
∀ g1 : MH, g1 = nw h 7 0 →
kd g1 (hn h) = 7 ∧
gd ((cc + 1) + 2) 13 (
gd ((ss + 2) + 12) 644 (
SpV k_Motion_init [.ref (hn h)] g1 (fun g2 =>
kd g2 x0 = 2 ∧
∀ g5 : MH, g5 = wr g2 x0 6 (hn h) →
WM k_Closure_init p_Closure_init_6 [Jv] [] g5 ((cc + 1) + 2) ((ss + 2) + 12) Rt)))))) : WM k_Closure_init p_Closure_init_5 [.ref x0] [] h cc ss Rt := WM_at (hs := HH_Closure_init) G_Closure_init 36 29 rfl (gd_mono (a := (cc + 1)) (b := 13) (fun q => gd_mono (a := (ss + 2)) (b := 644) (fun q => ⟨(q _ rfl).1, gd_mono (a := ((cc + 1) + 2)) (b := 13) (fun q => gd_mono (a := ((ss + 2) + 12)) (b := 644) (fun q => SpV.mono q (fun g2 qg2 => ⟨qg2.1, (qg2.2 _ rfl)⟩)) q) ((q _ rfl).2)⟩) q) H)
set_option maxRecDepth 100000 in
set_option maxHeartbeats 4000000 in
theorem v_Closure_init_6 (cc ss : Nat) (h : MH) (Rt : Value → MH → Prop) (H :
gd cc 13 (
gd ss 644 (
Rt .null h))) : WM k_Closure_init p_Closure_init_6 [Jv] [] h cc ss Rt := WM_at (hs := HH_Closure_init) G_Closure_init 36 34 rfl H
set_option maxRecDepth 100000 in
set_option maxHeartbeats 4000000 in
theorem v_Wave_init (x0 : Nat) (h : MH) (Rt : Value → MH → Prop) (H :
x0 ≠ 0 ∧
∀ g2 : MH, g2 = nw h 21 (ix (4 : Int32)) →
kd g2 x0 = 11 ∧
∀ g4 : MH, g4 = wr g2 x0 0 (hn h) →
WM k_Wave_init p_Wave_init_1 [.ref x0] [] g4 1 4 Rt) : Sp k_Wave_init [.ref x0] h Rt := Sp_intro2 (by decide) (by decide +kernel) rfl (Nat.le_of_ble_eq_true rfl) (WM_at (hs := HH_Wave_init) G_Wave_init 20 0 rfl ⟨H.1, ⟨(by decide), ⟨(H.2 _ rfl).1, ((H.2 _ rfl).2 _ rfl)⟩⟩⟩)
set_option maxRecDepth 100000 in
set_option maxHeartbeats 4000000 in
theorem v_Wave_init_1 (x0 : Nat) (cc ss : Nat) (h : MH) (Rt : Value → MH → Prop) (H :
gd (cc + 1) 4 (
gd (ss + ix (4 : Int32)) 36 (
∀ g1 : MH, g1 = nw h 21 (ix (4 : Int32)) →
kd g1 x0 = 11 ∧
∀ g3 : MH, g3 = wr g1 x0 1 (hn h) →
WM k_Wave_init p_Wave_init_2 [.ref x0] [] g3 (cc + 1) (ss + ix (4 : Int32)) Rt))) : WM k_Wave_init p_Wave_init_1 [.ref x0] [] h cc ss Rt := WM_at (hs := HH_Wave_init) G_Wave_init 20 6 rfl ⟨(by decide), gd_mono (a := (cc + 1)) (b := 4) (fun q => gd_mono (a := (ss + ix (4 : Int32))) (b := 36) (fun q => ⟨(q _ rfl).1, ((q _ rfl).2 _ rfl)⟩) q) H⟩
set_option maxRecDepth 100000 in
set_option maxHeartbeats 4000000 in
theorem v_Wave_init_2 (x0 : Nat) (cc ss : Nat) (h : MH) (Rt : Value → MH → Prop) (H :
gd (cc + 1) 4 (
gd (ss + ix (4 : Int32)) 36 (
∀ g1 : MH, g1 = nw h 21 (ix (4 : Int32)) →
kd g1 x0 = 11 ∧
∀ g3 : MH, g3 = wr g1 x0 2 (hn h) →
WM k_Wave_init p_Wave_init_3 [.ref x0] [] g3 (cc + 1) (ss + ix (4 : Int32)) Rt))) : WM k_Wave_init p_Wave_init_2 [.ref x0] [] h cc ss Rt := WM_at (hs := HH_Wave_init) G_Wave_init 20 10 rfl ⟨(by decide), gd_mono (a := (cc + 1)) (b := 4) (fun q => gd_mono (a := (ss + ix (4 : Int32))) (b := 36) (fun q => ⟨(q _ rfl).1, ((q _ rfl).2 _ rfl)⟩) q) H⟩
set_option maxRecDepth 100000 in
set_option maxHeartbeats 4000000 in
theorem v_Wave_init_3 (x0 : Nat) (cc ss : Nat) (h : MH) (Rt : Value → MH → Prop) (H :
gd (cc + 1) 4 (
gd (ss + ix (24 : Int32)) 36 (
∀ g1 : MH, g1 = nw h 20 (ix (24 : Int32)) →
kd g1 x0 = 11 ∧
∀ g3 : MH, g3 = wr g1 x0 3 (hn h) →
WM k_Wave_init p_Wave_init_4 [Jv] [] g3 (cc + 1) (ss + ix (24 : Int32)) Rt))) : WM k_Wave_init p_Wave_init_3 [.ref x0] [] h cc ss Rt := WM_at (hs := HH_Wave_init) G_Wave_init 20 14 rfl ⟨(by decide), gd_mono (a := (cc + 1)) (b := 4) (fun q => gd_mono (a := (ss + ix (24 : Int32))) (b := 36) (fun q => ⟨(q _ rfl).1, ((q _ rfl).2 _ rfl)⟩) q) H⟩
set_option maxRecDepth 100000 in
set_option maxHeartbeats 4000000 in
theorem v_Wave_init_4 (cc ss : Nat) (h : MH) (Rt : Value → MH → Prop) (H :
gd cc 4 (
gd ss 36 (
Rt .null h))) : WM k_Wave_init p_Wave_init_4 [Jv] [] h cc ss Rt := WM_at (hs := HH_Wave_init) G_Wave_init 20 18 rfl H
set_option maxRecDepth 100000 in
set_option maxHeartbeats 4000000 in
theorem v_Phases_init (x0 : Nat) (h : MH) (Rt : Value → MH → Prop) (H :
x0 ≠ 0 ∧
∀ g2 : MH, g2 = nw h 20 (ix (40 : Int32)) →
kd g2 x0 = 8 ∧
∀ g4 : MH, g4 = wr g2 x0 0 (hn h) →
WM k_Phases_init p_Phases_init_1 [.ref x0] [] g4 1 40 Rt) : Sp k_Phases_init [.ref x0] h Rt := Sp_intro2 (by decide) (by decide +kernel) rfl (Nat.le_of_ble_eq_true rfl) (WM_at (hs := HH_Phases_init) G_Phases_init 25 0 rfl ⟨H.1, ⟨(by decide), ⟨(H.2 _ rfl).1, ((H.2 _ rfl).2 _ rfl)⟩⟩⟩)
set_option maxRecDepth 100000 in
set_option maxHeartbeats 4000000 in
theorem v_Phases_init_1 (x0 : Nat) (cc ss : Nat) (h : MH) (Rt : Value → MH → Prop) (H :
gd (cc + 1) 3 (
gd (ss + ix (40 : Int32)) 120 (
∀ g1 : MH, g1 = nw h 20 (ix (40 : Int32)) →
kd g1 x0 = 8 ∧
∀ g3 : MH, g3 = wr g1 x0 1 (hn h) →
WM k_Phases_init p_Phases_init_2 [.ref x0] [] g3 (cc + 1) (ss + ix (40 : Int32)) Rt))) : WM k_Phases_init p_Phases_init_1 [.ref x0] [] h cc ss Rt := WM_at (hs := HH_Phases_init) G_Phases_init 25 6 rfl ⟨(by decide), gd_mono (a := (cc + 1)) (b := 3) (fun q => gd_mono (a := (ss + ix (40 : Int32))) (b := 120) (fun q => ⟨(q _ rfl).1, ((q _ rfl).2 _ rfl)⟩) q) H⟩
set_option maxRecDepth 100000 in
set_option maxHeartbeats 4000000 in
theorem v_Phases_init_2 (x0 : Nat) (cc ss : Nat) (h : MH) (Rt : Value → MH → Prop) (H :
gd (cc + 1) 3 (
gd (ss + ix (40 : Int32)) 120 (
∀ g1 : MH, g1 = nw h 21 (ix (40 : Int32)) →
kd g1 x0 = 8 ∧
∀ g3 : MH, g3 = wr g1 x0 2 (hn h) →
WM k_Phases_init p_Phases_init_3 [.ref x0] [] g3 (cc + 1) (ss + ix (40 : Int32)) Rt))) : WM k_Phases_init p_Phases_init_2 [.ref x0] [] h cc ss Rt := WM_at (hs := HH_Phases_init) G_Phases_init 25 10 rfl ⟨(by decide), gd_mono (a := (cc + 1)) (b := 3) (fun q => gd_mono (a := (ss + ix (40 : Int32))) (b := 120) (fun q => ⟨(q _ rfl).1, ((q _ rfl).2 _ rfl)⟩) q) H⟩
set_option maxRecDepth 100000 in
set_option maxHeartbeats 4000000 in
theorem v_Phases_init_3 (x0 : Nat) (cc ss : Nat) (h : MH) (Rt : Value → MH → Prop) (H :
kd h x0 = 8 ∧
∀ g2 : MH, g2 = wi h x0 3 (0 : Int32) →
∀ g3 : MH, g3 = wl g2 x0 4 (0 : Int64) →
WM k_Phases_init p_Phases_init_4 [.ref x0] [] g3 cc ss Rt) : WM k_Phases_init p_Phases_init_3 [.ref x0] [] h cc ss Rt := WM_at (hs := HH_Phases_init) G_Phases_init 25 14 rfl ⟨H.1, ⟨H.1, ((H.2 _ rfl) _ rfl)⟩⟩
set_option maxRecDepth 100000 in
set_option maxHeartbeats 4000000 in
theorem v_Phases_init_4 (x0 : Nat) (cc ss : Nat) (h : MH) (Rt : Value → MH → Prop) (H :
kd h x0 = 8 ∧
∀ g2 : MH, g2 = wl h x0 5 (1 : Int64) →
gd cc 3 (
gd ss 120 (
Rt .null g2))) : WM k_Phases_init p_Phases_init_4 [.ref x0] [] h cc ss Rt := WM_at (hs := HH_Phases_init) G_Phases_init 25 20 rfl ⟨H.1, (H.2 _ rfl)⟩
set_option maxRecDepth 100000 in
set_option maxHeartbeats 4000000 in
theorem v_Ho_init (x0 : Nat) (h : MH) (Rt : Value → MH → Prop) (H :
x0 ≠ 0 ∧
∀ g2 : MH, g2 = nw h 10 0 →
kd g2 (hn h) = 10 ∧
SpV k_Scribe_init [.ref (hn h)] g2 (fun g3 =>
kd g3 x0 = 12 ∧
∀ g6 : MH, g6 = wr g3 x0 0 (hn h) →
WM k_Ho_init p_Ho_init_1 [.ref x0] [] g6 7 191 Rt)) : Sp k_Ho_init [.ref x0] h Rt := Sp_intro2 (by decide) (by decide +kernel) rfl (Nat.le_of_ble_eq_true rfl) (WM_at (hs := HH_Ho_init) G_Ho_init 85 0 rfl ⟨H.1, ⟨(H.2 _ rfl).1, SpV.mono ((H.2 _ rfl).2) (fun g3 qg3 => ⟨qg3.1, (qg3.2 _ rfl)⟩)⟩⟩)
set_option maxRecDepth 100000 in
set_option maxHeartbeats 4000000 in
theorem v_Ho_init_1 (x0 : Nat) (cc ss : Nat) (h : MH) (Rt : Value → MH → Prop) (H :
gd (cc + 1) 48 (
gd (ss + ix (40 : Int32)) 2036 (
∀ g1 : MH, g1 = nw h 20 (ix (40 : Int32)) →
kd g1 x0 = 12 ∧
∀ g3 : MH, g3 = wr g1 x0 1 (hn h) →
WM k_Ho_init p_Ho_init_2 [.ref x0] [] g3 (cc + 1) (ss + ix (40 : Int32)) Rt))) : WM k_Ho_init p_Ho_init_1 [.ref x0] [] h cc ss Rt := WM_at (hs := HH_Ho_init) G_Ho_init 85 7 rfl ⟨(by decide), gd_mono (a := (cc + 1)) (b := 48) (fun q => gd_mono (a := (ss + ix (40 : Int32))) (b := 2036) (fun q => ⟨(q _ rfl).1, ((q _ rfl).2 _ rfl)⟩) q) H⟩
set_option maxRecDepth 100000 in
set_option maxHeartbeats 4000000 in
theorem v_Ho_init_2 (x0 : Nat) (cc ss : Nat) (h : MH) (Rt : Value → MH → Prop) (H :
gd (cc + 1) 48 (
gd (ss + ix (40 : Int32)) 2036 (
∀ g1 : MH, g1 = nw h 22 (ix (40 : Int32)) →
kd g1 x0 = 12 ∧
∀ g3 : MH, g3 = wr g1 x0 2 (hn h) →
WM k_Ho_init p_Ho_init_3 [.ref x0] [] g3 (cc + 1) (ss + ix (40 : Int32)) Rt))) : WM k_Ho_init p_Ho_init_2 [.ref x0] [] h cc ss Rt := WM_at (hs := HH_Ho_init) G_Ho_init 85 11 rfl ⟨(by decide), gd_mono (a := (cc + 1)) (b := 48) (fun q => gd_mono (a := (ss + ix (40 : Int32))) (b := 2036) (fun q => ⟨(q _ rfl).1, ((q _ rfl).2 _ rfl)⟩) q) H⟩
set_option maxRecDepth 100000 in
set_option maxHeartbeats 4000000 in
theorem v_Ho_init_3 (x0 : Nat) (cc ss : Nat) (h : MH) (Rt : Value → MH → Prop) (H :
kd h x0 = 12 ∧
∀ g2 : MH, g2 = wi h x0 3 (0 : Int32) →
gd (cc + 1) 48 (
gd (ss + 7) 2036 (
∀ g3 : MH, g3 = nw g2 2 0 →
kd g3 (hn h) = 2 ∧
gd ((cc + 1) + 13) 48 (
gd ((ss + 7) + 644) 2036 (
SpV k_Closure_init [.ref (hn h)] g3 (fun g4 =>
kd g4 x0 = 12 ∧
∀ g7 : MH, g7 = wr g4 x0 4 (hn h) →
WM k_Ho_init p_Ho_init_4 [.ref x0] [] g7 ((cc + 1) + 13) ((ss + 7) + 644) Rt)))))) : WM k_Ho_init p_Ho_init_3 [.ref x0] [] h cc ss Rt := WM_at (hs := HH_Ho_init) G_Ho_init 85 15 rfl ⟨H.1, gd_mono (a := (cc + 1)) (b := 48) (fun q => gd_mono (a := (ss + 7)) (b := 2036) (fun q => ⟨(q _ rfl).1, gd_mono (a := ((cc + 1) + 13)) (b := 48) (fun q => gd_mono (a := ((ss + 7) + 644)) (b := 2036) (fun q => SpV.mono q (fun g4 qg4 => ⟨qg4.1, (qg4.2 _ rfl)⟩)) q) ((q _ rfl).2)⟩) q) (H.2 _ rfl)⟩
set_option maxRecDepth 100000 in
set_option maxHeartbeats 4000000 in
theorem v_Ho_init_4 (x0 : Nat) (cc ss : Nat) (h : MH) (Rt : Value → MH → Prop) (H :
gd (cc + 1) 48 (
gd (ss + ix (60 : Int32)) 2036 (
∀ g1 : MH, g1 = nw h 24 (ix (60 : Int32)) →
kd g1 x0 = 12 ∧
∀ g3 : MH, g3 = wr g1 x0 5 (hn h) →
WM k_Ho_init p_Ho_init_5 [.ref x0] [] g3 (cc + 1) (ss + ix (60 : Int32)) Rt))) : WM k_Ho_init p_Ho_init_4 [.ref x0] [] h cc ss Rt := WM_at (hs := HH_Ho_init) G_Ho_init 85 23 rfl ⟨(by decide), gd_mono (a := (cc + 1)) (b := 48) (fun q => gd_mono (a := (ss + ix (60 : Int32))) (b := 2036) (fun q => ⟨(q _ rfl).1, ((q _ rfl).2 _ rfl)⟩) q) H⟩
set_option maxRecDepth 100000 in
set_option maxHeartbeats 4000000 in
theorem v_Ho_init_5 (x0 : Nat) (cc ss : Nat) (h : MH) (Rt : Value → MH → Prop) (H :
kd h x0 = 12 ∧
∀ g2 : MH, g2 = wi h x0 6 (0 : Int32) →
gd (cc + 1) 48 (
gd (ss + 2) 2036 (
∀ g3 : MH, g3 = nw g2 7 0 →
kd g3 (hn h) = 7 ∧
gd ((cc + 1) + 2) 48 (
gd ((ss + 2) + 12) 2036 (
SpV k_Motion_init [.ref (hn h)] g3 (fun g4 =>
kd g4 x0 = 12 ∧
∀ g7 : MH, g7 = wr g4 x0 7 (hn h) →
WM k_Ho_init p_Ho_init_6 [.ref x0] [] g7 ((cc + 1) + 2) ((ss + 2) + 12) Rt)))))) : WM k_Ho_init p_Ho_init_5 [.ref x0] [] h cc ss Rt := WM_at (hs := HH_Ho_init) G_Ho_init 85 27 rfl ⟨H.1, gd_mono (a := (cc + 1)) (b := 48) (fun q => gd_mono (a := (ss + 2)) (b := 2036) (fun q => ⟨(q _ rfl).1, gd_mono (a := ((cc + 1) + 2)) (b := 48) (fun q => gd_mono (a := ((ss + 2) + 12)) (b := 2036) (fun q => SpV.mono q (fun g4 qg4 => ⟨qg4.1, (qg4.2 _ rfl)⟩)) q) ((q _ rfl).2)⟩) q) (H.2 _ rfl)⟩
set_option maxRecDepth 100000 in
set_option maxHeartbeats 4000000 in
theorem v_Ho_init_6 (x0 : Nat) (cc ss : Nat) (h : MH) (Rt : Value → MH → Prop) (H :
gd (cc + 1) 48 (
gd (ss + 2) 2036 (
∀ g1 : MH, g1 = nw h 7 0 →
kd g1 (hn h) = 7 ∧
gd ((cc + 1) + 2) 48 (
gd ((ss + 2) + 12) 2036 (
SpV k_Motion_init [.ref (hn h)] g1 (fun g2 =>
kd g2 x0 = 12 ∧
∀ g5 : MH, g5 = wr g2 x0 8 (hn h) →
WM k_Ho_init p_Ho_init_7 [.ref x0] [] g5 ((cc + 1) + 2) ((ss + 2) + 12) Rt)))))) : WM k_Ho_init p_Ho_init_6 [.ref x0] [] h cc ss Rt := WM_at (hs := HH_Ho_init) G_Ho_init 85 35 rfl (gd_mono (a := (cc + 1)) (b := 48) (fun q => gd_mono (a := (ss + 2)) (b := 2036) (fun q => ⟨(q _ rfl).1, gd_mono (a := ((cc + 1) + 2)) (b := 48) (fun q => gd_mono (a := ((ss + 2) + 12)) (b := 2036) (fun q => SpV.mono q (fun g2 qg2 => ⟨qg2.1, (qg2.2 _ rfl)⟩)) q) ((q _ rfl).2)⟩) q) H)
set_option maxRecDepth 100000 in
set_option maxHeartbeats 4000000 in
theorem v_Ho_init_7 (x0 : Nat) (cc ss : Nat) (h : MH) (Rt : Value → MH → Prop) (H :
gd (cc + 1) 48 (
gd (ss + 2) 2036 (
∀ g1 : MH, g1 = nw h 7 0 →
kd g1 (hn h) = 7 ∧
gd ((cc + 1) + 2) 48 (
gd ((ss + 2) + 12) 2036 (
SpV k_Motion_init [.ref (hn h)] g1 (fun g2 =>
kd g2 x0 = 12 ∧
∀ g5 : MH, g5 = wr g2 x0 9 (hn h) →
WM k_Ho_init p_Ho_init_8 [.ref x0] [] g5 ((cc + 1) + 2) ((ss + 2) + 12) Rt)))))) : WM k_Ho_init p_Ho_init_7 [.ref x0] [] h cc ss Rt := WM_at (hs := HH_Ho_init) G_Ho_init 85 40 rfl (gd_mono (a := (cc + 1)) (b := 48) (fun q => gd_mono (a := (ss + 2)) (b := 2036) (fun q => ⟨(q _ rfl).1, gd_mono (a := ((cc + 1) + 2)) (b := 48) (fun q => gd_mono (a := ((ss + 2) + 12)) (b := 2036) (fun q => SpV.mono q (fun g2 qg2 => ⟨qg2.1, (qg2.2 _ rfl)⟩)) q) ((q _ rfl).2)⟩) q) H)
set_option maxRecDepth 100000 in
set_option maxHeartbeats 4000000 in
theorem v_Ho_init_8 (x0 : Nat) (cc ss : Nat) (h : MH) (Rt : Value → MH → Prop) (H :
gd (cc + 1) 48 (
gd (ss + 2) 2036 (
∀ g1 : MH, g1 = nw h 9 0 →
kd g1 (hn h) = 9 ∧
gd ((cc + 1) + 1) 48 (
gd ((ss + 2) + 400) 2036 (
SpV k_Row_init [.ref (hn h), .int (384 : Int32)] g1 (fun g2 =>
kd g2 x0 = 12 ∧
∀ g5 : MH, g5 = wr g2 x0 10 (hn h) →
WM k_Ho_init p_Ho_init_9 [.ref x0] [] g5 ((cc + 1) + 1) ((ss + 2) + 400) Rt)))))) : WM k_Ho_init p_Ho_init_8 [.ref x0] [] h cc ss Rt := WM_at (hs := HH_Ho_init) G_Ho_init 85 45 rfl (gd_mono (a := (cc + 1)) (b := 48) (fun q => gd_mono (a := (ss + 2)) (b := 2036) (fun q => ⟨(q _ rfl).1, gd_mono (a := ((cc + 1) + 1)) (b := 48) (fun q => gd_mono (a := ((ss + 2) + 400)) (b := 2036) (fun q => SpV.mono q (fun g2 qg2 => ⟨qg2.1, (qg2.2 _ rfl)⟩)) q) ((q _ rfl).2)⟩) q) H)
set_option maxRecDepth 100000 in
set_option maxHeartbeats 4000000 in
theorem v_Ho_init_9 (x0 : Nat) (cc ss : Nat) (h : MH) (Rt : Value → MH → Prop) (H :
gd (cc + 1) 48 (
gd (ss + ix (192 : Int32)) 2036 (
∀ g1 : MH, g1 = nw h 20 (ix (192 : Int32)) →
kd g1 x0 = 12 ∧
∀ g3 : MH, g3 = wr g1 x0 11 (hn h) →
WM k_Ho_init p_Ho_init_10 [.ref x0] [] g3 (cc + 1) (ss + ix (192 : Int32)) Rt))) : WM k_Ho_init p_Ho_init_9 [.ref x0] [] h cc ss Rt := WM_at (hs := HH_Ho_init) G_Ho_init 85 51 rfl ⟨(by decide), gd_mono (a := (cc + 1)) (b := 48) (fun q => gd_mono (a := (ss + ix (192 : Int32))) (b := 2036) (fun q => ⟨(q _ rfl).1, ((q _ rfl).2 _ rfl)⟩) q) H⟩
set_option maxRecDepth 100000 in
set_option maxHeartbeats 4000000 in
theorem v_Ho_init_10 (x0 : Nat) (cc ss : Nat) (h : MH) (Rt : Value → MH → Prop) (H :
gd (cc + 1) 48 (
gd (ss + ix (192 : Int32)) 2036 (
∀ g1 : MH, g1 = nw h 20 (ix (192 : Int32)) →
kd g1 x0 = 12 ∧
∀ g3 : MH, g3 = wr g1 x0 12 (hn h) →
WM k_Ho_init p_Ho_init_11 [.ref x0] [] g3 (cc + 1) (ss + ix (192 : Int32)) Rt))) : WM k_Ho_init p_Ho_init_10 [.ref x0] [] h cc ss Rt := WM_at (hs := HH_Ho_init) G_Ho_init 85 55 rfl ⟨(by decide), gd_mono (a := (cc + 1)) (b := 48) (fun q => gd_mono (a := (ss + ix (192 : Int32))) (b := 2036) (fun q => ⟨(q _ rfl).1, ((q _ rfl).2 _ rfl)⟩) q) H⟩
set_option maxRecDepth 100000 in
set_option maxHeartbeats 4000000 in
theorem v_Ho_init_11 (x0 : Nat) (cc ss : Nat) (h : MH) (Rt : Value → MH → Prop) (H :
gd (cc + 1) 48 (
gd (ss + ix (40 : Int32)) 2036 (
∀ g1 : MH, g1 = nw h 25 (ix (40 : Int32)) →
kd g1 x0 = 12 ∧
∀ g3 : MH, g3 = wr g1 x0 13 (hn h) →
WM k_Ho_init p_Ho_init_12 [.ref x0] [] g3 (cc + 1) (ss + ix (40 : Int32)) Rt))) : WM k_Ho_init p_Ho_init_11 [.ref x0] [] h cc ss Rt := WM_at (hs := HH_Ho_init) G_Ho_init 85 59 rfl ⟨(by decide), gd_mono (a := (cc + 1)) (b := 48) (fun q => gd_mono (a := (ss + ix (40 : Int32))) (b := 2036) (fun q => ⟨(q _ rfl).1, ((q _ rfl).2 _ rfl)⟩) q) H⟩
set_option maxRecDepth 100000 in
set_option maxHeartbeats 4000000 in
theorem v_Ho_init_12 (x0 : Nat) (cc ss : Nat) (h : MH) (Rt : Value → MH → Prop) (H :
kd h x0 = 12 ∧
∀ g2 : MH, g2 = wi h x0 14 (0 : Int32) →
gd (cc + 1) 48 (
gd (ss + ix (20 : Int32)) 2036 (
∀ g3 : MH, g3 = nw g2 26 (ix (20 : Int32)) →
kd g3 x0 = 12 ∧
∀ g5 : MH, g5 = wr g3 x0 15 (hn h) →
WM k_Ho_init p_Ho_init_13 [.ref x0] [] g5 (cc + 1) (ss + ix (20 : Int32)) Rt))) : WM k_Ho_init p_Ho_init_12 [.ref x0] [] h cc ss Rt := WM_at (hs := HH_Ho_init) G_Ho_init 85 63 rfl ⟨H.1, ⟨(by decide), gd_mono (a := (cc + 1)) (b := 48) (fun q => gd_mono (a := (ss + ix (20 : Int32))) (b := 2036) (fun q => ⟨(q _ rfl).1, ((q _ rfl).2 _ rfl)⟩) q) (H.2 _ rfl)⟩⟩
set_option maxRecDepth 100000 in
set_option maxHeartbeats 4000000 in
theorem v_Ho_init_13 (x0 : Nat) (cc ss : Nat) (h : MH) (Rt : Value → MH → Prop) (H :
kd h x0 = 12 ∧
∀ g2 : MH, g2 = wi h x0 16 (0 : Int32) →
gd (cc + 1) 48 (
gd (ss + 4) 2036 (
∀ g3 : MH, g3 = nw g2 11 0 →
kd g3 (hn h) = 11 ∧
gd ((cc + 1) + 4) 48 (
gd ((ss + 4) + 36) 2036 (
SpV k_Wave_init [.ref (hn h)] g3 (fun g4 =>
kd g4 x0 = 12 ∧
∀ g7 : MH, g7 = wr g4 x0 17 (hn h) →
WM k_Ho_init p_Ho_init_14 [.ref x0] [] g7 ((cc + 1) + 4) ((ss + 4) + 36) Rt)))))) : WM k_Ho_init p_Ho_init_13 [.ref x0] [] h cc ss Rt := WM_at (hs := HH_Ho_init) G_Ho_init 85 70 rfl ⟨H.1, gd_mono (a := (cc + 1)) (b := 48) (fun q => gd_mono (a := (ss + 4)) (b := 2036) (fun q => ⟨(q _ rfl).1, gd_mono (a := ((cc + 1) + 4)) (b := 48) (fun q => gd_mono (a := ((ss + 4) + 36)) (b := 2036) (fun q => SpV.mono q (fun g4 qg4 => ⟨qg4.1, (qg4.2 _ rfl)⟩)) q) ((q _ rfl).2)⟩) q) (H.2 _ rfl)⟩
set_option maxRecDepth 100000 in
set_option maxHeartbeats 4000000 in
theorem v_Ho_init_14 (x0 : Nat) (cc ss : Nat) (h : MH) (Rt : Value → MH → Prop) (H :
gd (cc + 1) 48 (
gd (ss + 6) 2036 (
∀ g1 : MH, g1 = nw h 8 0 →
kd g1 (hn h) = 8 ∧
gd ((cc + 1) + 3) 48 (
gd ((ss + 6) + 120) 2036 (
SpV k_Phases_init [.ref (hn h)] g1 (fun g2 =>
kd g2 x0 = 12 ∧
∀ g5 : MH, g5 = wr g2 x0 18 (hn h) →
WM k_Ho_init p_Ho_init_15 [Jv] [] g5 ((cc + 1) + 3) ((ss + 6) + 120) Rt)))))) : WM k_Ho_init p_Ho_init_14 [.ref x0] [] h cc ss Rt := WM_at (hs := HH_Ho_init) G_Ho_init 85 78 rfl (gd_mono (a := (cc + 1)) (b := 48) (fun q => gd_mono (a := (ss + 6)) (b := 2036) (fun q => ⟨(q _ rfl).1, gd_mono (a := ((cc + 1) + 3)) (b := 48) (fun q => gd_mono (a := ((ss + 6) + 120)) (b := 2036) (fun q => SpV.mono q (fun g2 qg2 => ⟨qg2.1, (qg2.2 _ rfl)⟩)) q) ((q _ rfl).2)⟩) q) H)
set_option maxRecDepth 100000 in
set_option maxHeartbeats 4000000 in
theorem v_Ho_init_15 (cc ss : Nat) (h : MH) (Rt : Value → MH → Prop) (H :
gd cc 48 (
gd ss 2036 (
Rt .null h))) : WM k_Ho_init p_Ho_init_15 [Jv] [] h cc ss Rt := WM_at (hs := HH_Ho_init) G_Ho_init 85 83 rfl H
set_option maxRecDepth 100000 in
set_option maxHeartbeats 4000000 in
theorem v_Ref_init (x0 : Nat) (h : MH) (Rt : Value → MH → Prop) (H :
x0 ≠ 0 ∧
∀ g2 : MH, g2 = nw h 20 (ix (40 : Int32)) →
kd g2 x0 = 13 ∧
∀ g4 : MH, g4 = wr g2 x0 0 (hn h) →
WM k_Ref_init p_Ref_init_1 [.ref x0] [] g4 1 40 Rt) : Sp k_Ref_init [.ref x0] h Rt := Sp_intro2 (by decide) (by decide +kernel) rfl (Nat.le_of_ble_eq_true rfl) (WM_at (hs := HH_Ref_init) G_Ref_init 189 0 rfl ⟨H.1, ⟨(by decide), ⟨(H.2 _ rfl).1, ((H.2 _ rfl).2 _ rfl)⟩⟩⟩)
set_option maxRecDepth 100000 in
set_option maxHeartbeats 4000000 in
theorem v_Ref_init_1 (x0 : Nat) (cc ss : Nat) (h : MH) (Rt : Value → MH → Prop) (H :
gd (cc + 1) 44 (
gd (ss + ix (40 : Int32)) 108127 (
∀ g1 : MH, g1 = nw h 20 (ix (40 : Int32)) →
kd g1 x0 = 13 ∧
∀ g3 : MH, g3 = wr g1 x0 2 (hn h) →
WM k_Ref_init p_Ref_init_2 [.ref x0] [] g3 (cc + 1) (ss + ix (40 : Int32)) Rt))) : WM k_Ref_init p_Ref_init_1 [.ref x0] [] h cc ss Rt := WM_at (hs := HH_Ref_init) G_Ref_init 189 6 rfl ⟨(by decide), gd_mono (a := (cc + 1)) (b := 44) (fun q => gd_mono (a := (ss + ix (40 : Int32))) (b := 108127) (fun q => ⟨(q _ rfl).1, ((q _ rfl).2 _ rfl)⟩) q) H⟩
set_option maxRecDepth 100000 in
set_option maxHeartbeats 4000000 in
theorem v_Ref_init_2 (x0 : Nat) (cc ss : Nat) (h : MH) (Rt : Value → MH → Prop) (H :
gd (cc + 1) 44 (
gd (ss + ix (9 : Int32)) 108127 (
∀ g1 : MH, g1 = nw h 20 (ix (9 : Int32)) →
kd g1 x0 = 13 ∧
∀ g3 : MH, g3 = wr g1 x0 3 (hn h) →
WM k_Ref_init p_Ref_init_3 [.ref x0] [] g3 (cc + 1) (ss + ix (9 : Int32)) Rt))) : WM k_Ref_init p_Ref_init_2 [.ref x0] [] h cc ss Rt := WM_at (hs := HH_Ref_init) G_Ref_init 189 10 rfl ⟨(by decide), gd_mono (a := (cc + 1)) (b := 44) (fun q => gd_mono (a := (ss + ix (9 : Int32))) (b := 108127) (fun q => ⟨(q _ rfl).1, ((q _ rfl).2 _ rfl)⟩) q) H⟩
set_option maxRecDepth 100000 in
set_option maxHeartbeats 4000000 in
theorem v_Ref_init_3 (x0 : Nat) (cc ss : Nat) (h : MH) (Rt : Value → MH → Prop) (H :
gd (cc + 1) 44 (
gd (ss + ix (3 : Int32)) 108127 (
∀ g1 : MH, g1 = nw h 20 (ix (3 : Int32)) →
kd g1 x0 = 13 ∧
∀ g3 : MH, g3 = wr g1 x0 4 (hn h) →
WM k_Ref_init p_Ref_init_4 [.ref x0] [] g3 (cc + 1) (ss + ix (3 : Int32)) Rt))) : WM k_Ref_init p_Ref_init_3 [.ref x0] [] h cc ss Rt := WM_at (hs := HH_Ref_init) G_Ref_init 189 14 rfl ⟨(by decide), gd_mono (a := (cc + 1)) (b := 44) (fun q => gd_mono (a := (ss + ix (3 : Int32))) (b := 108127) (fun q => ⟨(q _ rfl).1, ((q _ rfl).2 _ rfl)⟩) q) H⟩
set_option maxRecDepth 100000 in
set_option maxHeartbeats 4000000 in
theorem v_Ref_init_4 (x0 : Nat) (cc ss : Nat) (h : MH) (Rt : Value → MH → Prop) (H :
gd (cc + 1) 44 (
gd (ss + ix (9 : Int32)) 108127 (
∀ g1 : MH, g1 = nw h 20 (ix (9 : Int32)) →
kd g1 x0 = 13 ∧
∀ g3 : MH, g3 = wr g1 x0 5 (hn h) →
WM k_Ref_init p_Ref_init_5 [.ref x0] [] g3 (cc + 1) (ss + ix (9 : Int32)) Rt))) : WM k_Ref_init p_Ref_init_4 [.ref x0] [] h cc ss Rt := WM_at (hs := HH_Ref_init) G_Ref_init 189 18 rfl ⟨(by decide), gd_mono (a := (cc + 1)) (b := 44) (fun q => gd_mono (a := (ss + ix (9 : Int32))) (b := 108127) (fun q => ⟨(q _ rfl).1, ((q _ rfl).2 _ rfl)⟩) q) H⟩
set_option maxRecDepth 100000 in
set_option maxHeartbeats 4000000 in
theorem v_Ref_init_5 (x0 : Nat) (cc ss : Nat) (h : MH) (Rt : Value → MH → Prop) (H :
gd (cc + 1) 44 (
gd (ss + ix (3 : Int32)) 108127 (
∀ g1 : MH, g1 = nw h 20 (ix (3 : Int32)) →
kd g1 x0 = 13 ∧
∀ g3 : MH, g3 = wr g1 x0 6 (hn h) →
WM k_Ref_init p_Ref_init_6 [.ref x0] [] g3 (cc + 1) (ss + ix (3 : Int32)) Rt))) : WM k_Ref_init p_Ref_init_5 [.ref x0] [] h cc ss Rt := WM_at (hs := HH_Ref_init) G_Ref_init 189 22 rfl ⟨(by decide), gd_mono (a := (cc + 1)) (b := 44) (fun q => gd_mono (a := (ss + ix (3 : Int32))) (b := 108127) (fun q => ⟨(q _ rfl).1, ((q _ rfl).2 _ rfl)⟩) q) H⟩
set_option maxRecDepth 100000 in
set_option maxHeartbeats 4000000 in
theorem v_Ref_init_6 (x0 : Nat) (cc ss : Nat) (h : MH) (Rt : Value → MH → Prop) (H :
gd (cc + 1) 44 (
gd (ss + ix (20 : Int32)) 108127 (
∀ g1 : MH, g1 = nw h 20 (ix (20 : Int32)) →
kd g1 x0 = 13 ∧
∀ g3 : MH, g3 = wr g1 x0 7 (hn h) →
WM k_Ref_init p_Ref_init_7 [.ref x0] [] g3 (cc + 1) (ss + ix (20 : Int32)) Rt))) : WM k_Ref_init p_Ref_init_6 [.ref x0] [] h cc ss Rt := WM_at (hs := HH_Ref_init) G_Ref_init 189 26 rfl ⟨(by decide), gd_mono (a := (cc + 1)) (b := 44) (fun q => gd_mono (a := (ss + ix (20 : Int32))) (b := 108127) (fun q => ⟨(q _ rfl).1, ((q _ rfl).2 _ rfl)⟩) q) H⟩
set_option maxRecDepth 100000 in
set_option maxHeartbeats 4000000 in
theorem v_Ref_init_7 (x0 : Nat) (cc ss : Nat) (h : MH) (Rt : Value → MH → Prop) (H :
gd (cc + 1) 44 (
gd (ss + ix (100 : Int32)) 108127 (
∀ g1 : MH, g1 = nw h 20 (ix (100 : Int32)) →
kd g1 x0 = 13 ∧
∀ g3 : MH, g3 = wr g1 x0 8 (hn h) →
WM k_Ref_init p_Ref_init_8 [.ref x0] [] g3 (cc + 1) (ss + ix (100 : Int32)) Rt))) : WM k_Ref_init p_Ref_init_7 [.ref x0] [] h cc ss Rt := WM_at (hs := HH_Ref_init) G_Ref_init 189 30 rfl ⟨(by decide), gd_mono (a := (cc + 1)) (b := 44) (fun q => gd_mono (a := (ss + ix (100 : Int32))) (b := 108127) (fun q => ⟨(q _ rfl).1, ((q _ rfl).2 _ rfl)⟩) q) H⟩
set_option maxRecDepth 100000 in
set_option maxHeartbeats 4000000 in
theorem v_Ref_init_8 (x0 : Nat) (cc ss : Nat) (h : MH) (Rt : Value → MH → Prop) (H :
kd h x0 = 13 ∧
∀ g2 : MH, g2 = wi h x0 11 (-1 : Int32) →
gd (cc + 1) 44 (
gd (ss + ix (60 : Int32)) 108127 (
∀ g3 : MH, g3 = nw g2 20 (ix (60 : Int32)) →
kd g3 x0 = 13 ∧
∀ g5 : MH, g5 = wr g3 x0 13 (hn h) →
WM k_Ref_init p_Ref_init_9 [.ref x0] [] g5 (cc + 1) (ss + ix (60 : Int32)) Rt))) : WM k_Ref_init p_Ref_init_8 [.ref x0] [] h cc ss Rt := WM_at (hs := HH_Ref_init) G_Ref_init 189 34 rfl ⟨H.1, ⟨(by decide), gd_mono (a := (cc + 1)) (b := 44) (fun q => gd_mono (a := (ss + ix (60 : Int32))) (b := 108127) (fun q => ⟨(q _ rfl).1, ((q _ rfl).2 _ rfl)⟩) q) (H.2 _ rfl)⟩⟩
set_option maxRecDepth 100000 in
set_option maxHeartbeats 4000000 in
theorem v_Ref_init_9 (x0 : Nat) (cc ss : Nat) (h : MH) (Rt : Value → MH → Prop) (H :
gd (cc + 1) 44 (
gd (ss + ix (11520 : Int32)) 108127 (
∀ g1 : MH, g1 = nw h 20 (ix (11520 : Int32)) →
kd g1 x0 = 13 ∧
∀ g3 : MH, g3 = wr g1 x0 15 (hn h) →
WM k_Ref_init p_Ref_init_10 [.ref x0] [] g3 (cc + 1) (ss + ix (11520 : Int32)) Rt))) : WM k_Ref_init p_Ref_init_9 [.ref x0] [] h cc ss Rt := WM_at (hs := HH_Ref_init) G_Ref_init 189 41 rfl ⟨(by decide), gd_mono (a := (cc + 1)) (b := 44) (fun q => gd_mono (a := (ss + ix (11520 : Int32))) (b := 108127) (fun q => ⟨(q _ rfl).1, ((q _ rfl).2 _ rfl)⟩) q) H⟩
set_option maxRecDepth 100000 in
set_option maxHeartbeats 4000000 in
theorem v_Ref_init_10 (x0 : Nat) (cc ss : Nat) (h : MH) (Rt : Value → MH → Prop) (H :
gd (cc + 1) 44 (
gd (ss + ix (60 : Int32)) 108127 (
∀ g1 : MH, g1 = nw h 20 (ix (60 : Int32)) →
kd g1 x0 = 13 ∧
∀ g3 : MH, g3 = wr g1 x0 16 (hn h) →
WM k_Ref_init p_Ref_init_11 [.ref x0] [] g3 (cc + 1) (ss + ix (60 : Int32)) Rt))) : WM k_Ref_init p_Ref_init_10 [.ref x0] [] h cc ss Rt := WM_at (hs := HH_Ref_init) G_Ref_init 189 45 rfl ⟨(by decide), gd_mono (a := (cc + 1)) (b := 44) (fun q => gd_mono (a := (ss + ix (60 : Int32))) (b := 108127) (fun q => ⟨(q _ rfl).1, ((q _ rfl).2 _ rfl)⟩) q) H⟩
set_option maxRecDepth 100000 in
set_option maxHeartbeats 4000000 in
theorem v_Ref_init_11 (x0 : Nat) (cc ss : Nat) (h : MH) (Rt : Value → MH → Prop) (H :
gd (cc + 1) 44 (
gd (ss + ix (200 : Int32)) 108127 (
∀ g1 : MH, g1 = nw h 20 (ix (200 : Int32)) →
kd g1 x0 = 13 ∧
∀ g3 : MH, g3 = wr g1 x0 18 (hn h) →
WM k_Ref_init p_Ref_init_12 [.ref x0] [] g3 (cc + 1) (ss + ix (200 : Int32)) Rt))) : WM k_Ref_init p_Ref_init_11 [.ref x0] [] h cc ss Rt := WM_at (hs := HH_Ref_init) G_Ref_init 189 49 rfl ⟨(by decide), gd_mono (a := (cc + 1)) (b := 44) (fun q => gd_mono (a := (ss + ix (200 : Int32))) (b := 108127) (fun q => ⟨(q _ rfl).1, ((q _ rfl).2 _ rfl)⟩) q) H⟩
set_option maxRecDepth 100000 in
set_option maxHeartbeats 4000000 in
theorem v_Ref_init_12 (x0 : Nat) (cc ss : Nat) (h : MH) (Rt : Value → MH → Prop) (H :
gd (cc + 1) 44 (
gd (ss + ix (60 : Int32)) 108127 (
∀ g1 : MH, g1 = nw h 20 (ix (60 : Int32)) →
kd g1 x0 = 13 ∧
∀ g3 : MH, g3 = wr g1 x0 20 (hn h) →
WM k_Ref_init p_Ref_init_13 [.ref x0] [] g3 (cc + 1) (ss + ix (60 : Int32)) Rt))) : WM k_Ref_init p_Ref_init_12 [.ref x0] [] h cc ss Rt := WM_at (hs := HH_Ref_init) G_Ref_init 189 53 rfl ⟨(by decide), gd_mono (a := (cc + 1)) (b := 44) (fun q => gd_mono (a := (ss + ix (60 : Int32))) (b := 108127) (fun q => ⟨(q _ rfl).1, ((q _ rfl).2 _ rfl)⟩) q) H⟩
set_option maxRecDepth 100000 in
set_option maxHeartbeats 4000000 in
theorem v_Ref_init_13 (x0 : Nat) (cc ss : Nat) (h : MH) (Rt : Value → MH → Prop) (H :
gd (cc + 1) 44 (
gd (ss + ix (60 : Int32)) 108127 (
∀ g1 : MH, g1 = nw h 20 (ix (60 : Int32)) →
kd g1 x0 = 13 ∧
∀ g3 : MH, g3 = wr g1 x0 21 (hn h) →
WM k_Ref_init p_Ref_init_14 [.ref x0] [] g3 (cc + 1) (ss + ix (60 : Int32)) Rt))) : WM k_Ref_init p_Ref_init_13 [.ref x0] [] h cc ss Rt := WM_at (hs := HH_Ref_init) G_Ref_init 189 57 rfl ⟨(by decide), gd_mono (a := (cc + 1)) (b := 44) (fun q => gd_mono (a := (ss + ix (60 : Int32))) (b := 108127) (fun q => ⟨(q _ rfl).1, ((q _ rfl).2 _ rfl)⟩) q) H⟩
set_option maxRecDepth 100000 in
set_option maxHeartbeats 4000000 in
theorem v_Ref_init_14 (x0 : Nat) (cc ss : Nat) (h : MH) (Rt : Value → MH → Prop) (H :
gd (cc + 1) 44 (
gd (ss + ix (60 : Int32)) 108127 (
∀ g1 : MH, g1 = nw h 22 (ix (60 : Int32)) →
kd g1 x0 = 13 ∧
∀ g3 : MH, g3 = wr g1 x0 22 (hn h) →
WM k_Ref_init p_Ref_init_15 [.ref x0] [] g3 (cc + 1) (ss + ix (60 : Int32)) Rt))) : WM k_Ref_init p_Ref_init_14 [.ref x0] [] h cc ss Rt := WM_at (hs := HH_Ref_init) G_Ref_init 189 61 rfl ⟨(by decide), gd_mono (a := (cc + 1)) (b := 44) (fun q => gd_mono (a := (ss + ix (60 : Int32))) (b := 108127) (fun q => ⟨(q _ rfl).1, ((q _ rfl).2 _ rfl)⟩) q) H⟩
set_option maxRecDepth 100000 in
set_option maxHeartbeats 4000000 in
theorem v_Ref_init_15 (x0 : Nat) (cc ss : Nat) (h : MH) (Rt : Value → MH → Prop) (H :
gd (cc + 1) 44 (
gd (ss + ix (23040 : Int32)) 108127 (
∀ g1 : MH, g1 = nw h 21 (ix (23040 : Int32)) →
kd g1 x0 = 13 ∧
∀ g3 : MH, g3 = wr g1 x0 23 (hn h) →
WM k_Ref_init p_Ref_init_16 [.ref x0] [] g3 (cc + 1) (ss + ix (23040 : Int32)) Rt))) : WM k_Ref_init p_Ref_init_15 [.ref x0] [] h cc ss Rt := WM_at (hs := HH_Ref_init) G_Ref_init 189 65 rfl ⟨(by decide), gd_mono (a := (cc + 1)) (b := 44) (fun q => gd_mono (a := (ss + ix (23040 : Int32))) (b := 108127) (fun q => ⟨(q _ rfl).1, ((q _ rfl).2 _ rfl)⟩) q) H⟩
set_option maxRecDepth 100000 in
set_option maxHeartbeats 4000000 in
theorem v_Ref_init_16 (x0 : Nat) (cc ss : Nat) (h : MH) (Rt : Value → MH → Prop) (H :
gd (cc + 1) 44 (
gd (ss + ix (36864 : Int32)) 108127 (
∀ g1 : MH, g1 = nw h 20 (ix (36864 : Int32)) →
kd g1 x0 = 13 ∧
∀ g3 : MH, g3 = wr g1 x0 24 (hn h) →
WM k_Ref_init p_Ref_init_17 [.ref x0] [] g3 (cc + 1) (ss + ix (36864 : Int32)) Rt))) : WM k_Ref_init p_Ref_init_16 [.ref x0] [] h cc ss Rt := WM_at (hs := HH_Ref_init) G_Ref_init 189 69 rfl ⟨(by decide), gd_mono (a := (cc + 1)) (b := 44) (fun q => gd_mono (a := (ss + ix (36864 : Int32))) (b := 108127) (fun q => ⟨(q _ rfl).1, ((q _ rfl).2 _ rfl)⟩) q) H⟩
set_option maxRecDepth 100000 in
set_option maxHeartbeats 4000000 in
theorem v_Ref_init_17 (x0 : Nat) (cc ss : Nat) (h : MH) (Rt : Value → MH → Prop) (H :
gd (cc + 1) 44 (
gd (ss + ix (200 : Int32)) 108127 (
∀ g1 : MH, g1 = nw h 20 (ix (200 : Int32)) →
kd g1 x0 = 13 ∧
∀ g3 : MH, g3 = wr g1 x0 25 (hn h) →
WM k_Ref_init p_Ref_init_18 [.ref x0] [] g3 (cc + 1) (ss + ix (200 : Int32)) Rt))) : WM k_Ref_init p_Ref_init_17 [.ref x0] [] h cc ss Rt := WM_at (hs := HH_Ref_init) G_Ref_init 189 73 rfl ⟨(by decide), gd_mono (a := (cc + 1)) (b := 44) (fun q => gd_mono (a := (ss + ix (200 : Int32))) (b := 108127) (fun q => ⟨(q _ rfl).1, ((q _ rfl).2 _ rfl)⟩) q) H⟩
set_option maxRecDepth 100000 in
set_option maxHeartbeats 4000000 in
theorem v_Ref_init_18 (x0 : Nat) (cc ss : Nat) (h : MH) (Rt : Value → MH → Prop) (H :
gd (cc + 1) 44 (
gd (ss + ix (16 : Int32)) 108127 (
∀ g1 : MH, g1 = nw h 20 (ix (16 : Int32)) →
kd g1 x0 = 13 ∧
∀ g3 : MH, g3 = wr g1 x0 26 (hn h) →
WM k_Ref_init p_Ref_init_19 [.ref x0] [] g3 (cc + 1) (ss + ix (16 : Int32)) Rt))) : WM k_Ref_init p_Ref_init_18 [.ref x0] [] h cc ss Rt := WM_at (hs := HH_Ref_init) G_Ref_init 189 77 rfl ⟨(by decide), gd_mono (a := (cc + 1)) (b := 44) (fun q => gd_mono (a := (ss + ix (16 : Int32))) (b := 108127) (fun q => ⟨(q _ rfl).1, ((q _ rfl).2 _ rfl)⟩) q) H⟩
set_option maxRecDepth 100000 in
set_option maxHeartbeats 4000000 in
theorem v_Ref_init_19 (x0 : Nat) (cc ss : Nat) (h : MH) (Rt : Value → MH → Prop) (H :
gd (cc + 1) 44 (
gd (ss + ix (200 : Int32)) 108127 (
∀ g1 : MH, g1 = nw h 20 (ix (200 : Int32)) →
kd g1 x0 = 13 ∧
∀ g3 : MH, g3 = wr g1 x0 27 (hn h) →
WM k_Ref_init p_Ref_init_20 [.ref x0] [] g3 (cc + 1) (ss + ix (200 : Int32)) Rt))) : WM k_Ref_init p_Ref_init_19 [.ref x0] [] h cc ss Rt := WM_at (hs := HH_Ref_init) G_Ref_init 189 81 rfl ⟨(by decide), gd_mono (a := (cc + 1)) (b := 44) (fun q => gd_mono (a := (ss + ix (200 : Int32))) (b := 108127) (fun q => ⟨(q _ rfl).1, ((q _ rfl).2 _ rfl)⟩) q) H⟩
set_option maxRecDepth 100000 in
set_option maxHeartbeats 4000000 in
theorem v_Ref_init_20 (x0 : Nat) (cc ss : Nat) (h : MH) (Rt : Value → MH → Prop) (H :
gd (cc + 1) 44 (
gd (ss + ix (13 : Int32)) 108127 (
∀ g1 : MH, g1 = nw h 20 (ix (13 : Int32)) →
kd g1 x0 = 13 ∧
∀ g3 : MH, g3 = wr g1 x0 28 (hn h) →
WM k_Ref_init p_Ref_init_21 [.ref x0] [] g3 (cc + 1) (ss + ix (13 : Int32)) Rt))) : WM k_Ref_init p_Ref_init_20 [.ref x0] [] h cc ss Rt := WM_at (hs := HH_Ref_init) G_Ref_init 189 85 rfl ⟨(by decide), gd_mono (a := (cc + 1)) (b := 44) (fun q => gd_mono (a := (ss + ix (13 : Int32))) (b := 108127) (fun q => ⟨(q _ rfl).1, ((q _ rfl).2 _ rfl)⟩) q) H⟩
set_option maxRecDepth 100000 in
set_option maxHeartbeats 4000000 in
theorem v_Ref_init_21 (x0 : Nat) (cc ss : Nat) (h : MH) (Rt : Value → MH → Prop) (H :
gd (cc + 1) 44 (
gd (ss + ix (240 : Int32)) 108127 (
∀ g1 : MH, g1 = nw h 21 (ix (240 : Int32)) →
kd g1 x0 = 13 ∧
∀ g3 : MH, g3 = wr g1 x0 29 (hn h) →
WM k_Ref_init p_Ref_init_22 [.ref x0] [] g3 (cc + 1) (ss + ix (240 : Int32)) Rt))) : WM k_Ref_init p_Ref_init_21 [.ref x0] [] h cc ss Rt := WM_at (hs := HH_Ref_init) G_Ref_init 189 89 rfl ⟨(by decide), gd_mono (a := (cc + 1)) (b := 44) (fun q => gd_mono (a := (ss + ix (240 : Int32))) (b := 108127) (fun q => ⟨(q _ rfl).1, ((q _ rfl).2 _ rfl)⟩) q) H⟩
set_option maxRecDepth 100000 in
set_option maxHeartbeats 4000000 in
theorem v_Ref_init_22 (x0 : Nat) (cc ss : Nat) (h : MH) (Rt : Value → MH → Prop) (H :
gd (cc + 1) 44 (
gd (ss + ix (240 : Int32)) 108127 (
∀ g1 : MH, g1 = nw h 21 (ix (240 : Int32)) →
kd g1 x0 = 13 ∧
∀ g3 : MH, g3 = wr g1 x0 30 (hn h) →
WM k_Ref_init p_Ref_init_23 [.ref x0] [] g3 (cc + 1) (ss + ix (240 : Int32)) Rt))) : WM k_Ref_init p_Ref_init_22 [.ref x0] [] h cc ss Rt := WM_at (hs := HH_Ref_init) G_Ref_init 189 93 rfl ⟨(by decide), gd_mono (a := (cc + 1)) (b := 44) (fun q => gd_mono (a := (ss + ix (240 : Int32))) (b := 108127) (fun q => ⟨(q _ rfl).1, ((q _ rfl).2 _ rfl)⟩) q) H⟩
set_option maxRecDepth 100000 in
set_option maxHeartbeats 4000000 in
theorem v_Ref_init_23 (x0 : Nat) (cc ss : Nat) (h : MH) (Rt : Value → MH → Prop) (H :
gd (cc + 1) 44 (
gd (ss + ix (40 : Int32)) 108127 (
∀ g1 : MH, g1 = nw h 20 (ix (40 : Int32)) →
kd g1 x0 = 13 ∧
∀ g3 : MH, g3 = wr g1 x0 31 (hn h) →
WM k_Ref_init p_Ref_init_24 [.ref x0] [] g3 (cc + 1) (ss + ix (40 : Int32)) Rt))) : WM k_Ref_init p_Ref_init_23 [.ref x0] [] h cc ss Rt := WM_at (hs := HH_Ref_init) G_Ref_init 189 97 rfl ⟨(by decide), gd_mono (a := (cc + 1)) (b := 44) (fun q => gd_mono (a := (ss + ix (40 : Int32))) (b := 108127) (fun q => ⟨(q _ rfl).1, ((q _ rfl).2 _ rfl)⟩) q) H⟩
set_option maxRecDepth 100000 in
set_option maxHeartbeats 4000000 in
theorem v_Ref_init_24 (x0 : Nat) (cc ss : Nat) (h : MH) (Rt : Value → MH → Prop) (H :
gd (cc + 1) 44 (
gd (ss + ix (6 : Int32)) 108127 (
∀ g1 : MH, g1 = nw h 21 (ix (6 : Int32)) →
kd g1 x0 = 13 ∧
∀ g3 : MH, g3 = wr g1 x0 33 (hn h) →
WM k_Ref_init p_Ref_init_25 [.ref x0] [] g3 (cc + 1) (ss + ix (6 : Int32)) Rt))) : WM k_Ref_init p_Ref_init_24 [.ref x0] [] h cc ss Rt := WM_at (hs := HH_Ref_init) G_Ref_init 189 101 rfl ⟨(by decide), gd_mono (a := (cc + 1)) (b := 44) (fun q => gd_mono (a := (ss + ix (6 : Int32))) (b := 108127) (fun q => ⟨(q _ rfl).1, ((q _ rfl).2 _ rfl)⟩) q) H⟩
set_option maxRecDepth 100000 in
set_option maxHeartbeats 4000000 in
theorem v_Ref_init_25 (x0 : Nat) (cc ss : Nat) (h : MH) (Rt : Value → MH → Prop) (H :
gd (cc + 1) 44 (
gd (ss + ix (3000 : Int32)) 108127 (
∀ g1 : MH, g1 = nw h 21 (ix (3000 : Int32)) →
kd g1 x0 = 13 ∧
∀ g3 : MH, g3 = wr g1 x0 34 (hn h) →
WM k_Ref_init p_Ref_init_26 [.ref x0] [] g3 (cc + 1) (ss + ix (3000 : Int32)) Rt))) : WM k_Ref_init p_Ref_init_25 [.ref x0] [] h cc ss Rt := WM_at (hs := HH_Ref_init) G_Ref_init 189 105 rfl ⟨(by decide), gd_mono (a := (cc + 1)) (b := 44) (fun q => gd_mono (a := (ss + ix (3000 : Int32))) (b := 108127) (fun q => ⟨(q _ rfl).1, ((q _ rfl).2 _ rfl)⟩) q) H⟩
set_option maxRecDepth 100000 in
set_option maxHeartbeats 4000000 in
theorem v_Ref_init_26 (x0 : Nat) (cc ss : Nat) (h : MH) (Rt : Value → MH → Prop) (H :
kd h x0 = 13 ∧
∀ g2 : MH, g2 = wi h x0 36 (-1 : Int32) →
gd (cc + 1) 44 (
gd (ss + ix (20 : Int32)) 108127 (
∀ g3 : MH, g3 = nw g2 20 (ix (20 : Int32)) →
kd g3 x0 = 13 ∧
∀ g5 : MH, g5 = wr g3 x0 38 (hn h) →
WM k_Ref_init p_Ref_init_27 [.ref x0] [] g5 (cc + 1) (ss + ix (20 : Int32)) Rt))) : WM k_Ref_init p_Ref_init_26 [.ref x0] [] h cc ss Rt := WM_at (hs := HH_Ref_init) G_Ref_init 189 109 rfl ⟨H.1, ⟨(by decide), gd_mono (a := (cc + 1)) (b := 44) (fun q => gd_mono (a := (ss + ix (20 : Int32))) (b := 108127) (fun q => ⟨(q _ rfl).1, ((q _ rfl).2 _ rfl)⟩) q) (H.2 _ rfl)⟩⟩
set_option maxRecDepth 100000 in
set_option maxHeartbeats 4000000 in
theorem v_Ref_init_27 (x0 : Nat) (cc ss : Nat) (h : MH) (Rt : Value → MH → Prop) (H :
gd (cc + 1) 44 (
gd (ss + ix (20 : Int32)) 108127 (
∀ g1 : MH, g1 = nw h 20 (ix (20 : Int32)) →
kd g1 x0 = 13 ∧
∀ g3 : MH, g3 = wr g1 x0 39 (hn h) →
WM k_Ref_init p_Ref_init_28 [.ref x0] [] g3 (cc + 1) (ss + ix (20 : Int32)) Rt))) : WM k_Ref_init p_Ref_init_27 [.ref x0] [] h cc ss Rt := WM_at (hs := HH_Ref_init) G_Ref_init 189 116 rfl ⟨(by decide), gd_mono (a := (cc + 1)) (b := 44) (fun q => gd_mono (a := (ss + ix (20 : Int32))) (b := 108127) (fun q => ⟨(q _ rfl).1, ((q _ rfl).2 _ rfl)⟩) q) H⟩
set_option maxRecDepth 100000 in
set_option maxHeartbeats 4000000 in
theorem v_Ref_init_28 (x0 : Nat) (cc ss : Nat) (h : MH) (Rt : Value → MH → Prop) (H :
gd (cc + 1) 44 (
gd (ss + ix (20 : Int32)) 108127 (
∀ g1 : MH, g1 = nw h 20 (ix (20 : Int32)) →
kd g1 x0 = 13 ∧
∀ g3 : MH, g3 = wr g1 x0 40 (hn h) →
WM k_Ref_init p_Ref_init_29 [.ref x0] [] g3 (cc + 1) (ss + ix (20 : Int32)) Rt))) : WM k_Ref_init p_Ref_init_28 [.ref x0] [] h cc ss Rt := WM_at (hs := HH_Ref_init) G_Ref_init 189 120 rfl ⟨(by decide), gd_mono (a := (cc + 1)) (b := 44) (fun q => gd_mono (a := (ss + ix (20 : Int32))) (b := 108127) (fun q => ⟨(q _ rfl).1, ((q _ rfl).2 _ rfl)⟩) q) H⟩
set_option maxRecDepth 100000 in
set_option maxHeartbeats 4000000 in
theorem v_Ref_init_29 (x0 : Nat) (cc ss : Nat) (h : MH) (Rt : Value → MH → Prop) (H :
gd (cc + 1) 44 (
gd (ss + ix (20 : Int32)) 108127 (
∀ g1 : MH, g1 = nw h 20 (ix (20 : Int32)) →
kd g1 x0 = 13 ∧
∀ g3 : MH, g3 = wr g1 x0 41 (hn h) →
WM k_Ref_init p_Ref_init_30 [.ref x0] [] g3 (cc + 1) (ss + ix (20 : Int32)) Rt))) : WM k_Ref_init p_Ref_init_29 [.ref x0] [] h cc ss Rt := WM_at (hs := HH_Ref_init) G_Ref_init 189 124 rfl ⟨(by decide), gd_mono (a := (cc + 1)) (b := 44) (fun q => gd_mono (a := (ss + ix (20 : Int32))) (b := 108127) (fun q => ⟨(q _ rfl).1, ((q _ rfl).2 _ rfl)⟩) q) H⟩
set_option maxRecDepth 100000 in
set_option maxHeartbeats 4000000 in
theorem v_Ref_init_30 (x0 : Nat) (cc ss : Nat) (h : MH) (Rt : Value → MH → Prop) (H :
gd (cc + 1) 44 (
gd (ss + ix (6000 : Int32)) 108127 (
∀ g1 : MH, g1 = nw h 20 (ix (6000 : Int32)) →
kd g1 x0 = 13 ∧
∀ g3 : MH, g3 = wr g1 x0 42 (hn h) →
WM k_Ref_init p_Ref_init_31 [.ref x0] [] g3 (cc + 1) (ss + ix (6000 : Int32)) Rt))) : WM k_Ref_init p_Ref_init_30 [.ref x0] [] h cc ss Rt := WM_at (hs := HH_Ref_init) G_Ref_init 189 128 rfl ⟨(by decide), gd_mono (a := (cc + 1)) (b := 44) (fun q => gd_mono (a := (ss + ix (6000 : Int32))) (b := 108127) (fun q => ⟨(q _ rfl).1, ((q _ rfl).2 _ rfl)⟩) q) H⟩
set_option maxRecDepth 100000 in
set_option maxHeartbeats 4000000 in
theorem v_Ref_init_31 (x0 : Nat) (cc ss : Nat) (h : MH) (Rt : Value → MH → Prop) (H :
gd (cc + 1) 44 (
gd (ss + ix (6000 : Int32)) 108127 (
∀ g1 : MH, g1 = nw h 20 (ix (6000 : Int32)) →
kd g1 x0 = 13 ∧
∀ g3 : MH, g3 = wr g1 x0 43 (hn h) →
WM k_Ref_init p_Ref_init_32 [.ref x0] [] g3 (cc + 1) (ss + ix (6000 : Int32)) Rt))) : WM k_Ref_init p_Ref_init_31 [.ref x0] [] h cc ss Rt := WM_at (hs := HH_Ref_init) G_Ref_init 189 132 rfl ⟨(by decide), gd_mono (a := (cc + 1)) (b := 44) (fun q => gd_mono (a := (ss + ix (6000 : Int32))) (b := 108127) (fun q => ⟨(q _ rfl).1, ((q _ rfl).2 _ rfl)⟩) q) H⟩
set_option maxRecDepth 100000 in
set_option maxHeartbeats 4000000 in
theorem v_Ref_init_32 (x0 : Nat) (cc ss : Nat) (h : MH) (Rt : Value → MH → Prop) (H :
gd (cc + 1) 44 (
gd (ss + ix (6000 : Int32)) 108127 (
∀ g1 : MH, g1 = nw h 20 (ix (6000 : Int32)) →
kd g1 x0 = 13 ∧
∀ g3 : MH, g3 = wr g1 x0 44 (hn h) →
WM k_Ref_init p_Ref_init_33 [.ref x0] [] g3 (cc + 1) (ss + ix (6000 : Int32)) Rt))) : WM k_Ref_init p_Ref_init_32 [.ref x0] [] h cc ss Rt := WM_at (hs := HH_Ref_init) G_Ref_init 189 136 rfl ⟨(by decide), gd_mono (a := (cc + 1)) (b := 44) (fun q => gd_mono (a := (ss + ix (6000 : Int32))) (b := 108127) (fun q => ⟨(q _ rfl).1, ((q _ rfl).2 _ rfl)⟩) q) H⟩
set_option maxRecDepth 100000 in
set_option maxHeartbeats 4000000 in
theorem v_Ref_init_33 (x0 : Nat) (cc ss : Nat) (h : MH) (Rt : Value → MH → Prop) (H :
gd (cc + 1) 44 (
gd (ss + ix (12 : Int32)) 108127 (
∀ g1 : MH, g1 = nw h 21 (ix (12 : Int32)) →
kd g1 x0 = 13 ∧
∀ g3 : MH, g3 = wr g1 x0 46 (hn h) →
WM k_Ref_init p_Ref_init_34 [.ref x0] [] g3 (cc + 1) (ss + ix (12 : Int32)) Rt))) : WM k_Ref_init p_Ref_init_33 [.ref x0] [] h cc ss Rt := WM_at (hs := HH_Ref_init) G_Ref_init 189 140 rfl ⟨(by decide), gd_mono (a := (cc + 1)) (b := 44) (fun q => gd_mono (a := (ss + ix (12 : Int32))) (b := 108127) (fun q => ⟨(q _ rfl).1, ((q _ rfl).2 _ rfl)⟩) q) H⟩
set_option maxRecDepth 100000 in
set_option maxHeartbeats 4000000 in
theorem v_Ref_init_34 (x0 : Nat) (cc ss : Nat) (h : MH) (Rt : Value → MH → Prop) (H :
gd (cc + 1) 44 (
gd (ss + ix (2200 : Int32)) 108127 (
∀ g1 : MH, g1 = nw h 21 (ix (2200 : Int32)) →
kd g1 x0 = 13 ∧
∀ g3 : MH, g3 = wr g1 x0 47 (hn h) →
WM k_Ref_init p_Ref_init_35 [.ref x0] [] g3 (cc + 1) (ss + ix (2200 : Int32)) Rt))) : WM k_Ref_init p_Ref_init_34 [.ref x0] [] h cc ss Rt := WM_at (hs := HH_Ref_init) G_Ref_init 189 144 rfl ⟨(by decide), gd_mono (a := (cc + 1)) (b := 44) (fun q => gd_mono (a := (ss + ix (2200 : Int32))) (b := 108127) (fun q => ⟨(q _ rfl).1, ((q _ rfl).2 _ rfl)⟩) q) H⟩
set_option maxRecDepth 100000 in
set_option maxHeartbeats 4000000 in
theorem v_Ref_init_35 (x0 : Nat) (cc ss : Nat) (h : MH) (Rt : Value → MH → Prop) (H :
gd (cc + 1) 44 (
gd (ss + ix (2200 : Int32)) 108127 (
∀ g1 : MH, g1 = nw h 20 (ix (2200 : Int32)) →
kd g1 x0 = 13 ∧
∀ g3 : MH, g3 = wr g1 x0 48 (hn h) →
WM k_Ref_init p_Ref_init_36 [.ref x0] [] g3 (cc + 1) (ss + ix (2200 : Int32)) Rt))) : WM k_Ref_init p_Ref_init_35 [.ref x0] [] h cc ss Rt := WM_at (hs := HH_Ref_init) G_Ref_init 189 148 rfl ⟨(by decide), gd_mono (a := (cc + 1)) (b := 44) (fun q => gd_mono (a := (ss + ix (2200 : Int32))) (b := 108127) (fun q => ⟨(q _ rfl).1, ((q _ rfl).2 _ rfl)⟩) q) H⟩
set_option maxRecDepth 100000 in
set_option maxHeartbeats 4000000 in
theorem v_Ref_init_36 (x0 : Nat) (cc ss : Nat) (h : MH) (Rt : Value → MH → Prop) (H :
gd (cc + 1) 44 (
gd (ss + ix (8800 : Int32)) 108127 (
∀ g1 : MH, g1 = nw h 21 (ix (8800 : Int32)) →
kd g1 x0 = 13 ∧
∀ g3 : MH, g3 = wr g1 x0 49 (hn h) →
WM k_Ref_init p_Ref_init_37 [.ref x0] [] g3 (cc + 1) (ss + ix (8800 : Int32)) Rt))) : WM k_Ref_init p_Ref_init_36 [.ref x0] [] h cc ss Rt := WM_at (hs := HH_Ref_init) G_Ref_init 189 152 rfl ⟨(by decide), gd_mono (a := (cc + 1)) (b := 44) (fun q => gd_mono (a := (ss + ix (8800 : Int32))) (b := 108127) (fun q => ⟨(q _ rfl).1, ((q _ rfl).2 _ rfl)⟩) q) H⟩
set_option maxRecDepth 100000 in
set_option maxHeartbeats 4000000 in
theorem v_Ref_init_37 (x0 : Nat) (cc ss : Nat) (h : MH) (Rt : Value → MH → Prop) (H :
kd h x0 = 13 ∧
∀ g2 : MH, g2 = wi h x0 51 (-1 : Int32) →
gd (cc + 1) 44 (
gd (ss + ix (40 : Int32)) 108127 (
∀ g3 : MH, g3 = nw g2 20 (ix (40 : Int32)) →
kd g3 x0 = 13 ∧
∀ g5 : MH, g5 = wr g3 x0 53 (hn h) →
WM k_Ref_init p_Ref_init_38 [.ref x0] [] g5 (cc + 1) (ss + ix (40 : Int32)) Rt))) : WM k_Ref_init p_Ref_init_37 [.ref x0] [] h cc ss Rt := WM_at (hs := HH_Ref_init) G_Ref_init 189 156 rfl ⟨H.1, ⟨(by decide), gd_mono (a := (cc + 1)) (b := 44) (fun q => gd_mono (a := (ss + ix (40 : Int32))) (b := 108127) (fun q => ⟨(q _ rfl).1, ((q _ rfl).2 _ rfl)⟩) q) (H.2 _ rfl)⟩⟩
set_option maxRecDepth 100000 in
set_option maxHeartbeats 4000000 in
theorem v_Ref_init_38 (x0 : Nat) (cc ss : Nat) (h : MH) (Rt : Value → MH → Prop) (H :
gd (cc + 1) 44 (
gd (ss + ix (40 : Int32)) 108127 (
∀ g1 : MH, g1 = nw h 20 (ix (40 : Int32)) →
kd g1 x0 = 13 ∧
∀ g3 : MH, g3 = wr g1 x0 54 (hn h) →
WM k_Ref_init p_Ref_init_39 [.ref x0] [] g3 (cc + 1) (ss + ix (40 : Int32)) Rt))) : WM k_Ref_init p_Ref_init_38 [.ref x0] [] h cc ss Rt := WM_at (hs := HH_Ref_init) G_Ref_init 189 163 rfl ⟨(by decide), gd_mono (a := (cc + 1)) (b := 44) (fun q => gd_mono (a := (ss + ix (40 : Int32))) (b := 108127) (fun q => ⟨(q _ rfl).1, ((q _ rfl).2 _ rfl)⟩) q) H⟩
set_option maxRecDepth 100000 in
set_option maxHeartbeats 4000000 in
theorem v_Ref_init_39 (x0 : Nat) (cc ss : Nat) (h : MH) (Rt : Value → MH → Prop) (H :
gd (cc + 1) 44 (
gd (ss + ix (40 : Int32)) 108127 (
∀ g1 : MH, g1 = nw h 21 (ix (40 : Int32)) →
kd g1 x0 = 13 ∧
∀ g3 : MH, g3 = wr g1 x0 55 (hn h) →
WM k_Ref_init p_Ref_init_40 [.ref x0] [] g3 (cc + 1) (ss + ix (40 : Int32)) Rt))) : WM k_Ref_init p_Ref_init_39 [.ref x0] [] h cc ss Rt := WM_at (hs := HH_Ref_init) G_Ref_init 189 167 rfl ⟨(by decide), gd_mono (a := (cc + 1)) (b := 44) (fun q => gd_mono (a := (ss + ix (40 : Int32))) (b := 108127) (fun q => ⟨(q _ rfl).1, ((q _ rfl).2 _ rfl)⟩) q) H⟩
set_option maxRecDepth 100000 in
set_option maxHeartbeats 4000000 in
theorem v_Ref_init_40 (x0 : Nat) (cc ss : Nat) (h : MH) (Rt : Value → MH → Prop) (H :
gd (cc + 1) 44 (
gd (ss + ix (9 : Int32)) 108127 (
∀ g1 : MH, g1 = nw h 20 (ix (9 : Int32)) →
kd g1 x0 = 13 ∧
∀ g3 : MH, g3 = wr g1 x0 59 (hn h) →
WM k_Ref_init p_Ref_init_41 [.ref x0] [] g3 (cc + 1) (ss + ix (9 : Int32)) Rt))) : WM k_Ref_init p_Ref_init_40 [.ref x0] [] h cc ss Rt := WM_at (hs := HH_Ref_init) G_Ref_init 189 171 rfl ⟨(by decide), gd_mono (a := (cc + 1)) (b := 44) (fun q => gd_mono (a := (ss + ix (9 : Int32))) (b := 108127) (fun q => ⟨(q _ rfl).1, ((q _ rfl).2 _ rfl)⟩) q) H⟩
set_option maxRecDepth 100000 in
set_option maxHeartbeats 4000000 in
theorem v_Ref_init_41 (x0 : Nat) (cc ss : Nat) (h : MH) (Rt : Value → MH → Prop) (H :
gd (cc + 1) 44 (
gd (ss + ix (3 : Int32)) 108127 (
∀ g1 : MH, g1 = nw h 20 (ix (3 : Int32)) →
kd g1 x0 = 13 ∧
∀ g3 : MH, g3 = wr g1 x0 60 (hn h) →
WM k_Ref_init p_Ref_init_42 [.ref x0] [] g3 (cc + 1) (ss + ix (3 : Int32)) Rt))) : WM k_Ref_init p_Ref_init_41 [.ref x0] [] h cc ss Rt := WM_at (hs := HH_Ref_init) G_Ref_init 189 175 rfl ⟨(by decide), gd_mono (a := (cc + 1)) (b := 44) (fun q => gd_mono (a := (ss + ix (3 : Int32))) (b := 108127) (fun q => ⟨(q _ rfl).1, ((q _ rfl).2 _ rfl)⟩) q) H⟩
set_option maxRecDepth 100000 in
set_option maxHeartbeats 4000000 in
theorem v_Ref_init_42 (x0 : Nat) (cc ss : Nat) (h : MH) (Rt : Value → MH → Prop) (H :
gd (cc + 1) 44 (
gd (ss + ix (200 : Int32)) 108127 (
∀ g1 : MH, g1 = nw h 20 (ix (200 : Int32)) →
kd g1 x0 = 13 ∧
∀ g3 : MH, g3 = wr g1 x0 61 (hn h) →
WM k_Ref_init p_Ref_init_43 [.ref x0] [] g3 (cc + 1) (ss + ix (200 : Int32)) Rt))) : WM k_Ref_init p_Ref_init_42 [.ref x0] [] h cc ss Rt := WM_at (hs := HH_Ref_init) G_Ref_init 189 179 rfl ⟨(by decide), gd_mono (a := (cc + 1)) (b := 44) (fun q => gd_mono (a := (ss + ix (200 : Int32))) (b := 108127) (fun q => ⟨(q _ rfl).1, ((q _ rfl).2 _ rfl)⟩) q) H⟩
set_option maxRecDepth 100000 in
set_option maxHeartbeats 4000000 in
theorem v_Ref_init_43 (x0 : Nat) (cc ss : Nat) (h : MH) (Rt : Value → MH → Prop) (H :
gd (cc + 1) 44 (
gd (ss + ix (400 : Int32)) 108127 (
∀ g1 : MH, g1 = nw h 20 (ix (400 : Int32)) →
kd g1 x0 = 13 ∧
∀ g3 : MH, g3 = wr g1 x0 66 (hn h) →
WM k_Ref_init p_Ref_init_44 [Jv] [] g3 (cc + 1) (ss + ix (400 : Int32)) Rt))) : WM k_Ref_init p_Ref_init_43 [.ref x0] [] h cc ss Rt := WM_at (hs := HH_Ref_init) G_Ref_init 189 183 rfl ⟨(by decide), gd_mono (a := (cc + 1)) (b := 44) (fun q => gd_mono (a := (ss + ix (400 : Int32))) (b := 108127) (fun q => ⟨(q _ rfl).1, ((q _ rfl).2 _ rfl)⟩) q) H⟩
set_option maxRecDepth 100000 in
set_option maxHeartbeats 4000000 in
theorem v_Ref_init_44 (cc ss : Nat) (h : MH) (Rt : Value → MH → Prop) (H :
gd cc 44 (
gd ss 108127 (
Rt .null h))) : WM k_Ref_init p_Ref_init_44 [Jv] [] h cc ss Rt := WM_at (hs := HH_Ref_init) G_Ref_init 189 187 rfl H
set_option maxRecDepth 100000 in
set_option maxHeartbeats 4000000 in
theorem v_Scribe_lay (x0 : Nat) (x1 : Int32) (x2 : Int32) (h : MH) (Rt : Value → MH → Prop) (H :
WM k_Scribe_lay p_Scribe_lay_1 [.ref x0, .int x1, .int x2, .int (0 : Int32)] [] h 0 0 Rt) : Sp k_Scribe_lay [.ref x0, .int x1, .int x2] h Rt := Sp_intro2 (by decide) (by decide +kernel) rfl (Nat.le_of_ble_eq_true rfl) (WM_at (hs := HH_Scribe_lay) G_Scribe_lay 24 0 rfl H)
set_option maxRecDepth 100000 in
set_option maxHeartbeats 4000000 in
theorem v_Scribe_lay_1 (x0 : Nat) (x1 : Int32) (x2 : Int32) (x3 : Int32) (h : MH) (Rt : Value → MH → Prop) (H :
(x3.toInt < (4 : Int32).toInt →
kd h x0 = 10 ∧
kd h (mr h x0 0) = 20 ∧
InB (x1 + x3) (ln h (mr h x0 0)) ∧
∀ g4 : MH, g4 = wi h (mr h x0 0) (ix (x1 + x3)) ((x2.toUInt32 >>> (((24 : Int32) - ((8 : Int32) * x3)).toUInt32 &&& Int32.toUInt32 31)).toInt32 &&& (255 : Int32)) →
WM k_Scribe_lay p_Scribe_lay_1 [.ref x0, .int x1, .int x2, .int (x3 + (1 : Int32))] [] g4 0 0 Rt) ∧
(¬ x3.toInt < (4 : Int32).toInt →
Rt .null h)) : WM k_Scribe_lay p_Scribe_lay_1 [.ref x0, .int x1, .int x2, .int x3] [] h 0 0 Rt := WM_at (hs := HH_Scribe_lay) G_Scribe_lay 24 2 rfl ⟨fun c5 => ⟨(H.1 c5).1, ⟨((H.1 c5).2).1, ⟨(((H.1 c5).2).2).1, ((((H.1 c5).2).2).2 _ rfl)⟩⟩⟩, H.2⟩
set_option maxRecDepth 100000 in
set_option maxHeartbeats 4000000 in
theorem v_Ho_feed (x0 : Nat) (x1 : Int32) (x2 : Int32) (x3 : Int32) (x4 : Int32) (x5 : Int32) (h : MH) (Rt : Value → MH → Prop) (H :
kd h x0 = 12 ∧
kd h (mr h x0 0) = 10 ∧
SpV k_Scribe_lay [.ref (mr h x0 0), .int (0 : Int32), .int x1] h (fun g2 =>
kd g2 x0 = 12 ∧
kd g2 (mr g2 x0 0) = 10 ∧
SpV k_Scribe_lay [.ref (mr g2 x0 0), .int (4 : Int32), .int x2] g2 (fun g5 =>
kd g5 x0 = 12 ∧
kd g5 (mr g5 x0 0) = 10 ∧
SpV k_Scribe_lay [.ref (mr g5 x0 0), .int (8 : Int32), .int x3] g5 (fun g8 =>
kd g8 x0 = 12 ∧
kd g8 (mr g8 x0 0) = 10 ∧
SpV k_Scribe_lay [.ref (mr g8 x0 0), .int (12 : Int32), .int x4] g8 (fun g11 =>
kd g11 x0 = 12 ∧
kd g11 (mr g11 x0 0) = 10 ∧
SpV k_Scribe_lay [.ref (mr g11 x0 0), .int (16 : Int32), .int x5] g11 (fun g14 =>
Rt .null g14)))))) : Sp k_Ho_feed [.ref x0, .int x1, .int x2, .int x3, .int x4, .int x5] h Rt := Sp_intro2 (by decide) (by decide +kernel) rfl (Nat.le_of_ble_eq_true rfl) (WM_at (hs := HH_Ho_feed) G_Ho_feed 27 0 rfl H)
set_option maxRecDepth 100000 in
set_option maxHeartbeats 4000000 in
theorem v_Ref_feed (x0 : Nat) (x1 : Int32) (x2 : Int32) (x3 : Int32) (x4 : Int32) (x5 : Int32) (h : MH) (Rt : Value → MH → Prop) (H :
WM k_Ref_feed p_Ref_feed_1 [.ref x0, .int x1, .int x2, .int x3, .int x4, .int x5, .int (0 : Int32)] [] h 0 0 Rt) : Sp k_Ref_feed [.ref x0, .int x1, .int x2, .int x3, .int x4, .int x5] h Rt := Sp_intro2 (by decide) (by decide +kernel) rfl (Nat.le_of_ble_eq_true rfl) (WM_at (hs := HH_Ref_feed) G_Ref_feed 82 0 rfl H)
set_option maxRecDepth 100000 in
set_option maxHeartbeats 4000000 in
theorem v_Ref_feed_1 (x0 : Nat) (x1 : Int32) (x2 : Int32) (x3 : Int32) (x4 : Int32) (x5 : Int32) (x6 : Int32) (h : MH) (Rt : Value → MH → Prop) (H :
(x6.toInt < (4 : Int32).toInt →
kd h x0 = 13 ∧
kd h (mr h x0 7) = 20 ∧
InB x6 (ln h (mr h x0 7)) ∧
∀ g4 : MH, g4 = wi h (mr h x0 7) (ix x6) ((x1 >>> (((24 : Int32) - ((8 : Int32) * x6)) &&& (31 : Int32))) &&& (255 : Int32)) →
InB ((4 : Int32) + x6) (ln h (mr h x0 7)) ∧
∀ g6 : MH, g6 = wi g4 (mr h x0 7) (ix ((4 : Int32) + x6)) ((x2 >>> (((24 : Int32) - ((8 : Int32) * x6)) &&& (31 : Int32))) &&& (255 : Int32)) →
InB ((8 : Int32) + x6) (ln h (mr h x0 7)) ∧
∀ g8 : MH, g8 = wi g6 (mr h x0 7) (ix ((8 : Int32) + x6)) ((x3 >>> (((24 : Int32) - ((8 : Int32) * x6)) &&& (31 : Int32))) &&& (255 : Int32)) →
InB ((12 : Int32) + x6) (ln h (mr h x0 7)) ∧
∀ g10 : MH, g10 = wi g8 (mr h x0 7) (ix ((12 : Int32) + x6)) ((x4 >>> (((24 : Int32) - ((8 : Int32) * x6)) &&& (31 : Int32))) &&& (255 : Int32)) →
WM k_Ref_feed p_Ref_feed_2 [.ref x0, .int x1, .int x2, .int x3, .int x4, .int x5, .int x6] [] g10 0 0 Rt) ∧
(¬ x6.toInt < (4 : Int32).toInt →
Rt .null h)) : WM k_Ref_feed p_Ref_feed_1 [.ref x0, .int x1, .int x2, .int x3, .int x4, .int x5, .int x6] [] h 0 0 Rt := WM_at (hs := HH_Ref_feed) G_Ref_feed 82 2 rfl ⟨fun c11 => ⟨(H.1 c11).1, ⟨((H.1 c11).2).1, ⟨(((H.1 c11).2).2).1, ⟨(H.1 c11).1, ⟨((H.1 c11).2).1, ⟨((((H.1 c11).2).2).2 _ rfl).1, ⟨(H.1 c11).1, ⟨((H.1 c11).2).1, ⟨(((((H.1 c11).2).2).2 _ rfl).2 _ rfl).1, ⟨(H.1 c11).1, ⟨((H.1 c11).2).1, ⟨((((((H.1 c11).2).2).2 _ rfl).2 _ rfl).2 _ rfl).1, (((((((H.1 c11).2).2).2 _ rfl).2 _ rfl).2 _ rfl).2 _ rfl)⟩⟩⟩⟩⟩⟩⟩⟩⟩⟩⟩⟩, H.2⟩
set_option maxRecDepth 100000 in
set_option maxHeartbeats 4000000 in
theorem v_Ref_feed_2 (x0 : Nat) (x1 : Int32) (x2 : Int32) (x3 : Int32) (x4 : Int32) (x5 : Int32) (x6 : Int32) (h : MH) (Rt : Value → MH → Prop) (H :
kd h x0 = 13 ∧
kd h (mr h x0 7) = 20 ∧
InB ((16 : Int32) + x6) (ln h (mr h x0 7)) ∧
∀ g4 : MH, g4 = wi h (mr h x0 7) (ix ((16 : Int32) + x6)) ((x5 >>> (((24 : Int32) - ((8 : Int32) * x6)) &&& (31 : Int32))) &&& (255 : Int32)) →
WM k_Ref_feed p_Ref_feed_1 [.ref x0, .int x1, .int x2, .int x3, .int x4, .int x5, .int (x6 + (1 : Int32))] [] g4 0 0 Rt) : WM k_Ref_feed p_Ref_feed_2 [.ref x0, .int x1, .int x2, .int x3, .int x4, .int x5, .int x6] [] h 0 0 Rt := WM_at (hs := HH_Ref_feed) G_Ref_feed 82 63 rfl ⟨H.1, ⟨H.2.1, ⟨H.2.2.1, (H.2.2.2 _ rfl)⟩⟩⟩
set_option maxRecDepth 100000 in
set_option maxHeartbeats 4000000 in
theorem v_Arrays_fillaII (x0 : Nat) (x1 : Int32) (h : MH) (Rt : Value → MH → Prop) (H :
kd h x0 = 20 ∧
WM k_Arrays_fillaII p_Arrays_fillaII_1 [.ref x0, .int x1, .int (0 : Int32), .int (Int32.ofNat (ln h x0))] [] h 0 0 Rt) : Sp k_Arrays_fillaII [.ref x0, .int x1] h Rt := Sp_intro2 (by decide) (by decide +kernel) rfl (Nat.le_of_ble_eq_true rfl) (WM_at (hs := HH_Arrays_fillaII) G_Arrays_fillaII 16 0 rfl H)
set_option maxRecDepth 100000 in
set_option maxHeartbeats 4000000 in
theorem v_Arrays_fillaII_1 (x0 : Nat) (x1 : Int32) (x2 : Int32) (x3 : Int32) (h : MH) (Rt : Value → MH → Prop) (H :
(x2.toInt < x3.toInt →
kd h x0 = 20 ∧
InB x2 (ln h x0) ∧
∀ g3 : MH, g3 = wi h x0 (ix x2) x1 →
WM k_Arrays_fillaII p_Arrays_fillaII_1 [.ref x0, .int x1, .int (x2 + (1 : Int32)), .int x3] [] g3 0 0 Rt) ∧
(¬ x2.toInt < x3.toInt →
Rt .null h)) : WM k_Arrays_fillaII p_Arrays_fillaII_1 [.ref x0, .int x1, .int x2, .int x3] [] h 0 0 Rt := WM_at (hs := HH_Arrays_fillaII) G_Arrays_fillaII 16 5 rfl ⟨fun c4 => ⟨(H.1 c4).1, ⟨((H.1 c4).2).1, (((H.1 c4).2).2 _ rfl)⟩⟩, H.2⟩
set_option maxRecDepth 100000 in
set_option maxHeartbeats 4000000 in
theorem v_Scribe_append (x0 : Nat) (x1 : Int32) (h : MH) (Rt : Value → MH → Prop) (H :
(x1.toInt < 0 →
Rt (.int (-1 : Int32)) h) ∧
(¬ x1.toInt < 0 →
((20 : Int32).toInt < x1.toInt →
Rt (.int (-1 : Int32)) h) ∧
(¬ (20 : Int32).toInt < x1.toInt →
kd h x0 = 10 ∧
((100 : Int32).toInt < ((mi h x0 2) + x1).toInt →
Rt (.int (-1 : Int32)) h) ∧
(¬ (100 : Int32).toInt < ((mi h x0 2) + x1).toInt →
kd h (mr h x0 0) = 20 ∧
kd h (mr h x0 1) = 20 ∧
(0 ≤ (0 : Int32).toInt ∧ 0 ≤ (mi h x0 2).toInt ∧ 0 ≤ x1.toInt ∧ (0 : Int32).toInt + x1.toInt ≤ ln h (mr h x0 0) ∧ (mi h x0 2).toInt + x1.toInt ≤ ln h (mr h x0 1)) ∧
∀ g5 : MH, g5 = cpI h (mr h x0 0) (ix (0 : Int32)) (mr h x0 1) (ix (mi h x0 2)) (ix x1) →
∀ g6 : MH, g6 = wi g5 x0 2 ((mi g5 x0 2) + x1) →
SpV k_Arrays_fillaII [.ref (mr h x0 0), .int (0 : Int32)] g6 (fun g7 =>
kd g7 x0 = 10 ∧
Rt (.int (mi g7 x0 2)) g7))))) : Sp k_Scribe_append [.ref x0, .int x1] h Rt := Sp_intro2 (by decide) (by decide +kernel) rfl (Nat.le_of_ble_eq_true rfl) (WM_at (hs := HH_Scribe_append) G_Scribe_append 36 0 rfl ⟨H.1, fun c9 => ⟨(H.2 c9).1, fun c10 => ⟨((H.2 c9).2 c10).1, ⟨(((H.2 c9).2 c10).2).1, fun c11 => ⟨((H.2 c9).2 c10).1, ⟨((H.2 c9).2 c10).1, ⟨((H.2 c9).2 c10).1, ⟨((((H.2 c9).2 c10).2).2 c11).1, ⟨(((((H.2 c9).2 c10).2).2 c11).2).1, ⟨((((((H.2 c9).2 c10).2).2 c11).2).2).1, ⟨((H.2 c9).2 c10).1, ⟨((H.2 c9).2 c10).1, ⟨((H.2 c9).2 c10).1, ((((((((H.2 c9).2 c10).2).2 c11).2).2).2 _ rfl) _ rfl)⟩⟩⟩⟩⟩⟩⟩⟩⟩⟩⟩⟩⟩)
set_option maxRecDepth 100000 in
set_option maxHeartbeats 4000000 in
theorem v_Ho_end (x0 : Nat) (x1 : Int32) (h : MH) (Rt : Value → MH → Prop) (H :
kd h x0 = 12 ∧
kd h (mr h x0 0) = 10 ∧
SpI k_Scribe_append [.ref (mr h x0 0), .int x1] h (fun r4 g2 =>
Rt (.int r4) g2)) : Sp k_Ho_end [.ref x0, .int x1] h Rt := Sp_intro2 (by decide) (by decide +kernel) rfl (Nat.le_of_ble_eq_true rfl) (WM_at (hs := HH_Ho_end) G_Ho_end 6 0 rfl H)
set_option maxRecDepth 100000 in
set_option maxHeartbeats 4000000 in
theorem v_Ref_end (x0 : Nat) (x1 : Int32) (h : MH) (Rt : Value → MH → Prop) (H :
(x1.toInt < 0 →
Rt (.int (-1 : Int32)) h) ∧
(¬ x1.toInt < 0 →
((20 : Int32).toInt < x1.toInt →
Rt (.int (-1 : Int32)) h) ∧
(¬ (20 : Int32).toInt < x1.toInt →
kd h x0 = 13 ∧
((100 : Int32).toInt < ((mi h x0 9) + x1).toInt →
Rt (.int (-1 : Int32)) h) ∧
(¬ (100 : Int32).toInt < ((mi h x0 9) + x1).toInt →
WM k_Ref_end p_Ref_end_1 [.ref x0, .int x1, .int (0 : Int32)] [] h 0 0 Rt)))) : Sp k_Ref_end [.ref x0, .int x1] h Rt := Sp_intro2 (by decide) (by decide +kernel) rfl (Nat.le_of_ble_eq_true rfl) (WM_at (hs := HH_Ref_end) G_Ref_end 53 0 rfl H)
set_option maxRecDepth 100000 in
set_option maxHeartbeats 4000000 in
theorem v_Ref_end_1 (x0 : Nat) (x1 : Int32) (x2 : Int32) (h : MH) (Rt : Value → MH → Prop) (H :
(x2.toInt < x1.toInt →
kd h x0 = 13 ∧
kd h (mr h x0 7) = 20 ∧
InB x2 (ln h (mr h x0 7)) ∧
kd h (mr h x0 8) = 20 ∧
InB ((mi h x0 9) + x2) (ln h (mr h x0 8)) ∧
∀ g8 : MH, g8 = wi h (mr h x0 8) (ix ((mi h x0 9) + x2)) (mi h (mr h x0 7) (ix x2)) →
WM k_Ref_end p_Ref_end_1 [.ref x0, .int x1, .int (x2 + (1 : Int32))] [] g8 0 0 Rt) ∧
(¬ x2.toInt < x1.toInt →
kd h x0 = 13 ∧
∀ g2 : MH, g2 = wi h x0 9 ((mi h x0 9) + x1) →
WM k_Ref_end p_Ref_end_2 [.ref x0, Jv, .int (0 : Int32)] [] g2 0 0 Rt)) : WM k_Ref_end p_Ref_end_1 [.ref x0, .int x1, .int x2] [] h 0 0 Rt := WM_at (hs := HH_Ref_end) G_Ref_end 53 15 rfl ⟨fun c9 => ⟨(H.1 c9).1, ⟨(H.1 c9).1, ⟨(H.1 c9).1, ⟨((H.1 c9).2).1, ⟨(((H.1 c9).2).2).1, ⟨((((H.1 c9).2).2).2).1, ⟨(((((H.1 c9).2).2).2).2).1, ((((((H.1 c9).2).2).2).2).2 _ rfl)⟩⟩⟩⟩⟩⟩⟩, fun c9 => ⟨(H.2 c9).1, ⟨(H.2 c9).1, ((H.2 c9).2 _ rfl)⟩⟩⟩
set_option maxRecDepth 100000 in
set_option maxHeartbeats 4000000 in
theorem v_Ref_end_2 (x0 : Nat) (x2 : Int32) (h : MH) (Rt : Value → MH → Prop) (H :
(x2.toInt < (20 : Int32).toInt →
kd h x0 = 13 ∧
kd h (mr h x0 7) = 20 ∧
InB x2 (ln h (mr h x0 7)) ∧
∀ g5 : MH, g5 = wi h (mr h x0 7) (ix x2) (0 : Int32) →
WM k_Ref_end p_Ref_end_2 [.ref x0, Jv, .int (x2 + (1 : Int32))] [] g5 0 0 Rt) ∧
(¬ x2.toInt < (20 : Int32).toInt →
kd h x0 = 13 ∧
Rt (.int (mi h x0 9)) h)) : WM k_Ref_end p_Ref_end_2 [.ref x0, Jv, .int x2] [] h 0 0 Rt := WM_at (hs := HH_Ref_end) G_Ref_end 53 39 rfl ⟨fun c6 => ⟨(H.1 c6).1, ⟨((H.1 c6).2).1, ⟨(((H.1 c6).2).2).1, ((((H.1 c6).2).2).2 _ rfl)⟩⟩⟩, H.2⟩
set_option maxRecDepth 100000 in
set_option maxHeartbeats 4000000 in
theorem v_Scribe_report (x0 : Nat) (x1 : Int32) (x2 : Int32) (h : MH) (Rt : Value → MH → Prop) (H :
kd h x0 = 10 ∧
∀ g2 : MH, g2 = wi h x0 4 x1 →
∀ g3 : MH, g3 = wi g2 x0 5 x2 →
Rt .null g3) : Sp k_Scribe_report [.ref x0, .int x1, .int x2] h Rt := Sp_intro2 (by decide) (by decide +kernel) rfl (Nat.le_of_ble_eq_true rfl) (WM_at (hs := HH_Scribe_report) G_Scribe_report 8 0 rfl ⟨H.1, ⟨H.1, ((H.2 _ rfl) _ rfl)⟩⟩)
set_option maxRecDepth 100000 in
set_option maxHeartbeats 4000000 in
theorem v_Motion_clear (x0 : Nat) (h : MH) (Rt : Value → MH → Prop) (H :
kd h x0 = 7 ∧
SpV k_Arrays_fillaII [.ref (mr h x0 0), .int (0 : Int32)] h (fun g2 =>
kd g2 x0 = 7 ∧
SpV k_Arrays_fillaII [.ref (mr g2 x0 1), .int (0 : Int32)] g2 (fun g4 =>
Rt .null g4))) : Sp k_Motion_clear [.ref x0] h Rt := Sp_intro2 (by decide) (by decide +kernel) rfl (Nat.le_of_ble_eq_true rfl) (WM_at (hs := HH_Motion_clear) G_Motion_clear 10 0 rfl H)
set_option maxRecDepth 100000 in
set_option maxHeartbeats 4000000 in
theorem v_Scribe_skipBlanks (x0 : Nat) (h : MH) (Rt : Value → MH → Prop) (H :
kd h x0 = 10 ∧
((mi h x0 3).toInt < (mi h x0 2).toInt →
kd h (mr h x0 1) = 20 ∧
InB (mi h x0 3) (ln h (mr h x0 1)) ∧
((mi h (mr h x0 1) (ix (mi h x0 3))) = (32 : Int32) →
∀ g4 : MH, g4 = wi h x0 3 ((mi h x0 3) + (1 : Int32)) →
WM k_Scribe_skipBlanks p_Scribe_skipBlanks_1 [.ref x0] [] g4 0 0 Rt) ∧
(¬ (mi h (mr h x0 1) (ix (mi h x0 3))) = (32 : Int32) →
Rt .null h)) ∧
(¬ (mi h x0 3).toInt < (mi h x0 2).toInt →
Rt .null h)) : Sp k_Scribe_skipBlanks [.ref x0] h Rt := Sp_intro2 (by decide) (by decide +kernel) rfl (Nat.le_of_ble_eq_true rfl) (WM_at (hs := HH_Scribe_skipBlanks) G_Scribe_skipBlanks 21 0 rfl ⟨H.1, ⟨H.1, ⟨fun c5 => ⟨H.1, ⟨H.1, ⟨(H.2.1 c5).1, ⟨((H.2.1 c5).2).1, ⟨fun c6 => ⟨H.1, ⟨H.1, (((((H.2.1 c5).2).2).1 c6) _ rfl)⟩⟩, (((H.2.1 c5).2).2).2⟩⟩⟩⟩⟩, H.2.2⟩⟩⟩)
set_option maxRecDepth 100000 in
set_option maxHeartbeats 4000000 in
theorem v_Scribe_skipBlanks_1 (x0 : Nat) (h : MH) (Rt : Value → MH → Prop) (H :
kd h x0 = 10 ∧
((mi h x0 3).toInt < (mi h x0 2).toInt →
kd h (mr h x0 1) = 20 ∧
InB (mi h x0 3) (ln h (mr h x0 1)) ∧
((mi h (mr h x0 1) (ix (mi h x0 3))) = (32 : Int32) →
∀ g4 : MH, g4 = wi h x0 3 ((mi h x0 3) + (1 : Int32)) →
WM k_Scribe_skipBlanks p_Scribe_skipBlanks_1 [.ref x0] [] g4 0 0 Rt) ∧
(¬ (mi h (mr h x0 1) (ix (mi h x0 3))) = (32 : Int32) →
Rt .null h)) ∧
(¬ (mi h x0 3).toInt < (mi h x0 2).toInt →
Rt .null h)) : WM k_Scribe_skipBlanks p_Scribe_skipBlanks_1 [.ref x0] [] h 0 0 Rt := WM_at (hs := HH_Scribe_skipBlanks) G_Scribe_skipBlanks 21 0 rfl ⟨H.1, ⟨H.1, ⟨fun c5 => ⟨H.1, ⟨H.1, ⟨(H.2.1 c5).1, ⟨((H.2.1 c5).2).1, ⟨fun c6 => ⟨H.1, ⟨H.1, (((((H.2.1 c5).2).2).1 c6) _ rfl)⟩⟩, (((H.2.1 c5).2).2).2⟩⟩⟩⟩⟩, H.2.2⟩⟩⟩
set_option maxRecDepth 100000 in
set_option maxHeartbeats 4000000 in
theorem v_Scribe_seesSign (x0 : Nat) (h : MH) (Rt : Value → MH → Prop) (H :
kd h x0 = 10 ∧
((mi h x0 3).toInt < (mi h x0 2).toInt →
kd h (mr h x0 1) = 20 ∧
InB (mi h x0 3) (ln h (mr h x0 1)) ∧
((mi h (mr h x0 1) (ix (mi h x0 3))) = (43 : Int32) →
Rt (.int (1 : Int32)) h) ∧
(¬ (mi h (mr h x0 1) (ix (mi h x0 3))) = (43 : Int32) →
((mi h (mr h x0 1) (ix (mi h x0 3))) = (45 : Int32) →
Rt (.int (1 : Int32)) h) ∧
(¬ (mi h (mr h x0 1) (ix (mi h x0 3))) = (45 : Int32) →
Rt (.int (0 : Int32)) h))) ∧
(¬ (mi h x0 3).toInt < (mi h x0 2).toInt →
Rt (.int (0 : Int32)) h)) : Sp k_Scribe_seesSign [.ref x0] h Rt := Sp_intro2 (by decide) (by decide +kernel) rfl (Nat.le_of_ble_eq_true rfl) (WM_at (hs := HH_Scribe_seesSign) G_Scribe_seesSign 24 0 rfl ⟨H.1, ⟨H.1, ⟨fun c4 => ⟨H.1, ⟨H.1, ⟨(H.2.1 c4).1, ⟨((H.2.1 c4).2).1, ⟨fun c5 => ⟨(Or.inr rfl), ((((H.2.1 c4).2).2).1 c5)⟩, fun c5 => ⟨H.1, ⟨H.1, ⟨(H.2.1 c4).1, ⟨((H.2.1 c4).2).1, ⟨fun c6 => ⟨(Or.inr rfl), (((((H.2.1 c4).2).2).2 c5).1 c6)⟩, fun c6 => ⟨(Or.inl rfl), (((((H.2.1 c4).2).2).2 c5).2 c6)⟩⟩⟩⟩⟩⟩⟩⟩⟩⟩⟩, fun c4 => ⟨(Or.inl rfl), (H.2.2 c4)⟩⟩⟩⟩)
set_option maxRecDepth 100000 in
set_option maxHeartbeats 4000000 in
theorem v_Scribe_peek (x0 : Nat) (h : MH) (Rt : Value → MH → Prop) (H :
kd h x0 = 10 ∧
((mi h x0 3).toInt < (mi h x0 2).toInt →
kd h (mr h x0 1) = 20 ∧
InB (mi h x0 3) (ln h (mr h x0 1)) ∧
Rt (.int (mi h (mr h x0 1) (ix (mi h x0 3)))) h) ∧
(¬ (mi h x0 3).toInt < (mi h x0 2).toInt →
Rt (.int (-1 : Int32)) h)) : Sp k_Scribe_peek [.ref x0] h Rt := Sp_intro2 (by decide) (by decide +kernel) rfl (Nat.le_of_ble_eq_true rfl) (WM_at (hs := HH_Scribe_peek) G_Scribe_peek 14 0 rfl ⟨H.1, ⟨H.1, ⟨fun c4 => ⟨H.1, ⟨H.1, (H.2.1 c4)⟩⟩, H.2.2⟩⟩⟩)
set_option maxRecDepth 100000 in
set_option maxHeartbeats 4000000 in
theorem v_Scribe_takeSign (x0 : Nat) (h : MH) (Rt : Value → MH → Prop) (H :
kd h x0 = 10 ∧
SpI k_Scribe_peek [.ref x0] h (fun r3 g1 =>
(r3 = (45 : Int32) →
WM k_Scribe_takeSign p_Scribe_takeSign_1 [.ref x0, Jv] [.int (-1 : Int32)] g1 0 0 Rt) ∧
(¬ r3 = (45 : Int32) →
WM k_Scribe_takeSign p_Scribe_takeSign_1 [.ref x0, Jv] [.int (1 : Int32)] g1 0 0 Rt))) : Sp k_Scribe_takeSign [.ref x0] h Rt := Sp_intro2 (by decide) (by decide +kernel) rfl (Nat.le_of_ble_eq_true rfl) (WM_at (hs := HH_Scribe_takeSign) G_Scribe_takeSign 19 0 rfl H)
set_option maxRecDepth 100000 in
set_option maxHeartbeats 4000000 in
theorem v_Scribe_takeSign_1 (x0 : Nat) (s0 : Int32) (h : MH) (Rt : Value → MH → Prop) (H :
kd h x0 = 10 ∧
∀ g2 : MH, g2 = wi h x0 3 ((mi h x0 3) + (1 : Int32)) →
SpV k_Scribe_skipBlanks [.ref x0] g2 (fun g3 =>
Rt (.int s0) g3)) : WM k_Scribe_takeSign p_Scribe_takeSign_1 [.ref x0, Jv] [.int s0] h 0 0 Rt := WM_at (hs := HH_Scribe_takeSign) G_Scribe_takeSign 19 7 rfl ⟨H.1, ⟨H.1, ⟨H.1, (H.2 _ rfl)⟩⟩⟩
set_option maxRecDepth 100000 in
set_option maxHeartbeats 4000000 in
theorem v_Scribe_seesDigit (x0 : Nat) (h : MH) (Rt : Value → MH → Prop) (H :
kd h x0 = 10 ∧
((mi h x0 3).toInt < (mi h x0 2).toInt →
kd h (mr h x0 1) = 20 ∧
InB (mi h x0 3) (ln h (mr h x0 1)) ∧
((mi h (mr h x0 1) (ix (mi h x0 3))).toInt < (48 : Int32).toInt →
Rt (.int (0 : Int32)) h) ∧
(¬ (mi h (mr h x0 1) (ix (mi h x0 3))).toInt < (48 : Int32).toInt →
((57 : Int32).toInt < (mi h (mr h x0 1) (ix (mi h x0 3))).toInt →
Rt (.int (0 : Int32)) h) ∧
(¬ (57 : Int32).toInt < (mi h (mr h x0 1) (ix (mi h x0 3))).toInt →
Rt (.int (1 : Int32)) h))) ∧
(¬ (mi h x0 3).toInt < (mi h x0 2).toInt →
Rt (.int (0 : Int32)) h)) : Sp k_Scribe_seesDigit [.ref x0] h Rt := Sp_intro2 (by decide) (by decide +kernel) rfl (Nat.le_of_ble_eq_true rfl) (WM_at (hs := HH_Scribe_seesDigit) G_Scribe_seesDigit 24 0 rfl ⟨H.1, ⟨H.1, ⟨fun c4 => ⟨H.1, ⟨H.1, ⟨(H.2.1 c4).1, ⟨((H.2.1 c4).2).1, ⟨fun c5 => ⟨(Or.inl rfl), ((((H.2.1 c4).2).2).1 c5)⟩, fun c5 => ⟨H.1, ⟨H.1, ⟨(H.2.1 c4).1, ⟨((H.2.1 c4).2).1, ⟨fun c6 => ⟨(Or.inl rfl), (((((H.2.1 c4).2).2).2 c5).1 c6)⟩, fun c6 => ⟨(Or.inr rfl), (((((H.2.1 c4).2).2).2 c5).2 c6)⟩⟩⟩⟩⟩⟩⟩⟩⟩⟩⟩, fun c4 => ⟨(Or.inl rfl), (H.2.2 c4)⟩⟩⟩⟩)
set_option maxRecDepth 100000 in
set_option maxHeartbeats 4000000 in
theorem v_Scribe_takeNumber (x0 : Nat) (h : MH) (Rt : Value → MH → Prop) (H :
WM k_Scribe_takeNumber p_Scribe_takeNumber_1 [.ref x0, .int (0 : Int32), .int (0 : Int32)] [] h 0 0 Rt) : Sp k_Scribe_takeNumber [.ref x0] h Rt := Sp_intro2 (by decide) (by decide +kernel) rfl (Nat.le_of_ble_eq_true rfl) (WM_at (hs := HH_Scribe_takeNumber) G_Scribe_takeNumber 30 0 rfl H)
set_option maxRecDepth 100000 in
set_option maxHeartbeats 4000000 in
theorem v_Scribe_takeNumber_1 (x0 : Nat) (x1 : Int32) (x2 : Int32) (h : MH) (Rt : Value → MH → Prop) (H :
(x2.toInt < (2 : Int32).toInt →
kd h x0 = 10 ∧
SpI k_Scribe_seesDigit [.ref x0] h (fun r3 g1 =>
(r3 = 0 →
Rt (.int x1) g1) ∧
(¬ r3 = 0 →
kd g1 x0 = 10 ∧
SpI k_Scribe_peek [.ref x0] g1 (fun r6 g4 =>
kd g4 x0 = 10 ∧
∀ g8 : MH, g8 = wi g4 x0 3 ((mi g4 x0 3) + (1 : Int32)) →
WM k_Scribe_takeNumber p_Scribe_takeNumber_1 [.ref x0, .int (((x1 * (10 : Int32)) + r6) - (48 : Int32)), .int (x2 + (1 : Int32))] [] g8 0 0 Rt)))) ∧
(¬ x2.toInt < (2 : Int32).toInt →
Rt (.int x1) h)) : WM k_Scribe_takeNumber p_Scribe_takeNumber_1 [.ref x0, .int x1, .int x2] [] h 0 0 Rt := WM_at (hs := HH_Scribe_takeNumber) G_Scribe_takeNumber 30 4 rfl ⟨fun c9 => ⟨(H.1 c9).1, SpI.mono ((H.1 c9).2) (fun r3 g1 qg1 => ⟨qg1.1, fun c10 => ⟨(qg1.2 c10).1, SpI.mono ((qg1.2 c10).2) (fun r6 g4 qg4 => ⟨qg4.1, ⟨qg4.1, (qg4.2 _ rfl)⟩⟩)⟩⟩)⟩, H.2⟩
set_option maxRecDepth 100000 in
set_option maxHeartbeats 4000000 in
theorem v_Math_floorMod (x0 : Int32) (x1 : Int32) (h : MH) (Rt : Value → MH → Prop) (H :
x1 ≠ 0 ∧
((x0 ^^^ x1).toInt < 0 →
((irm x0 x1) = 0 →
Rt (.int (irm x0 x1)) h) ∧
(¬ (irm x0 x1) = 0 →
Rt (.int ((irm x0 x1) + x1)) h)) ∧
(¬ (x0 ^^^ x1).toInt < 0 →
Rt (.int (irm x0 x1)) h)) : Sp k_Math_floorMod [.int x0, .int x1] h Rt := Sp_intro2 (by decide) (by decide +kernel) rfl (Nat.le_of_ble_eq_true rfl) (WM_at (hs := HH_Math_floorMod) G_Math_floorMod 17 0 rfl H)
set_option maxRecDepth 100000 in
set_option maxHeartbeats 4000000 in
theorem v_Scribe_parseShift (x0 : Nat) (x1 : Int32) (x2 : Int32) (h : MH) (Rt : Value → MH → Prop) (H :
kd h x0 = 10 ∧
SpI k_Scribe_takeNumber [.ref x0] h (fun r3 g2 =>
kd g2 x0 = 10 ∧
SpV k_Scribe_skipBlanks [.ref x0] g2 (fun g4 =>
kd g4 x0 = 10 ∧
SpI k_Scribe_peek [.ref x0] g4 (fun r8 g6 =>
(r8 = (47 : Int32) →
kd g6 x0 = 10 ∧
∀ g10 : MH, g10 = wi g6 x0 3 ((mi g6 x0 3) + (1 : Int32)) →
SpV k_Scribe_skipBlanks [.ref x0] g10 (fun g11 =>
kd g11 x0 = 10 ∧
SpI k_Scribe_seesDigit [.ref x0] g11 (fun r14 g12 =>
(r14 = 0 →
kd g12 x0 = 10 ∧
SpV k_Scribe_report [.ref x0, .int (1 : Int32), .int (mi g12 x0 3)] g12 (fun g33 =>
Rt .null g33)) ∧
(¬ r14 = 0 →
kd g12 x0 = 10 ∧
SpI k_Scribe_takeNumber [.ref x0] g12 (fun r17 g15 =>
(r17 = 0 →
kd g15 x0 = 10 ∧
SpV k_Scribe_report [.ref x0, .int (2 : Int32), .int (mi h x0 3)] g15 (fun g18 =>
Rt .null g18)) ∧
(¬ r17 = 0 →
r17 ≠ 0 ∧
((irm ((24 : Int32) * r3) r17) = 0 →
kd g15 x0 = 10 ∧
kd g15 (mr g15 x0 6) = 7 ∧
kd g15 (mr g15 (mr g15 x0 6) 1) = 20 ∧
InB x1 (ln g15 (mr g15 (mr g15 x0 6) 1)) ∧
SpI k_Math_floorMod [.int ((mi g15 (mr g15 (mr g15 x0 6) 1) (ix x1)) + (x2 * (((24 : Int32) * r3) / r17))), .int (24 : Int32)] g15 (fun r26 g25 =>
kd g25 (mr g15 (mr g15 x0 6) 1) = 20 ∧
InB x1 (ln g25 (mr g15 (mr g15 x0 6) 1)) ∧
∀ g29 : MH, g29 = wi g25 (mr g15 (mr g15 x0 6) 1) (ix x1) r26 →
WM k_Scribe_parseShift p_Scribe_parseShift_1 [Jv, Jv, Jv, Jv, Jv, Jv] [] g29 0 0 Rt)) ∧
(¬ (irm ((24 : Int32) * r3) r17) = 0 →
kd g15 x0 = 10 ∧
SpV k_Scribe_report [.ref x0, .int (2 : Int32), .int (mi h x0 3)] g15 (fun g30 =>
Rt .null g30)))))))) ∧
(¬ r8 = (47 : Int32) →
Rt .null g6))))) : Sp k_Scribe_parseShift [.ref x0, .int x1, .int x2] h Rt := Sp_intro2 (by decide) (by decide +kernel) rfl (Nat.le_of_ble_eq_true rfl) (WM_at (hs := HH_Scribe_parseShift) G_Scribe_parseShift 68 0 rfl ⟨H.1, ⟨H.1, SpI.mono H.2 (fun r3 g2 qg2 => ⟨qg2.1, SpV.mono qg2.2 (fun g4 qg4 => ⟨qg4.1, SpI.mono qg4.2 (fun r8 g6 qg6 => ⟨fun c34 => ⟨(qg6.1 c34).1, ⟨(qg6.1 c34).1, ⟨(qg6.1 c34).1, SpV.mono ((qg6.1 c34).2 _ rfl) (fun g11 qg11 => ⟨qg11.1, SpI.mono qg11.2 (fun r14 g12 qg12 => ⟨fun c35 => ⟨(qg12.1 c35).1, ⟨(qg12.1 c35).1, (qg12.1 c35).2⟩⟩, fun c35 => ⟨(qg12.2 c35).1, SpI.mono ((qg12.2 c35).2) (fun r17 g15 qg15 => ⟨qg15.1, fun c36 => ⟨(qg15.2 c36).1, ⟨fun c37 => ⟨(((qg15.2 c36).2).1 c37).1, ⟨((((qg15.2 c36).2).1 c37).2).1, ⟨(((qg15.2 c36).2).1 c37).1, ⟨((((qg15.2 c36).2).1 c37).2).1, ⟨(((((qg15.2 c36).2).1 c37).2).2).1, ⟨((((((qg15.2 c36).2).1 c37).2).2).2).1, ⟨(qg15.2 c36).1, SpI.mono (((((((qg15.2 c36).2).1 c37).2).2).2).2) (fun r26 g25 qg25 => ⟨qg25.1, ⟨qg25.2.1, (qg25.2.2 _ rfl)⟩⟩)⟩⟩⟩⟩⟩⟩⟩, ((qg15.2 c36).2).2⟩⟩⟩)⟩⟩)⟩)⟩⟩⟩, qg6.2⟩)⟩)⟩)⟩⟩)
set_option maxRecDepth 100000 in
set_option maxHeartbeats 4000000 in
theorem v_Scribe_parseShift_1  (h : MH) (Rt : Value → MH → Prop) (H :
Rt .null h) : WM k_Scribe_parseShift p_Scribe_parseShift_1 [Jv, Jv, Jv, Jv, Jv, Jv] [] h 0 0 Rt := WM_at (hs := HH_Scribe_parseShift) G_Scribe_parseShift 68 66 rfl H
set_option maxRecDepth 100000 in
set_option maxHeartbeats 4000000 in
theorem v_Scribe_parseTerm (x0 : Nat) (x1 : Int32) (x2 : Int32) (h : MH) (Rt : Value → MH → Prop) (H :
kd h x0 = 10 ∧
SpI k_Scribe_peek [.ref x0] h (fun r3 g1 =>
(r3.toInt < (120 : Int32).toInt →
WM k_Scribe_parseTerm p_Scribe_parseTerm_1 [.ref x0, .int x1, .int x2, Jv] [] g1 0 0 Rt) ∧
(¬ r3.toInt < (120 : Int32).toInt →
((122 : Int32).toInt < r3.toInt →
WM k_Scribe_parseTerm p_Scribe_parseTerm_1 [.ref x0, .int x1, .int x2, Jv] [] g1 0 0 Rt) ∧
(¬ (122 : Int32).toInt < r3.toInt →
kd g1 x0 = 10 ∧
kd g1 (mr g1 x0 6) = 7 ∧
kd g1 (mr g1 (mr g1 x0 6) 0) = 20 ∧
InB ((((3 : Int32) * x1) + r3) - (120 : Int32)) (ln g1 (mr g1 (mr g1 x0 6) 0)) ∧
∀ g8 : MH, g8 = wi g1 (mr g1 (mr g1 x0 6) 0) (ix ((((3 : Int32) * x1) + r3) - (120 : Int32))) ((mi g1 (mr g1 (mr g1 x0 6) 0) (ix ((((3 : Int32) * x1) + r3) - (120 : Int32)))) + x2) →
∀ g9 : MH, g9 = wi g8 x0 3 ((mi g8 x0 3) + (1 : Int32)) →
Rt .null g9)))) : Sp k_Scribe_parseTerm [.ref x0, .int x1, .int x2] h Rt := Sp_intro2 (by decide) (by decide +kernel) rfl (Nat.le_of_ble_eq_true rfl) (WM_at (hs := HH_Scribe_parseTerm) G_Scribe_parseTerm 46 0 rfl ⟨H.1, SpI.mono H.2 (fun r3 g1 qg1 => ⟨qg1.1, fun c10 => ⟨(qg1.2 c10).1, fun c11 => ⟨((qg1.2 c10).2 c11).1, ⟨(((qg1.2 c10).2 c11).2).1, ⟨((((qg1.2 c10).2 c11).2).2).1, ⟨(((((qg1.2 c10).2 c11).2).2).2).1, ⟨((((qg1.2 c10).2 c11).2).2).1, ⟨(((((qg1.2 c10).2 c11).2).2).2).1, ⟨((qg1.2 c10).2 c11).1, ⟨((qg1.2 c10).2 c11).1, (((((((qg1.2 c10).2 c11).2).2).2).2 _ rfl) _ rfl)⟩⟩⟩⟩⟩⟩⟩⟩⟩⟩)⟩)
set_option maxRecDepth 100000 in
set_option maxHeartbeats 4000000 in
theorem v_Scribe_parseTerm_1 (x0 : Nat) (x1 : Int32) (x2 : Int32) (h : MH) (Rt : Value → MH → Prop) (H :
kd h x0 = 10 ∧
SpI k_Scribe_seesDigit [.ref x0] h (fun r3 g1 =>
(r3 = 0 →
kd g1 x0 = 10 ∧
SpV k_Scribe_report [.ref x0, .int (1 : Int32), .int (mi g1 x0 3)] g1 (fun g5 =>
Rt .null g5)) ∧
(¬ r3 = 0 →
kd g1 x0 = 10 ∧
SpV k_Scribe_parseShift [.ref x0, .int x1, .int x2] g1 (fun g6 =>
Rt .null g6)))) : WM k_Scribe_parseTerm p_Scribe_parseTerm_1 [.ref x0, .int x1, .int x2, Jv] [] h 0 0 Rt := WM_at (hs := HH_Scribe_parseTerm) G_Scribe_parseTerm 46 31 rfl ⟨H.1, SpI.mono H.2 (fun r3 g1 qg1 => ⟨fun c8 => ⟨(qg1.1 c8).1, ⟨(qg1.1 c8).1, (qg1.1 c8).2⟩⟩, qg1.2⟩)⟩
set_option maxRecDepth 100000 in
set_option maxHeartbeats 4000000 in
theorem v_Scribe_parseExpression (x0 : Nat) (x1 : Int32) (h : MH) (Rt : Value → MH → Prop) (H :
kd h x0 = 10 ∧
SpV k_Scribe_skipBlanks [.ref x0] h (fun g1 =>
kd g1 x0 = 10 ∧
SpI k_Scribe_seesSign [.ref x0] g1 (fun r5 g3 =>
(r5 = 0 →
kd g3 x0 = 10 ∧
SpV k_Scribe_parseTerm [.ref x0, .int x1, .int (1 : Int32)] g3 (fun g6 =>
kd g6 x0 = 10 ∧
SpV k_Scribe_skipBlanks [.ref x0] g6 (fun g8 =>
WM k_Scribe_parseExpression p_Scribe_parseExpression_1 [.ref x0, .int x1, Jv, .int (0 : Int32)] [] g8 0 0 Rt))) ∧
(¬ r5 = 0 →
kd g3 x0 = 10 ∧
SpI k_Scribe_takeSign [.ref x0] g3 (fun r12 g10 =>
kd g10 x0 = 10 ∧
SpV k_Scribe_parseTerm [.ref x0, .int x1, .int r12] g10 (fun g13 =>
kd g13 x0 = 10 ∧
SpV k_Scribe_skipBlanks [.ref x0] g13 (fun g15 =>
WM k_Scribe_parseExpression p_Scribe_parseExpression_1 [.ref x0, .int x1, Jv, .int (0 : Int32)] [] g15 0 0 Rt))))))) : Sp k_Scribe_parseExpression [.ref x0, .int x1] h Rt := Sp_intro2 (by decide) (by decide +kernel) rfl (Nat.le_of_ble_eq_true rfl) (WM_at (hs := HH_Scribe_parseExpression) G_Scribe_parseExpression 40 0 rfl H)
set_option maxRecDepth 100000 in
set_option maxHeartbeats 4000000 in
theorem v_Scribe_parseExpression_1 (x0 : Nat) (x1 : Int32) (x3 : Int32) (h : MH) (Rt : Value → MH → Prop) (H :
(x3.toInt < (100 : Int32).toInt →
kd h x0 = 10 ∧
((mi h x0 4) = 0 →
SpI k_Scribe_seesSign [.ref x0] h (fun r3 g2 =>
(r3 = 0 →
Rt .null g2) ∧
(¬ r3 = 0 →
kd g2 x0 = 10 ∧
SpI k_Scribe_takeSign [.ref x0] g2 (fun r6 g4 =>
kd g4 x0 = 10 ∧
SpV k_Scribe_parseTerm [.ref x0, .int x1, .int r6] g4 (fun g7 =>
kd g7 x0 = 10 ∧
SpV k_Scribe_skipBlanks [.ref x0] g7 (fun g9 =>
WM k_Scribe_parseExpression p_Scribe_parseExpression_1 [.ref x0, .int x1, Jv, .int (x3 + (1 : Int32))] [] g9 0 0 Rt)))))) ∧
(¬ (mi h x0 4) = 0 →
Rt .null h)) ∧
(¬ x3.toInt < (100 : Int32).toInt →
Rt .null h)) : WM k_Scribe_parseExpression p_Scribe_parseExpression_1 [.ref x0, .int x1, Jv, .int x3] [] h 0 0 Rt := WM_at (hs := HH_Scribe_parseExpression) G_Scribe_parseExpression 40 18 rfl ⟨fun c11 => ⟨(H.1 c11).1, ⟨fun c12 => ⟨(H.1 c11).1, (((H.1 c11).2).1 c12)⟩, ((H.1 c11).2).2⟩⟩, H.2⟩
set_option maxRecDepth 100000 in
set_option maxHeartbeats 4000000 in
theorem v_Scribe_parseBorder (x0 : Nat) (x1 : Int32) (h : MH) (Rt : Value → MH → Prop) (H :
kd h x0 = 10 ∧
SpI k_Scribe_peek [.ref x0] h (fun r3 g1 =>
(r3 = x1 →
kd g1 x0 = 10 ∧
∀ g5 : MH, g5 = wi g1 x0 3 ((mi g1 x0 3) + (1 : Int32)) →
Rt .null g5) ∧
(¬ r3 = x1 →
kd g1 x0 = 10 ∧
SpV k_Scribe_report [.ref x0, .int (1 : Int32), .int (mi g1 x0 3)] g1 (fun g7 =>
Rt .null g7)))) : Sp k_Scribe_parseBorder [.ref x0, .int x1] h Rt := Sp_intro2 (by decide) (by decide +kernel) rfl (Nat.le_of_ble_eq_true rfl) (WM_at (hs := HH_Scribe_parseBorder) G_Scribe_parseBorder 18 0 rfl ⟨H.1, SpI.mono H.2 (fun r3 g1 qg1 => ⟨fun c8 => ⟨(qg1.1 c8).1, ⟨(qg1.1 c8).1, ((qg1.1 c8).2 _ rfl)⟩⟩, fun c8 => ⟨(qg1.2 c8).1, ⟨(qg1.2 c8).1, (qg1.2 c8).2⟩⟩⟩)⟩)
set_option maxRecDepth 100000 in
set_option maxHeartbeats 4000000 in
theorem v_Motion_isSmall (x0 : Nat) (h : MH) (Rt : Value → MH → Prop) (H :
WM k_Motion_isSmall p_Motion_isSmall_1 [.ref x0, .int (0 : Int32)] [] h 0 0 Rt) : Sp k_Motion_isSmall [.ref x0] h Rt := Sp_intro2 (by decide) (by decide +kernel) rfl (Nat.le_of_ble_eq_true rfl) (WM_at (hs := HH_Motion_isSmall) G_Motion_isSmall 24 0 rfl H)
set_option maxRecDepth 100000 in
set_option maxHeartbeats 4000000 in
theorem v_Motion_isSmall_1 (x0 : Nat) (x1 : Int32) (h : MH) (Rt : Value → MH → Prop) (H :
(x1.toInt < (9 : Int32).toInt →
kd h x0 = 7 ∧
kd h (mr h x0 0) = 20 ∧
InB x1 (ln h (mr h x0 0)) ∧
((mi h (mr h x0 0) (ix x1)).toInt < (-1 : Int32).toInt →
Rt (.int (0 : Int32)) h) ∧
(¬ (mi h (mr h x0 0) (ix x1)).toInt < (-1 : Int32).toInt →
((1 : Int32).toInt < (mi h (mr h x0 0) (ix x1)).toInt →
Rt (.int (0 : Int32)) h) ∧
(¬ (1 : Int32).toInt < (mi h (mr h x0 0) (ix x1)).toInt →
WM k_Motion_isSmall p_Motion_isSmall_1 [.ref x0, .int (x1 + (1 : Int32))] [] h 0 0 Rt))) ∧
(¬ x1.toInt < (9 : Int32).toInt →
Rt (.int (1 : Int32)) h)) : WM k_Motion_isSmall p_Motion_isSmall_1 [.ref x0, .int x1] [] h 0 0 Rt := WM_at (hs := HH_Motion_isSmall) G_Motion_isSmall 24 2 rfl ⟨fun c4 => ⟨(H.1 c4).1, ⟨((H.1 c4).2).1, ⟨(((H.1 c4).2).2).1, ⟨fun c5 => ⟨(Or.inl rfl), (((((H.1 c4).2).2).2).1 c5)⟩, fun c5 => ⟨(H.1 c4).1, ⟨((H.1 c4).2).1, ⟨(((H.1 c4).2).2).1, ⟨fun c6 => ⟨(Or.inl rfl), ((((((H.1 c4).2).2).2).2 c5).1 c6)⟩, (((((H.1 c4).2).2).2).2 c5).2⟩⟩⟩⟩⟩⟩⟩⟩, fun c4 => ⟨(Or.inr rfl), (H.2 c4)⟩⟩
set_option maxRecDepth 100000 in
set_option maxHeartbeats 4000000 in
theorem v_Motion_determinant (x0 : Nat) (h : MH) (Rt : Value → MH → Prop) (H :
kd h x0 = 7 ∧
kd h (mr h x0 0) = 20 ∧
InB (0 : Int32) (ln h (mr h x0 0)) ∧
InB (4 : Int32) (ln h (mr h x0 0)) ∧
InB (8 : Int32) (ln h (mr h x0 0)) ∧
InB (5 : Int32) (ln h (mr h x0 0)) ∧
InB (7 : Int32) (ln h (mr h x0 0)) ∧
InB (1 : Int32) (ln h (mr h x0 0)) ∧
InB (3 : Int32) (ln h (mr h x0 0)) ∧
InB (6 : Int32) (ln h (mr h x0 0)) ∧
InB (2 : Int32) (ln h (mr h x0 0)) ∧
Rt (.int ((((mi h (mr h x0 0) (ix (0 : Int32))) * (((mi h (mr h x0 0) (ix (4 : Int32))) * (mi h (mr h x0 0) (ix (8 : Int32)))) - ((mi h (mr h x0 0) (ix (5 : Int32))) * (mi h (mr h x0 0) (ix (7 : Int32)))))) - ((mi h (mr h x0 0) (ix (1 : Int32))) * (((mi h (mr h x0 0) (ix (3 : Int32))) * (mi h (mr h x0 0) (ix (8 : Int32)))) - ((mi h (mr h x0 0) (ix (5 : Int32))) * (mi h (mr h x0 0) (ix (6 : Int32))))))) + ((mi h (mr h x0 0) (ix (2 : Int32))) * (((mi h (mr h x0 0) (ix (3 : Int32))) * (mi h (mr h x0 0) (ix (7 : Int32)))) - ((mi h (mr h x0 0) (ix (4 : Int32))) * (mi h (mr h x0 0) (ix (6 : Int32)))))))) h) : Sp k_Motion_determinant [.ref x0] h Rt := Sp_intro2 (by decide) (by decide +kernel) rfl (Nat.le_of_ble_eq_true rfl) (WM_at (hs := HH_Motion_determinant) G_Motion_determinant 76 0 rfl ⟨H.1, ⟨H.2.1, ⟨H.2.2.1, ⟨H.1, ⟨H.2.1, ⟨H.2.2.2.1, ⟨H.1, ⟨H.2.1, ⟨H.2.2.2.2.1, ⟨H.1, ⟨H.2.1, ⟨H.2.2.2.2.2.1, ⟨H.1, ⟨H.2.1, ⟨H.2.2.2.2.2.2.1, ⟨H.1, ⟨H.2.1, ⟨H.2.2.2.2.2.2.2.1, ⟨H.1, ⟨H.2.1, ⟨H.2.2.2.2.2.2.2.2.1, ⟨H.1, ⟨H.2.1, ⟨H.2.2.2.2.1, ⟨H.1, ⟨H.2.1, ⟨H.2.2.2.2.2.1, ⟨H.1, ⟨H.2.1, ⟨H.2.2.2.2.2.2.2.2.2.1, ⟨H.1, ⟨H.2.1, ⟨H.2.2.2.2.2.2.2.2.2.2.1, ⟨H.1, ⟨H.2.1, ⟨H.2.2.2.2.2.2.2.2.1, ⟨H.1, ⟨H.2.1, ⟨H.2.2.2.2.2.2.1, ⟨H.1, ⟨H.2.1, ⟨H.2.2.2.1, ⟨H.1, ⟨H.2.1, ⟨H.2.2.2.2.2.2.2.2.2.1, H.2.2.2.2.2.2.2.2.2.2.2⟩⟩⟩⟩⟩⟩⟩⟩⟩⟩⟩⟩⟩⟩⟩⟩⟩⟩⟩⟩⟩⟩⟩⟩⟩⟩⟩⟩⟩⟩⟩⟩⟩⟩⟩⟩⟩⟩⟩⟩⟩⟩⟩⟩⟩)
set_option maxRecDepth 100000 in
set_option maxHeartbeats 4000000 in
theorem v_Math_absII (x0 : Int32) (h : MH) (Rt : Value → MH → Prop) (H :
(x0.toInt < 0 →
Rt (.int (-x0)) h) ∧
(¬ x0.toInt < 0 →
Rt (.int x0) h)) : Sp k_Math_absII [.int x0] h Rt := Sp_intro2 (by decide) (by decide +kernel) rfl (Nat.le_of_ble_eq_true rfl) (WM_at (hs := HH_Math_absII) G_Math_absII 8 0 rfl H)
set_option maxRecDepth 100000 in
set_option maxHeartbeats 4000000 in
theorem v_Scribe_checkMatrix (x0 : Nat) (h : MH) (Rt : Value → MH → Prop) (H :
kd h x0 = 10 ∧
kd h (mr h x0 6) = 7 ∧
SpI k_Motion_isSmall [.ref (mr h x0 6)] h (fun r4 g2 =>
(r4 = 0 →
kd g2 x0 = 10 ∧
SpV k_Scribe_report [.ref x0, .int (3 : Int32), .int (mi g2 x0 2)] g2 (fun g14 =>
Rt .null g14)) ∧
(¬ r4 = 0 →
kd g2 x0 = 10 ∧
kd g2 (mr g2 x0 6) = 7 ∧
SpI k_Motion_determinant [.ref (mr g2 x0 6)] g2 (fun r8 g6 =>
SpI k_Math_absII [.int r8] g6 (fun r10 g9 =>
(r10 = (1 : Int32) →
Rt .null g9) ∧
(¬ r10 = (1 : Int32) →
kd g9 x0 = 10 ∧
SpV k_Scribe_report [.ref x0, .int (4 : Int32), .int (mi g9 x0 2)] g9 (fun g12 =>
Rt .null g12))))))) : Sp k_Scribe_checkMatrix [.ref x0] h Rt := Sp_intro2 (by decide) (by decide +kernel) rfl (Nat.le_of_ble_eq_true rfl) (WM_at (hs := HH_Scribe_checkMatrix) G_Scribe_checkMatrix 23 0 rfl ⟨H.1, ⟨H.2.1, SpI.mono H.2.2 (fun r4 g2 qg2 => ⟨fun c15 => ⟨(qg2.1 c15).1, ⟨(qg2.1 c15).1, (qg2.1 c15).2⟩⟩, fun c15 => ⟨(qg2.2 c15).1, ⟨((qg2.2 c15).2).1, SpI.mono (((qg2.2 c15).2).2) (fun r8 g6 qg6 => SpI.mono qg6 (fun r10 g9 qg9 => ⟨qg9.1, fun c16 => ⟨(qg9.2 c16).1, ⟨(qg9.2 c16).1, (qg9.2 c16).2⟩⟩⟩))⟩⟩⟩)⟩⟩)
set_option maxRecDepth 100000 in
set_option maxHeartbeats 4000000 in
theorem v_Motion_code (x0 : Nat) (h : MH) (Rt : Value → MH → Prop) (H :
kd h x0 = 7 ∧
SpI k_Motion_isSmall [.ref x0] h (fun r3 g1 =>
(r3 = 0 →
Rt (.int (-1 : Int32)) g1) ∧
(¬ r3 = 0 →
WM k_Motion_code p_Motion_code_1 [.ref x0, .int (0 : Int32), .int (0 : Int32)] [] g1 0 0 Rt))) : Sp k_Motion_code [.ref x0] h Rt := Sp_intro2 (by decide) (by decide +kernel) rfl (Nat.le_of_ble_eq_true rfl) (WM_at (hs := HH_Motion_code) G_Motion_code 44 0 rfl H)
set_option maxRecDepth 100000 in
set_option maxHeartbeats 4000000 in
theorem v_Motion_code_1 (x0 : Nat) (x1 : Int32) (x2 : Int32) (h : MH) (Rt : Value → MH → Prop) (H :
(x2.toInt < (9 : Int32).toInt →
kd h x0 = 7 ∧
kd h (mr h x0 0) = 20 ∧
InB x2 (ln h (mr h x0 0)) ∧
WM k_Motion_code p_Motion_code_1 [.ref x0, .int (((x1 * (3 : Int32)) + (mi h (mr h x0 0) (ix x2))) + (1 : Int32)), .int (x2 + (1 : Int32))] [] h 0 0 Rt) ∧
(¬ x2.toInt < (9 : Int32).toInt →
WM k_Motion_code p_Motion_code_2 [.ref x0, .int x1, .int (0 : Int32)] [] h 0 0 Rt)) : WM k_Motion_code p_Motion_code_1 [.ref x0, .int x1, .int x2] [] h 0 0 Rt := WM_at (hs := HH_Motion_code) G_Motion_code 44 9 rfl H
set_option maxRecDepth 100000 in
set_option maxHeartbeats 4000000 in
theorem v_Motion_code_2 (x0 : Nat) (x1 : Int32) (x2 : Int32) (h : MH) (Rt : Value → MH → Prop) (H :
(x2.toInt < (3 : Int32).toInt →
kd h x0 = 7 ∧
kd h (mr h x0 1) = 20 ∧
InB x2 (ln h (mr h x0 1)) ∧
WM k_Motion_code p_Motion_code_2 [.ref x0, .int ((x1 * (24 : Int32)) + (mi h (mr h x0 1) (ix x2))), .int (x2 + (1 : Int32))] [] h 0 0 Rt) ∧
(¬ x2.toInt < (3 : Int32).toInt →
Rt (.int x1) h)) : WM k_Motion_code p_Motion_code_2 [.ref x0, .int x1, .int x2] [] h 0 0 Rt := WM_at (hs := HH_Motion_code) G_Motion_code 44 27 rfl H
set_option maxRecDepth 100000 in
set_option maxHeartbeats 4000000 in
theorem v_Scribe_parse (x0 : Nat) (h : MH) (Rt : Value → MH → Prop) (H :
kd h x0 = 10 ∧
∀ g2 : MH, g2 = wi h x0 3 (0 : Int32) →
SpV k_Scribe_report [.ref x0, .int (0 : Int32), .int (-1 : Int32)] g2 (fun g3 =>
kd g3 x0 = 10 ∧
kd g3 (mr g3 x0 6) = 7 ∧
SpV k_Motion_clear [.ref (mr g3 x0 6)] g3 (fun g5 =>
WM k_Scribe_parse p_Scribe_parse_1 [.ref x0, .int (0 : Int32)] [] g5 0 0 Rt))) : Sp k_Scribe_parse [.ref x0] h Rt := Sp_intro2 (by decide) (by decide +kernel) rfl (Nat.le_of_ble_eq_true rfl) (WM_at (hs := HH_Scribe_parse) G_Scribe_parse 52 0 rfl ⟨H.1, ⟨H.1, (H.2 _ rfl)⟩⟩)
set_option maxRecDepth 100000 in
set_option maxHeartbeats 4000000 in
theorem v_Scribe_parse_1 (x0 : Nat) (x1 : Int32) (h : MH) (Rt : Value → MH → Prop) (H :
(x1.toInt < (3 : Int32).toInt →
kd h x0 = 10 ∧
((mi h x0 4) = 0 →
SpV k_Scribe_parseExpression [.ref x0, .int x1] h (fun g5 =>
kd g5 x0 = 10 ∧
((mi g5 x0 4) = 0 →
(x1.toInt < (2 : Int32).toInt →
SpV k_Scribe_parseBorder [.ref x0, .int (44 : Int32)] g5 (fun g8 =>
WM k_Scribe_parse p_Scribe_parse_1 [.ref x0, .int (x1 + (1 : Int32))] [] g8 0 0 Rt)) ∧
(¬ x1.toInt < (2 : Int32).toInt →
SpV k_Scribe_parseBorder [.ref x0, .int (-1 : Int32)] g5 (fun g7 =>
WM k_Scribe_parse p_Scribe_parse_1 [.ref x0, .int (x1 + (1 : Int32))] [] g7 0 0 Rt))) ∧
(¬ (mi g5 x0 4) = 0 →
WM k_Scribe_parse p_Scribe_parse_1 [.ref x0, .int (x1 + (1 : Int32))] [] g5 0 0 Rt))) ∧
(¬ (mi h x0 4) = 0 →
((mi h x0 4) = 0 →
SpV k_Scribe_checkMatrix [.ref x0] h (fun g4 =>
WM k_Scribe_parse p_Scribe_parse_2 [.ref x0, Jv] [] g4 0 0 Rt)) ∧
(¬ (mi h x0 4) = 0 →
WM k_Scribe_parse p_Scribe_parse_2 [.ref x0, Jv] [] h 0 0 Rt))) ∧
(¬ x1.toInt < (3 : Int32).toInt →
kd h x0 = 10 ∧
((mi h x0 4) = 0 →
SpV k_Scribe_checkMatrix [.ref x0] h (fun g2 =>
WM k_Scribe_parse p_Scribe_parse_2 [.ref x0, Jv] [] g2 0 0 Rt)) ∧
(¬ (mi h x0 4) = 0 →
WM k_Scribe_parse p_Scribe_parse_2 [.ref x0, Jv] [] h 0 0 Rt))) : WM k_Scribe_parse p_Scribe_parse_1 [.ref x0, .int x1] [] h 0 0 Rt := WM_at (hs := HH_Scribe_parse) G_Scribe_parse 52 12 rfl ⟨fun c9 => ⟨(H.1 c9).1, ⟨fun c10 => ⟨(H.1 c9).1, SpV.mono (((H.1 c9).2).1 c10) (fun g5 qg5 => ⟨qg5.1, ⟨fun c11 => ⟨fun c12 => ⟨qg5.1, ((qg5.2.1 c11).1 c12)⟩, fun c12 => ⟨qg5.1, ((qg5.2.1 c11).2 c12)⟩⟩, qg5.2.2⟩⟩)⟩, fun c10 => ⟨(H.1 c9).1, ⟨fun c13 => ⟨(H.1 c9).1, ((((H.1 c9).2).2 c10).1 c13)⟩, (((H.1 c9).2).2 c10).2⟩⟩⟩⟩, fun c9 => ⟨(H.2 c9).1, ⟨fun c14 => ⟨(H.2 c9).1, (((H.2 c9).2).1 c14)⟩, ((H.2 c9).2).2⟩⟩⟩
set_option maxRecDepth 100000 in
set_option maxHeartbeats 4000000 in
theorem v_Scribe_parse_2 (x0 : Nat) (h : MH) (Rt : Value → MH → Prop) (H :
kd h x0 = 10 ∧
∀ g2 : MH, g2 = wi h x0 2 (0 : Int32) →
((mi g2 x0 4) = 0 →
kd h (mr h x0 6) = 7 ∧
SpI k_Motion_code [.ref (mr h x0 6)] g2 (fun r5 g3 =>
Rt (.int r5) g3)) ∧
(¬ (mi g2 x0 4) = 0 →
Rt (.int (-1 : Int32)) g2)) : WM k_Scribe_parse p_Scribe_parse_2 [.ref x0, Jv] [] h 0 0 Rt := WM_at (hs := HH_Scribe_parse) G_Scribe_parse 52 39 rfl ⟨H.1, ⟨H.1, ⟨fun c6 => ⟨H.1, ((H.2 _ rfl).1 c6)⟩, (H.2 _ rfl).2⟩⟩⟩
set_option maxRecDepth 100000 in
set_option maxHeartbeats 4000000 in
theorem v_Ho_keepOperation (x0 : Nat) (x1 : Int32) (h : MH) (Rt : Value → MH → Prop) (H :
kd h x0 = 12 ∧
((mi h x0 3).toInt < (40 : Int32).toInt →
kd h (mr h x0 1) = 20 ∧
InB (mi h x0 3) (ln h (mr h x0 1)) ∧
∀ g4 : MH, g4 = wi h (mr h x0 1) (ix (mi h x0 3)) x1 →
kd h (mr h x0 2) = 22 ∧
InB (mi h x0 3) (ln h (mr h x0 2)) ∧
∀ g7 : MH, g7 = wi g4 (mr h x0 2) (ix (mi h x0 3)) (0 : Int32) →
∀ g8 : MH, g8 = wi g7 x0 3 ((mi g7 x0 3) + (1 : Int32)) →
Rt (.int (mi h x0 3)) g8) ∧
(¬ (mi h x0 3).toInt < (40 : Int32).toInt →
Rt (.int (-1 : Int32)) h)) : Sp k_Ho_keepOperation [.ref x0, .int x1] h Rt := Sp_intro2 (by decide) (by decide +kernel) rfl (Nat.le_of_ble_eq_true rfl) (WM_at (hs := HH_Ho_keepOperation) G_Ho_keepOperation 27 0 rfl ⟨H.1, ⟨fun c9 => ⟨H.1, ⟨(H.2.1 c9).1, ⟨((H.2.1 c9).2).1, ⟨H.1, ⟨(((H.2.1 c9).2).2 _ rfl).1, ⟨((((H.2.1 c9).2).2 _ rfl).2).1, ⟨(Or.inl rfl), ⟨H.1, ⟨H.1, ((((((H.2.1 c9).2).2 _ rfl).2).2 _ rfl) _ rfl)⟩⟩⟩⟩⟩⟩⟩⟩⟩, H.2.2⟩⟩)
set_option maxRecDepth 100000 in
set_option maxHeartbeats 4000000 in
theorem v_Ho_read (x0 : Nat) (h : MH) (Rt : Value → MH → Prop) (H :
kd h x0 = 12 ∧
kd h (mr h x0 0) = 10 ∧
SpI k_Scribe_parse [.ref (mr h x0 0)] h (fun r4 g2 =>
(r4 = (-1 : Int32) →
Rt (.int (-1 : Int32)) g2) ∧
(¬ r4 = (-1 : Int32) →
kd g2 x0 = 12 ∧
((mi g2 x0 3).toInt < (40 : Int32).toInt →
SpI k_Ho_keepOperation [.ref x0, .int r4] g2 (fun r7 g6 =>
Rt (.int r7) g6)) ∧
(¬ (mi g2 x0 3).toInt < (40 : Int32).toInt →
kd g2 (mr g2 x0 0) = 10 ∧
SpV k_Scribe_report [.ref (mr g2 x0 0), .int (5 : Int32), .int (-1 : Int32)] g2 (fun g8 =>
Rt (.int (-1 : Int32)) g8))))) : Sp k_Ho_read [.ref x0] h Rt := Sp_intro2 (by decide) (by decide +kernel) rfl (Nat.le_of_ble_eq_true rfl) (WM_at (hs := HH_Ho_read) G_Ho_read 25 0 rfl ⟨H.1, ⟨H.2.1, SpI.mono H.2.2 (fun r4 g2 qg2 => ⟨qg2.1, fun c10 => ⟨(qg2.2 c10).1, ⟨fun c11 => ⟨(qg2.2 c10).1, (((qg2.2 c10).2).1 c11)⟩, fun c11 => ⟨(qg2.2 c10).1, (((qg2.2 c10).2).2 c11)⟩⟩⟩⟩)⟩⟩)
set_option maxRecDepth 100000 in
set_option maxHeartbeats 4000000 in
theorem v_Ref_byteAt (x0 : Nat) (x1 : Int32) (h : MH) (Rt : Value → MH → Prop) (H :
kd h x0 = 13 ∧
(x1.toInt < (mi h x0 9).toInt →
kd h (mr h x0 8) = 20 ∧
InB x1 (ln h (mr h x0 8)) ∧
Rt (.int (mi h (mr h x0 8) (ix x1))) h) ∧
(¬ x1.toInt < (mi h x0 9).toInt →
Rt (.int (-1 : Int32)) h)) : Sp k_Ref_byteAt [.ref x0, .int x1] h Rt := Sp_intro2 (by decide) (by decide +kernel) rfl (Nat.le_of_ble_eq_true rfl) (WM_at (hs := HH_Ref_byteAt) G_Ref_byteAt 12 0 rfl ⟨H.1, ⟨fun c4 => ⟨H.1, (H.2.1 c4)⟩, H.2.2⟩⟩)
set_option maxRecDepth 100000 in
set_option maxHeartbeats 4000000 in
theorem v_Ref_next (x0 : Nat) (h : MH) (Rt : Value → MH → Prop) (H :
kd h x0 = 13 ∧
SpI k_Ref_byteAt [.ref x0, .int (mi h x0 12)] h (fun r3 g2 =>
(r3 = (32 : Int32) →
kd g2 x0 = 13 ∧
∀ g8 : MH, g8 = wi g2 x0 12 ((mi g2 x0 12) + (1 : Int32)) →
WM k_Ref_next p_Ref_next_1 [.ref x0] [] g8 0 0 Rt) ∧
(¬ r3 = (32 : Int32) →
kd g2 x0 = 13 ∧
SpI k_Ref_byteAt [.ref x0, .int (mi g2 x0 12)] g2 (fun r6 g5 =>
Rt (.int r6) g5)))) : Sp k_Ref_next [.ref x0] h Rt := Sp_intro2 (by decide) (by decide +kernel) rfl (Nat.le_of_ble_eq_true rfl) (WM_at (hs := HH_Ref_next) G_Ref_next 19 0 rfl ⟨H.1, ⟨H.1, SpI.mono H.2 (fun r3 g2 qg2 => ⟨fun c9 => ⟨(qg2.1 c9).1, ⟨(qg2.1 c9).1, ((qg2.1 c9).2 _ rfl)⟩⟩, fun c9 => ⟨(qg2.2 c9).1, ⟨(qg2.2 c9).1, (qg2.2 c9).2⟩⟩⟩)⟩⟩)
set_option maxRecDepth 100000 in
set_option maxHeartbeats 4000000 in
theorem v_Ref_next_1 (x0 : Nat) (h : MH) (Rt : Value → MH → Prop) (H :
kd h x0 = 13 ∧
SpI k_Ref_byteAt [.ref x0, .int (mi h x0 12)] h (fun r3 g2 =>
(r3 = (32 : Int32) →
kd g2 x0 = 13 ∧
∀ g8 : MH, g8 = wi g2 x0 12 ((mi g2 x0 12) + (1 : Int32)) →
WM k_Ref_next p_Ref_next_1 [.ref x0] [] g8 0 0 Rt) ∧
(¬ r3 = (32 : Int32) →
kd g2 x0 = 13 ∧
SpI k_Ref_byteAt [.ref x0, .int (mi g2 x0 12)] g2 (fun r6 g5 =>
Rt (.int r6) g5)))) : WM k_Ref_next p_Ref_next_1 [.ref x0] [] h 0 0 Rt := WM_at (hs := HH_Ref_next) G_Ref_next 19 0 rfl ⟨H.1, ⟨H.1, SpI.mono H.2 (fun r3 g2 qg2 => ⟨fun c9 => ⟨(qg2.1 c9).1, ⟨(qg2.1 c9).1, ((qg2.1 c9).2 _ rfl)⟩⟩, fun c9 => ⟨(qg2.2 c9).1, ⟨(qg2.2 c9).1, (qg2.2 c9).2⟩⟩⟩)⟩⟩
set_option maxRecDepth 100000 in
set_option maxHeartbeats 4000000 in
theorem v_Ref_isDigit (x0 : Int32) (h : MH) (Rt : Value → MH → Prop) (H :
(x0.toInt < (48 : Int32).toInt →
Rt (.int (0 : Int32)) h) ∧
(¬ x0.toInt < (48 : Int32).toInt →
((57 : Int32).toInt < x0.toInt →
Rt (.int (0 : Int32)) h) ∧
(¬ (57 : Int32).toInt < x0.toInt →
Rt (.int (1 : Int32)) h))) : Sp k_Ref_isDigit [.int x0] h Rt := Sp_intro2 (by decide) (by decide +kernel) rfl (Nat.le_of_ble_eq_true rfl) (WM_at (hs := HH_Ref_isDigit) G_Ref_isDigit 11 0 rfl ⟨fun c1 => ⟨(Or.inl rfl), (H.1 c1)⟩, fun c1 => ⟨fun c2 => ⟨(Or.inl rfl), ((H.2 c1).1 c2)⟩, fun c2 => ⟨(Or.inr rfl), ((H.2 c1).2 c2)⟩⟩⟩)
set_option maxRecDepth 100000 in
set_option maxHeartbeats 4000000 in
theorem v_Ref_wrong (x0 : Nat) (x1 : Int32) (x2 : Int32) (h : MH) (Rt : Value → MH → Prop) (H :
kd h x0 = 13 ∧
∀ g2 : MH, g2 = wi h x0 10 x1 →
∀ g3 : MH, g3 = wi g2 x0 11 x2 →
Rt (.int (0 : Int32)) g3) : Sp k_Ref_wrong [.ref x0, .int x1, .int x2] h Rt := Sp_intro2 (by decide) (by decide +kernel) rfl (Nat.le_of_ble_eq_true rfl) (WM_at (hs := HH_Ref_wrong) G_Ref_wrong 9 0 rfl ⟨H.1, ⟨H.1, ⟨(Or.inl rfl), ((H.2 _ rfl) _ rfl)⟩⟩⟩)
set_option maxRecDepth 100000 in
set_option maxHeartbeats 4000000 in
theorem v_Ref_numberHere (x0 : Nat) (h : MH) (Rt : Value → MH → Prop) (H :
kd h x0 = 13 ∧
SpI k_Ref_byteAt [.ref x0, .int (mi h x0 12)] h (fun r3 g2 =>
kd g2 x0 = 13 ∧
∀ g5 : MH, g5 = wi g2 x0 12 ((mi g2 x0 12) + (1 : Int32)) →
SpI k_Ref_byteAt [.ref x0, .int (mi g5 x0 12)] g5 (fun r7 g6 =>
SpI k_Ref_isDigit [.int r7] g6 (fun r9 g8 =>
(r9 = 0 →
Rt (.int (r3 - (48 : Int32))) g8) ∧
(¬ r9 = 0 →
kd g8 x0 = 13 ∧
SpI k_Ref_byteAt [.ref x0, .int (mi g8 x0 12)] g8 (fun r12 g11 =>
kd g11 x0 = 13 ∧
∀ g14 : MH, g14 = wi g11 x0 12 ((mi g11 x0 12) + (1 : Int32)) →
Rt (.int ((((10 : Int32) * (r3 - (48 : Int32))) + r12) - (48 : Int32))) g14)))))) : Sp k_Ref_numberHere [.ref x0] h Rt := Sp_intro2 (by decide) (by decide +kernel) rfl (Nat.le_of_ble_eq_true rfl) (WM_at (hs := HH_Ref_numberHere) G_Ref_numberHere 39 0 rfl ⟨H.1, ⟨H.1, SpI.mono H.2 (fun r3 g2 qg2 => ⟨qg2.1, ⟨qg2.1, ⟨qg2.1, ⟨qg2.1, SpI.mono (qg2.2 _ rfl) (fun r7 g6 qg6 => SpI.mono qg6 (fun r9 g8 qg8 => ⟨qg8.1, fun c15 => ⟨(qg8.2 c15).1, ⟨(qg8.2 c15).1, SpI.mono ((qg8.2 c15).2) (fun r12 g11 qg11 => ⟨qg11.1, ⟨qg11.1, (qg11.2 _ rfl)⟩⟩)⟩⟩⟩))⟩⟩⟩⟩)⟩⟩)
set_option maxRecDepth 100000 in
set_option maxHeartbeats 4000000 in
theorem v_Ref_term (x0 : Nat) (x1 : Int32) (x2 : Int32) (h : MH) (Rt : Value → MH → Prop) (H :
kd h x0 = 13 ∧
SpI k_Ref_next [.ref x0] h (fun r3 g1 =>
(r3 = (120 : Int32) →
WM k_Ref_term p_Ref_term_1 [.ref x0, .int x1, .int x2, .int r3, Jv, Jv, Jv] [] g1 0 0 Rt) ∧
(¬ r3 = (120 : Int32) →
(r3 = (121 : Int32) →
WM k_Ref_term p_Ref_term_1 [.ref x0, .int x1, .int x2, .int r3, Jv, Jv, Jv] [] g1 0 0 Rt) ∧
(¬ r3 = (121 : Int32) →
(r3 = (122 : Int32) →
WM k_Ref_term p_Ref_term_1 [.ref x0, .int x1, .int x2, .int r3, Jv, Jv, Jv] [] g1 0 0 Rt) ∧
(¬ r3 = (122 : Int32) →
SpI k_Ref_isDigit [.int r3] g1 (fun r5 g4 =>
(r5 = 0 →
kd g4 x0 = 13 ∧
SpI k_Ref_wrong [.ref x0, .int (1 : Int32), .int (mi g4 x0 12)] g4 (fun r27 g26 =>
(r27 = 0 ∨ r27 = 1) ∧
Rt (.int r27) g26)) ∧
(¬ r5 = 0 →
kd g4 x0 = 13 ∧
SpI k_Ref_numberHere [.ref x0] g4 (fun r8 g7 =>
kd g7 x0 = 13 ∧
SpI k_Ref_next [.ref x0] g7 (fun r11 g9 =>
(r11 = (47 : Int32) →
kd g9 x0 = 13 ∧
∀ g13 : MH, g13 = wi g9 x0 12 ((mi g9 x0 12) + (1 : Int32)) →
SpI k_Ref_next [.ref x0] g13 (fun r15 g14 =>
SpI k_Ref_isDigit [.int r15] g14 (fun r17 g16 =>
(r17 = 0 →
kd g16 x0 = 13 ∧
SpI k_Ref_wrong [.ref x0, .int (1 : Int32), .int (mi g16 x0 12)] g16 (fun r23 g22 =>
(r23 = 0 ∨ r23 = 1) ∧
Rt (.int r23) g22)) ∧
(¬ r17 = 0 →
kd g16 x0 = 13 ∧
SpI k_Ref_numberHere [.ref x0] g16 (fun r20 g18 =>
WM k_Ref_term p_Ref_term_2 [.ref x0, .int x1, .int x2, Jv, .int (mi g4 x0 12), .int r8, .int r20] [] g18 0 0 Rt))))) ∧
(¬ r11 = (47 : Int32) →
Rt (.int (1 : Int32)) g9)))))))))) : Sp k_Ref_term [.ref x0, .int x1, .int x2] h Rt := Sp_intro2 (by decide) (by decide +kernel) rfl (Nat.le_of_ble_eq_true rfl) (WM_at (hs := HH_Ref_term) G_Ref_term 112 0 rfl ⟨H.1, SpI.mono H.2 (fun r3 g1 qg1 => ⟨qg1.1, fun c29 => ⟨(qg1.2 c29).1, fun c30 => ⟨((qg1.2 c29).2 c30).1, fun c31 => SpI.mono (((qg1.2 c29).2 c30).2 c31) (fun r5 g4 qg4 => ⟨fun c32 => ⟨(qg4.1 c32).1, ⟨(qg4.1 c32).1, (qg4.1 c32).2⟩⟩, fun c32 => ⟨(qg4.2 c32).1, ⟨(qg4.2 c32).1, SpI.mono ((qg4.2 c32).2) (fun r8 g7 qg7 => ⟨qg7.1, SpI.mono qg7.2 (fun r11 g9 qg9 => ⟨fun c33 => ⟨(qg9.1 c33).1, ⟨(qg9.1 c33).1, ⟨(qg9.1 c33).1, SpI.mono ((qg9.1 c33).2 _ rfl) (fun r15 g14 qg14 => SpI.mono qg14 (fun r17 g16 qg16 => ⟨fun c34 => ⟨(qg16.1 c34).1, ⟨(qg16.1 c34).1, (qg16.1 c34).2⟩⟩, qg16.2⟩))⟩⟩⟩, fun c33 => ⟨(Or.inr rfl), (qg9.2 c33)⟩⟩)⟩)⟩⟩⟩)⟩⟩⟩)⟩)
set_option maxRecDepth 100000 in
set_option maxHeartbeats 4000000 in
theorem v_Ref_term_1 (x0 : Nat) (x1 : Int32) (x2 : Int32) (x3 : Int32) (h : MH) (Rt : Value → MH → Prop) (H :
kd h x0 = 13 ∧
kd h (mr h x0 59) = 20 ∧
InB ((((3 : Int32) * x1) + x3) - (120 : Int32)) (ln h (mr h x0 59)) ∧
∀ g4 : MH, g4 = wi h (mr h x0 59) (ix ((((3 : Int32) * x1) + x3) - (120 : Int32))) ((mi h (mr h x0 59) (ix ((((3 : Int32) * x1) + x3) - (120 : Int32)))) + x2) →
∀ g5 : MH, g5 = wi g4 x0 12 ((mi g4 x0 12) + (1 : Int32)) →
Rt (.int (1 : Int32)) g5) : WM k_Ref_term p_Ref_term_1 [.ref x0, .int x1, .int x2, .int x3, Jv, Jv, Jv] [] h 0 0 Rt := WM_at (hs := HH_Ref_term) G_Ref_term 112 12 rfl ⟨H.1, ⟨H.2.1, ⟨H.2.2.1, ⟨H.2.1, ⟨H.2.2.1, ⟨H.1, ⟨H.1, ⟨(Or.inr rfl), ((H.2.2.2 _ rfl) _ rfl)⟩⟩⟩⟩⟩⟩⟩⟩
set_option maxRecDepth 100000 in
set_option maxHeartbeats 4000000 in
theorem v_Ref_term_2 (x0 : Nat) (x1 : Int32) (x2 : Int32) (x4 : Int32) (x5 : Int32) (x6 : Int32) (h : MH) (Rt : Value → MH → Prop) (H :
(x6 = 0 →
kd h x0 = 13 ∧
SpI k_Ref_wrong [.ref x0, .int (2 : Int32), .int x4] h (fun r3 g1 =>
(r3 = 0 ∨ r3 = 1) ∧
Rt (.int r3) g1)) ∧
(¬ x6 = 0 →
x6 ≠ 0 ∧
((irm ((24 : Int32) * x5) x6) = 0 →
kd h x0 = 13 ∧
kd h (mr h x0 60) = 20 ∧
InB x1 (ln h (mr h x0 60)) ∧
∀ g9 : MH, g9 = wi h (mr h x0 60) (ix x1) (irm ((irm ((mi h (mr h x0 60) (ix x1)) + (x2 * (((24 : Int32) * x5) / x6))) (24 : Int32)) + (24 : Int32)) (24 : Int32)) →
Rt (.int (1 : Int32)) g9) ∧
(¬ (irm ((24 : Int32) * x5) x6) = 0 →
kd h x0 = 13 ∧
SpI k_Ref_wrong [.ref x0, .int (2 : Int32), .int x4] h (fun r12 g10 =>
(r12 = 0 ∨ r12 = 1) ∧
Rt (.int r12) g10)))) : WM k_Ref_term p_Ref_term_2 [.ref x0, .int x1, .int x2, Jv, .int x4, .int x5, .int x6] [] h 0 0 Rt := WM_at (hs := HH_Ref_term) G_Ref_term 112 74 rfl ⟨H.1, fun c14 => ⟨(H.2 c14).1, ⟨fun c15 => ⟨(((H.2 c14).2).1 c15).1, ⟨(((H.2 c14).2).1 c15).1, ⟨((((H.2 c14).2).1 c15).2).1, ⟨(((((H.2 c14).2).1 c15).2).2).1, ⟨(H.2 c14).1, ⟨(by decide), ⟨(by decide), ⟨((((H.2 c14).2).1 c15).2).1, ⟨(((((H.2 c14).2).1 c15).2).2).1, ⟨(Or.inr rfl), ((((((H.2 c14).2).1 c15).2).2).2 _ rfl)⟩⟩⟩⟩⟩⟩⟩⟩⟩⟩, ((H.2 c14).2).2⟩⟩⟩
