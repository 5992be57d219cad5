set_option maxRecDepth 100000 in
set_option maxHeartbeats 4000000 in
theorem v_Law_law (x0 : Nat) (h : MH) (Rt : Value → MH → Prop) (H :
∀ g1 : MH, g1 = nw h 12 0 →
kd g1 (hn h) = 12 ∧
SpV k_Ho_init [.ref (hn h)] g1 (fun g2 =>
∀ g4 : MH, g4 = nw g2 13 0 →
kd g4 (hn g2) = 13 ∧
SpV k_Ref_init [.ref (hn g2)] g4 (fun g5 =>
WM k_Law_law p_Law_law_1 [.ref x0, .ref (hn h), .ref (hn g2), .int (0 : Int32)] [] g5 94 110249 Rt))) : Sp k_Law_law [.ref x0] h Rt := Sp_intro2 (by decide) (by decide +kernel) rfl (Nat.le_of_ble_eq_true rfl) (WM_at (hs := HH_Law_law) G_Law_law 1131 0 rfl ⟨(H _ rfl).1, SpV.mono ((H _ rfl).2) (fun g2 qg2 => (qg2 _ rfl))⟩)
set_option maxRecDepth 100000 in
set_option maxHeartbeats 4000000 in
theorem v_Law_law_1 (x0 : Nat) (x1 : Nat) (x2 : Nat) (x3 : Int32) (cc ss : Nat) (h : MH) (Rt : Value → MH → Prop) (H :
kd h x0 = 19 ∧
(((Int32.ofNat (ln h x0)) - (7 : Int32)).toInt < x3.toInt →
gd cc 600000 (
gd ss 7302250 (
Rt (.int (1 : Int32)) h))) ∧
(¬ ((Int32.ofNat (ln h x0)) - (7 : Int32)).toInt < x3.toInt →
InB x3 (ln h x0) ∧
(((mi h x0 (ix x3)) &&& (63 : Int32)) = (0 : Int32) →
InB (x3 + (1 : Int32)) (ln h x0) ∧
InB (x3 + (2 : Int32)) (ln h x0) ∧
InB (x3 + (3 : Int32)) (ln h x0) ∧
InB (x3 + (4 : Int32)) (ln h x0) ∧
InB (x3 + (5 : Int32)) (ln h x0) ∧
kd h x1 = 12 ∧
gd (cc + 0) 600000 (
gd (ss + 0) 7302250 (
SpV k_Ho_feed [.ref x1, .int (mi h x0 (ix (x3 + (1 : Int32)))), .int (mi h x0 (ix (x3 + (2 : Int32)))), .int (mi h x0 (ix (x3 + (3 : Int32)))), .int (mi h x0 (ix (x3 + (4 : Int32)))), .int (mi h x0 (ix (x3 + (5 : Int32))))] h (fun g375 =>
kd g375 x0 = 19 ∧
InB (x3 + (1 : Int32)) (ln g375 x0) ∧
InB (x3 + (2 : Int32)) (ln g375 x0) ∧
InB (x3 + (3 : Int32)) (ln g375 x0) ∧
InB (x3 + (4 : Int32)) (ln g375 x0) ∧
InB (x3 + (5 : Int32)) (ln g375 x0) ∧
kd g375 x2 = 13 ∧
gd ((cc + 0) + 0) 600000 (
gd ((ss + 0) + 0) 7302250 (
SpV k_Ref_feed [.ref x2, .int (mi g375 x0 (ix (x3 + (1 : Int32)))), .int (mi g375 x0 (ix (x3 + (2 : Int32)))), .int (mi g375 x0 (ix (x3 + (3 : Int32)))), .int (mi g375 x0 (ix (x3 + (4 : Int32)))), .int (mi g375 x0 (ix (x3 + (5 : Int32))))] g375 (fun g383 =>
WM k_Law_law p_Law_law_2 [.ref x0, .ref x1, .ref x2, .int x3] [] g383 ((cc + 0) + 0) ((ss + 0) + 0) Rt))))))) ∧
(¬ ((mi h x0 (ix x3)) &&& (63 : Int32)) = (0 : Int32) →
(((mi h x0 (ix x3)) &&& (63 : Int32)) = (1 : Int32) →
InB (x3 + (1 : Int32)) (ln h x0) ∧
kd h x1 = 12 ∧
gd (cc + 0) 600000 (
gd (ss + 0) 7302250 (
SpI k_Ho_end [.ref x1, .int (mi h x0 (ix (x3 + (1 : Int32))))] h (fun r364 g362 =>
kd g362 x0 = 19 ∧
InB (x3 + (1 : Int32)) (ln g362 x0) ∧
kd g362 x2 = 13 ∧
gd ((cc + 0) + 0) 600000 (
gd ((ss + 0) + 0) 7302250 (
SpI k_Ref_end [.ref x2, .int (mi g362 x0 (ix (x3 + (1 : Int32))))] g362 (fun r369 g367 =>
(r364 = r369 →
WM k_Law_law p_Law_law_1 [.ref x0, .ref x1, .ref x2, .int (x3 + (7 : Int32))] [] g367 ((cc + 0) + 0) ((ss + 0) + 0) Rt) ∧
(¬ r364 = r369 →
gd ((cc + 0) + 0) 600000 (
gd ((ss + 0) + 0) 7302250 (
Rt (.int (0 : Int32)) g367)))))))))) ∧
(¬ ((mi h x0 (ix x3)) &&& (63 : Int32)) = (1 : Int32) →
(((mi h x0 (ix x3)) &&& (63 : Int32)) = (2 : Int32) →
kd h x1 = 12 ∧
gd (cc + 0) 600000 (
gd (ss + 0) 7302250 (
SpI k_Ho_read [.ref x1] h (fun r357 g355 =>
kd g355 x2 = 13 ∧
gd ((cc + 0) + 0) 600000 (
gd ((ss + 0) + 0) 7302250 (
SpI k_Ref_read [.ref x2] g355 (fun r360 g358 =>
(r357 = r360 →
WM k_Law_law p_Law_law_1 [.ref x0, .ref x1, .ref x2, .int (x3 + (7 : Int32))] [] g358 ((cc + 0) + 0) ((ss + 0) + 0) Rt) ∧
(¬ r357 = r360 →
gd ((cc + 0) + 0) 600000 (
gd ((ss + 0) + 0) 7302250 (
Rt (.int (0 : Int32)) g358)))))))))) ∧
(¬ ((mi h x0 (ix x3)) &&& (63 : Int32)) = (2 : Int32) →
(((mi h x0 (ix x3)) &&& (63 : Int32)) = (3 : Int32) →
InB (x3 + (1 : Int32)) (ln h x0) ∧
kd h x1 = 12 ∧
gd (cc + 0) 600000 (
gd (ss + 0) 7302250 (
SpI k_Ho_fault [.ref x1, .int (mi h x0 (ix (x3 + (1 : Int32))))] h (fun r349 g347 =>
kd g347 x0 = 19 ∧
InB (x3 + (1 : Int32)) (ln g347 x0) ∧
kd g347 x2 = 13 ∧
gd ((cc + 0) + 0) 600000 (
gd ((ss + 0) + 0) 7302250 (
SpI k_Ref_fault [.ref x2, .int (mi g347 x0 (ix (x3 + (1 : Int32))))] g347 (fun r354 g352 =>
(r349 = r354 →
WM k_Law_law p_Law_law_1 [.ref x0, .ref x1, .ref x2, .int (x3 + (7 : Int32))] [] g352 ((cc + 0) + 0) ((ss + 0) + 0) Rt) ∧
(¬ r349 = r354 →
gd ((cc + 0) + 0) 600000 (
gd ((ss + 0) + 0) 7302250 (
Rt (.int (0 : Int32)) g352)))))))))) ∧
(¬ ((mi h x0 (ix x3)) &&& (63 : Int32)) = (3 : Int32) →
(((mi h x0 (ix x3)) &&& (63 : Int32)) = (4 : Int32) →
InB (x3 + (1 : Int32)) (ln h x0) ∧
InB (x3 + (2 : Int32)) (ln h x0) ∧
kd h x1 = 12 ∧
gd (cc + 0) 600000 (
gd (ss + 0) 7302250 (
SpI k_Ho_operation [.ref x1, .int (mi h x0 (ix (x3 + (1 : Int32)))), .int (mi h x0 (ix (x3 + (2 : Int32))))] h (fun r339 g337 =>
kd g337 x0 = 19 ∧
InB (x3 + (1 : Int32)) (ln g337 x0) ∧
InB (x3 + (2 : Int32)) (ln g337 x0) ∧
kd g337 x2 = 13 ∧
gd ((cc + 0) + 0) 600000 (
gd ((ss + 0) + 0) 7302250 (
SpI k_Ref_operation [.ref x2, .int (mi g337 x0 (ix (x3 + (1 : Int32)))), .int (mi g337 x0 (ix (x3 + (2 : Int32))))] g337 (fun r345 g343 =>
(r339 = r345 →
WM k_Law_law p_Law_law_1 [.ref x0, .ref x1, .ref x2, .int (x3 + (7 : Int32))] [] g343 ((cc + 0) + 0) ((ss + 0) + 0) Rt) ∧
(¬ r339 = r345 →
WM k_Law_law p_Law_law_3 [Jv, Jv, Jv, Jv] [] g343 ((cc + 0) + 0) ((ss + 0) + 0) Rt)))))))) ∧
(¬ ((mi h x0 (ix x3)) &&& (63 : Int32)) = (4 : Int32) →
(((mi h x0 (ix x3)) &&& (63 : Int32)) = (5 : Int32) →
InB (x3 + (1 : Int32)) (ln h x0) ∧
kd h x1 = 12 ∧
gd (cc + 0) 600000 (
gd (ss + 0) 7302250 (
SpI k_Ho_tell [.ref x1, .int (mi h x0 (ix (x3 + (1 : Int32))))] h (fun r329 g327 =>
kd g327 x0 = 19 ∧
InB (x3 + (1 : Int32)) (ln g327 x0) ∧
kd g327 x2 = 13 ∧
gd ((cc + 0) + 0) 600000 (
gd ((ss + 0) + 0) 7302250 (
SpI k_Ref_tell [.ref x2, .int (mi g327 x0 (ix (x3 + (1 : Int32))))] g327 (fun r334 g332 =>
(r329 = r334 →
WM k_Law_law p_Law_law_1 [.ref x0, .ref x1, .ref x2, .int (x3 + (7 : Int32))] [] g332 ((cc + 0) + 0) ((ss + 0) + 0) Rt) ∧
(¬ r329 = r334 →
gd ((cc + 0) + 0) 600000 (
gd ((ss + 0) + 0) 7302250 (
Rt (.int (0 : Int32)) g332)))))))))) ∧
(¬ ((mi h x0 (ix x3)) &&& (63 : Int32)) = (5 : Int32) →
(((mi h x0 (ix x3)) &&& (63 : Int32)) = (6 : Int32) →
InB (x3 + (1 : Int32)) (ln h x0) ∧
InB (x3 + (2 : Int32)) (ln h x0) ∧
kd h x1 = 12 ∧
gd (cc + 0) 600000 (
gd (ss + 0) 7302250 (
SpI k_Ho_tellOf [.ref x1, .int (mi h x0 (ix (x3 + (1 : Int32)))), .int (mi h x0 (ix (x3 + (2 : Int32))))] h (fun r319 g317 =>
kd g317 x0 = 19 ∧
InB (x3 + (1 : Int32)) (ln g317 x0) ∧
InB (x3 + (2 : Int32)) (ln g317 x0) ∧
kd g317 x2 = 13 ∧
gd ((cc + 0) + 0) 600000 (
gd ((ss + 0) + 0) 7302250 (
SpI k_Ref_tellOf [.ref x2, .int (mi g317 x0 (ix (x3 + (1 : Int32)))), .int (mi g317 x0 (ix (x3 + (2 : Int32))))] g317 (fun r325 g323 =>
(r319 = r325 →
WM k_Law_law p_Law_law_1 [.ref x0, .ref x1, .ref x2, .int (x3 + (7 : Int32))] [] g323 ((cc + 0) + 0) ((ss + 0) + 0) Rt) ∧
(¬ r319 = r325 →
gd ((cc + 0) + 0) 600000 (
gd ((ss + 0) + 0) 7302250 (
Rt (.int (0 : Int32)) g323)))))))))) ∧
(¬ ((mi h x0 (ix x3)) &&& (63 : Int32)) = (6 : Int32) →
(((mi h x0 (ix x3)) &&& (63 : Int32)) = (7 : Int32) →
InB (x3 + (1 : Int32)) (ln h x0) ∧
kd h x1 = 12 ∧
gd (cc + 0) 600000 (
gd (ss + 0) 7302250 (
SpI k_Ho_letter [.ref x1, .int (mi h x0 (ix (x3 + (1 : Int32))))] h (fun r309 g307 =>
kd g307 x0 = 19 ∧
InB (x3 + (1 : Int32)) (ln g307 x0) ∧
kd g307 x2 = 13 ∧
gd ((cc + 0) + 0) 600000 (
gd ((ss + 0) + 0) 7302250 (
SpI k_Ref_letter [.ref x2, .int (mi g307 x0 (ix (x3 + (1 : Int32))))] g307 (fun r314 g312 =>
(r309 = r314 →
WM k_Law_law p_Law_law_1 [.ref x0, .ref x1, .ref x2, .int (x3 + (7 : Int32))] [] g312 ((cc + 0) + 0) ((ss + 0) + 0) Rt) ∧
(¬ r309 = r314 →
WM k_Law_law p_Law_law_4 [Jv, Jv, Jv, Jv] [] g312 ((cc + 0) + 0) ((ss + 0) + 0) Rt)))))))) ∧
(¬ ((mi h x0 (ix x3)) &&& (63 : Int32)) = (7 : Int32) →
(((mi h x0 (ix x3)) &&& (63 : Int32)) = (8 : Int32) →
InB (x3 + (1 : Int32)) (ln h x0) ∧
kd h x1 = 12 ∧
gd (cc + 0) 600000 (
gd (ss + 0) 7302250 (
SpI k_Ho_choose [.ref x1, .int (mi h x0 (ix (x3 + (1 : Int32))))] h (fun r300 g298 =>
kd g298 x0 = 19 ∧
InB (x3 + (1 : Int32)) (ln g298 x0) ∧
kd g298 x2 = 13 ∧
gd ((cc + 0) + 0) 600000 (
gd ((ss + 0) + 0) 7302250 (
SpI k_Ref_choose [.ref x2, .int (mi g298 x0 (ix (x3 + (1 : Int32))))] g298 (fun r305 g303 =>
(r300 = r305 →
WM k_Law_law p_Law_law_1 [.ref x0, .ref x1, .ref x2, .int (x3 + (7 : Int32))] [] g303 ((cc + 0) + 0) ((ss + 0) + 0) Rt) ∧
(¬ r300 = r305 →
gd ((cc + 0) + 0) 600000 (
gd ((ss + 0) + 0) 7302250 (
Rt (.int (0 : Int32)) g303)))))))))) ∧
(¬ ((mi h x0 (ix x3)) &&& (63 : Int32)) = (8 : Int32) →
(((mi h x0 (ix x3)) &&& (63 : Int32)) = (9 : Int32) →
kd h x1 = 12 ∧
gd (cc + 4) 600000 (
gd (ss + 415) 7302250 (
SpI k_Ho_group [.ref x1] h (fun r293 g291 =>
kd g291 x2 = 13 ∧
gd ((cc + 4) + 0) 600000 (
gd ((ss + 415) + 0) 7302250 (
SpI k_Ref_group [.ref x2] g291 (fun r296 g294 =>
(r293 = r296 →
WM k_Law_law p_Law_law_1 [.ref x0, .ref x1, .ref x2, .int (x3 + (7 : Int32))] [] g294 ((cc + 4) + 0) ((ss + 415) + 0) Rt) ∧
(¬ r293 = r296 →
gd ((cc + 4) + 0) 600000 (
gd ((ss + 415) + 0) 7302250 (
Rt (.int (0 : Int32)) g294)))))))))) ∧
(¬ ((mi h x0 (ix x3)) &&& (63 : Int32)) = (9 : Int32) →
(((mi h x0 (ix x3)) &&& (63 : Int32)) = (10 : Int32) →
InB (x3 + (1 : Int32)) (ln h x0) ∧
InB (x3 + (2 : Int32)) (ln h x0) ∧
kd h x1 = 12 ∧
gd (cc + 2) 600000 (
gd (ss + 200) 7302250 (
SpI k_Ho_about [.ref x1, .int (mi h x0 (ix (x3 + (1 : Int32)))), .int (mi h x0 (ix (x3 + (2 : Int32))))] h (fun r284 g282 =>
kd g282 x0 = 19 ∧
InB (x3 + (1 : Int32)) (ln g282 x0) ∧
InB (x3 + (2 : Int32)) (ln g282 x0) ∧
kd g282 x2 = 13 ∧
gd ((cc + 2) + 0) 600000 (
gd ((ss + 200) + 0) 7302250 (
SpI k_Ref_about [.ref x2, .int (mi g282 x0 (ix (x3 + (1 : Int32)))), .int (mi g282 x0 (ix (x3 + (2 : Int32))))] g282 (fun r290 g288 =>
(r284 = r290 →
WM k_Law_law p_Law_law_1 [.ref x0, .ref x1, .ref x2, .int (x3 + (7 : Int32))] [] g288 ((cc + 2) + 0) ((ss + 200) + 0) Rt) ∧
(¬ r284 = r290 →
gd ((cc + 2) + 0) 600000 (
gd ((ss + 200) + 0) 7302250 (
Rt (.int (0 : Int32)) g288)))))))))) ∧
(¬ ((mi h x0 (ix x3)) &&& (63 : Int32)) = (10 : Int32) →
(((mi h x0 (ix x3)) &&& (63 : Int32)) = (11 : Int32) →
InB (x3 + (1 : Int32)) (ln h x0) ∧
InB (x3 + (2 : Int32)) (ln h x0) ∧
InB (x3 + (3 : Int32)) (ln h x0) ∧
kd h x1 = 12 ∧
gd (cc + 0) 600000 (
gd (ss + 0) 7302250 (
SpI k_Ho_of [.ref x1, .int (mi h x0 (ix (x3 + (1 : Int32)))), .int (mi h x0 (ix (x3 + (2 : Int32)))), .int (mi h x0 (ix (x3 + (3 : Int32))))] h (fun r272 g270 =>
kd g270 x0 = 19 ∧
InB (x3 + (1 : Int32)) (ln g270 x0) ∧
InB (x3 + (2 : Int32)) (ln g270 x0) ∧
InB (x3 + (3 : Int32)) (ln g270 x0) ∧
kd g270 x2 = 13 ∧
gd ((cc + 0) + 0) 600000 (
gd ((ss + 0) + 0) 7302250 (
SpI k_Ref_of [.ref x2, .int (mi g270 x0 (ix (x3 + (1 : Int32)))), .int (mi g270 x0 (ix (x3 + (2 : Int32)))), .int (mi g270 x0 (ix (x3 + (3 : Int32))))] g270 (fun r279 g277 =>
(r272 = r279 →
WM k_Law_law p_Law_law_1 [.ref x0, .ref x1, .ref x2, .int (x3 + (7 : Int32))] [] g277 ((cc + 0) + 0) ((ss + 0) + 0) Rt) ∧
(¬ r272 = r279 →
WM k_Law_law p_Law_law_5 [Jv, Jv, Jv, Jv] [] g277 ((cc + 0) + 0) ((ss + 0) + 0) Rt)))))))) ∧
(¬ ((mi h x0 (ix x3)) &&& (63 : Int32)) = (11 : Int32) →
(((mi h x0 (ix x3)) &&& (63 : Int32)) = (12 : Int32) →
InB (x3 + (1 : Int32)) (ln h x0) ∧
InB (x3 + (2 : Int32)) (ln h x0) ∧
InB (x3 + (3 : Int32)) (ln h x0) ∧
kd h x1 = 12 ∧
gd (cc + 0) 600000 (
gd (ss + 0) 7302250 (
SpI k_Ho_product [.ref x1, .int (mi h x0 (ix (x3 + (1 : Int32)))), .int (mi h x0 (ix (x3 + (2 : Int32)))), .int (mi h x0 (ix (x3 + (3 : Int32))))] h (fun r259 g257 =>
kd g257 x0 = 19 ∧
InB (x3 + (1 : Int32)) (ln g257 x0) ∧
InB (x3 + (2 : Int32)) (ln g257 x0) ∧
InB (x3 + (3 : Int32)) (ln g257 x0) ∧
kd g257 x2 = 13 ∧
gd ((cc + 0) + 0) 600000 (
gd ((ss + 0) + 0) 7302250 (
SpI k_Ref_product [.ref x2, .int (mi g257 x0 (ix (x3 + (1 : Int32)))), .int (mi g257 x0 (ix (x3 + (2 : Int32)))), .int (mi g257 x0 (ix (x3 + (3 : Int32))))] g257 (fun r266 g264 =>
(r259 = r266 →
WM k_Law_law p_Law_law_1 [.ref x0, .ref x1, .ref x2, .int (x3 + (7 : Int32))] [] g264 ((cc + 0) + 0) ((ss + 0) + 0) Rt) ∧
(¬ r259 = r266 →
gd ((cc + 0) + 0) 600000 (
gd ((ss + 0) + 0) 7302250 (
Rt (.int (0 : Int32)) g264)))))))))) ∧
(¬ ((mi h x0 (ix x3)) &&& (63 : Int32)) = (12 : Int32) →
(((mi h x0 (ix x3)) &&& (63 : Int32)) = (13 : Int32) →
InB (x3 + (1 : Int32)) (ln h x0) ∧
InB (x3 + (2 : Int32)) (ln h x0) ∧
kd h x1 = 12 ∧
gd (cc + 6) 600000 (
gd (ss + 799) 7302250 (
SpI k_Ho_half [.ref x1, .int (mi h x0 (ix (x3 + (1 : Int32)))), .int (mi h x0 (ix (x3 + (2 : Int32))))] h (fun r247 g245 =>
kd g245 x0 = 19 ∧
InB (x3 + (1 : Int32)) (ln g245 x0) ∧
InB (x3 + (2 : Int32)) (ln g245 x0) ∧
kd g245 x2 = 13 ∧
gd ((cc + 6) + 0) 600000 (
gd ((ss + 799) + 0) 7302250 (
SpI k_Ref_half [.ref x2, .int (mi g245 x0 (ix (x3 + (1 : Int32)))), .int (mi g245 x0 (ix (x3 + (2 : Int32))))] g245 (fun r253 g251 =>
(r247 = r253 →
WM k_Law_law p_Law_law_1 [.ref x0, .ref x1, .ref x2, .int (x3 + (7 : Int32))] [] g251 ((cc + 6) + 0) ((ss + 799) + 0) Rt) ∧
(¬ r247 = r253 →
WM k_Law_law p_Law_law_6 [Jv, Jv, Jv, Jv] [] g251 ((cc + 6) + 0) ((ss + 799) + 0) Rt)))))))) ∧
(¬ ((mi h x0 (ix x3)) &&& (63 : Int32)) = (13 : Int32) →
(((mi h x0 (ix x3)) &&& (63 : Int32)) = (14 : Int32) →
InB (x3 + (1 : Int32)) (ln h x0) ∧
InB (x3 + (2 : Int32)) (ln h x0) ∧
kd h x1 = 12 ∧
gd (cc + 0) 600000 (
gd (ss + 0) 7302250 (
SpI k_Ho_within [.ref x1, .int (mi h x0 (ix (x3 + (1 : Int32)))), .int (mi h x0 (ix (x3 + (2 : Int32))))] h (fun r236 g234 =>
kd g234 x0 = 19 ∧
InB (x3 + (1 : Int32)) (ln g234 x0) ∧
InB (x3 + (2 : Int32)) (ln g234 x0) ∧
kd g234 x2 = 13 ∧
gd ((cc + 0) + 0) 600000 (
gd ((ss + 0) + 0) 7302250 (
SpI k_Ref_within [.ref x2, .int (mi g234 x0 (ix (x3 + (1 : Int32)))), .int (mi g234 x0 (ix (x3 + (2 : Int32))))] g234 (fun r242 g240 =>
(r236 = r242 →
WM k_Law_law p_Law_law_1 [.ref x0, .ref x1, .ref x2, .int (x3 + (7 : Int32))] [] g240 ((cc + 0) + 0) ((ss + 0) + 0) Rt) ∧
(¬ r236 = r242 →
gd ((cc + 0) + 0) 600000 (
gd ((ss + 0) + 0) 7302250 (
Rt (.int (0 : Int32)) g240)))))))))) ∧
(¬ ((mi h x0 (ix x3)) &&& (63 : Int32)) = (14 : Int32) →
(((mi h x0 (ix x3)) &&& (63 : Int32)) = (15 : Int32) →
InB (x3 + (1 : Int32)) (ln h x0) ∧
InB (x3 + (2 : Int32)) (ln h x0) ∧
InB (x3 + (3 : Int32)) (ln h x0) ∧
kd h x1 = 12 ∧
gd (cc + 0) 600000 (
gd (ss + 0) 7302250 (
SpI k_Ho_orbit [.ref x1, .int (mi h x0 (ix (x3 + (1 : Int32)))), .int (mi h x0 (ix (x3 + (2 : Int32)))), .int (mi h x0 (ix (x3 + (3 : Int32))))] h (fun r224 g222 =>
kd g222 x0 = 19 ∧
InB (x3 + (1 : Int32)) (ln g222 x0) ∧
InB (x3 + (2 : Int32)) (ln g222 x0) ∧
InB (x3 + (3 : Int32)) (ln g222 x0) ∧
kd g222 x2 = 13 ∧
gd ((cc + 0) + 0) 600000 (
gd ((ss + 0) + 0) 7302250 (
SpI k_Ref_orbit [.ref x2, .int (mi g222 x0 (ix (x3 + (1 : Int32)))), .int (mi g222 x0 (ix (x3 + (2 : Int32)))), .int (mi g222 x0 (ix (x3 + (3 : Int32))))] g222 (fun r231 g229 =>
(r224 = r231 →
WM k_Law_law p_Law_law_1 [.ref x0, .ref x1, .ref x2, .int (x3 + (7 : Int32))] [] g229 ((cc + 0) + 0) ((ss + 0) + 0) Rt) ∧
(¬ r224 = r231 →
WM k_Law_law p_Law_law_7 [Jv, Jv, Jv, Jv] [] g229 ((cc + 0) + 0) ((ss + 0) + 0) Rt)))))))) ∧
(¬ ((mi h x0 (ix x3)) &&& (63 : Int32)) = (15 : Int32) →
(((mi h x0 (ix x3)) &&& (63 : Int32)) = (16 : Int32) →
InB (x3 + (1 : Int32)) (ln h x0) ∧
InB (x3 + (2 : Int32)) (ln h x0) ∧
InB (x3 + (3 : Int32)) (ln h x0) ∧
InB (x3 + (4 : Int32)) (ln h x0) ∧
InB (x3 + (5 : Int32)) (ln h x0) ∧
kd h x1 = 12 ∧
gd (cc + 0) 600000 (
gd (ss + 0) 7302250 (
SpI k_Ho_wave [.ref x1, .int (mi h x0 (ix (x3 + (1 : Int32)))), .int (mi h x0 (ix (x3 + (2 : Int32)))), .int (mi h x0 (ix (x3 + (3 : Int32)))), .int (mi h x0 (ix (x3 + (4 : Int32)))), .int (mi h x0 (ix (x3 + (5 : Int32))))] h (fun r209 g207 =>
kd g207 x0 = 19 ∧
InB (x3 + (1 : Int32)) (ln g207 x0) ∧
InB (x3 + (2 : Int32)) (ln g207 x0) ∧
InB (x3 + (3 : Int32)) (ln g207 x0) ∧
InB (x3 + (4 : Int32)) (ln g207 x0) ∧
InB (x3 + (5 : Int32)) (ln g207 x0) ∧
kd g207 x2 = 13 ∧
gd ((cc + 0) + 0) 600000 (
gd ((ss + 0) + 0) 7302250 (
SpI k_Ref_wave [.ref x2, .int (mi g207 x0 (ix (x3 + (1 : Int32)))), .int (mi g207 x0 (ix (x3 + (2 : Int32)))), .int (mi g207 x0 (ix (x3 + (3 : Int32)))), .int (mi g207 x0 (ix (x3 + (4 : Int32)))), .int (mi g207 x0 (ix (x3 + (5 : Int32))))] g207 (fun r218 g216 =>
(r209 = r218 →
WM k_Law_law p_Law_law_1 [.ref x0, .ref x1, .ref x2, .int (x3 + (7 : Int32))] [] g216 ((cc + 0) + 0) ((ss + 0) + 0) Rt) ∧
(¬ r209 = r218 →
gd ((cc + 0) + 0) 600000 (
gd ((ss + 0) + 0) 7302250 (
Rt (.int (0 : Int32)) g216)))))))))) ∧
(¬ ((mi h x0 (ix x3)) &&& (63 : Int32)) = (16 : Int32) →
(((mi h x0 (ix x3)) &&& (63 : Int32)) = (17 : Int32) →
InB (x3 + (1 : Int32)) (ln h x0) ∧
InB (x3 + (2 : Int32)) (ln h x0) ∧
InB (x3 + (3 : Int32)) (ln h x0) ∧
InB (x3 + (4 : Int32)) (ln h x0) ∧
InB (x3 + (5 : Int32)) (ln h x0) ∧
InB (x3 + (6 : Int32)) (ln h x0) ∧
kd h x1 = 12 ∧
gd (cc + 6) 600000 (
gd (ss + 50) 7302250 (
SpI k_Ho_cell [.ref x1, .int (mi h x0 (ix (x3 + (1 : Int32)))), .int (mi h x0 (ix (x3 + (2 : Int32)))), .int (mi h x0 (ix (x3 + (3 : Int32)))), .int (mi h x0 (ix (x3 + (4 : Int32)))), .int (mi h x0 (ix (x3 + (5 : Int32)))), .int (mi h x0 (ix (x3 + (6 : Int32))))] h (fun r191 g189 =>
kd g189 x0 = 19 ∧
InB (x3 + (1 : Int32)) (ln g189 x0) ∧
InB (x3 + (2 : Int32)) (ln g189 x0) ∧
InB (x3 + (3 : Int32)) (ln g189 x0) ∧
InB (x3 + (4 : Int32)) (ln g189 x0) ∧
InB (x3 + (5 : Int32)) (ln g189 x0) ∧
InB (x3 + (6 : Int32)) (ln g189 x0) ∧
kd g189 x2 = 13 ∧
gd ((cc + 6) + 0) 600000 (
gd ((ss + 50) + 0) 7302250 (
SpI k_Ref_cell [.ref x2, .int (mi g189 x0 (ix (x3 + (1 : Int32)))), .int (mi g189 x0 (ix (x3 + (2 : Int32)))), .int (mi g189 x0 (ix (x3 + (3 : Int32)))), .int (mi g189 x0 (ix (x3 + (4 : Int32)))), .int (mi g189 x0 (ix (x3 + (5 : Int32)))), .int (mi g189 x0 (ix (x3 + (6 : Int32))))] g189 (fun r201 g199 =>
(r191 = r201 →
WM k_Law_law p_Law_law_1 [.ref x0, .ref x1, .ref x2, .int (x3 + (7 : Int32))] [] g199 ((cc + 6) + 0) ((ss + 50) + 0) Rt) ∧
(¬ r191 = r201 →
WM k_Law_law p_Law_law_8 [Jv, Jv, Jv, Jv] [] g199 ((cc + 6) + 0) ((ss + 50) + 0) Rt)))))))) ∧
(¬ ((mi h x0 (ix x3)) &&& (63 : Int32)) = (17 : Int32) →
(((mi h x0 (ix x3)) &&& (63 : Int32)) = (18 : Int32) →
InB (x3 + (1 : Int32)) (ln h x0) ∧
InB (x3 + (2 : Int32)) (ln h x0) ∧
kd h x1 = 12 ∧
gd (cc + 0) 600000 (
gd (ss + 0) 7302250 (
SpL k_Ho_reduced [.ref x1, .int (mi h x0 (ix (x3 + (1 : Int32)))), .int (mi h x0 (ix (x3 + (2 : Int32))))] h (fun r176 g174 =>
kd g174 x0 = 19 ∧
InB (x3 + (1 : Int32)) (ln g174 x0) ∧
InB (x3 + (2 : Int32)) (ln g174 x0) ∧
kd g174 x2 = 13 ∧
gd ((cc + 0) + 0) 600000 (
gd ((ss + 0) + 0) 7302250 (
SpL k_Ref_reduced [.ref x2, .int (mi g174 x0 (ix (x3 + (1 : Int32)))), .int (mi g174 x0 (ix (x3 + (2 : Int32))))] g174 (fun r182 g180 =>
((lg_cmp r176 r182) = 0 →
WM k_Law_law p_Law_law_1 [.ref x0, .ref x1, .ref x2, .int (x3 + (7 : Int32))] [] g180 ((cc + 0) + 0) ((ss + 0) + 0) Rt) ∧
(¬ (lg_cmp r176 r182) = 0 →
gd ((cc + 0) + 0) 600000 (
gd ((ss + 0) + 0) 7302250 (
Rt (.int (0 : Int32)) g180)))))))))) ∧
(¬ ((mi h x0 (ix x3)) &&& (63 : Int32)) = (18 : Int32) →
(((mi h x0 (ix x3)) &&& (63 : Int32)) = (19 : Int32) →
InB (x3 + (1 : Int32)) (ln h x0) ∧
InB (x3 + (2 : Int32)) (ln h x0) ∧
kd h x1 = 12 ∧
gd (cc + 0) 600000 (
gd (ss + 0) 7302250 (
SpI k_Ho_fits [.ref x1, .int (mi h x0 (ix (x3 + (1 : Int32)))), .int (mi h x0 (ix (x3 + (2 : Int32))))] h (fun r165 g163 =>
kd g163 x0 = 19 ∧
InB (x3 + (1 : Int32)) (ln g163 x0) ∧
InB (x3 + (2 : Int32)) (ln g163 x0) ∧
kd g163 x2 = 13 ∧
gd ((cc + 0) + 0) 600000 (
gd ((ss + 0) + 0) 7302250 (
SpI k_Ref_fits [.ref x2, .int (mi g163 x0 (ix (x3 + (1 : Int32)))), .int (mi g163 x0 (ix (x3 + (2 : Int32))))] g163 (fun r171 g169 =>
(r165 = r171 →
WM k_Law_law p_Law_law_1 [.ref x0, .ref x1, .ref x2, .int (x3 + (7 : Int32))] [] g169 ((cc + 0) + 0) ((ss + 0) + 0) Rt) ∧
(¬ r165 = r171 →
gd ((cc + 0) + 0) 600000 (
gd ((ss + 0) + 0) 7302250 (
Rt (.int (0 : Int32)) g169)))))))))) ∧
(¬ ((mi h x0 (ix x3)) &&& (63 : Int32)) = (19 : Int32) →
(((mi h x0 (ix x3)) &&& (63 : Int32)) = (20 : Int32) →
InB (x3 + (1 : Int32)) (ln h x0) ∧
InB (x3 + (2 : Int32)) (ln h x0) ∧
kd h x1 = 12 ∧
gd (cc + 1) 600000 (
gd (ss + 2730) 7302250 (
SpI k_Ho_multiples [.ref x1, .int (mi h x0 (ix (x3 + (1 : Int32)))), .int (mi h x0 (ix (x3 + (2 : Int32))))] h (fun r154 g152 =>
kd g152 x0 = 19 ∧
InB (x3 + (1 : Int32)) (ln g152 x0) ∧
InB (x3 + (2 : Int32)) (ln g152 x0) ∧
kd g152 x2 = 13 ∧
gd ((cc + 1) + 0) 600000 (
gd ((ss + 2730) + 0) 7302250 (
SpI k_Ref_multiples [.ref x2, .int (mi g152 x0 (ix (x3 + (1 : Int32)))), .int (mi g152 x0 (ix (x3 + (2 : Int32))))] g152 (fun r160 g158 =>
(r154 = r160 →
WM k_Law_law p_Law_law_1 [.ref x0, .ref x1, .ref x2, .int (x3 + (7 : Int32))] [] g158 ((cc + 1) + 0) ((ss + 2730) + 0) Rt) ∧
(¬ r154 = r160 →
WM k_Law_law p_Law_law_9 [Jv, Jv, Jv, Jv] [] g158 ((cc + 1) + 0) ((ss + 2730) + 0) Rt)))))))) ∧
(¬ ((mi h x0 (ix x3)) &&& (63 : Int32)) = (20 : Int32) →
(((mi h x0 (ix x3)) &&& (63 : Int32)) = (21 : Int32) →
InB (x3 + (1 : Int32)) (ln h x0) ∧
InB (x3 + (2 : Int32)) (ln h x0) ∧
InB (x3 + (3 : Int32)) (ln h x0) ∧
InB (x3 + (4 : Int32)) (ln h x0) ∧
kd h x1 = 12 ∧
gd (cc + 1) 600000 (
gd (ss + 2730) 7302250 (
SpL k_Ho_multiple [.ref x1, .int (mi h x0 (ix (x3 + (1 : Int32)))), .int (mi h x0 (ix (x3 + (2 : Int32)))), .int (mi h x0 (ix (x3 + (3 : Int32)))), .int (mi h x0 (ix (x3 + (4 : Int32))))] h (fun r141 g139 =>
kd g139 x0 = 19 ∧
InB (x3 + (1 : Int32)) (ln g139 x0) ∧
InB (x3 + (2 : Int32)) (ln g139 x0) ∧
InB (x3 + (3 : Int32)) (ln g139 x0) ∧
InB (x3 + (4 : Int32)) (ln g139 x0) ∧
kd g139 x2 = 13 ∧
gd ((cc + 1) + 0) 600000 (
gd ((ss + 2730) + 0) 7302250 (
SpL k_Ref_multiple [.ref x2, .int (mi g139 x0 (ix (x3 + (1 : Int32)))), .int (mi g139 x0 (ix (x3 + (2 : Int32)))), .int (mi g139 x0 (ix (x3 + (3 : Int32)))), .int (mi g139 x0 (ix (x3 + (4 : Int32))))] g139 (fun r149 g147 =>
((lg_cmp r141 r149) = 0 →
WM k_Law_law p_Law_law_1 [.ref x0, .ref x1, .ref x2, .int (x3 + (7 : Int32))] [] g147 ((cc + 1) + 0) ((ss + 2730) + 0) Rt) ∧
(¬ (lg_cmp r141 r149) = 0 →
gd ((cc + 1) + 0) 600000 (
gd ((ss + 2730) + 0) 7302250 (
Rt (.int (0 : Int32)) g147)))))))))) ∧
(¬ ((mi h x0 (ix x3)) &&& (63 : Int32)) = (21 : Int32) →
(((mi h x0 (ix x3)) &&& (63 : Int32)) = (22 : Int32) →
InB (x3 + (1 : Int32)) (ln h x0) ∧
InB (x3 + (2 : Int32)) (ln h x0) ∧
kd h x1 = 12 ∧
gd (cc + 7) 600000 (
gd (ss + 1648) 7302250 (
SpI k_Ho_model [.ref x1, .int (mi h x0 (ix (x3 + (1 : Int32)))), .int (mi h x0 (ix (x3 + (2 : Int32))))] h (fun r128 g126 =>
kd g126 x0 = 19 ∧
InB (x3 + (1 : Int32)) (ln g126 x0) ∧
InB (x3 + (2 : Int32)) (ln g126 x0) ∧
kd g126 x2 = 13 ∧
gd ((cc + 7) + 0) 600000 (
gd ((ss + 1648) + 0) 7302250 (
SpI k_Ref_model [.ref x2, .int (mi g126 x0 (ix (x3 + (1 : Int32)))), .int (mi g126 x0 (ix (x3 + (2 : Int32))))] g126 (fun r134 g132 =>
(r128 = r134 →
WM k_Law_law p_Law_law_1 [.ref x0, .ref x1, .ref x2, .int (x3 + (7 : Int32))] [] g132 ((cc + 7) + 0) ((ss + 1648) + 0) Rt) ∧
(¬ r128 = r134 →
WM k_Law_law p_Law_law_10 [Jv, Jv, Jv, Jv] [] g132 ((cc + 7) + 0) ((ss + 1648) + 0) Rt)))))))) ∧
(¬ ((mi h x0 (ix x3)) &&& (63 : Int32)) = (22 : Int32) →
(((mi h x0 (ix x3)) &&& (63 : Int32)) = (23 : Int32) →
InB (x3 + (1 : Int32)) (ln h x0) ∧
InB (x3 + (2 : Int32)) (ln h x0) ∧
InB (x3 + (3 : Int32)) (ln h x0) ∧
kd h x1 = 12 ∧
gd (cc + 0) 600000 (
gd (ss + 0) 7302250 (
SpI k_Ho_atom [.ref x1, .int (mi h x0 (ix (x3 + (1 : Int32)))), .int (mi h x0 (ix (x3 + (2 : Int32)))), .int (mi h x0 (ix (x3 + (3 : Int32))))] h (fun r116 g114 =>
kd g114 x0 = 19 ∧
InB (x3 + (1 : Int32)) (ln g114 x0) ∧
InB (x3 + (2 : Int32)) (ln g114 x0) ∧
InB (x3 + (3 : Int32)) (ln g114 x0) ∧
kd g114 x2 = 13 ∧
gd ((cc + 0) + 0) 600000 (
gd ((ss + 0) + 0) 7302250 (
SpI k_Ref_atom [.ref x2, .int (mi g114 x0 (ix (x3 + (1 : Int32)))), .int (mi g114 x0 (ix (x3 + (2 : Int32)))), .int (mi g114 x0 (ix (x3 + (3 : Int32))))] g114 (fun r123 g121 =>
(r116 = r123 →
WM k_Law_law p_Law_law_1 [.ref x0, .ref x1, .ref x2, .int (x3 + (7 : Int32))] [] g121 ((cc + 0) + 0) ((ss + 0) + 0) Rt) ∧
(¬ r116 = r123 →
gd ((cc + 0) + 0) 600000 (
gd ((ss + 0) + 0) 7302250 (
Rt (.int (0 : Int32)) g121)))))))))) ∧
(¬ ((mi h x0 (ix x3)) &&& (63 : Int32)) = (23 : Int32) →
(((mi h x0 (ix x3)) &&& (63 : Int32)) = (24 : Int32) →
InB (x3 + (1 : Int32)) (ln h x0) ∧
InB (x3 + (2 : Int32)) (ln h x0) ∧
InB (x3 + (3 : Int32)) (ln h x0) ∧
kd h x1 = 12 ∧
gd (cc + 0) 600000 (
gd (ss + 0) 7302250 (
SpI k_Ho_placed [.ref x1, .int (mi h x0 (ix (x3 + (1 : Int32)))), .int (mi h x0 (ix (x3 + (2 : Int32)))), .int (mi h x0 (ix (x3 + (3 : Int32))))] h (fun r103 g101 =>
kd g101 x0 = 19 ∧
InB (x3 + (1 : Int32)) (ln g101 x0) ∧
InB (x3 + (2 : Int32)) (ln g101 x0) ∧
InB (x3 + (3 : Int32)) (ln g101 x0) ∧
kd g101 x2 = 13 ∧
gd ((cc + 0) + 0) 600000 (
gd ((ss + 0) + 0) 7302250 (
SpI k_Ref_placed [.ref x2, .int (mi g101 x0 (ix (x3 + (1 : Int32)))), .int (mi g101 x0 (ix (x3 + (2 : Int32)))), .int (mi g101 x0 (ix (x3 + (3 : Int32))))] g101 (fun r110 g108 =>
(r103 = r110 →
WM k_Law_law p_Law_law_1 [.ref x0, .ref x1, .ref x2, .int (x3 + (7 : Int32))] [] g108 ((cc + 0) + 0) ((ss + 0) + 0) Rt) ∧
(¬ r103 = r110 →
WM k_Law_law p_Law_law_11 [Jv, Jv, Jv, Jv] [] g108 ((cc + 0) + 0) ((ss + 0) + 0) Rt)))))))) ∧
(¬ ((mi h x0 (ix x3)) &&& (63 : Int32)) = (24 : Int32) →
(((mi h x0 (ix x3)) &&& (63 : Int32)) = (25 : Int32) →
InB (x3 + (1 : Int32)) (ln h x0) ∧
InB (x3 + (2 : Int32)) (ln h x0) ∧
InB (x3 + (3 : Int32)) (ln h x0) ∧
InB (x3 + (4 : Int32)) (ln h x0) ∧
InB (x3 + (5 : Int32)) (ln h x0) ∧
kd h x1 = 12 ∧
gd (cc + 0) 600000 (
gd (ss + 0) 7302250 (
SpL k_Ho_amplitude [.ref x1, .int (mi h x0 (ix (x3 + (1 : Int32)))), .int (mi h x0 (ix (x3 + (2 : Int32)))), .int (mi h x0 (ix (x3 + (3 : Int32)))), .int (mi h x0 (ix (x3 + (4 : Int32)))), .int (mi h x0 (ix (x3 + (5 : Int32))))] h (fun r88 g86 =>
kd g86 x0 = 19 ∧
InB (x3 + (1 : Int32)) (ln g86 x0) ∧
InB (x3 + (2 : Int32)) (ln g86 x0) ∧
InB (x3 + (3 : Int32)) (ln g86 x0) ∧
InB (x3 + (4 : Int32)) (ln g86 x0) ∧
InB (x3 + (5 : Int32)) (ln g86 x0) ∧
kd g86 x2 = 13 ∧
gd ((cc + 0) + 0) 600000 (
gd ((ss + 0) + 0) 7302250 (
SpL k_Ref_amplitude [.ref x2, .int (mi g86 x0 (ix (x3 + (1 : Int32)))), .int (mi g86 x0 (ix (x3 + (2 : Int32)))), .int (mi g86 x0 (ix (x3 + (3 : Int32)))), .int (mi g86 x0 (ix (x3 + (4 : Int32)))), .int (mi g86 x0 (ix (x3 + (5 : Int32))))] g86 (fun r97 g95 =>
((lg_cmp r88 r97) = 0 →
WM k_Law_law p_Law_law_1 [.ref x0, .ref x1, .ref x2, .int (x3 + (7 : Int32))] [] g95 ((cc + 0) + 0) ((ss + 0) + 0) Rt) ∧
(¬ (lg_cmp r88 r97) = 0 →
gd ((cc + 0) + 0) 600000 (
gd ((ss + 0) + 0) 7302250 (
Rt (.int (0 : Int32)) g95)))))))))) ∧
(¬ ((mi h x0 (ix x3)) &&& (63 : Int32)) = (25 : Int32) →
(((mi h x0 (ix x3)) &&& (63 : Int32)) = (26 : Int32) →
WM k_Law_law p_Law_law_12 [.ref x0, .ref x1, .ref x2, .int x3] [] h cc ss Rt) ∧
(¬ ((mi h x0 (ix x3)) &&& (63 : Int32)) = (26 : Int32) →
(((mi h x0 (ix x3)) &&& (63 : Int32)) = (27 : Int32) →
InB (x3 + (1 : Int32)) (ln h x0) ∧
InB (x3 + (2 : Int32)) (ln h x0) ∧
InB (x3 + (3 : Int32)) (ln h x0) ∧
InB (x3 + (4 : Int32)) (ln h x0) ∧
kd h x1 = 12 ∧
gd (cc + 0) 600000 (
gd (ss + 0) 7302250 (
SpI k_Ho_near [.ref x1, .int (mi h x0 (ix (x3 + (1 : Int32)))), .int (mi h x0 (ix (x3 + (2 : Int32)))), .long (((mi h x0 (ix (x3 + (3 : Int32)))).toInt64 <<< ((32 : Int32).toInt64 &&& (63 : Int64))) ||| ((mi h x0 (ix (x3 + (4 : Int32)))).toInt64 &&& (4294967295 : Int64)))] h (fun r72 g70 =>
kd g70 x0 = 19 ∧
InB (x3 + (1 : Int32)) (ln g70 x0) ∧
InB (x3 + (2 : Int32)) (ln g70 x0) ∧
InB (x3 + (3 : Int32)) (ln g70 x0) ∧
InB (x3 + (4 : Int32)) (ln g70 x0) ∧
kd g70 x2 = 13 ∧
gd ((cc + 0) + 0) 600000 (
gd ((ss + 0) + 0) 7302250 (
SpI k_Ref_near [.ref x2, .int (mi g70 x0 (ix (x3 + (1 : Int32)))), .int (mi g70 x0 (ix (x3 + (2 : Int32)))), .long (((mi g70 x0 (ix (x3 + (3 : Int32)))).toInt64 <<< ((32 : Int32).toInt64 &&& (63 : Int64))) ||| ((mi g70 x0 (ix (x3 + (4 : Int32)))).toInt64 &&& (4294967295 : Int64)))] g70 (fun r80 g78 =>
(r72 = r80 →
WM k_Law_law p_Law_law_1 [.ref x0, .ref x1, .ref x2, .int (x3 + (7 : Int32))] [] g78 ((cc + 0) + 0) ((ss + 0) + 0) Rt) ∧
(¬ r72 = r80 →
WM k_Law_law p_Law_law_13 [Jv, Jv, Jv, Jv] [] g78 ((cc + 0) + 0) ((ss + 0) + 0) Rt)))))))) ∧
(¬ ((mi h x0 (ix x3)) &&& (63 : Int32)) = (27 : Int32) →
(((mi h x0 (ix x3)) &&& (63 : Int32)) = (28 : Int32) →
InB (x3 + (1 : Int32)) (ln h x0) ∧
InB (x3 + (2 : Int32)) (ln h x0) ∧
kd h x1 = 12 ∧
gd (cc + 4) 600000 (
gd (ss + 7697) 7302250 (
SpI k_Ho_lines [.ref x1, .int (mi h x0 (ix (x3 + (1 : Int32)))), .int (mi h x0 (ix (x3 + (2 : Int32))))] h (fun r59 g57 =>
kd g57 x0 = 19 ∧
InB (x3 + (1 : Int32)) (ln g57 x0) ∧
InB (x3 + (2 : Int32)) (ln g57 x0) ∧
kd g57 x2 = 13 ∧
gd ((cc + 4) + 0) 600000 (
gd ((ss + 7697) + 0) 7302250 (
SpI k_Ref_lines [.ref x2, .int (mi g57 x0 (ix (x3 + (1 : Int32)))), .int (mi g57 x0 (ix (x3 + (2 : Int32))))] g57 (fun r65 g63 =>
(r59 = r65 →
WM k_Law_law p_Law_law_1 [.ref x0, .ref x1, .ref x2, .int (x3 + (7 : Int32))] [] g63 ((cc + 4) + 0) ((ss + 7697) + 0) Rt) ∧
(¬ r59 = r65 →
gd ((cc + 4) + 0) 600000 (
gd ((ss + 7697) + 0) 7302250 (
Rt (.int (0 : Int32)) g63)))))))))) ∧
(¬ ((mi h x0 (ix x3)) &&& (63 : Int32)) = (28 : Int32) →
(((mi h x0 (ix x3)) &&& (63 : Int32)) = (29 : Int32) →
InB (x3 + (1 : Int32)) (ln h x0) ∧
InB (x3 + (2 : Int32)) (ln h x0) ∧
InB (x3 + (3 : Int32)) (ln h x0) ∧
InB (x3 + (4 : Int32)) (ln h x0) ∧
kd h x1 = 12 ∧
gd (cc + 4) 600000 (
gd (ss + 7697) 7302250 (
SpL k_Ho_line [.ref x1, .int (mi h x0 (ix (x3 + (1 : Int32)))), .int (mi h x0 (ix (x3 + (2 : Int32)))), .int (mi h x0 (ix (x3 + (3 : Int32)))), .int (mi h x0 (ix (x3 + (4 : Int32))))] h (fun r46 g44 =>
kd g44 x0 = 19 ∧
InB (x3 + (1 : Int32)) (ln g44 x0) ∧
InB (x3 + (2 : Int32)) (ln g44 x0) ∧
InB (x3 + (3 : Int32)) (ln g44 x0) ∧
InB (x3 + (4 : Int32)) (ln g44 x0) ∧
kd g44 x2 = 13 ∧
gd ((cc + 4) + 0) 600000 (
gd ((ss + 7697) + 0) 7302250 (
SpL k_Ref_line [.ref x2, .int (mi g44 x0 (ix (x3 + (1 : Int32)))), .int (mi g44 x0 (ix (x3 + (2 : Int32)))), .int (mi g44 x0 (ix (x3 + (3 : Int32)))), .int (mi g44 x0 (ix (x3 + (4 : Int32))))] g44 (fun r54 g52 =>
((lg_cmp r46 r54) = 0 →
WM k_Law_law p_Law_law_1 [.ref x0, .ref x1, .ref x2, .int (x3 + (7 : Int32))] [] g52 ((cc + 4) + 0) ((ss + 7697) + 0) Rt) ∧
(¬ (lg_cmp r46 r54) = 0 →
WM k_Law_law p_Law_law_14 [Jv, Jv, Jv, Jv] [] g52 ((cc + 4) + 0) ((ss + 7697) + 0) Rt)))))))) ∧
(¬ ((mi h x0 (ix x3)) &&& (63 : Int32)) = (29 : Int32) →
(((mi h x0 (ix x3)) &&& (63 : Int32)) = (30 : Int32) →
InB (x3 + (1 : Int32)) (ln h x0) ∧
InB (x3 + (2 : Int32)) (ln h x0) ∧
kd h x1 = 12 ∧
gd (cc + 0) 600000 (
gd (ss + 0) 7302250 (
SpL k_Ho_map [.ref x1, .int (mi h x0 (ix (x3 + (1 : Int32)))), .int (mi h x0 (ix (x3 + (2 : Int32))))] h (fun r33 g31 =>
kd g31 x0 = 19 ∧
InB (x3 + (1 : Int32)) (ln g31 x0) ∧
InB (x3 + (2 : Int32)) (ln g31 x0) ∧
kd g31 x2 = 13 ∧
gd ((cc + 0) + 0) 600000 (
gd ((ss + 0) + 0) 7302250 (
SpL k_Ref_map [.ref x2, .int (mi g31 x0 (ix (x3 + (1 : Int32)))), .int (mi g31 x0 (ix (x3 + (2 : Int32))))] g31 (fun r39 g37 =>
((lg_cmp r33 r39) = 0 →
WM k_Law_law p_Law_law_1 [.ref x0, .ref x1, .ref x2, .int (x3 + (7 : Int32))] [] g37 ((cc + 0) + 0) ((ss + 0) + 0) Rt) ∧
(¬ (lg_cmp r33 r39) = 0 →
gd ((cc + 0) + 0) 600000 (
gd ((ss + 0) + 0) 7302250 (
Rt (.int (0 : Int32)) g37)))))))))) ∧
(¬ ((mi h x0 (ix x3)) &&& (63 : Int32)) = (30 : Int32) →
(((mi h x0 (ix x3)) &&& (63 : Int32)) = (31 : Int32) →
InB (x3 + (1 : Int32)) (ln h x0) ∧
InB (x3 + (2 : Int32)) (ln h x0) ∧
InB (x3 + (3 : Int32)) (ln h x0) ∧
InB (x3 + (4 : Int32)) (ln h x0) ∧
kd h x1 = 12 ∧
gd (cc + 0) 600000 (
gd (ss + 0) 7302250 (
SpI k_Ho_phase [.ref x1, .int (mi h x0 (ix (x3 + (1 : Int32)))), .int (mi h x0 (ix (x3 + (2 : Int32)))), .long (((mi h x0 (ix (x3 + (3 : Int32)))).toInt64 <<< ((32 : Int32).toInt64 &&& (63 : Int64))) ||| ((mi h x0 (ix (x3 + (4 : Int32)))).toInt64 &&& (4294967295 : Int64)))] h (fun r20 g18 =>
kd g18 x0 = 19 ∧
InB (x3 + (1 : Int32)) (ln g18 x0) ∧
InB (x3 + (2 : Int32)) (ln g18 x0) ∧
InB (x3 + (3 : Int32)) (ln g18 x0) ∧
InB (x3 + (4 : Int32)) (ln g18 x0) ∧
kd g18 x2 = 13 ∧
gd ((cc + 0) + 0) 600000 (
gd ((ss + 0) + 0) 7302250 (
SpI k_Ref_phase [.ref x2, .int (mi g18 x0 (ix (x3 + (1 : Int32)))), .int (mi g18 x0 (ix (x3 + (2 : Int32)))), .long (((mi g18 x0 (ix (x3 + (3 : Int32)))).toInt64 <<< ((32 : Int32).toInt64 &&& (63 : Int64))) ||| ((mi g18 x0 (ix (x3 + (4 : Int32)))).toInt64 &&& (4294967295 : Int64)))] g18 (fun r28 g26 =>
(r20 = r28 →
WM k_Law_law p_Law_law_1 [.ref x0, .ref x1, .ref x2, .int (x3 + (7 : Int32))] [] g26 ((cc + 0) + 0) ((ss + 0) + 0) Rt) ∧
(¬ r20 = r28 →
WM k_Law_law p_Law_law_15 [Jv, Jv, Jv, Jv] [] g26 ((cc + 0) + 0) ((ss + 0) + 0) Rt)))))))) ∧
(¬ ((mi h x0 (ix x3)) &&& (63 : Int32)) = (31 : Int32) →
(((mi h x0 (ix x3)) &&& (63 : Int32)) = (32 : Int32) →
InB (x3 + (1 : Int32)) (ln h x0) ∧
InB (x3 + (2 : Int32)) (ln h x0) ∧
kd h x1 = 12 ∧
gd (cc + 0) 600000 (
gd (ss + 0) 7302250 (
SpL k_Ho_above [.ref x1, .int (mi h x0 (ix (x3 + (1 : Int32)))), .int (mi h x0 (ix (x3 + (2 : Int32))))] h (fun r7 g5 =>
kd g5 x0 = 19 ∧
InB (x3 + (1 : Int32)) (ln g5 x0) ∧
InB (x3 + (2 : Int32)) (ln g5 x0) ∧
kd g5 x2 = 13 ∧
gd ((cc + 0) + 0) 600000 (
gd ((ss + 0) + 0) 7302250 (
SpL k_Ref_above [.ref x2, .int (mi g5 x0 (ix (x3 + (1 : Int32)))), .int (mi g5 x0 (ix (x3 + (2 : Int32))))] g5 (fun r13 g11 =>
((lg_cmp r7 r13) = 0 →
WM k_Law_law p_Law_law_1 [.ref x0, .ref x1, .ref x2, .int (x3 + (7 : Int32))] [] g11 ((cc + 0) + 0) ((ss + 0) + 0) Rt) ∧
(¬ (lg_cmp r7 r13) = 0 →
gd ((cc + 0) + 0) 600000 (
gd ((ss + 0) + 0) 7302250 (
Rt (.int (0 : Int32)) g11)))))))))) ∧
(¬ ((mi h x0 (ix x3)) &&& (63 : Int32)) = (32 : Int32) →
WM k_Law_law p_Law_law_1 [.ref x0, .ref x1, .ref x2, .int (x3 + (7 : Int32))] [] h cc ss Rt))))))))))))))))))))))))))))))))))) : WM k_Law_law p_Law_law_1 [.ref x0, .ref x1, .ref x2, .int x3] [] h cc ss Rt := WM_at (hs := HH_Law_law) G_Law_law 1131 10 rfl ⟨H.1, ⟨fun c385 => ⟨(Or.inr rfl), (H.2.1 c385)⟩, fun c385 => ⟨H.1, ⟨(H.2.2 c385).1, ⟨fun c386 => ⟨H.1, ⟨(((H.2.2 c385).2).1 c386).1, ⟨H.1, ⟨((((H.2.2 c385).2).1 c386).2).1, ⟨H.1, ⟨(((((H.2.2 c385).2).1 c386).2).2).1, ⟨H.1, ⟨((((((H.2.2 c385).2).1 c386).2).2).2).1, ⟨H.1, ⟨(((((((H.2.2 c385).2).1 c386).2).2).2).2).1, ⟨((((((((H.2.2 c385).2).1 c386).2).2).2).2).2).1, gd_mono (a := (cc + 0)) (b := 600000) (fun q => gd_mono (a := (ss + 0)) (b := 7302250) (fun q => SpV.mono q (fun g375 qg375 => ⟨qg375.1, ⟨qg375.2.1, ⟨qg375.1, ⟨qg375.2.2.1, ⟨qg375.1, ⟨qg375.2.2.2.1, ⟨qg375.1, ⟨qg375.2.2.2.2.1, ⟨qg375.1, qg375.2.2.2.2.2⟩⟩⟩⟩⟩⟩⟩⟩⟩)) q) (((((((((H.2.2 c385).2).1 c386).2).2).2).2).2).2)⟩⟩⟩⟩⟩⟩⟩⟩⟩⟩⟩, fun c386 => ⟨fun c387 => ⟨H.1, ⟨((((H.2.2 c385).2).2 c386).1 c387).1, ⟨(((((H.2.2 c385).2).2 c386).1 c387).2).1, gd_mono (a := (cc + 0)) (b := 600000) (fun q => gd_mono (a := (ss + 0)) (b := 7302250) (fun q => SpI.mono q (fun r364 g362 qg362 => ⟨qg362.1, ⟨qg362.2.1, ⟨qg362.2.2.1, gd_mono (a := ((cc + 0) + 0)) (b := 600000) (fun q => gd_mono (a := ((ss + 0) + 0)) (b := 7302250) (fun q => SpI.mono q (fun r369 g367 qg367 => ⟨qg367.1, fun c388 => ⟨(Or.inl rfl), (qg367.2 c388)⟩⟩)) q) qg362.2.2.2⟩⟩⟩)) q) ((((((H.2.2 c385).2).2 c386).1 c387).2).2)⟩⟩⟩, fun c387 => ⟨fun c389 => ⟨(((((H.2.2 c385).2).2 c386).2 c387).1 c389).1, gd_mono (a := (cc + 0)) (b := 600000) (fun q => gd_mono (a := (ss + 0)) (b := 7302250) (fun q => SpI.mono q (fun r357 g355 qg355 => ⟨qg355.1, gd_mono (a := ((cc + 0) + 0)) (b := 600000) (fun q => gd_mono (a := ((ss + 0) + 0)) (b := 7302250) (fun q => SpI.mono q (fun r360 g358 qg358 => ⟨qg358.1, fun c390 => ⟨(Or.inl rfl), (qg358.2 c390)⟩⟩)) q) qg355.2⟩)) q) ((((((H.2.2 c385).2).2 c386).2 c387).1 c389).2)⟩, fun c389 => ⟨fun c391 => ⟨H.1, ⟨((((((H.2.2 c385).2).2 c386).2 c387).2 c389).1 c391).1, ⟨(((((((H.2.2 c385).2).2 c386).2 c387).2 c389).1 c391).2).1, gd_mono (a := (cc + 0)) (b := 600000) (fun q => gd_mono (a := (ss + 0)) (b := 7302250) (fun q => SpI.mono q (fun r349 g347 qg347 => ⟨qg347.1, ⟨qg347.2.1, ⟨qg347.2.2.1, gd_mono (a := ((cc + 0) + 0)) (b := 600000) (fun q => gd_mono (a := ((ss + 0) + 0)) (b := 7302250) (fun q => SpI.mono q (fun r354 g352 qg352 => ⟨qg352.1, fun c392 => ⟨(Or.inl rfl), (qg352.2 c392)⟩⟩)) q) qg347.2.2.2⟩⟩⟩)) q) ((((((((H.2.2 c385).2).2 c386).2 c387).2 c389).1 c391).2).2)⟩⟩⟩, fun c391 => ⟨fun c393 => ⟨H.1, ⟨(((((((H.2.2 c385).2).2 c386).2 c387).2 c389).2 c391).1 c393).1, ⟨H.1, ⟨((((((((H.2.2 c385).2).2 c386).2 c387).2 c389).2 c391).1 c393).2).1, ⟨(((((((((H.2.2 c385).2).2 c386).2 c387).2 c389).2 c391).1 c393).2).2).1, gd_mono (a := (cc + 0)) (b := 600000) (fun q => gd_mono (a := (ss + 0)) (b := 7302250) (fun q => SpI.mono q (fun r339 g337 qg337 => ⟨qg337.1, ⟨qg337.2.1, ⟨qg337.1, qg337.2.2⟩⟩⟩)) q) ((((((((((H.2.2 c385).2).2 c386).2 c387).2 c389).2 c391).1 c393).2).2).2)⟩⟩⟩⟩⟩, fun c393 => ⟨fun c394 => ⟨H.1, ⟨((((((((H.2.2 c385).2).2 c386).2 c387).2 c389).2 c391).2 c393).1 c394).1, ⟨(((((((((H.2.2 c385).2).2 c386).2 c387).2 c389).2 c391).2 c393).1 c394).2).1, gd_mono (a := (cc + 0)) (b := 600000) (fun q => gd_mono (a := (ss + 0)) (b := 7302250) (fun q => SpI.mono q (fun r329 g327 qg327 => ⟨qg327.1, ⟨qg327.2.1, ⟨qg327.2.2.1, gd_mono (a := ((cc + 0) + 0)) (b := 600000) (fun q => gd_mono (a := ((ss + 0) + 0)) (b := 7302250) (fun q => SpI.mono q (fun r334 g332 qg332 => ⟨qg332.1, fun c395 => ⟨(Or.inl rfl), (qg332.2 c395)⟩⟩)) q) qg327.2.2.2⟩⟩⟩)) q) ((((((((((H.2.2 c385).2).2 c386).2 c387).2 c389).2 c391).2 c393).1 c394).2).2)⟩⟩⟩, fun c394 => ⟨fun c396 => ⟨H.1, ⟨(((((((((H.2.2 c385).2).2 c386).2 c387).2 c389).2 c391).2 c393).2 c394).1 c396).1, ⟨H.1, ⟨((((((((((H.2.2 c385).2).2 c386).2 c387).2 c389).2 c391).2 c393).2 c394).1 c396).2).1, ⟨(((((((((((H.2.2 c385).2).2 c386).2 c387).2 c389).2 c391).2 c393).2 c394).1 c396).2).2).1, gd_mono (a := (cc + 0)) (b := 600000) (fun q => gd_mono (a := (ss + 0)) (b := 7302250) (fun q => SpI.mono q (fun r319 g317 qg317 => ⟨qg317.1, ⟨qg317.2.1, ⟨qg317.1, ⟨qg317.2.2.1, ⟨qg317.2.2.2.1, gd_mono (a := ((cc + 0) + 0)) (b := 600000) (fun q => gd_mono (a := ((ss + 0) + 0)) (b := 7302250) (fun q => SpI.mono q (fun r325 g323 qg323 => ⟨qg323.1, fun c397 => ⟨(Or.inl rfl), (qg323.2 c397)⟩⟩)) q) qg317.2.2.2.2⟩⟩⟩⟩⟩)) q) ((((((((((((H.2.2 c385).2).2 c386).2 c387).2 c389).2 c391).2 c393).2 c394).1 c396).2).2).2)⟩⟩⟩⟩⟩, fun c396 => ⟨fun c398 => ⟨H.1, ((((((((((H.2.2 c385).2).2 c386).2 c387).2 c389).2 c391).2 c393).2 c394).2 c396).1 c398)⟩, fun c398 => ⟨fun c399 => ⟨H.1, ⟨(((((((((((H.2.2 c385).2).2 c386).2 c387).2 c389).2 c391).2 c393).2 c394).2 c396).2 c398).1 c399).1, ⟨((((((((((((H.2.2 c385).2).2 c386).2 c387).2 c389).2 c391).2 c393).2 c394).2 c396).2 c398).1 c399).2).1, gd_mono (a := (cc + 0)) (b := 600000) (fun q => gd_mono (a := (ss + 0)) (b := 7302250) (fun q => SpI.mono q (fun r300 g298 qg298 => ⟨qg298.1, ⟨qg298.2.1, ⟨qg298.2.2.1, gd_mono (a := ((cc + 0) + 0)) (b := 600000) (fun q => gd_mono (a := ((ss + 0) + 0)) (b := 7302250) (fun q => SpI.mono q (fun r305 g303 qg303 => ⟨qg303.1, fun c400 => ⟨(Or.inl rfl), (qg303.2 c400)⟩⟩)) q) qg298.2.2.2⟩⟩⟩)) q) (((((((((((((H.2.2 c385).2).2 c386).2 c387).2 c389).2 c391).2 c393).2 c394).2 c396).2 c398).1 c399).2).2)⟩⟩⟩, fun c399 => ⟨fun c401 => ⟨((((((((((((H.2.2 c385).2).2 c386).2 c387).2 c389).2 c391).2 c393).2 c394).2 c396).2 c398).2 c399).1 c401).1, gd_mono (a := (cc + 4)) (b := 600000) (fun q => gd_mono (a := (ss + 415)) (b := 7302250) (fun q => SpI.mono q (fun r293 g291 qg291 => ⟨qg291.1, gd_mono (a := ((cc + 4) + 0)) (b := 600000) (fun q => gd_mono (a := ((ss + 415) + 0)) (b := 7302250) (fun q => SpI.mono q (fun r296 g294 qg294 => ⟨qg294.1, fun c402 => ⟨(Or.inl rfl), (qg294.2 c402)⟩⟩)) q) qg291.2⟩)) q) (((((((((((((H.2.2 c385).2).2 c386).2 c387).2 c389).2 c391).2 c393).2 c394).2 c396).2 c398).2 c399).1 c401).2)⟩, fun c401 => ⟨fun c403 => ⟨H.1, ⟨(((((((((((((H.2.2 c385).2).2 c386).2 c387).2 c389).2 c391).2 c393).2 c394).2 c396).2 c398).2 c399).2 c401).1 c403).1, ⟨H.1, ⟨((((((((((((((H.2.2 c385).2).2 c386).2 c387).2 c389).2 c391).2 c393).2 c394).2 c396).2 c398).2 c399).2 c401).1 c403).2).1, ⟨(((((((((((((((H.2.2 c385).2).2 c386).2 c387).2 c389).2 c391).2 c393).2 c394).2 c396).2 c398).2 c399).2 c401).1 c403).2).2).1, gd_mono (a := (cc + 2)) (b := 600000) (fun q => gd_mono (a := (ss + 200)) (b := 7302250) (fun q => SpI.mono q (fun r284 g282 qg282 => ⟨qg282.1, ⟨qg282.2.1, ⟨qg282.1, ⟨qg282.2.2.1, ⟨qg282.2.2.2.1, gd_mono (a := ((cc + 2) + 0)) (b := 600000) (fun q => gd_mono (a := ((ss + 200) + 0)) (b := 7302250) (fun q => SpI.mono q (fun r290 g288 qg288 => ⟨qg288.1, fun c404 => ⟨(Or.inl rfl), (qg288.2 c404)⟩⟩)) q) qg282.2.2.2.2⟩⟩⟩⟩⟩)) q) ((((((((((((((((H.2.2 c385).2).2 c386).2 c387).2 c389).2 c391).2 c393).2 c394).2 c396).2 c398).2 c399).2 c401).1 c403).2).2).2)⟩⟩⟩⟩⟩, fun c403 => ⟨fun c405 => ⟨H.1, ⟨((((((((((((((H.2.2 c385).2).2 c386).2 c387).2 c389).2 c391).2 c393).2 c394).2 c396).2 c398).2 c399).2 c401).2 c403).1 c405).1, ⟨H.1, ⟨(((((((((((((((H.2.2 c385).2).2 c386).2 c387).2 c389).2 c391).2 c393).2 c394).2 c396).2 c398).2 c399).2 c401).2 c403).1 c405).2).1, ⟨H.1, ⟨((((((((((((((((H.2.2 c385).2).2 c386).2 c387).2 c389).2 c391).2 c393).2 c394).2 c396).2 c398).2 c399).2 c401).2 c403).1 c405).2).2).1, ⟨(((((((((((((((((H.2.2 c385).2).2 c386).2 c387).2 c389).2 c391).2 c393).2 c394).2 c396).2 c398).2 c399).2 c401).2 c403).1 c405).2).2).2).1, gd_mono (a := (cc + 0)) (b := 600000) (fun q => gd_mono (a := (ss + 0)) (b := 7302250) (fun q => SpI.mono q (fun r272 g270 qg270 => ⟨qg270.1, ⟨qg270.2.1, ⟨qg270.1, ⟨qg270.2.2.1, ⟨qg270.1, qg270.2.2.2⟩⟩⟩⟩⟩)) q) ((((((((((((((((((H.2.2 c385).2).2 c386).2 c387).2 c389).2 c391).2 c393).2 c394).2 c396).2 c398).2 c399).2 c401).2 c403).1 c405).2).2).2).2)⟩⟩⟩⟩⟩⟩⟩, fun c405 => ⟨fun c406 => ⟨H.1, ⟨(((((((((((((((H.2.2 c385).2).2 c386).2 c387).2 c389).2 c391).2 c393).2 c394).2 c396).2 c398).2 c399).2 c401).2 c403).2 c405).1 c406).1, ⟨H.1, ⟨((((((((((((((((H.2.2 c385).2).2 c386).2 c387).2 c389).2 c391).2 c393).2 c394).2 c396).2 c398).2 c399).2 c401).2 c403).2 c405).1 c406).2).1, ⟨H.1, ⟨(((((((((((((((((H.2.2 c385).2).2 c386).2 c387).2 c389).2 c391).2 c393).2 c394).2 c396).2 c398).2 c399).2 c401).2 c403).2 c405).1 c406).2).2).1, ⟨((((((((((((((((((H.2.2 c385).2).2 c386).2 c387).2 c389).2 c391).2 c393).2 c394).2 c396).2 c398).2 c399).2 c401).2 c403).2 c405).1 c406).2).2).2).1, gd_mono (a := (cc + 0)) (b := 600000) (fun q => gd_mono (a := (ss + 0)) (b := 7302250) (fun q => SpI.mono q (fun r259 g257 qg257 => ⟨qg257.1, ⟨qg257.2.1, ⟨qg257.1, ⟨qg257.2.2.1, ⟨qg257.1, ⟨qg257.2.2.2.1, ⟨qg257.2.2.2.2.1, gd_mono (a := ((cc + 0) + 0)) (b := 600000) (fun q => gd_mono (a := ((ss + 0) + 0)) (b := 7302250) (fun q => SpI.mono q (fun r266 g264 qg264 => ⟨qg264.1, fun c407 => ⟨(Or.inl rfl), (qg264.2 c407)⟩⟩)) q) qg257.2.2.2.2.2⟩⟩⟩⟩⟩⟩⟩)) q) (((((((((((((((((((H.2.2 c385).2).2 c386).2 c387).2 c389).2 c391).2 c393).2 c394).2 c396).2 c398).2 c399).2 c401).2 c403).2 c405).1 c406).2).2).2).2)⟩⟩⟩⟩⟩⟩⟩, fun c406 => ⟨fun c408 => ⟨H.1, ⟨((((((((((((((((H.2.2 c385).2).2 c386).2 c387).2 c389).2 c391).2 c393).2 c394).2 c396).2 c398).2 c399).2 c401).2 c403).2 c405).2 c406).1 c408).1, ⟨H.1, ⟨(((((((((((((((((H.2.2 c385).2).2 c386).2 c387).2 c389).2 c391).2 c393).2 c394).2 c396).2 c398).2 c399).2 c401).2 c403).2 c405).2 c406).1 c408).2).1, ⟨((((((((((((((((((H.2.2 c385).2).2 c386).2 c387).2 c389).2 c391).2 c393).2 c394).2 c396).2 c398).2 c399).2 c401).2 c403).2 c405).2 c406).1 c408).2).2).1, gd_mono (a := (cc + 6)) (b := 600000) (fun q => gd_mono (a := (ss + 799)) (b := 7302250) (fun q => SpI.mono q (fun r247 g245 qg245 => ⟨qg245.1, ⟨qg245.2.1, ⟨qg245.1, qg245.2.2⟩⟩⟩)) q) (((((((((((((((((((H.2.2 c385).2).2 c386).2 c387).2 c389).2 c391).2 c393).2 c394).2 c396).2 c398).2 c399).2 c401).2 c403).2 c405).2 c406).1 c408).2).2).2)⟩⟩⟩⟩⟩, fun c408 => ⟨fun c409 => ⟨H.1, ⟨(((((((((((((((((H.2.2 c385).2).2 c386).2 c387).2 c389).2 c391).2 c393).2 c394).2 c396).2 c398).2 c399).2 c401).2 c403).2 c405).2 c406).2 c408).1 c409).1, ⟨H.1, ⟨((((((((((((((((((H.2.2 c385).2).2 c386).2 c387).2 c389).2 c391).2 c393).2 c394).2 c396).2 c398).2 c399).2 c401).2 c403).2 c405).2 c406).2 c408).1 c409).2).1, ⟨(((((((((((((((((((H.2.2 c385).2).2 c386).2 c387).2 c389).2 c391).2 c393).2 c394).2 c396).2 c398).2 c399).2 c401).2 c403).2 c405).2 c406).2 c408).1 c409).2).2).1, gd_mono (a := (cc + 0)) (b := 600000) (fun q => gd_mono (a := (ss + 0)) (b := 7302250) (fun q => SpI.mono q (fun r236 g234 qg234 => ⟨qg234.1, ⟨qg234.2.1, ⟨qg234.1, ⟨qg234.2.2.1, ⟨qg234.2.2.2.1, gd_mono (a := ((cc + 0) + 0)) (b := 600000) (fun q => gd_mono (a := ((ss + 0) + 0)) (b := 7302250) (fun q => SpI.mono q (fun r242 g240 qg240 => ⟨qg240.1, fun c410 => ⟨(Or.inl rfl), (qg240.2 c410)⟩⟩)) q) qg234.2.2.2.2⟩⟩⟩⟩⟩)) q) ((((((((((((((((((((H.2.2 c385).2).2 c386).2 c387).2 c389).2 c391).2 c393).2 c394).2 c396).2 c398).2 c399).2 c401).2 c403).2 c405).2 c406).2 c408).1 c409).2).2).2)⟩⟩⟩⟩⟩, fun c409 => ⟨fun c411 => ⟨H.1, ⟨((((((((((((((((((H.2.2 c385).2).2 c386).2 c387).2 c389).2 c391).2 c393).2 c394).2 c396).2 c398).2 c399).2 c401).2 c403).2 c405).2 c406).2 c408).2 c409).1 c411).1, ⟨H.1, ⟨(((((((((((((((((((H.2.2 c385).2).2 c386).2 c387).2 c389).2 c391).2 c393).2 c394).2 c396).2 c398).2 c399).2 c401).2 c403).2 c405).2 c406).2 c408).2 c409).1 c411).2).1, ⟨H.1, ⟨((((((((((((((((((((H.2.2 c385).2).2 c386).2 c387).2 c389).2 c391).2 c393).2 c394).2 c396).2 c398).2 c399).2 c401).2 c403).2 c405).2 c406).2 c408).2 c409).1 c411).2).2).1, ⟨(((((((((((((((((((((H.2.2 c385).2).2 c386).2 c387).2 c389).2 c391).2 c393).2 c394).2 c396).2 c398).2 c399).2 c401).2 c403).2 c405).2 c406).2 c408).2 c409).1 c411).2).2).2).1, gd_mono (a := (cc + 0)) (b := 600000) (fun q => gd_mono (a := (ss + 0)) (b := 7302250) (fun q => SpI.mono q (fun r224 g222 qg222 => ⟨qg222.1, ⟨qg222.2.1, ⟨qg222.1, ⟨qg222.2.2.1, ⟨qg222.1, qg222.2.2.2⟩⟩⟩⟩⟩)) q) ((((((((((((((((((((((H.2.2 c385).2).2 c386).2 c387).2 c389).2 c391).2 c393).2 c394).2 c396).2 c398).2 c399).2 c401).2 c403).2 c405).2 c406).2 c408).2 c409).1 c411).2).2).2).2)⟩⟩⟩⟩⟩⟩⟩, fun c411 => ⟨fun c412 => ⟨H.1, ⟨(((((((((((((((((((H.2.2 c385).2).2 c386).2 c387).2 c389).2 c391).2 c393).2 c394).2 c396).2 c398).2 c399).2 c401).2 c403).2 c405).2 c406).2 c408).2 c409).2 c411).1 c412).1, ⟨H.1, ⟨((((((((((((((((((((H.2.2 c385).2).2 c386).2 c387).2 c389).2 c391).2 c393).2 c394).2 c396).2 c398).2 c399).2 c401).2 c403).2 c405).2 c406).2 c408).2 c409).2 c411).1 c412).2).1, ⟨H.1, ⟨(((((((((((((((((((((H.2.2 c385).2).2 c386).2 c387).2 c389).2 c391).2 c393).2 c394).2 c396).2 c398).2 c399).2 c401).2 c403).2 c405).2 c406).2 c408).2 c409).2 c411).1 c412).2).2).1, ⟨H.1, ⟨((((((((((((((((((((((H.2.2 c385).2).2 c386).2 c387).2 c389).2 c391).2 c393).2 c394).2 c396).2 c398).2 c399).2 c401).2 c403).2 c405).2 c406).2 c408).2 c409).2 c411).1 c412).2).2).2).1, ⟨H.1, ⟨(((((((((((((((((((((((H.2.2 c385).2).2 c386).2 c387).2 c389).2 c391).2 c393).2 c394).2 c396).2 c398).2 c399).2 c401).2 c403).2 c405).2 c406).2 c408).2 c409).2 c411).1 c412).2).2).2).2).1, ⟨((((((((((((((((((((((((H.2.2 c385).2).2 c386).2 c387).2 c389).2 c391).2 c393).2 c394).2 c396).2 c398).2 c399).2 c401).2 c403).2 c405).2 c406).2 c408).2 c409).2 c411).1 c412).2).2).2).2).2).1, gd_mono (a := (cc + 0)) (b := 600000) (fun q => gd_mono (a := (ss + 0)) (b := 7302250) (fun q => SpI.mono q (fun r209 g207 qg207 => ⟨qg207.1, ⟨qg207.2.1, ⟨qg207.1, ⟨qg207.2.2.1, ⟨qg207.1, ⟨qg207.2.2.2.1, ⟨qg207.1, ⟨qg207.2.2.2.2.1, ⟨qg207.1, ⟨qg207.2.2.2.2.2.1, ⟨qg207.2.2.2.2.2.2.1, gd_mono (a := ((cc + 0) + 0)) (b := 600000) (fun q => gd_mono (a := ((ss + 0) + 0)) (b := 7302250) (fun q => SpI.mono q (fun r218 g216 qg216 => ⟨qg216.1, fun c413 => ⟨(Or.inl rfl), (qg216.2 c413)⟩⟩)) q) qg207.2.2.2.2.2.2.2⟩⟩⟩⟩⟩⟩⟩⟩⟩⟩⟩)) q) (((((((((((((((((((((((((H.2.2 c385).2).2 c386).2 c387).2 c389).2 c391).2 c393).2 c394).2 c396).2 c398).2 c399).2 c401).2 c403).2 c405).2 c406).2 c408).2 c409).2 c411).1 c412).2).2).2).2).2).2)⟩⟩⟩⟩⟩⟩⟩⟩⟩⟩⟩, fun c412 => ⟨fun c414 => ⟨H.1, ⟨((((((((((((((((((((H.2.2 c385).2).2 c386).2 c387).2 c389).2 c391).2 c393).2 c394).2 c396).2 c398).2 c399).2 c401).2 c403).2 c405).2 c406).2 c408).2 c409).2 c411).2 c412).1 c414).1, ⟨H.1, ⟨(((((((((((((((((((((H.2.2 c385).2).2 c386).2 c387).2 c389).2 c391).2 c393).2 c394).2 c396).2 c398).2 c399).2 c401).2 c403).2 c405).2 c406).2 c408).2 c409).2 c411).2 c412).1 c414).2).1, ⟨H.1, ⟨((((((((((((((((((((((H.2.2 c385).2).2 c386).2 c387).2 c389).2 c391).2 c393).2 c394).2 c396).2 c398).2 c399).2 c401).2 c403).2 c405).2 c406).2 c408).2 c409).2 c411).2 c412).1 c414).2).2).1, ⟨H.1, ⟨(((((((((((((((((((((((H.2.2 c385).2).2 c386).2 c387).2 c389).2 c391).2 c393).2 c394).2 c396).2 c398).2 c399).2 c401).2 c403).2 c405).2 c406).2 c408).2 c409).2 c411).2 c412).1 c414).2).2).2).1, ⟨H.1, ⟨((((((((((((((((((((((((H.2.2 c385).2).2 c386).2 c387).2 c389).2 c391).2 c393).2 c394).2 c396).2 c398).2 c399).2 c401).2 c403).2 c405).2 c406).2 c408).2 c409).2 c411).2 c412).1 c414).2).2).2).2).1, ⟨H.1, ⟨(((((((((((((((((((((((((H.2.2 c385).2).2 c386).2 c387).2 c389).2 c391).2 c393).2 c394).2 c396).2 c398).2 c399).2 c401).2 c403).2 c405).2 c406).2 c408).2 c409).2 c411).2 c412).1 c414).2).2).2).2).2).1, ⟨((((((((((((((((((((((((((H.2.2 c385).2).2 c386).2 c387).2 c389).2 c391).2 c393).2 c394).2 c396).2 c398).2 c399).2 c401).2 c403).2 c405).2 c406).2 c408).2 c409).2 c411).2 c412).1 c414).2).2).2).2).2).2).1, gd_mono (a := (cc + 6)) (b := 600000) (fun q => gd_mono (a := (ss + 50)) (b := 7302250) (fun q => SpI.mono q (fun r191 g189 qg189 => ⟨qg189.1, ⟨qg189.2.1, ⟨qg189.1, ⟨qg189.2.2.1, ⟨qg189.1, ⟨qg189.2.2.2.1, ⟨qg189.1, ⟨qg189.2.2.2.2.1, ⟨qg189.1, ⟨qg189.2.2.2.2.2.1, ⟨qg189.1, qg189.2.2.2.2.2.2⟩⟩⟩⟩⟩⟩⟩⟩⟩⟩⟩)) q) (((((((((((((((((((((((((((H.2.2 c385).2).2 c386).2 c387).2 c389).2 c391).2 c393).2 c394).2 c396).2 c398).2 c399).2 c401).2 c403).2 c405).2 c406).2 c408).2 c409).2 c411).2 c412).1 c414).2).2).2).2).2).2).2)⟩⟩⟩⟩⟩⟩⟩⟩⟩⟩⟩⟩⟩, fun c414 => ⟨fun c415 => ⟨H.1, ⟨(((((((((((((((((((((H.2.2 c385).2).2 c386).2 c387).2 c389).2 c391).2 c393).2 c394).2 c396).2 c398).2 c399).2 c401).2 c403).2 c405).2 c406).2 c408).2 c409).2 c411).2 c412).2 c414).1 c415).1, ⟨H.1, ⟨((((((((((((((((((((((H.2.2 c385).2).2 c386).2 c387).2 c389).2 c391).2 c393).2 c394).2 c396).2 c398).2 c399).2 c401).2 c403).2 c405).2 c406).2 c408).2 c409).2 c411).2 c412).2 c414).1 c415).2).1, ⟨(((((((((((((((((((((((H.2.2 c385).2).2 c386).2 c387).2 c389).2 c391).2 c393).2 c394).2 c396).2 c398).2 c399).2 c401).2 c403).2 c405).2 c406).2 c408).2 c409).2 c411).2 c412).2 c414).1 c415).2).2).1, gd_mono (a := (cc + 0)) (b := 600000) (fun q => gd_mono (a := (ss + 0)) (b := 7302250) (fun q => SpL.mono q (fun r176 g174 qg174 => ⟨qg174.1, ⟨qg174.2.1, ⟨qg174.1, ⟨qg174.2.2.1, ⟨qg174.2.2.2.1, gd_mono (a := ((cc + 0) + 0)) (b := 600000) (fun q => gd_mono (a := ((ss + 0) + 0)) (b := 7302250) (fun q => SpL.mono q (fun r182 g180 qg180 => ⟨qg180.1, fun c416 => ⟨(Or.inl rfl), (qg180.2 c416)⟩⟩)) q) qg174.2.2.2.2⟩⟩⟩⟩⟩)) q) ((((((((((((((((((((((((H.2.2 c385).2).2 c386).2 c387).2 c389).2 c391).2 c393).2 c394).2 c396).2 c398).2 c399).2 c401).2 c403).2 c405).2 c406).2 c408).2 c409).2 c411).2 c412).2 c414).1 c415).2).2).2)⟩⟩⟩⟩⟩, fun c415 => ⟨fun c417 => ⟨H.1, ⟨((((((((((((((((((((((H.2.2 c385).2).2 c386).2 c387).2 c389).2 c391).2 c393).2 c394).2 c396).2 c398).2 c399).2 c401).2 c403).2 c405).2 c406).2 c408).2 c409).2 c411).2 c412).2 c414).2 c415).1 c417).1, ⟨H.1, ⟨(((((((((((((((((((((((H.2.2 c385).2).2 c386).2 c387).2 c389).2 c391).2 c393).2 c394).2 c396).2 c398).2 c399).2 c401).2 c403).2 c405).2 c406).2 c408).2 c409).2 c411).2 c412).2 c414).2 c415).1 c417).2).1, ⟨((((((((((((((((((((((((H.2.2 c385).2).2 c386).2 c387).2 c389).2 c391).2 c393).2 c394).2 c396).2 c398).2 c399).2 c401).2 c403).2 c405).2 c406).2 c408).2 c409).2 c411).2 c412).2 c414).2 c415).1 c417).2).2).1, gd_mono (a := (cc + 0)) (b := 600000) (fun q => gd_mono (a := (ss + 0)) (b := 7302250) (fun q => SpI.mono q (fun r165 g163 qg163 => ⟨qg163.1, ⟨qg163.2.1, ⟨qg163.1, ⟨qg163.2.2.1, ⟨qg163.2.2.2.1, gd_mono (a := ((cc + 0) + 0)) (b := 600000) (fun q => gd_mono (a := ((ss + 0) + 0)) (b := 7302250) (fun q => SpI.mono q (fun r171 g169 qg169 => ⟨qg169.1, fun c418 => ⟨(Or.inl rfl), (qg169.2 c418)⟩⟩)) q) qg163.2.2.2.2⟩⟩⟩⟩⟩)) q) (((((((((((((((((((((((((H.2.2 c385).2).2 c386).2 c387).2 c389).2 c391).2 c393).2 c394).2 c396).2 c398).2 c399).2 c401).2 c403).2 c405).2 c406).2 c408).2 c409).2 c411).2 c412).2 c414).2 c415).1 c417).2).2).2)⟩⟩⟩⟩⟩, fun c417 => ⟨fun c419 => ⟨H.1, ⟨(((((((((((((((((((((((H.2.2 c385).2).2 c386).2 c387).2 c389).2 c391).2 c393).2 c394).2 c396).2 c398).2 c399).2 c401).2 c403).2 c405).2 c406).2 c408).2 c409).2 c411).2 c412).2 c414).2 c415).2 c417).1 c419).1, ⟨H.1, ⟨((((((((((((((((((((((((H.2.2 c385).2).2 c386).2 c387).2 c389).2 c391).2 c393).2 c394).2 c396).2 c398).2 c399).2 c401).2 c403).2 c405).2 c406).2 c408).2 c409).2 c411).2 c412).2 c414).2 c415).2 c417).1 c419).2).1, ⟨(((((((((((((((((((((((((H.2.2 c385).2).2 c386).2 c387).2 c389).2 c391).2 c393).2 c394).2 c396).2 c398).2 c399).2 c401).2 c403).2 c405).2 c406).2 c408).2 c409).2 c411).2 c412).2 c414).2 c415).2 c417).1 c419).2).2).1, gd_mono (a := (cc + 1)) (b := 600000) (fun q => gd_mono (a := (ss + 2730)) (b := 7302250) (fun q => SpI.mono q (fun r154 g152 qg152 => ⟨qg152.1, ⟨qg152.2.1, ⟨qg152.1, qg152.2.2⟩⟩⟩)) q) ((((((((((((((((((((((((((H.2.2 c385).2).2 c386).2 c387).2 c389).2 c391).2 c393).2 c394).2 c396).2 c398).2 c399).2 c401).2 c403).2 c405).2 c406).2 c408).2 c409).2 c411).2 c412).2 c414).2 c415).2 c417).1 c419).2).2).2)⟩⟩⟩⟩⟩, fun c419 => ⟨fun c420 => ⟨H.1, ⟨((((((((((((((((((((((((H.2.2 c385).2).2 c386).2 c387).2 c389).2 c391).2 c393).2 c394).2 c396).2 c398).2 c399).2 c401).2 c403).2 c405).2 c406).2 c408).2 c409).2 c411).2 c412).2 c414).2 c415).2 c417).2 c419).1 c420).1, ⟨H.1, ⟨(((((((((((((((((((((((((H.2.2 c385).2).2 c386).2 c387).2 c389).2 c391).2 c393).2 c394).2 c396).2 c398).2 c399).2 c401).2 c403).2 c405).2 c406).2 c408).2 c409).2 c411).2 c412).2 c414).2 c415).2 c417).2 c419).1 c420).2).1, ⟨H.1, ⟨((((((((((((((((((((((((((H.2.2 c385).2).2 c386).2 c387).2 c389).2 c391).2 c393).2 c394).2 c396).2 c398).2 c399).2 c401).2 c403).2 c405).2 c406).2 c408).2 c409).2 c411).2 c412).2 c414).2 c415).2 c417).2 c419).1 c420).2).2).1, ⟨H.1, ⟨(((((((((((((((((((((((((((H.2.2 c385).2).2 c386).2 c387).2 c389).2 c391).2 c393).2 c394).2 c396).2 c398).2 c399).2 c401).2 c403).2 c405).2 c406).2 c408).2 c409).2 c411).2 c412).2 c414).2 c415).2 c417).2 c419).1 c420).2).2).2).1, ⟨((((((((((((((((((((((((((((H.2.2 c385).2).2 c386).2 c387).2 c389).2 c391).2 c393).2 c394).2 c396).2 c398).2 c399).2 c401).2 c403).2 c405).2 c406).2 c408).2 c409).2 c411).2 c412).2 c414).2 c415).2 c417).2 c419).1 c420).2).2).2).2).1, gd_mono (a := (cc + 1)) (b := 600000) (fun q => gd_mono (a := (ss + 2730)) (b := 7302250) (fun q => SpL.mono q (fun r141 g139 qg139 => ⟨qg139.1, ⟨qg139.2.1, ⟨qg139.1, ⟨qg139.2.2.1, ⟨qg139.1, ⟨qg139.2.2.2.1, ⟨qg139.1, ⟨qg139.2.2.2.2.1, ⟨qg139.2.2.2.2.2.1, gd_mono (a := ((cc + 1) + 0)) (b := 600000) (fun q => gd_mono (a := ((ss + 2730) + 0)) (b := 7302250) (fun q => SpL.mono q (fun r149 g147 qg147 => ⟨qg147.1, fun c421 => ⟨(Or.inl rfl), (qg147.2 c421)⟩⟩)) q) qg139.2.2.2.2.2.2⟩⟩⟩⟩⟩⟩⟩⟩⟩)) q) (((((((((((((((((((((((((((((H.2.2 c385).2).2 c386).2 c387).2 c389).2 c391).2 c393).2 c394).2 c396).2 c398).2 c399).2 c401).2 c403).2 c405).2 c406).2 c408).2 c409).2 c411).2 c412).2 c414).2 c415).2 c417).2 c419).1 c420).2).2).2).2).2)⟩⟩⟩⟩⟩⟩⟩⟩⟩, fun c420 => ⟨fun c422 => ⟨H.1, ⟨(((((((((((((((((((((((((H.2.2 c385).2).2 c386).2 c387).2 c389).2 c391).2 c393).2 c394).2 c396).2 c398).2 c399).2 c401).2 c403).2 c405).2 c406).2 c408).2 c409).2 c411).2 c412).2 c414).2 c415).2 c417).2 c419).2 c420).1 c422).1, ⟨H.1, ⟨((((((((((((((((((((((((((H.2.2 c385).2).2 c386).2 c387).2 c389).2 c391).2 c393).2 c394).2 c396).2 c398).2 c399).2 c401).2 c403).2 c405).2 c406).2 c408).2 c409).2 c411).2 c412).2 c414).2 c415).2 c417).2 c419).2 c420).1 c422).2).1, ⟨(((((((((((((((((((((((((((H.2.2 c385).2).2 c386).2 c387).2 c389).2 c391).2 c393).2 c394).2 c396).2 c398).2 c399).2 c401).2 c403).2 c405).2 c406).2 c408).2 c409).2 c411).2 c412).2 c414).2 c415).2 c417).2 c419).2 c420).1 c422).2).2).1, gd_mono (a := (cc + 7)) (b := 600000) (fun q => gd_mono (a := (ss + 1648)) (b := 7302250) (fun q => SpI.mono q (fun r128 g126 qg126 => ⟨qg126.1, ⟨qg126.2.1, ⟨qg126.1, qg126.2.2⟩⟩⟩)) q) ((((((((((((((((((((((((((((H.2.2 c385).2).2 c386).2 c387).2 c389).2 c391).2 c393).2 c394).2 c396).2 c398).2 c399).2 c401).2 c403).2 c405).2 c406).2 c408).2 c409).2 c411).2 c412).2 c414).2 c415).2 c417).2 c419).2 c420).1 c422).2).2).2)⟩⟩⟩⟩⟩, fun c422 => ⟨fun c423 => ⟨H.1, ⟨((((((((((((((((((((((((((H.2.2 c385).2).2 c386).2 c387).2 c389).2 c391).2 c393).2 c394).2 c396).2 c398).2 c399).2 c401).2 c403).2 c405).2 c406).2 c408).2 c409).2 c411).2 c412).2 c414).2 c415).2 c417).2 c419).2 c420).2 c422).1 c423).1, ⟨H.1, ⟨(((((((((((((((((((((((((((H.2.2 c385).2).2 c386).2 c387).2 c389).2 c391).2 c393).2 c394).2 c396).2 c398).2 c399).2 c401).2 c403).2 c405).2 c406).2 c408).2 c409).2 c411).2 c412).2 c414).2 c415).2 c417).2 c419).2 c420).2 c422).1 c423).2).1, ⟨H.1, ⟨((((((((((((((((((((((((((((H.2.2 c385).2).2 c386).2 c387).2 c389).2 c391).2 c393).2 c394).2 c396).2 c398).2 c399).2 c401).2 c403).2 c405).2 c406).2 c408).2 c409).2 c411).2 c412).2 c414).2 c415).2 c417).2 c419).2 c420).2 c422).1 c423).2).2).1, ⟨(((((((((((((((((((((((((((((H.2.2 c385).2).2 c386).2 c387).2 c389).2 c391).2 c393).2 c394).2 c396).2 c398).2 c399).2 c401).2 c403).2 c405).2 c406).2 c408).2 c409).2 c411).2 c412).2 c414).2 c415).2 c417).2 c419).2 c420).2 c422).1 c423).2).2).2).1, gd_mono (a := (cc + 0)) (b := 600000) (fun q => gd_mono (a := (ss + 0)) (b := 7302250) (fun q => SpI.mono q (fun r116 g114 qg114 => ⟨qg114.1, ⟨qg114.2.1, ⟨qg114.1, ⟨qg114.2.2.1, ⟨qg114.1, ⟨qg114.2.2.2.1, ⟨qg114.2.2.2.2.1, gd_mono (a := ((cc + 0) + 0)) (b := 600000) (fun q => gd_mono (a := ((ss + 0) + 0)) (b := 7302250) (fun q => SpI.mono q (fun r123 g121 qg121 => ⟨qg121.1, fun c424 => ⟨(Or.inl rfl), (qg121.2 c424)⟩⟩)) q) qg114.2.2.2.2.2⟩⟩⟩⟩⟩⟩⟩)) q) ((((((((((((((((((((((((((((((H.2.2 c385).2).2 c386).2 c387).2 c389).2 c391).2 c393).2 c394).2 c396).2 c398).2 c399).2 c401).2 c403).2 c405).2 c406).2 c408).2 c409).2 c411).2 c412).2 c414).2 c415).2 c417).2 c419).2 c420).2 c422).1 c423).2).2).2).2)⟩⟩⟩⟩⟩⟩⟩, fun c423 => ⟨fun c425 => ⟨H.1, ⟨(((((((((((((((((((((((((((H.2.2 c385).2).2 c386).2 c387).2 c389).2 c391).2 c393).2 c394).2 c396).2 c398).2 c399).2 c401).2 c403).2 c405).2 c406).2 c408).2 c409).2 c411).2 c412).2 c414).2 c415).2 c417).2 c419).2 c420).2 c422).2 c423).1 c425).1, ⟨H.1, ⟨((((((((((((((((((((((((((((H.2.2 c385).2).2 c386).2 c387).2 c389).2 c391).2 c393).2 c394).2 c396).2 c398).2 c399).2 c401).2 c403).2 c405).2 c406).2 c408).2 c409).2 c411).2 c412).2 c414).2 c415).2 c417).2 c419).2 c420).2 c422).2 c423).1 c425).2).1, ⟨H.1, ⟨(((((((((((((((((((((((((((((H.2.2 c385).2).2 c386).2 c387).2 c389).2 c391).2 c393).2 c394).2 c396).2 c398).2 c399).2 c401).2 c403).2 c405).2 c406).2 c408).2 c409).2 c411).2 c412).2 c414).2 c415).2 c417).2 c419).2 c420).2 c422).2 c423).1 c425).2).2).1, ⟨((((((((((((((((((((((((((((((H.2.2 c385).2).2 c386).2 c387).2 c389).2 c391).2 c393).2 c394).2 c396).2 c398).2 c399).2 c401).2 c403).2 c405).2 c406).2 c408).2 c409).2 c411).2 c412).2 c414).2 c415).2 c417).2 c419).2 c420).2 c422).2 c423).1 c425).2).2).2).1, gd_mono (a := (cc + 0)) (b := 600000) (fun q => gd_mono (a := (ss + 0)) (b := 7302250) (fun q => SpI.mono q (fun r103 g101 qg101 => ⟨qg101.1, ⟨qg101.2.1, ⟨qg101.1, ⟨qg101.2.2.1, ⟨qg101.1, qg101.2.2.2⟩⟩⟩⟩⟩)) q) (((((((((((((((((((((((((((((((H.2.2 c385).2).2 c386).2 c387).2 c389).2 c391).2 c393).2 c394).2 c396).2 c398).2 c399).2 c401).2 c403).2 c405).2 c406).2 c408).2 c409).2 c411).2 c412).2 c414).2 c415).2 c417).2 c419).2 c420).2 c422).2 c423).1 c425).2).2).2).2)⟩⟩⟩⟩⟩⟩⟩, fun c425 => ⟨fun c426 => ⟨H.1, ⟨((((((((((((((((((((((((((((H.2.2 c385).2).2 c386).2 c387).2 c389).2 c391).2 c393).2 c394).2 c396).2 c398).2 c399).2 c401).2 c403).2 c405).2 c406).2 c408).2 c409).2 c411).2 c412).2 c414).2 c415).2 c417).2 c419).2 c420).2 c422).2 c423).2 c425).1 c426).1, ⟨H.1, ⟨(((((((((((((((((((((((((((((H.2.2 c385).2).2 c386).2 c387).2 c389).2 c391).2 c393).2 c394).2 c396).2 c398).2 c399).2 c401).2 c403).2 c405).2 c406).2 c408).2 c409).2 c411).2 c412).2 c414).2 c415).2 c417).2 c419).2 c420).2 c422).2 c423).2 c425).1 c426).2).1, ⟨H.1, ⟨((((((((((((((((((((((((((((((H.2.2 c385).2).2 c386).2 c387).2 c389).2 c391).2 c393).2 c394).2 c396).2 c398).2 c399).2 c401).2 c403).2 c405).2 c406).2 c408).2 c409).2 c411).2 c412).2 c414).2 c415).2 c417).2 c419).2 c420).2 c422).2 c423).2 c425).1 c426).2).2).1, ⟨H.1, ⟨(((((((((((((((((((((((((((((((H.2.2 c385).2).2 c386).2 c387).2 c389).2 c391).2 c393).2 c394).2 c396).2 c398).2 c399).2 c401).2 c403).2 c405).2 c406).2 c408).2 c409).2 c411).2 c412).2 c414).2 c415).2 c417).2 c419).2 c420).2 c422).2 c423).2 c425).1 c426).2).2).2).1, ⟨H.1, ⟨((((((((((((((((((((((((((((((((H.2.2 c385).2).2 c386).2 c387).2 c389).2 c391).2 c393).2 c394).2 c396).2 c398).2 c399).2 c401).2 c403).2 c405).2 c406).2 c408).2 c409).2 c411).2 c412).2 c414).2 c415).2 c417).2 c419).2 c420).2 c422).2 c423).2 c425).1 c426).2).2).2).2).1, ⟨(((((((((((((((((((((((((((((((((H.2.2 c385).2).2 c386).2 c387).2 c389).2 c391).2 c393).2 c394).2 c396).2 c398).2 c399).2 c401).2 c403).2 c405).2 c406).2 c408).2 c409).2 c411).2 c412).2 c414).2 c415).2 c417).2 c419).2 c420).2 c422).2 c423).2 c425).1 c426).2).2).2).2).2).1, gd_mono (a := (cc + 0)) (b := 600000) (fun q => gd_mono (a := (ss + 0)) (b := 7302250) (fun q => SpL.mono q (fun r88 g86 qg86 => ⟨qg86.1, ⟨qg86.2.1, ⟨qg86.1, ⟨qg86.2.2.1, ⟨qg86.1, ⟨qg86.2.2.2.1, ⟨qg86.1, ⟨qg86.2.2.2.2.1, ⟨qg86.1, ⟨qg86.2.2.2.2.2.1, ⟨qg86.2.2.2.2.2.2.1, gd_mono (a := ((cc + 0) + 0)) (b := 600000) (fun q => gd_mono (a := ((ss + 0) + 0)) (b := 7302250) (fun q => SpL.mono q (fun r97 g95 qg95 => ⟨qg95.1, fun c427 => ⟨(Or.inl rfl), (qg95.2 c427)⟩⟩)) q) qg86.2.2.2.2.2.2.2⟩⟩⟩⟩⟩⟩⟩⟩⟩⟩⟩)) q) ((((((((((((((((((((((((((((((((((H.2.2 c385).2).2 c386).2 c387).2 c389).2 c391).2 c393).2 c394).2 c396).2 c398).2 c399).2 c401).2 c403).2 c405).2 c406).2 c408).2 c409).2 c411).2 c412).2 c414).2 c415).2 c417).2 c419).2 c420).2 c422).2 c423).2 c425).1 c426).2).2).2).2).2).2)⟩⟩⟩⟩⟩⟩⟩⟩⟩⟩⟩, fun c426 => ⟨((((((((((((((((((((((((((((H.2.2 c385).2).2 c386).2 c387).2 c389).2 c391).2 c393).2 c394).2 c396).2 c398).2 c399).2 c401).2 c403).2 c405).2 c406).2 c408).2 c409).2 c411).2 c412).2 c414).2 c415).2 c417).2 c419).2 c420).2 c422).2 c423).2 c425).2 c426).1, fun c428 => ⟨fun c429 => ⟨H.1, ⟨((((((((((((((((((((((((((((((H.2.2 c385).2).2 c386).2 c387).2 c389).2 c391).2 c393).2 c394).2 c396).2 c398).2 c399).2 c401).2 c403).2 c405).2 c406).2 c408).2 c409).2 c411).2 c412).2 c414).2 c415).2 c417).2 c419).2 c420).2 c422).2 c423).2 c425).2 c426).2 c428).1 c429).1, ⟨H.1, ⟨(((((((((((((((((((((((((((((((H.2.2 c385).2).2 c386).2 c387).2 c389).2 c391).2 c393).2 c394).2 c396).2 c398).2 c399).2 c401).2 c403).2 c405).2 c406).2 c408).2 c409).2 c411).2 c412).2 c414).2 c415).2 c417).2 c419).2 c420).2 c422).2 c423).2 c425).2 c426).2 c428).1 c429).2).1, ⟨H.1, ⟨((((((((((((((((((((((((((((((((H.2.2 c385).2).2 c386).2 c387).2 c389).2 c391).2 c393).2 c394).2 c396).2 c398).2 c399).2 c401).2 c403).2 c405).2 c406).2 c408).2 c409).2 c411).2 c412).2 c414).2 c415).2 c417).2 c419).2 c420).2 c422).2 c423).2 c425).2 c426).2 c428).1 c429).2).2).1, ⟨H.1, ⟨(((((((((((((((((((((((((((((((((H.2.2 c385).2).2 c386).2 c387).2 c389).2 c391).2 c393).2 c394).2 c396).2 c398).2 c399).2 c401).2 c403).2 c405).2 c406).2 c408).2 c409).2 c411).2 c412).2 c414).2 c415).2 c417).2 c419).2 c420).2 c422).2 c423).2 c425).2 c426).2 c428).1 c429).2).2).2).1, ⟨((((((((((((((((((((((((((((((((((H.2.2 c385).2).2 c386).2 c387).2 c389).2 c391).2 c393).2 c394).2 c396).2 c398).2 c399).2 c401).2 c403).2 c405).2 c406).2 c408).2 c409).2 c411).2 c412).2 c414).2 c415).2 c417).2 c419).2 c420).2 c422).2 c423).2 c425).2 c426).2 c428).1 c429).2).2).2).2).1, gd_mono (a := (cc + 0)) (b := 600000) (fun q => gd_mono (a := (ss + 0)) (b := 7302250) (fun q => SpI.mono q (fun r72 g70 qg70 => ⟨qg70.1, ⟨qg70.2.1, ⟨qg70.1, ⟨qg70.2.2.1, ⟨qg70.1, ⟨qg70.2.2.2.1, ⟨qg70.1, qg70.2.2.2.2⟩⟩⟩⟩⟩⟩⟩)) q) (((((((((((((((((((((((((((((((((((H.2.2 c385).2).2 c386).2 c387).2 c389).2 c391).2 c393).2 c394).2 c396).2 c398).2 c399).2 c401).2 c403).2 c405).2 c406).2 c408).2 c409).2 c411).2 c412).2 c414).2 c415).2 c417).2 c419).2 c420).2 c422).2 c423).2 c425).2 c426).2 c428).1 c429).2).2).2).2).2)⟩⟩⟩⟩⟩⟩⟩⟩⟩, fun c429 => ⟨fun c430 => ⟨H.1, ⟨(((((((((((((((((((((((((((((((H.2.2 c385).2).2 c386).2 c387).2 c389).2 c391).2 c393).2 c394).2 c396).2 c398).2 c399).2 c401).2 c403).2 c405).2 c406).2 c408).2 c409).2 c411).2 c412).2 c414).2 c415).2 c417).2 c419).2 c420).2 c422).2 c423).2 c425).2 c426).2 c428).2 c429).1 c430).1, ⟨H.1, ⟨((((((((((((((((((((((((((((((((H.2.2 c385).2).2 c386).2 c387).2 c389).2 c391).2 c393).2 c394).2 c396).2 c398).2 c399).2 c401).2 c403).2 c405).2 c406).2 c408).2 c409).2 c411).2 c412).2 c414).2 c415).2 c417).2 c419).2 c420).2 c422).2 c423).2 c425).2 c426).2 c428).2 c429).1 c430).2).1, ⟨(((((((((((((((((((((((((((((((((H.2.2 c385).2).2 c386).2 c387).2 c389).2 c391).2 c393).2 c394).2 c396).2 c398).2 c399).2 c401).2 c403).2 c405).2 c406).2 c408).2 c409).2 c411).2 c412).2 c414).2 c415).2 c417).2 c419).2 c420).2 c422).2 c423).2 c425).2 c426).2 c428).2 c429).1 c430).2).2).1, gd_mono (a := (cc + 4)) (b := 600000) (fun q => gd_mono (a := (ss + 7697)) (b := 7302250) (fun q => SpI.mono q (fun r59 g57 qg57 => ⟨qg57.1, ⟨qg57.2.1, ⟨qg57.1, ⟨qg57.2.2.1, ⟨qg57.2.2.2.1, gd_mono (a := ((cc + 4) + 0)) (b := 600000) (fun q => gd_mono (a := ((ss + 7697) + 0)) (b := 7302250) (fun q => SpI.mono q (fun r65 g63 qg63 => ⟨qg63.1, fun c431 => ⟨(Or.inl rfl), (qg63.2 c431)⟩⟩)) q) qg57.2.2.2.2⟩⟩⟩⟩⟩)) q) ((((((((((((((((((((((((((((((((((H.2.2 c385).2).2 c386).2 c387).2 c389).2 c391).2 c393).2 c394).2 c396).2 c398).2 c399).2 c401).2 c403).2 c405).2 c406).2 c408).2 c409).2 c411).2 c412).2 c414).2 c415).2 c417).2 c419).2 c420).2 c422).2 c423).2 c425).2 c426).2 c428).2 c429).1 c430).2).2).2)⟩⟩⟩⟩⟩, fun c430 => ⟨fun c432 => ⟨H.1, ⟨((((((((((((((((((((((((((((((((H.2.2 c385).2).2 c386).2 c387).2 c389).2 c391).2 c393).2 c394).2 c396).2 c398).2 c399).2 c401).2 c403).2 c405).2 c406).2 c408).2 c409).2 c411).2 c412).2 c414).2 c415).2 c417).2 c419).2 c420).2 c422).2 c423).2 c425).2 c426).2 c428).2 c429).2 c430).1 c432).1, ⟨H.1, ⟨(((((((((((((((((((((((((((((((((H.2.2 c385).2).2 c386).2 c387).2 c389).2 c391).2 c393).2 c394).2 c396).2 c398).2 c399).2 c401).2 c403).2 c405).2 c406).2 c408).2 c409).2 c411).2 c412).2 c414).2 c415).2 c417).2 c419).2 c420).2 c422).2 c423).2 c425).2 c426).2 c428).2 c429).2 c430).1 c432).2).1, ⟨H.1, ⟨((((((((((((((((((((((((((((((((((H.2.2 c385).2).2 c386).2 c387).2 c389).2 c391).2 c393).2 c394).2 c396).2 c398).2 c399).2 c401).2 c403).2 c405).2 c406).2 c408).2 c409).2 c411).2 c412).2 c414).2 c415).2 c417).2 c419).2 c420).2 c422).2 c423).2 c425).2 c426).2 c428).2 c429).2 c430).1 c432).2).2).1, ⟨H.1, ⟨(((((((((((((((((((((((((((((((((((H.2.2 c385).2).2 c386).2 c387).2 c389).2 c391).2 c393).2 c394).2 c396).2 c398).2 c399).2 c401).2 c403).2 c405).2 c406).2 c408).2 c409).2 c411).2 c412).2 c414).2 c415).2 c417).2 c419).2 c420).2 c422).2 c423).2 c425).2 c426).2 c428).2 c429).2 c430).1 c432).2).2).2).1, ⟨((((((((((((((((((((((((((((((((((((H.2.2 c385).2).2 c386).2 c387).2 c389).2 c391).2 c393).2 c394).2 c396).2 c398).2 c399).2 c401).2 c403).2 c405).2 c406).2 c408).2 c409).2 c411).2 c412).2 c414).2 c415).2 c417).2 c419).2 c420).2 c422).2 c423).2 c425).2 c426).2 c428).2 c429).2 c430).1 c432).2).2).2).2).1, gd_mono (a := (cc + 4)) (b := 600000) (fun q => gd_mono (a := (ss + 7697)) (b := 7302250) (fun q => SpL.mono q (fun r46 g44 qg44 => ⟨qg44.1, ⟨qg44.2.1, ⟨qg44.1, ⟨qg44.2.2.1, ⟨qg44.1, ⟨qg44.2.2.2.1, ⟨qg44.1, qg44.2.2.2.2⟩⟩⟩⟩⟩⟩⟩)) q) (((((((((((((((((((((((((((((((((((((H.2.2 c385).2).2 c386).2 c387).2 c389).2 c391).2 c393).2 c394).2 c396).2 c398).2 c399).2 c401).2 c403).2 c405).2 c406).2 c408).2 c409).2 c411).2 c412).2 c414).2 c415).2 c417).2 c419).2 c420).2 c422).2 c423).2 c425).2 c426).2 c428).2 c429).2 c430).1 c432).2).2).2).2).2)⟩⟩⟩⟩⟩⟩⟩⟩⟩, fun c432 => ⟨fun c433 => ⟨H.1, ⟨(((((((((((((((((((((((((((((((((H.2.2 c385).2).2 c386).2 c387).2 c389).2 c391).2 c393).2 c394).2 c396).2 c398).2 c399).2 c401).2 c403).2 c405).2 c406).2 c408).2 c409).2 c411).2 c412).2 c414).2 c415).2 c417).2 c419).2 c420).2 c422).2 c423).2 c425).2 c426).2 c428).2 c429).2 c430).2 c432).1 c433).1, ⟨H.1, ⟨((((((((((((((((((((((((((((((((((H.2.2 c385).2).2 c386).2 c387).2 c389).2 c391).2 c393).2 c394).2 c396).2 c398).2 c399).2 c401).2 c403).2 c405).2 c406).2 c408).2 c409).2 c411).2 c412).2 c414).2 c415).2 c417).2 c419).2 c420).2 c422).2 c423).2 c425).2 c426).2 c428).2 c429).2 c430).2 c432).1 c433).2).1, ⟨(((((((((((((((((((((((((((((((((((H.2.2 c385).2).2 c386).2 c387).2 c389).2 c391).2 c393).2 c394).2 c396).2 c398).2 c399).2 c401).2 c403).2 c405).2 c406).2 c408).2 c409).2 c411).2 c412).2 c414).2 c415).2 c417).2 c419).2 c420).2 c422).2 c423).2 c425).2 c426).2 c428).2 c429).2 c430).2 c432).1 c433).2).2).1, gd_mono (a := (cc + 0)) (b := 600000) (fun q => gd_mono (a := (ss + 0)) (b := 7302250) (fun q => SpL.mono q (fun r33 g31 qg31 => ⟨qg31.1, ⟨qg31.2.1, ⟨qg31.1, ⟨qg31.2.2.1, ⟨qg31.2.2.2.1, gd_mono (a := ((cc + 0) + 0)) (b := 600000) (fun q => gd_mono (a := ((ss + 0) + 0)) (b := 7302250) (fun q => SpL.mono q (fun r39 g37 qg37 => ⟨qg37.1, fun c434 => ⟨(Or.inl rfl), (qg37.2 c434)⟩⟩)) q) qg31.2.2.2.2⟩⟩⟩⟩⟩)) q) ((((((((((((((((((((((((((((((((((((H.2.2 c385).2).2 c386).2 c387).2 c389).2 c391).2 c393).2 c394).2 c396).2 c398).2 c399).2 c401).2 c403).2 c405).2 c406).2 c408).2 c409).2 c411).2 c412).2 c414).2 c415).2 c417).2 c419).2 c420).2 c422).2 c423).2 c425).2 c426).2 c428).2 c429).2 c430).2 c432).1 c433).2).2).2)⟩⟩⟩⟩⟩, fun c433 => ⟨fun c435 => ⟨H.1, ⟨((((((((((((((((((((((((((((((((((H.2.2 c385).2).2 c386).2 c387).2 c389).2 c391).2 c393).2 c394).2 c396).2 c398).2 c399).2 c401).2 c403).2 c405).2 c406).2 c408).2 c409).2 c411).2 c412).2 c414).2 c415).2 c417).2 c419).2 c420).2 c422).2 c423).2 c425).2 c426).2 c428).2 c429).2 c430).2 c432).2 c433).1 c435).1, ⟨H.1, ⟨(((((((((((((((((((((((((((((((((((H.2.2 c385).2).2 c386).2 c387).2 c389).2 c391).2 c393).2 c394).2 c396).2 c398).2 c399).2 c401).2 c403).2 c405).2 c406).2 c408).2 c409).2 c411).2 c412).2 c414).2 c415).2 c417).2 c419).2 c420).2 c422).2 c423).2 c425).2 c426).2 c428).2 c429).2 c430).2 c432).2 c433).1 c435).2).1, ⟨H.1, ⟨((((((((((((((((((((((((((((((((((((H.2.2 c385).2).2 c386).2 c387).2 c389).2 c391).2 c393).2 c394).2 c396).2 c398).2 c399).2 c401).2 c403).2 c405).2 c406).2 c408).2 c409).2 c411).2 c412).2 c414).2 c415).2 c417).2 c419).2 c420).2 c422).2 c423).2 c425).2 c426).2 c428).2 c429).2 c430).2 c432).2 c433).1 c435).2).2).1, ⟨H.1, ⟨(((((((((((((((((((((((((((((((((((((H.2.2 c385).2).2 c386).2 c387).2 c389).2 c391).2 c393).2 c394).2 c396).2 c398).2 c399).2 c401).2 c403).2 c405).2 c406).2 c408).2 c409).2 c411).2 c412).2 c414).2 c415).2 c417).2 c419).2 c420).2 c422).2 c423).2 c425).2 c426).2 c428).2 c429).2 c430).2 c432).2 c433).1 c435).2).2).2).1, ⟨((((((((((((((((((((((((((((((((((((((H.2.2 c385).2).2 c386).2 c387).2 c389).2 c391).2 c393).2 c394).2 c396).2 c398).2 c399).2 c401).2 c403).2 c405).2 c406).2 c408).2 c409).2 c411).2 c412).2 c414).2 c415).2 c417).2 c419).2 c420).2 c422).2 c423).2 c425).2 c426).2 c428).2 c429).2 c430).2 c432).2 c433).1 c435).2).2).2).2).1, gd_mono (a := (cc + 0)) (b := 600000) (fun q => gd_mono (a := (ss + 0)) (b := 7302250) (fun q => SpI.mono q (fun r20 g18 qg18 => ⟨qg18.1, ⟨qg18.2.1, ⟨qg18.1, ⟨qg18.2.2.1, ⟨qg18.1, ⟨qg18.2.2.2.1, ⟨qg18.1, qg18.2.2.2.2⟩⟩⟩⟩⟩⟩⟩)) q) (((((((((((((((((((((((((((((((((((((((H.2.2 c385).2).2 c386).2 c387).2 c389).2 c391).2 c393).2 c394).2 c396).2 c398).2 c399).2 c401).2 c403).2 c405).2 c406).2 c408).2 c409).2 c411).2 c412).2 c414).2 c415).2 c417).2 c419).2 c420).2 c422).2 c423).2 c425).2 c426).2 c428).2 c429).2 c430).2 c432).2 c433).1 c435).2).2).2).2).2)⟩⟩⟩⟩⟩⟩⟩⟩⟩, fun c435 => ⟨fun c436 => ⟨H.1, ⟨(((((((((((((((((((((((((((((((((((H.2.2 c385).2).2 c386).2 c387).2 c389).2 c391).2 c393).2 c394).2 c396).2 c398).2 c399).2 c401).2 c403).2 c405).2 c406).2 c408).2 c409).2 c411).2 c412).2 c414).2 c415).2 c417).2 c419).2 c420).2 c422).2 c423).2 c425).2 c426).2 c428).2 c429).2 c430).2 c432).2 c433).2 c435).1 c436).1, ⟨H.1, ⟨((((((((((((((((((((((((((((((((((((H.2.2 c385).2).2 c386).2 c387).2 c389).2 c391).2 c393).2 c394).2 c396).2 c398).2 c399).2 c401).2 c403).2 c405).2 c406).2 c408).2 c409).2 c411).2 c412).2 c414).2 c415).2 c417).2 c419).2 c420).2 c422).2 c423).2 c425).2 c426).2 c428).2 c429).2 c430).2 c432).2 c433).2 c435).1 c436).2).1, ⟨(((((((((((((((((((((((((((((((((((((H.2.2 c385).2).2 c386).2 c387).2 c389).2 c391).2 c393).2 c394).2 c396).2 c398).2 c399).2 c401).2 c403).2 c405).2 c406).2 c408).2 c409).2 c411).2 c412).2 c414).2 c415).2 c417).2 c419).2 c420).2 c422).2 c423).2 c425).2 c426).2 c428).2 c429).2 c430).2 c432).2 c433).2 c435).1 c436).2).2).1, gd_mono (a := (cc + 0)) (b := 600000) (fun q => gd_mono (a := (ss + 0)) (b := 7302250) (fun q => SpL.mono q (fun r7 g5 qg5 => ⟨qg5.1, ⟨qg5.2.1, ⟨qg5.1, ⟨qg5.2.2.1, ⟨qg5.2.2.2.1, gd_mono (a := ((cc + 0) + 0)) (b := 600000) (fun q => gd_mono (a := ((ss + 0) + 0)) (b := 7302250) (fun q => SpL.mono q (fun r13 g11 qg11 => ⟨qg11.1, fun c437 => ⟨(Or.inl rfl), (qg11.2 c437)⟩⟩)) q) qg5.2.2.2.2⟩⟩⟩⟩⟩)) q) ((((((((((((((((((((((((((((((((((((((H.2.2 c385).2).2 c386).2 c387).2 c389).2 c391).2 c393).2 c394).2 c396).2 c398).2 c399).2 c401).2 c403).2 c405).2 c406).2 c408).2 c409).2 c411).2 c412).2 c414).2 c415).2 c417).2 c419).2 c420).2 c422).2 c423).2 c425).2 c426).2 c428).2 c429).2 c430).2 c432).2 c433).2 c435).1 c436).2).2).2)⟩⟩⟩⟩⟩, ((((((((((((((((((((((((((((((((((H.2.2 c385).2).2 c386).2 c387).2 c389).2 c391).2 c393).2 c394).2 c396).2 c398).2 c399).2 c401).2 c403).2 c405).2 c406).2 c408).2 c409).2 c411).2 c412).2 c414).2 c415).2 c417).2 c419).2 c420).2 c422).2 c423).2 c425).2 c426).2 c428).2 c429).2 c430).2 c432).2 c433).2 c435).2⟩⟩⟩⟩⟩⟩⟩⟩⟩⟩⟩⟩⟩⟩⟩⟩⟩⟩⟩⟩⟩⟩⟩⟩⟩⟩⟩⟩⟩⟩⟩⟩⟩⟩⟩⟩⟩
set_option maxRecDepth 100000 in
set_option maxHeartbeats 4000000 in
theorem v_Law_law_2 (x0 : Nat) (x1 : Nat) (x2 : Nat) (x3 : Int32) (cc ss : Nat) (h : MH) (Rt : Value → MH → Prop) (H :
WM k_Law_law p_Law_law_1 [.ref x0, .ref x1, .ref x2, .int (x3 + (7 : Int32))] [] h cc ss Rt) : WM k_Law_law p_Law_law_2 [.ref x0, .ref x1, .ref x2, .int x3] [] h cc ss Rt := WM_at (hs := HH_Law_law) G_Law_law 1131 76 rfl H
set_option maxRecDepth 100000 in
set_option maxHeartbeats 4000000 in
theorem v_Law_law_3 (cc ss : Nat) (h : MH) (Rt : Value → MH → Prop) (H :
gd cc 600000 (
gd ss 7302250 (
Rt (.int (0 : Int32)) h))) : WM k_Law_law p_Law_law_3 [Jv, Jv, Jv, Jv] [] h cc ss Rt := WM_at (hs := HH_Law_law) G_Law_law 1131 143 rfl ⟨(Or.inl rfl), H⟩
set_option maxRecDepth 100000 in
set_option maxHeartbeats 4000000 in
theorem v_Law_law_4 (cc ss : Nat) (h : MH) (Rt : Value → MH → Prop) (H :
gd cc 600000 (
gd ss 7302250 (
Rt (.int (0 : Int32)) h))) : WM k_Law_law p_Law_law_4 [Jv, Jv, Jv, Jv] [] h cc ss Rt := WM_at (hs := HH_Law_law) G_Law_law 1131 204 rfl ⟨(Or.inl rfl), H⟩
set_option maxRecDepth 100000 in
set_option maxHeartbeats 4000000 in
theorem v_Law_law_5 (cc ss : Nat) (h : MH) (Rt : Value → MH → Prop) (H :
gd cc 600000 (
gd ss 7302250 (
Rt (.int (0 : Int32)) h))) : WM k_Law_law p_Law_law_5 [Jv, Jv, Jv, Jv] [] h cc ss Rt := WM_at (hs := HH_Law_law) G_Law_law 1131 292 rfl ⟨(Or.inl rfl), H⟩
set_option maxRecDepth 100000 in
set_option maxHeartbeats 4000000 in
theorem v_Law_law_6 (cc ss : Nat) (h : MH) (Rt : Value → MH → Prop) (H :
gd cc 600000 (
gd ss 7302250 (
Rt (.int (0 : Int32)) h))) : WM k_Law_law p_Law_law_6 [Jv, Jv, Jv, Jv] [] h cc ss Rt := WM_at (hs := HH_Law_law) G_Law_law 1131 356 rfl ⟨(Or.inl rfl), H⟩
set_option maxRecDepth 100000 in
set_option maxHeartbeats 4000000 in
theorem v_Law_law_7 (cc ss : Nat) (h : MH) (Rt : Value → MH → Prop) (H :
gd cc 600000 (
gd ss 7302250 (
Rt (.int (0 : Int32)) h))) : WM k_Law_law p_Law_law_7 [Jv, Jv, Jv, Jv] [] h cc ss Rt := WM_at (hs := HH_Law_law) G_Law_law 1131 420 rfl ⟨(Or.inl rfl), H⟩
set_option maxRecDepth 100000 in
set_option maxHeartbeats 4000000 in
theorem v_Law_law_8 (cc ss : Nat) (h : MH) (Rt : Value → MH → Prop) (H :
gd cc 600000 (
gd ss 7302250 (
Rt (.int (0 : Int32)) h))) : WM k_Law_law p_Law_law_8 [Jv, Jv, Jv, Jv] [] h cc ss Rt := WM_at (hs := HH_Law_law) G_Law_law 1131 544 rfl ⟨(Or.inl rfl), H⟩
set_option maxRecDepth 100000 in
set_option maxHeartbeats 4000000 in
theorem v_Law_law_9 (cc ss : Nat) (h : MH) (Rt : Value → MH → Prop) (H :
gd cc 600000 (
gd ss 7302250 (
Rt (.int (0 : Int32)) h))) : WM k_Law_law p_Law_law_9 [Jv, Jv, Jv, Jv] [] h cc ss Rt := WM_at (hs := HH_Law_law) G_Law_law 1131 626 rfl ⟨(Or.inl rfl), H⟩
set_option maxRecDepth 100000 in
set_option maxHeartbeats 4000000 in
theorem v_Law_law_10 (cc ss : Nat) (h : MH) (Rt : Value → MH → Prop) (H :
gd cc 600000 (
gd ss 7302250 (
Rt (.int (0 : Int32)) h))) : WM k_Law_law p_Law_law_10 [Jv, Jv, Jv, Jv] [] h cc ss Rt := WM_at (hs := HH_Law_law) G_Law_law 1131 701 rfl ⟨(Or.inl rfl), H⟩
set_option maxRecDepth 100000 in
set_option maxHeartbeats 4000000 in
theorem v_Law_law_11 (cc ss : Nat) (h : MH) (Rt : Value → MH → Prop) (H :
gd cc 600000 (
gd ss 7302250 (
Rt (.int (0 : Int32)) h))) : WM k_Law_law p_Law_law_11 [Jv, Jv, Jv, Jv] [] h cc ss Rt := WM_at (hs := HH_Law_law) G_Law_law 1131 775 rfl ⟨(Or.inl rfl), H⟩
set_option maxRecDepth 100000 in
set_option maxHeartbeats 4000000 in
theorem v_Law_law_12 (x0 : Nat) (x1 : Nat) (x2 : Nat) (x3 : Int32) (cc ss : Nat) (h : MH) (Rt : Value → MH → Prop) (H :
kd h x0 = 19 ∧
InB (x3 + (1 : Int32)) (ln h x0) ∧
InB (x3 + (2 : Int32)) (ln h x0) ∧
InB (x3 + (3 : Int32)) (ln h x0) ∧
kd h x1 = 12 ∧
gd (cc + 0) 600000 (
gd (ss + 0) 7302250 (
SpL k_Ho_distance [.ref x1, .int (mi h x0 (ix (x3 + (1 : Int32)))), .int (mi h x0 (ix (x3 + (2 : Int32)))), .int (mi h x0 (ix (x3 + (3 : Int32))))] h (fun r7 g5 =>
kd g5 x0 = 19 ∧
InB (x3 + (1 : Int32)) (ln g5 x0) ∧
InB (x3 + (2 : Int32)) (ln g5 x0) ∧
InB (x3 + (3 : Int32)) (ln g5 x0) ∧
kd g5 x2 = 13 ∧
gd ((cc + 0) + 0) 600000 (
gd ((ss + 0) + 0) 7302250 (
SpL k_Ref_distance [.ref x2, .int (mi g5 x0 (ix (x3 + (1 : Int32)))), .int (mi g5 x0 (ix (x3 + (2 : Int32)))), .int (mi g5 x0 (ix (x3 + (3 : Int32))))] g5 (fun r14 g12 =>
((lg_cmp r7 r14) = 0 →
WM k_Law_law p_Law_law_1 [.ref x0, .ref x1, .ref x2, .int (x3 + (7 : Int32))] [] g12 ((cc + 0) + 0) ((ss + 0) + 0) Rt) ∧
(¬ (lg_cmp r7 r14) = 0 →
gd ((cc + 0) + 0) 600000 (
gd ((ss + 0) + 0) 7302250 (
Rt (.int (0 : Int32)) g12)))))))))) : WM k_Law_law p_Law_law_12 [.ref x0, .ref x1, .ref x2, .int x3] [] h cc ss Rt := WM_at (hs := HH_Law_law) G_Law_law 1131 835 rfl ⟨H.1, ⟨H.2.1, ⟨H.1, ⟨H.2.2.1, ⟨H.1, ⟨H.2.2.2.1, ⟨H.2.2.2.2.1, gd_mono (a := (cc + 0)) (b := 600000) (fun q => gd_mono (a := (ss + 0)) (b := 7302250) (fun q => SpL.mono q (fun r7 g5 qg5 => ⟨qg5.1, ⟨qg5.2.1, ⟨qg5.1, ⟨qg5.2.2.1, ⟨qg5.1, ⟨qg5.2.2.2.1, ⟨qg5.2.2.2.2.1, gd_mono (a := ((cc + 0) + 0)) (b := 600000) (fun q => gd_mono (a := ((ss + 0) + 0)) (b := 7302250) (fun q => SpL.mono q (fun r14 g12 qg12 => ⟨qg12.1, fun c15 => ⟨(Or.inl rfl), (qg12.2 c15)⟩⟩)) q) qg5.2.2.2.2.2⟩⟩⟩⟩⟩⟩⟩)) q) H.2.2.2.2.2⟩⟩⟩⟩⟩⟩⟩
set_option maxRecDepth 100000 in
set_option maxHeartbeats 4000000 in
theorem v_Law_law_13 (cc ss : Nat) (h : MH) (Rt : Value → MH → Prop) (H :
gd cc 600000 (
gd ss 7302250 (
Rt (.int (0 : Int32)) h))) : WM k_Law_law p_Law_law_13 [Jv, Jv, Jv, Jv] [] h cc ss Rt := WM_at (hs := HH_Law_law) G_Law_law 1131 932 rfl ⟨(Or.inl rfl), H⟩
set_option maxRecDepth 100000 in
set_option maxHeartbeats 4000000 in
theorem v_Law_law_14 (cc ss : Nat) (h : MH) (Rt : Value → MH → Prop) (H :
gd cc 600000 (
gd ss 7302250 (
Rt (.int (0 : Int32)) h))) : WM k_Law_law p_Law_law_14 [Jv, Jv, Jv, Jv] [] h cc ss Rt := WM_at (hs := HH_Law_law) G_Law_law 1131 1007 rfl ⟨(Or.inl rfl), H⟩
set_option maxRecDepth 100000 in
set_option maxHeartbeats 4000000 in
theorem v_Law_law_15 (cc ss : Nat) (h : MH) (Rt : Value → MH → Prop) (H :
gd cc 600000 (
gd ss 7302250 (
Rt (.int (0 : Int32)) h))) : WM k_Law_law p_Law_law_15 [Jv, Jv, Jv, Jv] [] h cc ss Rt := WM_at (hs := HH_Law_law) G_Law_law 1131 1096 rfl ⟨(Or.inl rfl), H⟩
