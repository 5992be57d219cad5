set_option maxRecDepth 100000 in
set_option maxHeartbeats 4000000 in
theorem w_Law_law (x0 : Nat) (h : MH) (Rt : Value → MH → Prop) (H :
∀ g1 : MH, g1 = nw h 12 0 →
kd g1 (hn h) = 12 ∧
SpV k_Ho_init [.ref (hn h)] g1 (fun g2 =>
∀ g4 : MH, g4 = nw g2 13 0 →
kd g4 (hn g2) = 13 ∧
SpV k_Ref_init [.ref (hn g2)] g4 (fun g5 =>
WM k_Law_law p_Law_law_1 [.ref x0, .ref (hn h), .ref (hn g2), .int (0 : Int32)] [] g5 94 110249 Rt))) : WM k_Law_law 0 (ent (lM k_Law_law) [.ref x0]) [] h 0 0 Rt := WM_at (hs := HH_Law_law) G_Law_law 1131 0 rfl ⟨(H _ rfl).1, SpV.mono ((H _ rfl).2) (fun g2 qg2 => (qg2 _ rfl))⟩
