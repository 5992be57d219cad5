/-! the law's loop, out of the calls (printed: wip/gen/genlaw.py) -/
def Sc (h g : MH) : Prop := SS g ∧ ln g 1 = ln h 1 ∧ mi g 1 = mi h 1
theorem Sc.trans {h g k : MH} (a : Sc h g) (b : Sc g k) : Sc h k := ⟨b.1, b.2.1.trans a.2.1, b.2.2.trans a.2.2⟩
def PaV (kH kR : Nat) (as : List Value) (h : MH) (J : MH → Prop) : Prop := SpV kH (.ref 5 :: as) h (fun g => Sc h g ∧ SpV kR (.ref 54 :: as) g (fun g' => Sc h g' ∧ J g'))
def PaI (kH kR : Nat) (as : List Value) (h : MH) (J : MH → Prop) : Prop := SpI kH (.ref 5 :: as) h (fun r g => Sc h g ∧ SpI kR (.ref 54 :: as) g (fun r' g' => r = r' ∧ Sc h g' ∧ J g'))
def PaL (kH kR : Nat) (as : List Value) (h : MH) (J : MH → Prop) : Prop := SpL kH (.ref 5 :: as) h (fun r g => Sc h g ∧ SpL kR (.ref 54 :: as) g (fun r' g' => r = r' ∧ Sc h g' ∧ J g'))
def C_feed (I J : MH → Prop) : Prop := ∀ (h : MH) (a : Int32) (b : Int32) (c : Int32) (d : Int32) (e : Int32), SS h → I h → PaV k_Ho_feed k_Ref_feed [.int a, .int b, .int c, .int d, .int e] h J
def C_end (I J : MH → Prop) : Prop := ∀ (h : MH) (a : Int32), SS h → I h → PaI k_Ho_end k_Ref_end [.int a] h J
def C_read (I J : MH → Prop) : Prop := ∀ (h : MH) , SS h → I h → PaI k_Ho_read k_Ref_read [] h J
def C_fault (I J : MH → Prop) : Prop := ∀ (h : MH) (a : Int32), SS h → I h → PaI k_Ho_fault k_Ref_fault [.int a] h J
def C_operation (I J : MH → Prop) : Prop := ∀ (h : MH) (a : Int32) (b : Int32), SS h → I h → PaI k_Ho_operation k_Ref_operation [.int a, .int b] h J
def C_tell (I J : MH → Prop) : Prop := ∀ (h : MH) (a : Int32), SS h → I h → PaI k_Ho_tell k_Ref_tell [.int a] h J
def C_tellOf (I J : MH → Prop) : Prop := ∀ (h : MH) (a : Int32) (b : Int32), SS h → I h → PaI k_Ho_tellOf k_Ref_tellOf [.int a, .int b] h J
def C_letter (I J : MH → Prop) : Prop := ∀ (h : MH) (a : Int32), SS h → I h → PaI k_Ho_letter k_Ref_letter [.int a] h J
def C_choose (I J : MH → Prop) : Prop := ∀ (h : MH) (a : Int32), SS h → I h → PaI k_Ho_choose k_Ref_choose [.int a] h J
def C_group (I J : MH → Prop) : Prop := ∀ (h : MH) , SS h → I h → PaI k_Ho_group k_Ref_group [] h J
def C_about (I J : MH → Prop) : Prop := ∀ (h : MH) (a : Int32) (b : Int32), SS h → I h → PaI k_Ho_about k_Ref_about [.int a, .int b] h J
def C_of (I J : MH → Prop) : Prop := ∀ (h : MH) (a : Int32) (b : Int32) (c : Int32), SS h → I h → PaI k_Ho_of k_Ref_of [.int a, .int b, .int c] h J
def C_product (I J : MH → Prop) : Prop := ∀ (h : MH) (a : Int32) (b : Int32) (c : Int32), SS h → I h → PaI k_Ho_product k_Ref_product [.int a, .int b, .int c] h J
def C_half (I J : MH → Prop) : Prop := ∀ (h : MH) (a : Int32) (b : Int32), SS h → I h → PaI k_Ho_half k_Ref_half [.int a, .int b] h J
def C_within (I J : MH → Prop) : Prop := ∀ (h : MH) (a : Int32) (b : Int32), SS h → I h → PaI k_Ho_within k_Ref_within [.int a, .int b] h J
def C_orbit (I J : MH → Prop) : Prop := ∀ (h : MH) (a : Int32) (b : Int32) (c : Int32), SS h → I h → PaI k_Ho_orbit k_Ref_orbit [.int a, .int b, .int c] h J
def C_wave (I J : MH → Prop) : Prop := ∀ (h : MH) (a : Int32) (b : Int32) (c : Int32) (d : Int32) (e : Int32), SS h → I h → PaI k_Ho_wave k_Ref_wave [.int a, .int b, .int c, .int d, .int e] h J
def C_cell (I J : MH → Prop) : Prop := ∀ (h : MH) (a : Int32) (b : Int32) (c : Int32) (d : Int32) (e : Int32) (f : Int32), SS h → I h → PaI k_Ho_cell k_Ref_cell [.int a, .int b, .int c, .int d, .int e, .int f] h J
def C_reduced (I J : MH → Prop) : Prop := ∀ (h : MH) (a : Int32) (b : Int32), SS h → I h → PaL k_Ho_reduced k_Ref_reduced [.int a, .int b] h J
def C_fits (I J : MH → Prop) : Prop := ∀ (h : MH) (a : Int32) (b : Int32), SS h → I h → PaI k_Ho_fits k_Ref_fits [.int a, .int b] h J
def C_multiples (I J : MH → Prop) : Prop := ∀ (h : MH) (a : Int32) (b : Int32), SS h → I h → PaI k_Ho_multiples k_Ref_multiples [.int a, .int b] h J
def C_multiple (I J : MH → Prop) : Prop := ∀ (h : MH) (a : Int32) (b : Int32) (c : Int32) (d : Int32), SS h → I h → PaL k_Ho_multiple k_Ref_multiple [.int a, .int b, .int c, .int d] h J
def C_model (I J : MH → Prop) : Prop := ∀ (h : MH) (a : Int32) (b : Int32), SS h → I h → PaI k_Ho_model k_Ref_model [.int a, .int b] h J
def C_atom (I J : MH → Prop) : Prop := ∀ (h : MH) (a : Int32) (b : Int32) (c : Int32), SS h → I h → PaI k_Ho_atom k_Ref_atom [.int a, .int b, .int c] h J
def C_placed (I J : MH → Prop) : Prop := ∀ (h : MH) (a : Int32) (b : Int32) (c : Int32), SS h → I h → PaI k_Ho_placed k_Ref_placed [.int a, .int b, .int c] h J
def C_amplitude (I J : MH → Prop) : Prop := ∀ (h : MH) (a : Int32) (b : Int32) (c : Int32) (d : Int32) (e : Int32), SS h → I h → PaL k_Ho_amplitude k_Ref_amplitude [.int a, .int b, .int c, .int d, .int e] h J
def C_distance (I J : MH → Prop) : Prop := ∀ (h : MH) (a : Int32) (b : Int32) (c : Int32), SS h → I h → PaL k_Ho_distance k_Ref_distance [.int a, .int b, .int c] h J
def C_near (I J : MH → Prop) : Prop := ∀ (h : MH) (a : Int32) (b : Int32) (c : Int64), SS h → I h → PaI k_Ho_near k_Ref_near [.int a, .int b, .long c] h J
def C_lines (I J : MH → Prop) : Prop := ∀ (h : MH) (a : Int32) (b : Int32), SS h → I h → PaI k_Ho_lines k_Ref_lines [.int a, .int b] h J
def C_line (I J : MH → Prop) : Prop := ∀ (h : MH) (a : Int32) (b : Int32) (c : Int32) (d : Int32), SS h → I h → PaL k_Ho_line k_Ref_line [.int a, .int b, .int c, .int d] h J
def C_map (I J : MH → Prop) : Prop := ∀ (h : MH) (a : Int32) (b : Int32), SS h → I h → PaL k_Ho_map k_Ref_map [.int a, .int b] h J
def C_phase (I J : MH → Prop) : Prop := ∀ (h : MH) (a : Int32) (b : Int32) (c : Int64), SS h → I h → PaI k_Ho_phase k_Ref_phase [.int a, .int b, .long c] h J
def C_above (I J : MH → Prop) : Prop := ∀ (h : MH) (a : Int32) (b : Int32), SS h → I h → PaL k_Ho_above k_Ref_above [.int a, .int b] h J
def Calls (I J : MH → Prop) : Prop := C_feed I J ∧ C_end I J ∧ C_read I J ∧ C_fault I J ∧ C_operation I J ∧ C_tell I J ∧ C_tellOf I J ∧ C_letter I J ∧ C_choose I J ∧ C_group I J ∧ C_about I J ∧ C_of I J ∧ C_product I J ∧ C_half I J ∧ C_within I J ∧ C_orbit I J ∧ C_wave I J ∧ C_cell I J ∧ C_reduced I J ∧ C_fits I J ∧ C_multiples I J ∧ C_multiple I J ∧ C_model I J ∧ C_atom I J ∧ C_placed I J ∧ C_amplitude I J ∧ C_distance I J ∧ C_near I J ∧ C_lines I J ∧ C_line I J ∧ C_map I J ∧ C_phase I J ∧ C_above I J
set_option maxRecDepth 100000 in
set_option maxHeartbeats 4000000 in
theorem law_turn {I J : MH → Prop} (C : Calls I J) (keep : ∀ h, SS h → I h → J h) {i L : Nat} {h : MH} {cc ss : Nat} {Rt : Value → MH → Prop} (hi : 7 * i + 7 ≤ L) (hL : L ≤ 448) (hS : SS h) (hI : I h) (hl : ln h 1 = L) (hc : cc ≤ 94 + 7 * i) (hs : ss ≤ 110249 + 7697 * i)
    (next : ∀ (g : MH) (cc' ss' : Nat), SS g → J g → ln g 1 = L → cc' ≤ 94 + 7 * (i + 1) → ss' ≤ 110249 + 7697 * (i + 1) → WM k_Law_law p_Law_law_1 [.ref 1, .ref 5, .ref 54, .int (nI (7 * i) + 7)] [] g cc' ss' Rt) :
    WM k_Law_law p_Law_law_1 [.ref 1, .ref 5, .ref 54, .int (nI (7 * i))] [] h cc ss Rt := by
  have B : ∀ k : Nat, k < 7 → InB (nI (7 * i) + nI k) (ln h 1) := fun k hk => by rw [nI_add]; exact InB_nI (by omega) (by omega)
  have b0 : InB (nI (7 * i)) (ln h 1) := InB_nI (by omega) (by omega)
  have b1 : InB (nI (7 * i) + (1 : Int32)) (ln h 1) := B 1 (by decide)
  have b2 : InB (nI (7 * i) + (2 : Int32)) (ln h 1) := B 2 (by decide)
  have b3 : InB (nI (7 * i) + (3 : Int32)) (ln h 1) := B 3 (by decide)
  have b4 : InB (nI (7 * i) + (4 : Int32)) (ln h 1) := B 4 (by decide)
  have b5 : InB (nI (7 * i) + (5 : Int32)) (ln h 1) := B 5 (by decide)
  have b6 : InB (nI (7 * i) + (6 : Int32)) (ln h 1) := B 6 (by decide)
  have t1 : (Int32.ofNat (ln h 1) - (7 : Int32)).toInt = (L : Int) - 7 := by
    rw [hl]
    show (nI L - nI 7).toInt = _
    rw [pk_sub (by omega), nI_toI (by omega)]
    omega
  have t2 : (nI (7 * i)).toInt = ((7 * i : Nat) : Int) := nI_toI (by omega)
  refine v_Law_law_1 1 5 54 _ cc ss h Rt ⟨hS.k1, fun c => absurd c (by rw [t1, t2]; omega), fun _ => ⟨b0, ?_⟩⟩
  refine ⟨fun _ => ?_, fun _ => ?_⟩
  · refine ⟨b1, b2, b3, b4, b5, hS.k5, gd_iff.mpr ⟨by omega, gd_iff.mpr ⟨by omega, ?_⟩⟩⟩
    refine SpV.mono (C.1 h _ _ _ _ _ hS hI) ?_
    rintro g ⟨⟨q1, q2, q3⟩, q⟩
    rw [q2, q3]
    refine ⟨q1.k1, b1, b2, b3, b4, b5, q1.k54, gd_iff.mpr ⟨by omega, gd_iff.mpr ⟨by omega, ?_⟩⟩⟩
    refine SpV.mono q ?_
    rintro g' ⟨⟨p1, p2, p3⟩, pj⟩
    exact v_Law_law_2 _ _ _ _ _ _ _ _ (next g' _ _ p1 pj (p2.trans hl) (by omega) (by omega))
  refine ⟨fun _ => ?_, fun _ => ?_⟩
  · refine ⟨b1, hS.k5, gd_iff.mpr ⟨by omega, gd_iff.mpr ⟨by omega, ?_⟩⟩⟩
    refine SpI.mono (C.2.1 h _ hS hI) ?_
    rintro r g ⟨⟨q1, q2, q3⟩, q⟩
    rw [q2, q3]
    refine ⟨q1.k1, b1, q1.k54, gd_iff.mpr ⟨by omega, gd_iff.mpr ⟨by omega, ?_⟩⟩⟩
    refine SpI.mono q ?_
    rintro r' g' ⟨rfl, ⟨p1, p2, p3⟩, pj⟩
    exact ⟨fun _ => next g' _ _ p1 pj (p2.trans hl) (by omega) (by omega), fun c => absurd rfl c⟩
  refine ⟨fun _ => ?_, fun _ => ?_⟩
  · refine ⟨hS.k5, gd_iff.mpr ⟨by omega, gd_iff.mpr ⟨by omega, ?_⟩⟩⟩
    refine SpI.mono (C.2.2.1 h  hS hI) ?_
    rintro r g ⟨⟨q1, q2, q3⟩, q⟩
    refine ⟨q1.k54, gd_iff.mpr ⟨by omega, gd_iff.mpr ⟨by omega, ?_⟩⟩⟩
    refine SpI.mono q ?_
    rintro r' g' ⟨rfl, ⟨p1, p2, p3⟩, pj⟩
    exact ⟨fun _ => next g' _ _ p1 pj (p2.trans hl) (by omega) (by omega), fun c => absurd rfl c⟩
  refine ⟨fun _ => ?_, fun _ => ?_⟩
  · refine ⟨b1, hS.k5, gd_iff.mpr ⟨by omega, gd_iff.mpr ⟨by omega, ?_⟩⟩⟩
    refine SpI.mono (C.2.2.2.1 h _ hS hI) ?_
    rintro r g ⟨⟨q1, q2, q3⟩, q⟩
    rw [q2, q3]
    refine ⟨q1.k1, b1, q1.k54, gd_iff.mpr ⟨by omega, gd_iff.mpr ⟨by omega, ?_⟩⟩⟩
    refine SpI.mono q ?_
    rintro r' g' ⟨rfl, ⟨p1, p2, p3⟩, pj⟩
    exact ⟨fun _ => next g' _ _ p1 pj (p2.trans hl) (by omega) (by omega), fun c => absurd rfl c⟩
  refine ⟨fun _ => ?_, fun _ => ?_⟩
  · refine ⟨b1, b2, hS.k5, gd_iff.mpr ⟨by omega, gd_iff.mpr ⟨by omega, ?_⟩⟩⟩
    refine SpI.mono (C.2.2.2.2.1 h _ _ hS hI) ?_
    rintro r g ⟨⟨q1, q2, q3⟩, q⟩
    rw [q2, q3]
    refine ⟨q1.k1, b1, b2, q1.k54, gd_iff.mpr ⟨by omega, gd_iff.mpr ⟨by omega, ?_⟩⟩⟩
    refine SpI.mono q ?_
    rintro r' g' ⟨rfl, ⟨p1, p2, p3⟩, pj⟩
    exact ⟨fun _ => next g' _ _ p1 pj (p2.trans hl) (by omega) (by omega), fun c => absurd rfl c⟩
  refine ⟨fun _ => ?_, fun _ => ?_⟩
  · refine ⟨b1, hS.k5, gd_iff.mpr ⟨by omega, gd_iff.mpr ⟨by omega, ?_⟩⟩⟩
    refine SpI.mono (C.2.2.2.2.2.1 h _ hS hI) ?_
    rintro r g ⟨⟨q1, q2, q3⟩, q⟩
    rw [q2, q3]
    refine ⟨q1.k1, b1, q1.k54, gd_iff.mpr ⟨by omega, gd_iff.mpr ⟨by omega, ?_⟩⟩⟩
    refine SpI.mono q ?_
    rintro r' g' ⟨rfl, ⟨p1, p2, p3⟩, pj⟩
    exact ⟨fun _ => next g' _ _ p1 pj (p2.trans hl) (by omega) (by omega), fun c => absurd rfl c⟩
  refine ⟨fun _ => ?_, fun _ => ?_⟩
  · refine ⟨b1, b2, hS.k5, gd_iff.mpr ⟨by omega, gd_iff.mpr ⟨by omega, ?_⟩⟩⟩
    refine SpI.mono (C.2.2.2.2.2.2.1 h _ _ hS hI) ?_
    rintro r g ⟨⟨q1, q2, q3⟩, q⟩
    rw [q2, q3]
    refine ⟨q1.k1, b1, b2, q1.k54, gd_iff.mpr ⟨by omega, gd_iff.mpr ⟨by omega, ?_⟩⟩⟩
    refine SpI.mono q ?_
    rintro r' g' ⟨rfl, ⟨p1, p2, p3⟩, pj⟩
    exact ⟨fun _ => next g' _ _ p1 pj (p2.trans hl) (by omega) (by omega), fun c => absurd rfl c⟩
  refine ⟨fun _ => ?_, fun _ => ?_⟩
  · refine ⟨b1, hS.k5, gd_iff.mpr ⟨by omega, gd_iff.mpr ⟨by omega, ?_⟩⟩⟩
    refine SpI.mono (C.2.2.2.2.2.2.2.1 h _ hS hI) ?_
    rintro r g ⟨⟨q1, q2, q3⟩, q⟩
    rw [q2, q3]
    refine ⟨q1.k1, b1, q1.k54, gd_iff.mpr ⟨by omega, gd_iff.mpr ⟨by omega, ?_⟩⟩⟩
    refine SpI.mono q ?_
    rintro r' g' ⟨rfl, ⟨p1, p2, p3⟩, pj⟩
    exact ⟨fun _ => next g' _ _ p1 pj (p2.trans hl) (by omega) (by omega), fun c => absurd rfl c⟩
  refine ⟨fun _ => ?_, fun _ => ?_⟩
  · refine ⟨b1, hS.k5, gd_iff.mpr ⟨by omega, gd_iff.mpr ⟨by omega, ?_⟩⟩⟩
    refine SpI.mono (C.2.2.2.2.2.2.2.2.1 h _ hS hI) ?_
    rintro r g ⟨⟨q1, q2, q3⟩, q⟩
    rw [q2, q3]
    refine ⟨q1.k1, b1, q1.k54, gd_iff.mpr ⟨by omega, gd_iff.mpr ⟨by omega, ?_⟩⟩⟩
    refine SpI.mono q ?_
    rintro r' g' ⟨rfl, ⟨p1, p2, p3⟩, pj⟩
    exact ⟨fun _ => next g' _ _ p1 pj (p2.trans hl) (by omega) (by omega), fun c => absurd rfl c⟩
  refine ⟨fun _ => ?_, fun _ => ?_⟩
  · refine ⟨hS.k5, gd_iff.mpr ⟨by omega, gd_iff.mpr ⟨by omega, ?_⟩⟩⟩
    refine SpI.mono (C.2.2.2.2.2.2.2.2.2.1 h  hS hI) ?_
    rintro r g ⟨⟨q1, q2, q3⟩, q⟩
    refine ⟨q1.k54, gd_iff.mpr ⟨by omega, gd_iff.mpr ⟨by omega, ?_⟩⟩⟩
    refine SpI.mono q ?_
    rintro r' g' ⟨rfl, ⟨p1, p2, p3⟩, pj⟩
    exact ⟨fun _ => next g' _ _ p1 pj (p2.trans hl) (by omega) (by omega), fun c => absurd rfl c⟩
  refine ⟨fun _ => ?_, fun _ => ?_⟩
  · refine ⟨b1, b2, hS.k5, gd_iff.mpr ⟨by omega, gd_iff.mpr ⟨by omega, ?_⟩⟩⟩
    refine SpI.mono (C.2.2.2.2.2.2.2.2.2.2.1 h _ _ hS hI) ?_
    rintro r g ⟨⟨q1, q2, q3⟩, q⟩
    rw [q2, q3]
    refine ⟨q1.k1, b1, b2, q1.k54, gd_iff.mpr ⟨by omega, gd_iff.mpr ⟨by omega, ?_⟩⟩⟩
    refine SpI.mono q ?_
    rintro r' g' ⟨rfl, ⟨p1, p2, p3⟩, pj⟩
    exact ⟨fun _ => next g' _ _ p1 pj (p2.trans hl) (by omega) (by omega), fun c => absurd rfl c⟩
  refine ⟨fun _ => ?_, fun _ => ?_⟩
  · refine ⟨b1, b2, b3, hS.k5, gd_iff.mpr ⟨by omega, gd_iff.mpr ⟨by omega, ?_⟩⟩⟩
    refine SpI.mono (C.2.2.2.2.2.2.2.2.2.2.2.1 h _ _ _ hS hI) ?_
    rintro r g ⟨⟨q1, q2, q3⟩, q⟩
    rw [q2, q3]
    refine ⟨q1.k1, b1, b2, b3, q1.k54, gd_iff.mpr ⟨by omega, gd_iff.mpr ⟨by omega, ?_⟩⟩⟩
    refine SpI.mono q ?_
    rintro r' g' ⟨rfl, ⟨p1, p2, p3⟩, pj⟩
    exact ⟨fun _ => next g' _ _ p1 pj (p2.trans hl) (by omega) (by omega), fun c => absurd rfl c⟩
  refine ⟨fun _ => ?_, fun _ => ?_⟩
  · refine ⟨b1, b2, b3, hS.k5, gd_iff.mpr ⟨by omega, gd_iff.mpr ⟨by omega, ?_⟩⟩⟩
    refine SpI.mono (C.2.2.2.2.2.2.2.2.2.2.2.2.1 h _ _ _ hS hI) ?_
    rintro r g ⟨⟨q1, q2, q3⟩, q⟩
    rw [q2, q3]
    refine ⟨q1.k1, b1, b2, b3, q1.k54, gd_iff.mpr ⟨by omega, gd_iff.mpr ⟨by omega, ?_⟩⟩⟩
    refine SpI.mono q ?_
    rintro r' g' ⟨rfl, ⟨p1, p2, p3⟩, pj⟩
    exact ⟨fun _ => next g' _ _ p1 pj (p2.trans hl) (by omega) (by omega), fun c => absurd rfl c⟩
  refine ⟨fun _ => ?_, fun _ => ?_⟩
  · refine ⟨b1, b2, hS.k5, gd_iff.mpr ⟨by omega, gd_iff.mpr ⟨by omega, ?_⟩⟩⟩
    refine SpI.mono (C.2.2.2.2.2.2.2.2.2.2.2.2.2.1 h _ _ hS hI) ?_
    rintro r g ⟨⟨q1, q2, q3⟩, q⟩
    rw [q2, q3]
    refine ⟨q1.k1, b1, b2, q1.k54, gd_iff.mpr ⟨by omega, gd_iff.mpr ⟨by omega, ?_⟩⟩⟩
    refine SpI.mono q ?_
    rintro r' g' ⟨rfl, ⟨p1, p2, p3⟩, pj⟩
    exact ⟨fun _ => next g' _ _ p1 pj (p2.trans hl) (by omega) (by omega), fun c => absurd rfl c⟩
  refine ⟨fun _ => ?_, fun _ => ?_⟩
  · refine ⟨b1, b2, hS.k5, gd_iff.mpr ⟨by omega, gd_iff.mpr ⟨by omega, ?_⟩⟩⟩
    refine SpI.mono (C.2.2.2.2.2.2.2.2.2.2.2.2.2.2.1 h _ _ hS hI) ?_
    rintro r g ⟨⟨q1, q2, q3⟩, q⟩
    rw [q2, q3]
    refine ⟨q1.k1, b1, b2, q1.k54, gd_iff.mpr ⟨by omega, gd_iff.mpr ⟨by omega, ?_⟩⟩⟩
    refine SpI.mono q ?_
    rintro r' g' ⟨rfl, ⟨p1, p2, p3⟩, pj⟩
    exact ⟨fun _ => next g' _ _ p1 pj (p2.trans hl) (by omega) (by omega), fun c => absurd rfl c⟩
  refine ⟨fun _ => ?_, fun _ => ?_⟩
  · refine ⟨b1, b2, b3, hS.k5, gd_iff.mpr ⟨by omega, gd_iff.mpr ⟨by omega, ?_⟩⟩⟩
    refine SpI.mono (C.2.2.2.2.2.2.2.2.2.2.2.2.2.2.2.1 h _ _ _ hS hI) ?_
    rintro r g ⟨⟨q1, q2, q3⟩, q⟩
    rw [q2, q3]
    refine ⟨q1.k1, b1, b2, b3, q1.k54, gd_iff.mpr ⟨by omega, gd_iff.mpr ⟨by omega, ?_⟩⟩⟩
    refine SpI.mono q ?_
    rintro r' g' ⟨rfl, ⟨p1, p2, p3⟩, pj⟩
    exact ⟨fun _ => next g' _ _ p1 pj (p2.trans hl) (by omega) (by omega), fun c => absurd rfl c⟩
  refine ⟨fun _ => ?_, fun _ => ?_⟩
  · refine ⟨b1, b2, b3, b4, b5, hS.k5, gd_iff.mpr ⟨by omega, gd_iff.mpr ⟨by omega, ?_⟩⟩⟩
    refine SpI.mono (C.2.2.2.2.2.2.2.2.2.2.2.2.2.2.2.2.1 h _ _ _ _ _ hS hI) ?_
    rintro r g ⟨⟨q1, q2, q3⟩, q⟩
    rw [q2, q3]
    refine ⟨q1.k1, b1, b2, b3, b4, b5, q1.k54, gd_iff.mpr ⟨by omega, gd_iff.mpr ⟨by omega, ?_⟩⟩⟩
    refine SpI.mono q ?_
    rintro r' g' ⟨rfl, ⟨p1, p2, p3⟩, pj⟩
    exact ⟨fun _ => next g' _ _ p1 pj (p2.trans hl) (by omega) (by omega), fun c => absurd rfl c⟩
  refine ⟨fun _ => ?_, fun _ => ?_⟩
  · refine ⟨b1, b2, b3, b4, b5, b6, hS.k5, gd_iff.mpr ⟨by omega, gd_iff.mpr ⟨by omega, ?_⟩⟩⟩
    refine SpI.mono (C.2.2.2.2.2.2.2.2.2.2.2.2.2.2.2.2.2.1 h _ _ _ _ _ _ hS hI) ?_
    rintro r g ⟨⟨q1, q2, q3⟩, q⟩
    rw [q2, q3]
    refine ⟨q1.k1, b1, b2, b3, b4, b5, b6, q1.k54, gd_iff.mpr ⟨by omega, gd_iff.mpr ⟨by omega, ?_⟩⟩⟩
    refine SpI.mono q ?_
    rintro r' g' ⟨rfl, ⟨p1, p2, p3⟩, pj⟩
    exact ⟨fun _ => next g' _ _ p1 pj (p2.trans hl) (by omega) (by omega), fun c => absurd rfl c⟩
  refine ⟨fun _ => ?_, fun _ => ?_⟩
  · refine ⟨b1, b2, hS.k5, gd_iff.mpr ⟨by omega, gd_iff.mpr ⟨by omega, ?_⟩⟩⟩
    refine SpL.mono (C.2.2.2.2.2.2.2.2.2.2.2.2.2.2.2.2.2.2.1 h _ _ hS hI) ?_
    rintro r g ⟨⟨q1, q2, q3⟩, q⟩
    rw [q2, q3]
    refine ⟨q1.k1, b1, b2, q1.k54, gd_iff.mpr ⟨by omega, gd_iff.mpr ⟨by omega, ?_⟩⟩⟩
    refine SpL.mono q ?_
    rintro r' g' ⟨rfl, ⟨p1, p2, p3⟩, pj⟩
    exact ⟨fun _ => next g' _ _ p1 pj (p2.trans hl) (by omega) (by omega), fun c => absurd ((lc_eq _ _).mpr rfl) c⟩
  refine ⟨fun _ => ?_, fun _ => ?_⟩
  · refine ⟨b1, b2, hS.k5, gd_iff.mpr ⟨by omega, gd_iff.mpr ⟨by omega, ?_⟩⟩⟩
    refine SpI.mono (C.2.2.2.2.2.2.2.2.2.2.2.2.2.2.2.2.2.2.2.1 h _ _ hS hI) ?_
    rintro r g ⟨⟨q1, q2, q3⟩, q⟩
    rw [q2, q3]
    refine ⟨q1.k1, b1, b2, q1.k54, gd_iff.mpr ⟨by omega, gd_iff.mpr ⟨by omega, ?_⟩⟩⟩
    refine SpI.mono q ?_
    rintro r' g' ⟨rfl, ⟨p1, p2, p3⟩, pj⟩
    exact ⟨fun _ => next g' _ _ p1 pj (p2.trans hl) (by omega) (by omega), fun c => absurd rfl c⟩
  refine ⟨fun _ => ?_, fun _ => ?_⟩
  · refine ⟨b1, b2, hS.k5, gd_iff.mpr ⟨by omega, gd_iff.mpr ⟨by omega, ?_⟩⟩⟩
    refine SpI.mono (C.2.2.2.2.2.2.2.2.2.2.2.2.2.2.2.2.2.2.2.2.1 h _ _ hS hI) ?_
    rintro r g ⟨⟨q1, q2, q3⟩, q⟩
    rw [q2, q3]
    refine ⟨q1.k1, b1, b2, q1.k54, gd_iff.mpr ⟨by omega, gd_iff.mpr ⟨by omega, ?_⟩⟩⟩
    refine SpI.mono q ?_
    rintro r' g' ⟨rfl, ⟨p1, p2, p3⟩, pj⟩
    exact ⟨fun _ => next g' _ _ p1 pj (p2.trans hl) (by omega) (by omega), fun c => absurd rfl c⟩
  refine ⟨fun _ => ?_, fun _ => ?_⟩
  · refine ⟨b1, b2, b3, b4, hS.k5, gd_iff.mpr ⟨by omega, gd_iff.mpr ⟨by omega, ?_⟩⟩⟩
    refine SpL.mono (C.2.2.2.2.2.2.2.2.2.2.2.2.2.2.2.2.2.2.2.2.2.1 h _ _ _ _ hS hI) ?_
    rintro r g ⟨⟨q1, q2, q3⟩, q⟩
    rw [q2, q3]
    refine ⟨q1.k1, b1, b2, b3, b4, q1.k54, gd_iff.mpr ⟨by omega, gd_iff.mpr ⟨by omega, ?_⟩⟩⟩
    refine SpL.mono q ?_
    rintro r' g' ⟨rfl, ⟨p1, p2, p3⟩, pj⟩
    exact ⟨fun _ => next g' _ _ p1 pj (p2.trans hl) (by omega) (by omega), fun c => absurd ((lc_eq _ _).mpr rfl) c⟩
  refine ⟨fun _ => ?_, fun _ => ?_⟩
  · refine ⟨b1, b2, hS.k5, gd_iff.mpr ⟨by omega, gd_iff.mpr ⟨by omega, ?_⟩⟩⟩
    refine SpI.mono (C.2.2.2.2.2.2.2.2.2.2.2.2.2.2.2.2.2.2.2.2.2.2.1 h _ _ hS hI) ?_
    rintro r g ⟨⟨q1, q2, q3⟩, q⟩
    rw [q2, q3]
    refine ⟨q1.k1, b1, b2, q1.k54, gd_iff.mpr ⟨by omega, gd_iff.mpr ⟨by omega, ?_⟩⟩⟩
    refine SpI.mono q ?_
    rintro r' g' ⟨rfl, ⟨p1, p2, p3⟩, pj⟩
    exact ⟨fun _ => next g' _ _ p1 pj (p2.trans hl) (by omega) (by omega), fun c => absurd rfl c⟩
  refine ⟨fun _ => ?_, fun _ => ?_⟩
  · refine ⟨b1, b2, b3, hS.k5, gd_iff.mpr ⟨by omega, gd_iff.mpr ⟨by omega, ?_⟩⟩⟩
    refine SpI.mono (C.2.2.2.2.2.2.2.2.2.2.2.2.2.2.2.2.2.2.2.2.2.2.2.1 h _ _ _ hS hI) ?_
    rintro r g ⟨⟨q1, q2, q3⟩, q⟩
    rw [q2, q3]
    refine ⟨q1.k1, b1, b2, b3, q1.k54, gd_iff.mpr ⟨by omega, gd_iff.mpr ⟨by omega, ?_⟩⟩⟩
    refine SpI.mono q ?_
    rintro r' g' ⟨rfl, ⟨p1, p2, p3⟩, pj⟩
    exact ⟨fun _ => next g' _ _ p1 pj (p2.trans hl) (by omega) (by omega), fun c => absurd rfl c⟩
  refine ⟨fun _ => ?_, fun _ => ?_⟩
  · refine ⟨b1, b2, b3, hS.k5, gd_iff.mpr ⟨by omega, gd_iff.mpr ⟨by omega, ?_⟩⟩⟩
    refine SpI.mono (C.2.2.2.2.2.2.2.2.2.2.2.2.2.2.2.2.2.2.2.2.2.2.2.2.1 h _ _ _ hS hI) ?_
    rintro r g ⟨⟨q1, q2, q3⟩, q⟩
    rw [q2, q3]
    refine ⟨q1.k1, b1, b2, b3, q1.k54, gd_iff.mpr ⟨by omega, gd_iff.mpr ⟨by omega, ?_⟩⟩⟩
    refine SpI.mono q ?_
    rintro r' g' ⟨rfl, ⟨p1, p2, p3⟩, pj⟩
    exact ⟨fun _ => next g' _ _ p1 pj (p2.trans hl) (by omega) (by omega), fun c => absurd rfl c⟩
  refine ⟨fun _ => ?_, fun _ => ?_⟩
  · refine ⟨b1, b2, b3, b4, b5, hS.k5, gd_iff.mpr ⟨by omega, gd_iff.mpr ⟨by omega, ?_⟩⟩⟩
    refine SpL.mono (C.2.2.2.2.2.2.2.2.2.2.2.2.2.2.2.2.2.2.2.2.2.2.2.2.2.1 h _ _ _ _ _ hS hI) ?_
    rintro r g ⟨⟨q1, q2, q3⟩, q⟩
    rw [q2, q3]
    refine ⟨q1.k1, b1, b2, b3, b4, b5, q1.k54, gd_iff.mpr ⟨by omega, gd_iff.mpr ⟨by omega, ?_⟩⟩⟩
    refine SpL.mono q ?_
    rintro r' g' ⟨rfl, ⟨p1, p2, p3⟩, pj⟩
    exact ⟨fun _ => next g' _ _ p1 pj (p2.trans hl) (by omega) (by omega), fun c => absurd ((lc_eq _ _).mpr rfl) c⟩
  refine ⟨fun _ => ?_, fun _ => ?_⟩
  · refine v_Law_law_12 _ _ _ _ _ _ _ _ ⟨hS.k1, ?_⟩
    refine ⟨b1, b2, b3, hS.k5, gd_iff.mpr ⟨by omega, gd_iff.mpr ⟨by omega, ?_⟩⟩⟩
    refine SpL.mono (C.2.2.2.2.2.2.2.2.2.2.2.2.2.2.2.2.2.2.2.2.2.2.2.2.2.2.1 h _ _ _ hS hI) ?_
    rintro r g ⟨⟨q1, q2, q3⟩, q⟩
    rw [q2, q3]
    refine ⟨q1.k1, b1, b2, b3, q1.k54, gd_iff.mpr ⟨by omega, gd_iff.mpr ⟨by omega, ?_⟩⟩⟩
    refine SpL.mono q ?_
    rintro r' g' ⟨rfl, ⟨p1, p2, p3⟩, pj⟩
    exact ⟨fun _ => next g' _ _ p1 pj (p2.trans hl) (by omega) (by omega), fun c => absurd ((lc_eq _ _).mpr rfl) c⟩
  refine ⟨fun _ => ?_, fun _ => ?_⟩
  · refine ⟨b1, b2, b3, b4, hS.k5, gd_iff.mpr ⟨by omega, gd_iff.mpr ⟨by omega, ?_⟩⟩⟩
    refine SpI.mono (C.2.2.2.2.2.2.2.2.2.2.2.2.2.2.2.2.2.2.2.2.2.2.2.2.2.2.2.1 h _ _ _ hS hI) ?_
    rintro r g ⟨⟨q1, q2, q3⟩, q⟩
    rw [q2, q3]
    refine ⟨q1.k1, b1, b2, b3, b4, q1.k54, gd_iff.mpr ⟨by omega, gd_iff.mpr ⟨by omega, ?_⟩⟩⟩
    refine SpI.mono q ?_
    rintro r' g' ⟨rfl, ⟨p1, p2, p3⟩, pj⟩
    exact ⟨fun _ => next g' _ _ p1 pj (p2.trans hl) (by omega) (by omega), fun c => absurd rfl c⟩
  refine ⟨fun _ => ?_, fun _ => ?_⟩
  · refine ⟨b1, b2, hS.k5, gd_iff.mpr ⟨by omega, gd_iff.mpr ⟨by omega, ?_⟩⟩⟩
    refine SpI.mono (C.2.2.2.2.2.2.2.2.2.2.2.2.2.2.2.2.2.2.2.2.2.2.2.2.2.2.2.2.1 h _ _ hS hI) ?_
    rintro r g ⟨⟨q1, q2, q3⟩, q⟩
    rw [q2, q3]
    refine ⟨q1.k1, b1, b2, q1.k54, gd_iff.mpr ⟨by omega, gd_iff.mpr ⟨by omega, ?_⟩⟩⟩
    refine SpI.mono q ?_
    rintro r' g' ⟨rfl, ⟨p1, p2, p3⟩, pj⟩
    exact ⟨fun _ => next g' _ _ p1 pj (p2.trans hl) (by omega) (by omega), fun c => absurd rfl c⟩
  refine ⟨fun _ => ?_, fun _ => ?_⟩
  · refine ⟨b1, b2, b3, b4, hS.k5, gd_iff.mpr ⟨by omega, gd_iff.mpr ⟨by omega, ?_⟩⟩⟩
    refine SpL.mono (C.2.2.2.2.2.2.2.2.2.2.2.2.2.2.2.2.2.2.2.2.2.2.2.2.2.2.2.2.2.1 h _ _ _ _ hS hI) ?_
    rintro r g ⟨⟨q1, q2, q3⟩, q⟩
    rw [q2, q3]
    refine ⟨q1.k1, b1, b2, b3, b4, q1.k54, gd_iff.mpr ⟨by omega, gd_iff.mpr ⟨by omega, ?_⟩⟩⟩
    refine SpL.mono q ?_
    rintro r' g' ⟨rfl, ⟨p1, p2, p3⟩, pj⟩
    exact ⟨fun _ => next g' _ _ p1 pj (p2.trans hl) (by omega) (by omega), fun c => absurd ((lc_eq _ _).mpr rfl) c⟩
  refine ⟨fun _ => ?_, fun _ => ?_⟩
  · refine ⟨b1, b2, hS.k5, gd_iff.mpr ⟨by omega, gd_iff.mpr ⟨by omega, ?_⟩⟩⟩
    refine SpL.mono (C.2.2.2.2.2.2.2.2.2.2.2.2.2.2.2.2.2.2.2.2.2.2.2.2.2.2.2.2.2.2.1 h _ _ hS hI) ?_
    rintro r g ⟨⟨q1, q2, q3⟩, q⟩
    rw [q2, q3]
    refine ⟨q1.k1, b1, b2, q1.k54, gd_iff.mpr ⟨by omega, gd_iff.mpr ⟨by omega, ?_⟩⟩⟩
    refine SpL.mono q ?_
    rintro r' g' ⟨rfl, ⟨p1, p2, p3⟩, pj⟩
    exact ⟨fun _ => next g' _ _ p1 pj (p2.trans hl) (by omega) (by omega), fun c => absurd ((lc_eq _ _).mpr rfl) c⟩
  refine ⟨fun _ => ?_, fun _ => ?_⟩
  · refine ⟨b1, b2, b3, b4, hS.k5, gd_iff.mpr ⟨by omega, gd_iff.mpr ⟨by omega, ?_⟩⟩⟩
    refine SpI.mono (C.2.2.2.2.2.2.2.2.2.2.2.2.2.2.2.2.2.2.2.2.2.2.2.2.2.2.2.2.2.2.2.1 h _ _ _ hS hI) ?_
    rintro r g ⟨⟨q1, q2, q3⟩, q⟩
    rw [q2, q3]
    refine ⟨q1.k1, b1, b2, b3, b4, q1.k54, gd_iff.mpr ⟨by omega, gd_iff.mpr ⟨by omega, ?_⟩⟩⟩
    refine SpI.mono q ?_
    rintro r' g' ⟨rfl, ⟨p1, p2, p3⟩, pj⟩
    exact ⟨fun _ => next g' _ _ p1 pj (p2.trans hl) (by omega) (by omega), fun c => absurd rfl c⟩
  refine ⟨fun _ => ?_, fun _ => ?_⟩
  · refine ⟨b1, b2, hS.k5, gd_iff.mpr ⟨by omega, gd_iff.mpr ⟨by omega, ?_⟩⟩⟩
    refine SpL.mono (C.2.2.2.2.2.2.2.2.2.2.2.2.2.2.2.2.2.2.2.2.2.2.2.2.2.2.2.2.2.2.2.2 h _ _ hS hI) ?_
    rintro r g ⟨⟨q1, q2, q3⟩, q⟩
    rw [q2, q3]
    refine ⟨q1.k1, b1, b2, q1.k54, gd_iff.mpr ⟨by omega, gd_iff.mpr ⟨by omega, ?_⟩⟩⟩
    refine SpL.mono q ?_
    rintro r' g' ⟨rfl, ⟨p1, p2, p3⟩, pj⟩
    exact ⟨fun _ => next g' _ _ p1 pj (p2.trans hl) (by omega) (by omega), fun c => absurd ((lc_eq _ _).mpr rfl) c⟩
  exact next h cc ss hS (keep h hS hI) hl (by omega) (by omega)
theorem law_loop {I : Nat → MH → Prop} {L : Nat} (hL : L ≤ 448) (C : ∀ i, 7 * i + 7 ≤ L → Calls (I i) (I (i + 1))) (keep : ∀ i h, 7 * i + 7 ≤ L → SS h → I i h → I (i + 1) h) :
    ∀ (d i : Nat) (h : MH) (cc ss : Nat), L ≤ 7 * i + d → 7 * i ≤ L → SS h → I i h → ln h 1 = L → cc ≤ 94 + 7 * i → ss ≤ 110249 + 7697 * i →
      WM k_Law_law p_Law_law_1 [.ref 1, .ref 5, .ref 54, .int (nI (7 * i))] [] h cc ss (fun v _ => v = .int 1) := by
  have stop : ∀ (i : Nat) (h : MH) (cc ss : Nat), L < 7 * i + 7 → 7 * i ≤ L → SS h → ln h 1 = L → cc ≤ 94 + 7 * i → ss ≤ 110249 + 7697 * i →
      WM k_Law_law p_Law_law_1 [.ref 1, .ref 5, .ref 54, .int (nI (7 * i))] [] h cc ss (fun v _ => v = .int 1) := by
    intro i h cc ss h1 h2 hS hl hc hs
    have t2 : (nI (7 * i)).toInt = ((7 * i : Nat) : Int) := nI_toI (by omega)
    have t1 : (Int32.ofNat (ln h 1) - (7 : Int32)).toInt = (L : Int) - 7 := by
      rw [hl]
      show (nI L - nI 7).toInt = _
      have tL : (nI L).toInt = (L : Int) := nI_toI (by omega)
      have t7 : (nI 7).toInt = 7 := rfl
      rw [hb_sub _ _ (by omega), tL, t7]
    exact v_Law_law_1 1 5 54 _ cc ss h _ ⟨hS.k1, fun _ => gd_iff.mpr ⟨by omega, gd_iff.mpr ⟨by omega, rfl⟩⟩, fun c => absurd (by rw [t1, t2]; omega) c⟩
  intro d
  induction d with
  | zero =>
    intro i h cc ss h1 h2 hS hI hl hc hs
    exact stop i h cc ss (by omega) h2 hS hl hc hs
  | succ d ih =>
    intro i h cc ss h1 h2 hS hI hl hc hs
    by_cases e : 7 * i + 7 ≤ L
    · refine law_turn (C i e) (fun h a b => keep i h e a b) e hL hS hI hl hc hs (fun g cc' ss' g1 g2 g3 g4 g5 => ?_)
      have := ih (i + 1) g cc' ss' (by omega) (by omega) g1 g2 g3 g4 g5
      rw [show nI (7 * i) + 7 = nI (7 * (i + 1)) from nI_add (7 * i) 7]
      exact this
    · exact stop i h cc ss (by omega) h2 hS hl hc hs
