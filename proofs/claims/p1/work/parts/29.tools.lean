/-! whole numbers for Java's: zI, zL -/
def zI (x : Int) : Int32 := Int32.ofInt x
def zL (x : Int) : Int64 := Int64.ofInt x
theorem zI_add (x y : Int) : zI x + zI y = zI (x + y) := (Int32.ofInt_add x y).symm
theorem zI_sub (x y : Int) : zI x - zI y = zI (x - y) := (Int32.ofInt_sub x y).symm
theorem zI_mul (x y : Int) : zI x * zI y = zI (x * y) := (Int32.ofInt_mul x y).symm
theorem zI_neg (x : Int) : -zI x = zI (-x) := (Int32.ofInt_neg x).symm
theorem zL_add (x y : Int) : zL x + zL y = zL (x + y) := (Int64.ofInt_add x y).symm
theorem zL_sub (x y : Int) : zL x - zL y = zL (x - y) := (Int64.ofInt_sub x y).symm
theorem zL_mul (x y : Int) : zL x * zL y = zL (x * y) := (Int64.ofInt_mul x y).symm
theorem zL_neg (x : Int) : -zL x = zL (-x) := (Int64.ofInt_neg x).symm
theorem zI_toI {x : Int} (h1 : -2147483648 ≤ x) (h2 : x < 2147483648) : (zI x).toInt = x := by
  show (Int32.ofInt x).toInt = x
  rw [Int32.toInt_ofInt]
  have e : ((Int32.size : Nat) : Int) = 4294967296 := rfl
  exact Int.bmod_eq_of_le (by omega) (by omega)
theorem zL_toI {x : Int} (h1 : -9223372036854775808 ≤ x) (h2 : x < 9223372036854775808) : (zL x).toInt = x := by
  show (Int64.ofInt x).toInt = x
  rw [Int64.toInt_ofInt]
  have e : ((Int64.size : Nat) : Int) = 18446744073709551616 := rfl
  exact Int.bmod_eq_of_le (by omega) (by omega)
theorem zI_self (x : Int32) : zI x.toInt = x := Int32.ofInt_toInt x
theorem zL_self (x : Int64) : zL x.toInt = x := Int64.ofInt_toInt x
theorem of_toI {v : Int32} {x : Int} (h : v.toInt = x) : v = zI x := by rw [← h, zI_self]
theorem of_toL {v : Int64} {x : Int} (h : v.toInt = x) : v = zL x := by rw [← h, zL_self]
theorem nI_zI (n : Nat) : nI n = zI n := by
  show Int32.ofNat n = Int32.ofInt n
  rw [Int32.ofInt_eq_ofNat]
theorem zI_nat (n : Nat) : zI (n : Int) = nI n := (nI_zI n).symm
theorem nI_addZ (a : Nat) (x : Int) : nI a + zI x = zI (a + x) := by rw [nI_zI, zI_add]
theorem zI_addN (a : Nat) (x : Int) : zI x + nI a = zI (x + a) := by rw [nI_zI, zI_add]
theorem nI_mulZ (a : Nat) (x : Int) : nI a * zI x = zI (a * x) := by rw [nI_zI, zI_mul]
theorem zI_mulN (a : Nat) (x : Int) : zI x * nI a = zI (x * a) := by rw [nI_zI, zI_mul]
theorem nI_subZ (a : Nat) (x : Int) : nI a - zI x = zI (a - x) := by rw [nI_zI, zI_sub]
theorem zI_subN (a : Nat) (x : Int) : zI x - nI a = zI (x - a) := by rw [nI_zI, zI_sub]
theorem nI_subN (a b : Nat) : nI a - nI b = zI (a - b) := by rw [nI_zI, nI_zI, zI_sub]
theorem nI_mul (a b : Nat) : nI a * nI b = nI (a * b) := pk_mul a b
theorem zI_inj {x y : Int} (h1 : -2147483648 ≤ x) (h2 : x < 2147483648) (h3 : -2147483648 ≤ y) (h4 : y < 2147483648) : (zI x = zI y) = (x = y) := by
  apply propext
  exact ⟨fun h => by have := congrArg Int32.toInt h; rwa [zI_toI h1 h2, zI_toI h3 h4] at this, fun h => by rw [h]⟩
theorem nI_inj {x y : Nat} (h2 : x < 2147483648) (h4 : y < 2147483648) : (nI x = nI y) = (x = y) := by
  apply propext
  exact ⟨fun h => by have := congrArg Int32.toInt h; rw [nI_toI h2, nI_toI h4] at this; omega, fun h => by rw [h]⟩
theorem zL_inj {x y : Int} (h1 : -9223372036854775808 ≤ x) (h2 : x < 9223372036854775808) (h3 : -9223372036854775808 ≤ y) (h4 : y < 9223372036854775808) : (zL x = zL y) = (x = y) := by
  apply propext
  exact ⟨fun h => by have := congrArg Int64.toInt h; rwa [zL_toI h1 h2, zL_toI h3 h4] at this, fun h => by rw [h]⟩
theorem InB_t {a n : Nat} (h : a < n) (hn : a < 2147483648) : InB (nI a) n = True := eq_true (InB_nI h hn)
theorem InB_z {x : Int} {n : Nat} (h0 : 0 ≤ x) (h : x < n) (hn : x < 2147483648) : InB (zI x) n = True := by
  apply eq_true
  unfold InB
  rw [zI_toI (by omega) hn]
  omega
theorem ix_z {x : Int} (h0 : 0 ≤ x) (hn : x < 2147483648) : ix (zI x) = x.toNat := by
  have e : x = ((x.toNat : Nat) : Int) := by omega
  rw [e, zI_nat, ix_nI (by omega)]
  omega
theorem l_m1 : (-1 : Int32).toInt = -1 := rfl
theorem i_m1 : (-1 : Int32) = zI (-1) := rfl
theorem i_0 : (0 : Int32) = nI 0 := rfl
theorem i_1 : (1 : Int32) = nI 1 := rfl
theorem i_2 : (2 : Int32) = nI 2 := rfl
theorem i_3 : (3 : Int32) = nI 3 := rfl
theorem i_4 : (4 : Int32) = nI 4 := rfl
theorem i_5 : (5 : Int32) = nI 5 := rfl
theorem i_6 : (6 : Int32) = nI 6 := rfl
theorem i_7 : (7 : Int32) = nI 7 := rfl
theorem i_8 : (8 : Int32) = nI 8 := rfl
theorem i_9 : (9 : Int32) = nI 9 := rfl
theorem up2_ne {α : Type} {f : Nat → Nat → α} {a i b j : Nat} {x : α} (h : b ≠ a) : up2 f a i x b j = f b j := up2_n (Or.inl h)
theorem up2_ni {α : Type} {f : Nat → Nat → α} {a i j : Nat} {x : α} (h : j ≠ i) : up2 f a i x a j = f a j := up2_n (Or.inr h)
theorem up2_eq {α : Type} {f : Nat → Nat → α} {a i j : Nat} {x : α} (h : j = i) : up2 f a i x a j = x := by rw [h, up2_s]
theorem up2_row {α : Type} {f : Nat → Nat → α} {a i b : Nat} {x : α} (h : b ≠ a) : up2 f a i x b = f b := funext fun j => up2_n (Or.inl h)
/-- counting up to n -/
theorem up_ind {α : Type} (n : Nat) (I C : Nat → α → Prop) (step : ∀ i a, i < n → I i a → (∀ a', I (i + 1) a' → C (i + 1) a') → C i a) (fin : ∀ a, I n a → C n a) : ∀ i a, i ≤ n → I i a → C i a := by
  have main : ∀ d i a, n - i = d → i ≤ n → I i a → C i a := by
    intro d
    induction d with
    | zero => intro i a h1 h2 h3; have e : i = n := (by omega); subst e; exact fin a h3
    | succ d ih => intro i a h1 h2 h3; exact step i a (by omega) h3 (fun a' h4 => ih (i + 1) a' (by omega) (by omega) h4)
  exact fun i a h1 h2 => main _ i a rfl h1 h2
/-- counting down: what is left falls with every turn -/
theorem dn_ind {α : Type} (m : α → Nat) (I C : α → Prop) (step : ∀ a, I a → (∀ a', I a' → m a' < m a → C a') → C a) : ∀ a, I a → C a := by
  have main : ∀ d a, m a ≤ d → I a → C a := by
    intro d
    induction d with
    | zero => intro a h1 h2; exact step a h2 (fun a' _ h4 => by omega)
    | succ d ih => intro a h1 h2; exact step a h2 (fun a' h3 h4 => ih a' (by omega) h3)
  exact fun a h => main _ a (Nat.le_refl _) h
