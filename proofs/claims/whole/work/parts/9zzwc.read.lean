/-! instructions coded as numbers: digits of some base 2^k, the last digit first; whole numbers folded -/
def frd {α : Type} (n : Nat) (f : Nat → α) : α := Nat.rec (f 0) (fun m _ => f (Nat.succ m)) n
theorem frd_e {α : Type} (n : Nat) (f : Nat → α) : frd n f = f n := by cases n <;> rfl
def dgs {α : Type} (B : Nat) : Nat → Nat → List Nat → (List Nat → α) → α
  | 0, _, l, k => k l
  | n + 1, N, l, k => frd (Nat.mod N B) fun d => frd (Nat.div N B) fun M => dgs B n M (d :: l) k
/-- 32 n + k: n digits, base 2^k -/
def dgm {α : Type} (m N : Nat) (k : List Nat → α) : α := frd (Nat.pow 2 (Nat.mod m 32)) fun B => frd (Nat.div m 32) fun n => dgs B n N [] k
def zf {α : Type} (n : Nat) (k : Int → α) : α := frd (Nat.div n 2) fun h => cond (Nat.beq (Nat.mod n 2) 0) (k (Int.ofNat h)) (k (Int.negSucc h))
def hd (l : List Nat) : Nat := match l with
  | [] => 0
  | a :: _ => a
def tl (l : List Nat) : List Nat := match l with
  | [] => []
  | _ :: t => t
def rdVc {α : Type} (l : List Nat) (k : Vc → List Nat → α) : α := match l with
  | a :: b :: c :: t => zf a fun a => zf b fun b => zf c fun c => k (a, b, c) t
  | _ => k (0, 0, 0) []
def rdRw {α : Type} (l : List Nat) (k : Rw → List Nat → α) : α := match l with
  | a :: b :: c :: d :: e :: f :: g :: t => zf a fun a => zf b fun b => zf c fun c => zf d fun d => zf e fun e => zf f fun f => zf g fun g => k (a, b, c, d, e, f, g) t
  | _ => k (0, 0, 0, 0, 0, 0, 0) []
def rdVs {α : Type} : Nat → List Nat → List Vc → (List Vc → List Nat → α) → α
  | 0, l, s, k => k s l
  | n + 1, l, s, k => rdVc l fun v t => rdVs n t (v :: s) k
def rdRs {α : Type} : Nat → List Nat → List Rw → (List Rw → List Nat → α) → α
  | 0, l, s, k => k s l
  | n + 1, l, s, k => rdRw l fun v t => rdRs n t (v :: s) k
def rdP {α : Type} : Nat → List Nat → List (Nat × Nat) → (List (Nat × Nat) → List Nat → α) → α
  | 0, l, s, k => k s l
  | n + 1, l, s, k => match l with
    | a :: b :: t => rdP n t ((a, b) :: s) k
    | _ => k s []
def rdQ {α : Type} : Nat → List Nat → List (Vc × Nat) → (List (Vc × Nat) → List Nat → α) → α
  | 0, l, s, k => k s l
  | n + 1, l, s, k => rdVc l fun v t => match t with
    | m :: t => rdQ n t ((v, m) :: s) k
    | _ => k s []
def rdCs {α : Type} : Nat → List Nat → List Ct → (List Ct → List Nat → α) → α
  | 0, l, s, k => k s l
  | n + 1, l, s, k => match l with
    | d :: a :: t => rdP a t [] fun ps t => match t with
      | b :: t => rdQ b t [] fun qs t => rdCs n t ((d, ps, qs) :: s) k
      | _ => k s []
    | _ => k s []
/-- lists stand from their last to their first -/
def rdT {α : Type} (n N : Nat) (k : Tk → α) : α := dgm n N fun l => match l with
  | o :: a :: t => rdVs a t [] fun vs t => match t with
    | b :: t => rdRs b t [] fun rs t => match t with
      | c :: t => rdCs c t [] fun cs _ => k (o, vs, rs, cs)
      | _ => k (99, [], [], [])
    | _ => k (99, [], [], [])
  | _ => k (99, [], [], [])
def bad : Cx := (9, false, 0, (0, 0, 0), (0, 0, 0), (0, 0, 0), [], [])
/-- a context coded likewise -/
def rdK {α : Type} (n N : Nat) (k : Cx → α) : α := dgm n N fun l => match l with
  | s :: g :: K :: t => rdVc t fun p t => rdVc t fun q t => rdVc t fun r t => match t with
    | a :: t => rdRs a t [] fun P t => match t with
      | b :: t => rdRs b t [] fun H _ => k (s, Nat.beq g 1, K, p, q, r, P, H)
      | _ => k bad
    | _ => k bad
  | _ => k bad
def rdL {α : Type} : List (Nat × Nat) → List Cx → (List Cx → α) → α
  | [], s, k => k s
  | x :: l, s, k => rdK x.1 x.2 fun c => rdL l (c :: s) k
