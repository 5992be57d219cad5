/-! THE MACHINE IN SMALL: a heap of numbered cells (0 is null, 1 the script, 2 3 4 the static tables, from 5 on what the run makes), and what an instruction asks -/
abbrev MH : Type := Nat × (Nat → Nat) × (Nat → Nat) × (Nat → Nat → Int32) × (Nat → Nat → Int64) × (Nat → Nat → Nat)
def hn (h : MH) : Nat := h.1
def kd (h : MH) : Nat → Nat := h.2.1
def ln (h : MH) : Nat → Nat := h.2.2.1
def mi (h : MH) : Nat → Nat → Int32 := h.2.2.2.1
def ml (h : MH) : Nat → Nat → Int64 := h.2.2.2.2.1
def mr (h : MH) : Nat → Nat → Nat := h.2.2.2.2.2
def up2 {α : Type} (f : Nat → Nat → α) (a i : Nat) (x : α) : Nat → Nat → α := fun b j => if b = a ∧ j = i then x else f b j
def wi (h : MH) (a i : Nat) (x : Int32) : MH := (hn h, kd h, ln h, up2 (mi h) a i x, ml h, mr h)
def wl (h : MH) (a i : Nat) (x : Int64) : MH := (hn h, kd h, ln h, mi h, up2 (ml h) a i x, mr h)
def wr (h : MH) (a i : Nat) (x : Nat) : MH := (hn h, kd h, ln h, mi h, ml h, up2 (mr h) a i x)
def nw (h : MH) (k n : Nat) : MH := (hn h + 1, va_up (kd h) (hn h) k, va_up (ln h) (hn h) n, (fun a j => if a = hn h then 0 else mi h a j), (fun a j => if a = hn h then 0 else ml h a j), (fun a j => if a = hn h then 0 else mr h a j))
def cpI (h : MH) (s sp d dp n : Nat) : MH := (hn h, kd h, ln h, (fun b j => if b = d ∧ dp ≤ j ∧ j < dp + n then mi h s (sp + (j - dp)) else mi h b j), ml h, mr h)
def cpL (h : MH) (s sp d dp n : Nat) : MH := (hn h, kd h, ln h, mi h, (fun b j => if b = d ∧ dp ≤ j ∧ j < dp + n then ml h s (sp + (j - dp)) else ml h b j), mr h)
abbrev WG : Type := (Nat → ClassId) × (Nat → Nat → Nat) × (Nat → ClassId) × (Nat → Nat) × Nat
def gC (G : WG) : Nat → ClassId := G.1
def gI (G : WG) : Nat → Nat → Nat := G.2.1
def gA (G : WG) : Nat → ClassId := G.2.2.1
def gS (G : WG) : Nat → Nat := G.2.2.2.1
def gB (G : WG) : Nat := G.2.2.2.2
def ad (G : WG) (a : Nat) : Nat := if a < 5 then gS G a else gB G + (a - 5)
def er (G : WG) (a : Nat) : Value := if a = 0 then .null else .ref (ad G a)
def em (G : WG) (v : Value) : Value := match v with
  | .ref a => er G a
  | v => v
def fv (G : WG) (h : MH) (c a j : Nat) : Value := match fK c j with
  | 0 => .int (mi h a j)
  | 1 => .long (ml h a j)
  | _ => er G (mr h a j)
def aTy : Nat → FieldType := fun k => match k with
  | 21 => .long
  | 22 => .boolean
  | 23 => .char
  | 24 => .object "CrystalHouse$Group"
  | 25 => .object "CrystalHouse$Cell"
  | 26 => .object "CrystalHouse$Model"
  | 27 => .object "CrystalHouse$Lines"
  | 28 => .array .long
  | _ => .int
def av (G : WG) (h : MH) (k a j : Nat) : Value := if k = 21 then .long (ml h a j) else if k ≤ 23 then .int (mi h a j) else er G (mr h a j)
/-- an array of the run's own -/
def AP (H : Heap) (q : Nat) (cA : ClassId) (n : Nat) (f : Nat → Value) : Prop := ∃ cell : Cell, H[q]? = some cell ∧ cell.cls = cA ∧ cell.vm = .none ∧ cell.slots.size = n ∧ ∀ j, j < n → cell.slots[j]? = some (f j)
/-- an array of ints that was there before -/
def AR (s : State) (H : Heap) (q n : Nat) (f : Nat → Value) : Prop := ∃ cell : Cell, H[q]? = some cell ∧ s.isArrayOf cell .int ∧ cell.vm ≠ .unknown ∧ cell.slots.size = n ∧ ∀ j, j < n → cell.slots[j]? = some (f j)
def CLa (G : WG) (h : MH) (s : State) (H : Heap) (a : Nat) : Prop :=
  (∀ c, c < 13 → kd h a = c + 1 → t_OB (ad G a) (gC G c) (cN c) (gI G c) H (fv G h c a)) ∧
  (kd h a = 19 → AR s H (ad G a) (ln h a) (fun j => .int (mi h a j))) ∧
  (∀ k, 20 ≤ k → k ≤ 28 → kd h a = k → AP H (ad G a) (gA G k) (ln h a) (av G h k a))
def ZS (G : WG) (s : State) (H : Heap) (n : String) (i : Nat) : Prop := va_Z "CrystalHouse" n "[I" (.ref (gS G i)) (fun q => gB G ≤ q) s H
def RP (G : WG) (h : MH) (s : State) (H : Heap) : Prop :=
  (5 ≤ hn h ∧ H.size + 5 = gB G + hn h ∧ ∀ a, 0 < a → a < 5 → gS G a < gB G) ∧
  (∀ a, kd h a ≠ 0 → (kd h a = 19 ∧ 0 < a ∧ a < 5) ∨ (kd h a ≠ 19 ∧ 5 ≤ a ∧ a < hn h)) ∧
  (∀ a, CLa G h s H a) ∧ ZS G s H "CLASS_KEYS" 2 ∧ ZS G s H "COSINES" 3 ∧ ZS G s H "LATTICES" 4
def eC : Nat → Nat := fun k => match k with
  | 24 => 3
  | 25 => 0
  | 26 => 5
  | _ => 4
def KN (G : WG) (s : State) : Prop :=
  (∀ c, c < 13 → u_Kn s (cNm c) (cT c) (cN c) (gC G c) (gI G c)) ∧
  (∀ k, 20 ≤ k → k ≤ 28 → ∃ (kA : Class) (comp : ClassId), s.vm.classes[gA G k]? = some kA ∧ kA.kind = .array comp (aTy k) ∧ s.vm.findClass ("[" ++ (aTy k).toString) = some (gA G k) ∧ (24 ≤ k → k ≤ 27 → comp = gC G (eC k)) ∧ (k = 28 → comp = gA G 21)) ∧
  (∀ w ∈ nestW, va_Nw w s) ∧ (∀ k, 24 ≤ k → k ≤ 28 → (Cond.arrayOver (aTy k)).before #[] s = true)
def Jv : Value := .retAddr 0
def unl (v : Value) : Value := match v with
  | .long _ => Jv
  | .double _ => Jv
  | v => v
def lset : List Value → Nat → Value → List Value
  | [], _, _ => []
  | _ :: L, 0, v => v :: L
  | a :: L, 1, v => unl a :: (match L with
    | [] => []
    | _ :: L => v :: L)
  | a :: L, i + 2, v => a :: lset L (i + 1) v
def lset2 : List Value → Nat → Value → List Value
  | [], _, _ => []
  | _ :: L, 0, v => v :: (match L with
    | [] => []
    | _ :: L => Jv :: L)
  | a :: L, 1, v => unl a :: (match L with
    | [] => []
    | _ :: L => v :: (match L with
      | [] => []
      | _ :: L => Jv :: L))
  | a :: L, i + 2, v => a :: lset2 L (i + 1) v
def kl : List Bool → List Value → List Value
  | [], L => L
  | _ :: _, [] => []
  | b :: m, v :: L => (bif b then v else Jv) :: kl m L
/-- the locals -/
def LR (G : WG) (n : Nat) (L : List Value) (ls : Array Slot) : Prop := (ls.size = L.length ∧ L.length = n) ∧ lv_wf ls ∧ ∀ (i : Nat) (v : Value), L[i]? = some v → v ≠ Jv → ls[i]? = some (Slot.val (em G v))
def LO (G : WG) (locs : List Loc) : Prop := ∀ q ∈ locs, gB G ≤ q.base
def isIni (k : Nat) : Bool := (yM k).name == "<init>"
def CX (k : Nat) (p : Program) (R : Room) (s : State) (m : MethodId) (args : Array Value) (meth : Method) (c : Code) (G : WG) : Prop :=
  p.tables.exec = Jvm.exec ∧ c.code = bM k ∧ c.maxLocals = lM k ∧ s.vm.findClass (yM k).cls = some m.cls ∧ (∀ w ∈ wsG, w.before args s = true) ∧ (frM k ≤ R.frames ∧ loM k ≤ R.locals ∧ mcM k ≤ R.cells ∧ msM k ≤ R.slots) ∧ KN G s ∧ gB G ≤ s.heap.size ∧ (isIni k = true → meth.name = "<init>")
/-- a returning instruction, its value and the stack that it finds -/
def RI (G : WG) (k pc : Nat) (v : Value) (st : List Value) : Prop :=
  (rK k = 0 ∧ v = .null ∧ st = [] ∧ decode (bM k) pc = .ok (.return_, 1)) ∨ (rK k = 1 ∧ (∃ x, v = .int x ∧ st = [.int x]) ∧ decode (bM k) pc = .ok (.ireturn, 1)) ∨
  (rK k = 2 ∧ (∃ x, v = .long x ∧ st = [.long x]) ∧ decode (bM k) pc = .ok (.lreturn, 1)) ∨ (rK k = 3 ∧ (∃ a, v = .ref a ∧ st = [er G a]) ∧ decode (bM k) pc = .ok (.areturn, 1)) ∨
  (rK k = 4 ∧ (∃ x, v = .int x ∧ (x = 0 ∨ x = 1) ∧ st = [.int x]) ∧ decode (bM k) pc = .ok (.ireturn, 1))
def FN (k : Nat) (p : Program) (l : Launch) (e : Env) (R : Room) (s : State) (m : MethodId) (args : Array Value) (below : List Frame) (meth : Method) (c : Code) (Q : State → Prop) (G : WG) (Rt : Value → MH → Prop) : Prop :=
  ∀ (H : Heap) (locs : List Loc) (cc ss pc : Nat) (ls : Array Slot) (v : Value) (h : MH) (st : List Value), RP G h s H → LO G locs → cc ≤ mcM k → ss ≤ msM k → Rt v h → RI G k pc v st → W p l e R s m args below meth c H locs cc ss Q (F0 m pc ls st)
def WM (k pc : Nat) (L st : List Value) (h : MH) (cc ss : Nat) (Rt : Value → MH → Prop) : Prop :=
  ∀ (p : Program) (l : Launch) (e : Env) (R : Room) (s : State) (m : MethodId) (args : Array Value) (below : List Frame) (meth : Method) (c : Code) (Q : State → Prop) (G : WG) (H : Heap) (locs : List Loc) (ls : Array Slot),
    CX k p R s m args meth c G → FN k p l e R s m args below meth c Q G Rt → RP G h s H → LO G locs → LR G (lM k) L ls → W p l e R s m args below meth c H locs cc ss Q (F0 m pc ls (st.map (em G)))
def PcM (G : WG) (as : List Value) (h : MH) : Array Value → State → Prop := fun v U => v = (as.map (em G)).toArray ∧ RP G h U U.heap ∧ KN G U
def rv (G : WG) (k : Nat) (v : Value) : Option Value := if rK k = 0 then none else some (em G v)
def vT (k : Nat) (v : Value) : Prop := match rK k with
  | 0 => v = .null
  | 1 => ∃ x, v = .int x
  | 2 => ∃ x, v = .long x
  | 3 => ∃ a, v = .ref a
  | _ => ∃ x, v = .int x ∧ (x = 0 ∨ x = 1)
def QcM (G : WG) (k : Nat) (Rt : Value → MH → Prop) : Array Value → State → Outcome → State → Prop := fun _ _ o t => ∃ v h, o = .returned (rv G k v) ∧ vT k v ∧ RP G h t t.heap ∧ Rt v h
/-- a method's contract -/
def Sp (k : Nat) (as : List Value) (h : MH) (Rt : Value → MH → Prop) : Prop := ∀ (l : Launch) (G : WG), Met l (yM k) (wM k) (roomM k) (PcM G as h) (QcM G k Rt) (mcM k) (msM k) (fun q => gB G ≤ q)
