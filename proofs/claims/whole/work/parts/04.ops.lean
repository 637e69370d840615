/-! THE ABSTRACT MACHINE: a block of a method's code is a function of locals, operand stack and state; it ends with a jump to a block, or with the method's answer. Values: .ref 0 is null, .ref a the cell a, .retAddr k a constant text (or the law's script); .null in the locals: unset. -/
abbrev Rs : Type := (Nat × List Value × List Value × St) ⊕ (Option Value × St)
abbrev K : Type := List Value → List Value → St → Option Rs
abbrev Orc : Type := Nat → List Value → St → Option (Option Value × St)
def nth : List Value → Nat → Value
  | [], _ => .null
  | v :: _, 0 => v
  | _ :: vs, i + 1 => nth vs i
def isL (v : Value) : Bool := match v with
  | .long _ => true
  | .double _ => true
  | _ => false
/-- a store of one slot: a long that ends there is gone -/
def stL : List Value → Nat → Value → List Value
  | [], _, _ => []
  | _ :: vs, 0, v => v :: vs
  | w :: vs, i + 1, v => (if i == 0 && isL w then .null else w) :: stL vs i v
/-- a store of a long: two slots -/
def stLL : List Value → Nat → Value → List Value
  | [], _, _ => []
  | _ :: vs, 0, v => v :: stL vs 0 .null
  | w :: vs, i + 1, v => (if i == 0 && isL w then .null else w) :: stLL vs i v
def tI (st : List Value) (f : Int32 → List Value → Option Rs) : Option Rs := match st with
  | .int x :: st => f x st
  | _ => none
def tL (st : List Value) (f : Int64 → List Value → Option Rs) : Option Rs := match st with
  | .long x :: st => f x st
  | _ => none
def tR (st : List Value) (f : Nat → List Value → Option Rs) : Option Rs := match st with
  | .ref x :: st => f x st
  | _ => none
def tS (st : List Value) (f : Nat → List Value → Option Rs) : Option Rs := match st with
  | .retAddr x :: st => f x st
  | _ => none
def t1 (st : List Value) (f : Value → List Value → Option Rs) : Option Rs := match st with
  | .int x :: st => f (.int x) st
  | .ref x :: st => f (.ref x) st
  | _ => none
def cat1 (v : Value) : Nat := match v with
  | .long _ => 2
  | .double _ => 2
  | _ => 1
def catS : List Value → Nat
  | [] => 0
  | v :: vs => cat1 v + catS vs
def ck8 (st : List Value) (x : Option Rs) : Option Rs := cond (Nat.ble (catS st) 8) x none
/-- n arguments are there, and not too much below them -/
def ckn (n : Nat) (st : List Value) (x : Option Rs) : Option Rs := cond (Nat.ble n st.length && Nat.ble (catS (st.drop n)) 8) x none
def vI (v : Value) (f : Int32 → Option Rs) : Option Rs := match v with
  | .int x => f x
  | _ => none
def vL (v : Value) (f : Int64 → Option Rs) : Option Rs := match v with
  | .long x => f x
  | _ => none
def vR (v : Value) (f : Nat → Option Rs) : Option Rs := match v with
  | .ref x => f x
  | _ => none
def vS (v : Value) (f : Nat → Option Rs) : Option Rs := match v with
  | .retAddr x => f x
  | _ => none
abbrev inB (j : Int32) (n : Nat) : Prop := 0 ≤ j.toInt ∧ j.toInt < (n : Int)
abbrev o_jmp (b : Nat) : K := fun ls st S => some (.inl (b, ls, st, S))
abbrev o_iconst (v : Int32) (k : K) : K := fun ls st S => k ls (.int v :: st) S
abbrev o_lconst (v : Int64) (k : K) : K := fun ls st S => k ls (.long v :: st) S
abbrev o_null (k : K) : K := fun ls st S => k ls (.ref 0 :: st) S
abbrev o_str (i : Nat) (k : K) : K := fun ls st S => k ls (.retAddr i :: st) S
abbrev o_iload (i : Nat) (k : K) : K := fun ls st S => vI (nth ls i) fun x => k ls (.int x :: st) S
abbrev o_lload (i : Nat) (k : K) : K := fun ls st S => vL (nth ls i) fun x => k ls (.long x :: st) S
abbrev o_aload (i : Nat) (k : K) : K := fun ls st S => vR (nth ls i) fun x => k ls (.ref x :: st) S
abbrev o_sload (i : Nat) (k : K) : K := fun ls st S => vS (nth ls i) fun x => k ls (.retAddr x :: st) S
abbrev o_istore (i : Nat) (k : K) : K := fun ls st S => tI st fun x st => k (stL ls i (.int x)) st S
abbrev o_lstore (i : Nat) (k : K) : K := fun ls st S => tL st fun x st => k (stLL ls i (.long x)) st S
abbrev o_astore (i : Nat) (k : K) : K := fun ls st S => tR st fun x st => k (stL ls i (.ref x)) st S
abbrev o_iinc (i : Nat) (n : Int32) (k : K) : K := fun ls st S => vI (nth ls i) fun x => k (stL ls i (.int (x + n))) st S
abbrev o_i2 (f : Int32 → Int32 → Int32) (k : K) : K := fun ls st S => tI st fun y st => tI st fun x st => k ls (.int (f x y) :: st) S
abbrev o_i2z (f : Int32 → Int32 → Int32) (k : K) : K := fun ls st S => tI st fun y st => tI st fun x st => if y = 0 then none else k ls (.int (f x y) :: st) S
abbrev o_l2 (f : Int64 → Int64 → Int64) (k : K) : K := fun ls st S => tL st fun y st => tL st fun x st => k ls (.long (f x y) :: st) S
abbrev o_l2z (f : Int64 → Int64 → Int64) (k : K) : K := fun ls st S => tL st fun y st => tL st fun x st => if y = 0 then none else k ls (.long (f x y) :: st) S
abbrev o_lsh (f : Int64 → Int32 → Int64) (k : K) : K := fun ls st S => tI st fun y st => tL st fun x st => k ls (.long (f x y) :: st) S
abbrev o_i1 (f : Int32 → Int32) (k : K) : K := fun ls st S => tI st fun x st => k ls (.int (f x) :: st) S
abbrev o_i2l (k : K) : K := fun ls st S => tI st fun x st => k ls (.long x.toInt64 :: st) S
abbrev o_l2i (k : K) : K := fun ls st S => tL st fun x st => k ls (.int x.toInt32 :: st) S
abbrev o_lcmp (k : K) : K := fun ls st S => tL st fun y st => tL st fun x st => k ls (.int (lg_cmp x y) :: st) S
abbrev o_dup (k : K) : K := fun ls st S => t1 st fun v st => k ls (v :: v :: st) S
abbrev o_dup2 (k : K) : K := fun ls st S => t1 st fun v st => t1 st fun w st => k ls (v :: w :: v :: w :: st) S
abbrev o_pop (k : K) : K := fun ls st S => t1 st fun _ st => k ls st S
/-- x = 0 -/
abbrev o_if0 (kt kf : K) : K := fun ls st S => tI st fun x st => if x = 0 then kt ls st S else kf ls st S
/-- x < 0 -/
abbrev o_ifn (kt kf : K) : K := fun ls st S => tI st fun x st => if x < 0 then kt ls st S else kf ls st S
/-- 0 < x -/
abbrev o_ifp (kt kf : K) : K := fun ls st S => tI st fun x st => if 0 < x then kt ls st S else kf ls st S
abbrev o_ieq (kt kf : K) : K := fun ls st S => tI st fun y st => tI st fun x st => if x = y then kt ls st S else kf ls st S
abbrev o_ilt (kt kf : K) : K := fun ls st S => tI st fun y st => tI st fun x st => if x < y then kt ls st S else kf ls st S
abbrev o_igt (kt kf : K) : K := fun ls st S => tI st fun y st => tI st fun x st => if y < x then kt ls st S else kf ls st S
abbrev o_ifnull (kt kf : K) : K := fun ls st S => tR st fun x st => if x = 0 then kt ls st S else kf ls st S
abbrev o_aeq (kt kf : K) : K := fun ls st S => tR st fun y st => tR st fun x st => if x = y then kt ls st S else kf ls st S
/-- a switch: the first case that is x, else the rest -/
def swc (x : Int32) (ls st : List Value) (S : St) : List (Int32 × K) → K → Option Rs
  | [], kd => kd ls st S
  | (v, k) :: cs, kd => if x = v then k ls st S else swc x ls st S cs kd
abbrev o_sw (cs : List (Int32 × K)) (kd : K) : K := fun ls st S => tI st fun x st => swc x ls st S cs kd
abbrev o_getI (c f : Nat) (k : K) : K := fun ls st S => tR st fun a st => if gK S a = c then k ls (.int (gI S a f) :: st) S else none
abbrev o_getL (c f : Nat) (k : K) : K := fun ls st S => tR st fun a st => if gK S a = c then k ls (.long (gL S a f) :: st) S else none
abbrev o_getR (c f : Nat) (k : K) : K := fun ls st S => tR st fun a st => if gK S a = c then k ls (.ref (gR S a f) :: st) S else none
abbrev o_putI (c f : Nat) (k : K) : K := fun ls st S => tI st fun v st => tR st fun a st => if gK S a = c then k ls st (pI S a f v) else none
abbrev o_putZ (c f : Nat) (k : K) : K := fun ls st S => tI st fun v st => tR st fun a st => if gK S a = c ∧ (v = 0 ∨ v = 1) then k ls st (pI S a f v) else none
abbrev o_putL (c f : Nat) (k : K) : K := fun ls st S => tL st fun v st => tR st fun a st => if gK S a = c then k ls st (pL S a f v) else none
abbrev o_putR (c f : Nat) (k : K) : K := fun ls st S => tR st fun v st => tR st fun a st => if gK S a = c then k ls st (pR S a f v) else none
/-- arrays of ints (0), chars (2), bytes (3), booleans (4) -/
abbrev o_iald (t : Nat) (k : K) : K := fun ls st S => tI st fun j st => tR st fun a st => if gK S a = 100 + t ∧ inB j (gN S a) then k ls (.int (gI S a j.toNatClampNeg) :: st) S else none
abbrev o_iast (t : Nat) (g : Int32 → Int32) (k : K) : K := fun ls st S => tI st fun v st => tI st fun j st => tR st fun a st => if gK S a = 100 + t ∧ inB j (gN S a) then k ls st (pI S a j.toNatClampNeg (g v)) else none
abbrev o_lald (k : K) : K := fun ls st S => tI st fun j st => tR st fun a st => if gK S a = 101 ∧ inB j (gN S a) then k ls (.long (gL S a j.toNatClampNeg) :: st) S else none
abbrev o_last (k : K) : K := fun ls st S => tL st fun v st => tI st fun j st => tR st fun a st => if gK S a = 101 ∧ inB j (gN S a) then k ls st (pL S a j.toNatClampNeg v) else none
abbrev o_aald (k : K) : K := fun ls st S => tI st fun j st => tR st fun a st => if gK S a = 105 ∧ inB j (gN S a) then k ls (.ref (gR S a j.toNatClampNeg) :: st) S else none
abbrev o_aast (k : K) : K := fun ls st S => tR st fun v st => tI st fun j st => tR st fun a st => if gK S a = 105 ∧ inB j (gN S a) ∧ gK S v = 0 then k ls st (pR S a j.toNatClampNeg v) else none
abbrev o_alen (k : K) : K := fun ls st S => tR st fun a st => if 100 ≤ gK S a ∧ gK S a < 106 then k ls (.int (Int32.ofNat (gN S a)) :: st) S else none
abbrev o_new (c : Nat) (k : K) : K := fun ls st S => k ls (.ref (gZ S + 1) :: st) (nw S c (nC c))
abbrev o_newa (t : Nat) (k : K) : K := fun ls st S => tI st fun n st => if 0 ≤ n.toInt ∧ n.toInt ≤ 70000 then k ls (.ref (gZ S + 1) :: st) (nw S (100 + t) n.toNatClampNeg) else none
abbrev o_clone (k : K) : K := fun ls st S => tR st fun a st => ck8 st (if gK S a = 100 then k ls (.ref (gZ S + 1) :: st) (clI S a) else none)
abbrev o_castA (k : K) : K := fun ls st S => tR st fun a st => if gK S a = 100 then k ls (.ref a :: st) S else none
abbrev o_copy (k : K) : K := fun ls st S => tI st fun n st => tI st fun dp st => tR st fun b st => tI st fun sp st => tR st fun a st => ck8 st (if gK S a = 100 ∧ gK S b = 100 ∧ 0 ≤ sp.toInt ∧ 0 ≤ dp.toInt ∧ 0 ≤ n.toInt ∧ sp.toInt + n.toInt ≤ gN S a ∧ dp.toInt + n.toInt ≤ gN S b then k ls st (cpI S a b sp.toNatClampNeg dp.toNatClampNeg n.toNatClampNeg) else none)
abbrev o_min (k : K) : K := fun ls st S => tI st fun y st => tI st fun x st => ck8 st (k ls (.int (if y < x then y else x) :: st) S)
/-- Object's constructor -/
abbrev o_obj (k : K) : K := fun ls st S => tR st fun a st => if a = 0 then none else ck8 st (k ls st S)
def eI (x : Option (Option Value × St)) (f : Int32 → St → Option Rs) : Option Rs := match x with
  | some (some (.int v), S) => f v S
  | _ => none
def eL (x : Option (Option Value × St)) (f : Int64 → St → Option Rs) : Option Rs := match x with
  | some (some (.long v), S) => f v S
  | _ => none
def eR (x : Option (Option Value × St)) (f : Nat → St → Option Rs) : Option Rs := match x with
  | some (some (.ref v), S) => f v S
  | _ => none
def eV (x : Option (Option Value × St)) (f : St → Option Rs) : Option Rs := match x with
  | some (none, S) => f S
  | _ => none
/-- a call of method i with n arguments (the receiver counted): static (s), of a constructor (n), of an object of class c (v) -/
def hdR (as : List Value) (f : Nat → Option Rs) : Option Rs := match as with
  | .ref a :: _ => f a
  | _ => none
abbrev o_sI (orc : Orc) (i n : Nat) (k : K) : K := fun ls st S => ckn n st (eI (orc i (st.take n).reverse S) fun v S => k ls (.int v :: st.drop n) S)
abbrev o_vI (orc : Orc) (i n c : Nat) (k : K) : K := fun ls st S => hdR (st.take n).reverse fun a => if gK S a = c then ckn n st (eI (orc i (st.take n).reverse S) fun v S => k ls (.int v :: st.drop n) S) else none
abbrev o_sL (orc : Orc) (i n : Nat) (k : K) : K := fun ls st S => ckn n st (eL (orc i (st.take n).reverse S) fun v S => k ls (.long v :: st.drop n) S)
abbrev o_vL (orc : Orc) (i n c : Nat) (k : K) : K := fun ls st S => hdR (st.take n).reverse fun a => if gK S a = c then ckn n st (eL (orc i (st.take n).reverse S) fun v S => k ls (.long v :: st.drop n) S) else none
abbrev o_sR (orc : Orc) (i n : Nat) (k : K) : K := fun ls st S => ckn n st (eR (orc i (st.take n).reverse S) fun v S => k ls (.ref v :: st.drop n) S)
abbrev o_vR (orc : Orc) (i n c : Nat) (k : K) : K := fun ls st S => hdR (st.take n).reverse fun a => if gK S a = c then ckn n st (eR (orc i (st.take n).reverse S) fun v S => k ls (.ref v :: st.drop n) S) else none
abbrev o_sV (orc : Orc) (i n : Nat) (k : K) : K := fun ls st S => ckn n st (eV (orc i (st.take n).reverse S) fun S => k ls (st.drop n) S)
abbrev o_vV (orc : Orc) (i n c : Nat) (k : K) : K := fun ls st S => hdR (st.take n).reverse fun a => if gK S a = c then ckn n st (eV (orc i (st.take n).reverse S) fun S => k ls (st.drop n) S) else none
abbrev o_nV (orc : Orc) (i n : Nat) (k : K) : K := fun ls st S => hdR (st.take n).reverse fun a => if a = 0 then none else ckn n st (eV (orc i (st.take n).reverse S) fun S => k ls (st.drop n) S)
def rI (st : List Value) (f : Int32 → Option Rs) : Option Rs := match st with
  | [.int v] => f v
  | _ => none
def rL (st : List Value) (f : Int64 → Option Rs) : Option Rs := match st with
  | [.long v] => f v
  | _ => none
def rR (st : List Value) (f : Nat → Option Rs) : Option Rs := match st with
  | [.ref v] => f v
  | _ => none
def rV (st : List Value) (x : Option Rs) : Option Rs := match st with
  | [] => x
  | _ => none
abbrev o_iret : K := fun _ st S => rI st fun v => some (.inr (some (.int v), S))
abbrev o_zret : K := fun _ st S => rI st fun v => if v = 0 ∨ v = 1 then some (.inr (some (.int v), S)) else none
abbrev o_lret : K := fun _ st S => rL st fun v => some (.inr (some (.long v), S))
abbrev o_aret : K := fun _ st S => rR st fun v => some (.inr (some (.ref v), S))
abbrev o_vret : K := fun _ st S => rV st (some (.inr (none, S)))
