/-! THE ABSTRACT STATE: cells numbered from 1 in the order of their making; of each cell its ints, longs and references by slot (a reference: 0 is null, else a cell's number), its kind (a class's number, or 100 and the type of an array) and its length -/
abbrev St : Type := (Nat → Nat → Int32) × (Nat → Nat → Int64) × (Nat → Nat → Nat) × (Nat → Nat × Nat) × Nat × Nat
def gI (S : St) (a k : Nat) : Int32 := S.1 a k
def gL (S : St) (a k : Nat) : Int64 := S.2.1 a k
def gR (S : St) (a k : Nat) : Nat := S.2.2.1 a k
def gK (S : St) (a : Nat) : Nat := (S.2.2.2.1 a).1
def gN (S : St) (a : Nat) : Nat := (S.2.2.2.1 a).2
def gZ (S : St) : Nat := S.2.2.2.2.1
def gU (S : St) : Nat := S.2.2.2.2.2
def u2 {α : Type} (f : Nat → Nat → α) (a k : Nat) (v : α) : Nat → Nat → α := fun b j => if b = a ∧ j = k then v else f b j
def pI (S : St) (a k : Nat) (v : Int32) : St := (u2 S.1 a k v, S.2)
def pL (S : St) (a k : Nat) (v : Int64) : St := (S.1, u2 S.2.1 a k v, S.2.2)
def pR (S : St) (a k : Nat) (v : Nat) : St := (S.1, S.2.1, u2 S.2.2.1 a k v, S.2.2.2)
def z1 {α : Type} (f : Nat → Nat → α) (z : Nat) (v : α) : Nat → Nat → α := fun b j => if b = z then v else f b j
def nw (S : St) (c n : Nat) : St := (z1 S.1 (gZ S + 1) 0, z1 S.2.1 (gZ S + 1) 0, z1 S.2.2.1 (gZ S + 1) 0, (fun b => if b = gZ S + 1 then (c, n) else S.2.2.2.1 b), gZ S + 1, gU S + n)
/-- n ints of cell a from sp on, copied to cell b from dp on -/
def cpI (S : St) (a b sp dp n : Nat) : St := ((fun x j => if x = b ∧ dp ≤ j ∧ j < dp + n then S.1 a (sp + (j - dp)) else S.1 x j), S.2)
/-- a new int array that holds what cell a holds -/
def clI (S : St) (a : Nat) : St := ((fun b j => if b = gZ S + 1 then S.1 a j else S.1 b j), z1 S.2.1 (gZ S + 1) 0, z1 S.2.2.1 (gZ S + 1) 0, (fun b => if b = gZ S + 1 then (100, gN S a) else S.2.2.2.1 b), gZ S + 1, gU S + gN S a)
theorem gI_pI (S : St) (a k : Nat) (v : Int32) (b j : Nat) : gI (pI S a k v) b j = if b = a ∧ j = k then v else gI S b j := rfl
theorem gL_pL (S : St) (a k : Nat) (v : Int64) (b j : Nat) : gL (pL S a k v) b j = if b = a ∧ j = k then v else gL S b j := rfl
theorem gR_pR (S : St) (a k : Nat) (v : Nat) (b j : Nat) : gR (pR S a k v) b j = if b = a ∧ j = k then v else gR S b j := rfl
theorem gL_pI (S : St) (a k : Nat) (v : Int32) (b j : Nat) : gL (pI S a k v) b j = gL S b j := rfl
theorem gR_pI (S : St) (a k : Nat) (v : Int32) (b j : Nat) : gR (pI S a k v) b j = gR S b j := rfl
theorem gK_pI (S : St) (a k : Nat) (v : Int32) (b : Nat) : gK (pI S a k v) b = gK S b := rfl
theorem gN_pI (S : St) (a k : Nat) (v : Int32) (b : Nat) : gN (pI S a k v) b = gN S b := rfl
theorem gZ_pI (S : St) (a k : Nat) (v : Int32) : gZ (pI S a k v) = gZ S := rfl
theorem gU_pI (S : St) (a k : Nat) (v : Int32) : gU (pI S a k v) = gU S := rfl
theorem gI_pL (S : St) (a k : Nat) (v : Int64) (b j : Nat) : gI (pL S a k v) b j = gI S b j := rfl
theorem gR_pL (S : St) (a k : Nat) (v : Int64) (b j : Nat) : gR (pL S a k v) b j = gR S b j := rfl
theorem gK_pL (S : St) (a k : Nat) (v : Int64) (b : Nat) : gK (pL S a k v) b = gK S b := rfl
theorem gN_pL (S : St) (a k : Nat) (v : Int64) (b : Nat) : gN (pL S a k v) b = gN S b := rfl
theorem gZ_pL (S : St) (a k : Nat) (v : Int64) : gZ (pL S a k v) = gZ S := rfl
theorem gU_pL (S : St) (a k : Nat) (v : Int64) : gU (pL S a k v) = gU S := rfl
theorem gI_pR (S : St) (a k : Nat) (v : Nat) (b j : Nat) : gI (pR S a k v) b j = gI S b j := rfl
theorem gL_pR (S : St) (a k : Nat) (v : Nat) (b j : Nat) : gL (pR S a k v) b j = gL S b j := rfl
theorem gK_pR (S : St) (a k : Nat) (v : Nat) (b : Nat) : gK (pR S a k v) b = gK S b := rfl
theorem gN_pR (S : St) (a k : Nat) (v : Nat) (b : Nat) : gN (pR S a k v) b = gN S b := rfl
theorem gZ_pR (S : St) (a k : Nat) (v : Nat) : gZ (pR S a k v) = gZ S := rfl
theorem gU_pR (S : St) (a k : Nat) (v : Nat) : gU (pR S a k v) = gU S := rfl
theorem gI_nw (S : St) (c n b j : Nat) : gI (nw S c n) b j = if b = gZ S + 1 then 0 else gI S b j := rfl
theorem gL_nw (S : St) (c n b j : Nat) : gL (nw S c n) b j = if b = gZ S + 1 then 0 else gL S b j := rfl
theorem gR_nw (S : St) (c n b j : Nat) : gR (nw S c n) b j = if b = gZ S + 1 then 0 else gR S b j := rfl
theorem gK_nw (S : St) (c n b : Nat) : gK (nw S c n) b = if b = gZ S + 1 then c else gK S b := by
  unfold gK nw; dsimp only; split <;> rfl
theorem gN_nw (S : St) (c n b : Nat) : gN (nw S c n) b = if b = gZ S + 1 then n else gN S b := by
  unfold gN nw; dsimp only; split <;> rfl
theorem gZ_nw (S : St) (c n : Nat) : gZ (nw S c n) = gZ S + 1 := rfl
theorem gU_nw (S : St) (c n : Nat) : gU (nw S c n) = gU S + n := rfl
theorem gI_cpI (S : St) (a b sp dp n x j : Nat) : gI (cpI S a b sp dp n) x j = if x = b ∧ dp ≤ j ∧ j < dp + n then gI S a (sp + (j - dp)) else gI S x j := rfl
theorem gL_cpI (S : St) (a b sp dp n x j : Nat) : gL (cpI S a b sp dp n) x j = gL S x j := rfl
theorem gR_cpI (S : St) (a b sp dp n x j : Nat) : gR (cpI S a b sp dp n) x j = gR S x j := rfl
theorem gK_cpI (S : St) (a b sp dp n x : Nat) : gK (cpI S a b sp dp n) x = gK S x := rfl
theorem gN_cpI (S : St) (a b sp dp n x : Nat) : gN (cpI S a b sp dp n) x = gN S x := rfl
theorem gZ_cpI (S : St) (a b sp dp n : Nat) : gZ (cpI S a b sp dp n) = gZ S := rfl
theorem gU_cpI (S : St) (a b sp dp n : Nat) : gU (cpI S a b sp dp n) = gU S := rfl
theorem gI_clI (S : St) (a b j : Nat) : gI (clI S a) b j = if b = gZ S + 1 then gI S a j else gI S b j := rfl
theorem gL_clI (S : St) (a b j : Nat) : gL (clI S a) b j = if b = gZ S + 1 then 0 else gL S b j := rfl
theorem gR_clI (S : St) (a b j : Nat) : gR (clI S a) b j = if b = gZ S + 1 then 0 else gR S b j := rfl
theorem gK_clI (S : St) (a b : Nat) : gK (clI S a) b = if b = gZ S + 1 then 100 else gK S b := by
  unfold gK clI; dsimp only; split <;> rfl
theorem gN_clI (S : St) (a b : Nat) : gN (clI S a) b = if b = gZ S + 1 then gN S a else gN S b := by
  unfold gN clI; dsimp only; split <;> rfl
theorem gZ_clI (S : St) (a : Nat) : gZ (clI S a) = gZ S + 1 := rfl
theorem gU_clI (S : St) (a : Nat) : gU (clI S a) = gU S + gN S a := rfl
/-! ITS PICTURE in the machine: cell a lies at base + a -/
def ro (base r : Nat) : Option Nat := match r with
  | 0 => none
  | k + 1 => some (base + (k + 1))
def rv (base r : Nat) : Value := match r with
  | 0 => .null
  | k + 1 => .ref (base + (k + 1))
theorem rv_ro (base r : Nat) : va_rf (ro base r) = rv base r := by cases r <;> rfl
theorem rv_pos {base r : Nat} (h : 0 < r) : rv base r = .ref (base + r) := by cases r with
  | zero => omega
  | succ k => rfl
def tyC (c : Nat) : Nat → FieldType := match c with
  | 0 => tyX1
  | 1 => tyX2
  | 2 => tyX3
  | 3 => tyX4
  | 4 => tyX5
  | 5 => tyX6
  | 6 => tyX7
  | 7 => tyX8
  | 8 => tyX9
  | _ => tyX0
def nC (c : Nat) : Nat := match c with
  | 0 => 3
  | 1 => 4
  | 2 => 19
  | 3 => 2
  | 4 => 8
  | 5 => 9
  | 6 => 1
  | 7 => 12
  | 8 => 52
  | _ => 0
def tyK (t : Nat) : FieldType := match t with
  | 0 => .int
  | 1 => .long
  | 2 => .char
  | 3 => .byte
  | 4 => .boolean
  | _ => .object "TruceWall$Mark"
def fv (base : Nat) (S : St) (a : Nat) (ty : FieldType) (k : Nat) : Value := match ty with
  | .long => .long (gL S a k)
  | .object _ => rv base (gR S a k)
  | .array _ => rv base (gR S a k)
  | _ => .int (gI S a k)
def fl (base : Nat) (S : St) (a c : Nat) : List Value := (List.range (nC c)).map (fun k => fv base S a (tyC c k) k)
def af (base : Nat) (S : St) (a t : Nat) : (Nat → Int32) ⊕ (Nat → Int64) ⊕ (Nat → UInt32) ⊕ (Nat → UInt64) ⊕ (Nat → Option Nat) :=
  if t = 1 then .inr (.inl (gL S a)) else if t = 5 then .inr (.inr (.inr (.inr (fun k => ro base (gR S a k))))) else .inl (gI S a)
def ce (base : Nat) (ck : Nat → ClassId) (S : St) (a : Nat) : va_E :=
  if gK S a < 100 then .inr (gK S a, fl base S a (gK S a)) else .inl (ck (gK S a - 100), (gN S a, af base S a (gK S a - 100)))
def wl (base : Nat) (ck : Nat → ClassId) (S : St) : va_W := (List.range (gZ S)).map (fun p => (base + (p + 1), ce base ck S (p + 1)))
theorem wl_get {base : Nat} {ck : Nat → ClassId} {S : St} {a : Nat} (h0 : 0 < a) (h : a ≤ gZ S) : (wl base ck S)[a - 1]? = some (base + a, ce base ck S a) := by
  unfold wl
  rw [List.getElem?_map, List.getElem?_range (by omega)]
  have : a - 1 + 1 = a := by omega
  simp [this]
theorem wl_len (base : Nat) (ck : Nat → ClassId) (S : St) : (wl base ck S).length = gZ S := by simp [wl]
theorem wl_at {base : Nat} {ck : Nat → ClassId} {S : St} {k : Nat} {q : Nat × va_E} (h : (wl base ck S)[k]? = some q) : k < gZ S ∧ q = (base + (k + 1), ce base ck S (k + 1)) := by
  have hk : k < gZ S := by
    have := (List.getElem?_eq_some_iff.mp h).1
    rwa [wl_len] at this
  have h2 := wl_get (base := base) (ck := ck) (S := S) (a := k + 1) (by omega) (by omega)
  rw [Nat.add_sub_cancel, h] at h2
  exact ⟨hk, Option.some.inj h2⟩
theorem wl_set {base : Nat} {ck : Nat → ClassId} {S S' : St} {a : Nat} {x : va_E} (hz : gZ S' = gZ S) (h0 : 0 < a) (h : a ≤ gZ S) (ho : ∀ b, b ≠ a → ce base ck S' b = ce base ck S b) (hx : x = ce base ck S' a) : (wl base ck S).set (a - 1) (base + a, x) = wl base ck S' := by
  apply List.ext_getElem?
  intro k
  by_cases hk : k < gZ S
  · rw [List.getElem?_set]
    have h1 := wl_get (base := base) (ck := ck) (S := S) (a := k + 1) (by omega) (by omega)
    have h2 := wl_get (base := base) (ck := ck) (S := S') (a := k + 1) (by omega) (by omega)
    rw [Nat.add_sub_cancel] at h1 h2
    by_cases e : a - 1 = k
    · have ea : a = k + 1 := by omega
      subst ea
      rw [if_pos e, if_pos (by rw [wl_len]; omega), h2, hx]
    · rw [if_neg e, h1, h2, ho (k + 1) (by omega)]
  · rw [List.getElem?_eq_none (by rw [List.length_set, wl_len]; omega), List.getElem?_eq_none (by rw [wl_len]; omega)]
theorem wl_push {base : Nat} {ck : Nat → ClassId} {S S' : St} {x : va_E} (hz : gZ S' = gZ S + 1) (ho : ∀ b, b ≤ gZ S → ce base ck S' b = ce base ck S b) (hx : x = ce base ck S' (gZ S + 1)) : wl base ck S ++ [(base + (gZ S + 1), x)] = wl base ck S' := by
  unfold wl
  rw [hz, List.range_succ, List.map_append]
  congr 1
  · apply List.map_congr_left
    intro p hp
    rw [ho (p + 1) (by have := List.mem_range.mp hp; omega)]
  · simp [hx]
theorem wl_D (base : Nat) (ck : Nat → ClassId) (S : St) : va_D (fun q => base + 1 ≤ q) (wl base ck S) := by
  refine ⟨fun i j p q hi hj e => ?_, fun k q hk => ?_⟩
  · obtain ⟨-, rfl⟩ := wl_at hi
    obtain ⟨-, rfl⟩ := wl_at hj
    dsimp only at e
    omega
  · obtain ⟨-, rfl⟩ := wl_at hk
    dsimp only
    omega
def tysC (ck : Nat → ClassId) : List (ClassId × FieldType) := [(ck 0, tyK 0), (ck 1, tyK 1), (ck 2, tyK 2), (ck 3, tyK 3), (ck 4, tyK 4), (ck 5, tyK 5)]
/-- the heap holds the state -/
def HR (base : Nat) (D : va_G) (ck : Nat → ClassId) (S : St) (H : Heap) : Prop := va_P D vwCl (wl base ck S) H ∧ ∀ a, a = 0 ∨ gZ S < a → gK S a = 9999
theorem HR.live {base : Nat} {D : va_G} {ck : Nat → ClassId} {S : St} {H : Heap} (h : HR base D ck S H) {a c : Nat} (hk : gK S a = c) (hc : c ≠ 9999) : 0 < a ∧ a ≤ gZ S := by
  have := h.2 a
  refine ⟨Nat.pos_of_ne_zero fun e => hc ?_, Nat.not_lt.mp fun e => hc ?_⟩
  · rw [← hk]; exact this (Or.inl e)
  · rw [← hk]; exact this (Or.inr e)
theorem HR.top {base : Nat} {D : va_G} {ck : Nat → ClassId} {S : St} {H : Heap} (h : HR base D ck S H) {a : Nat} (h0 : 0 < a) (ha : a ≤ gZ S) : base + a < H.size := (h.1 _ _ (wl_get h0 ha)).lt
