/-! WHERE A WALK STANDS: the machine's context as one tuple -/
abbrev Cx : Type := (Program × Launch × Env × Room × State × MethodId × Array Value × List Frame × Method × Code) × ((State → Prop) × Nat × Heap × va_G × (Nat → ClassId) × (Nat → Option Nat)) × (ByteArray × Nat × String × St × Option Value × St)
abbrev xp (X : Cx) : Program := X.1.1
abbrev xl (X : Cx) : Launch := X.1.2.1
abbrev xe (X : Cx) : Env := X.1.2.2.1
abbrev xR (X : Cx) : Room := X.1.2.2.2.1
abbrev xs (X : Cx) : State := X.1.2.2.2.2.1
abbrev xm (X : Cx) : MethodId := X.1.2.2.2.2.2.1
abbrev xa (X : Cx) : Array Value := X.1.2.2.2.2.2.2.1
abbrev xw (X : Cx) : List Frame := X.1.2.2.2.2.2.2.2.1
abbrev xh (X : Cx) : Method := X.1.2.2.2.2.2.2.2.2.1
abbrev xc (X : Cx) : Code := X.1.2.2.2.2.2.2.2.2.2
abbrev xQ (X : Cx) : State → Prop := X.2.1.1
abbrev xb (X : Cx) : Nat := X.2.1.2.1
abbrev xH (X : Cx) : Heap := X.2.1.2.2.1
abbrev xD (X : Cx) : va_G := X.2.1.2.2.2.1
abbrev xk (X : Cx) : Nat → ClassId := X.2.1.2.2.2.2.1
abbrev xS (X : Cx) : Nat → Option Nat := X.2.1.2.2.2.2.2
abbrev xy (X : Cx) : ByteArray := X.2.2.1
abbrev xn (X : Cx) : Nat := X.2.2.2.1
abbrev xo (X : Cx) : String := X.2.2.2.2.1
abbrev x0 (X : Cx) : St := X.2.2.2.2.2.1
abbrev xr (X : Cx) : Option Value := X.2.2.2.2.2.2.1
abbrev xf (X : Cx) : St := X.2.2.2.2.2.2.2
def cv (base : Nat) (ad : Nat → Option Nat) (v : Value) : Value := match v with
  | .ref k => rv base k
  | .retAddr k => va_rf (ad k)
  | v => v
abbrev xv (X : Cx) : Value → Value := cv (xb X) (xS X)
/-- the words that every method may use -/
def T0 : List Cond := lw_tbl.filter goodWord
theorem in_T0 {w : Cond} (i : Nat) (h : lw_tbl[i]? = some w) (hg : goodWord w = true) : w ∈ T0 := List.mem_filter.mpr ⟨List.mem_of_getElem? h, hg⟩
def nwl : List Cond := [.methodLinkNest "TruceWall" 19 ⟨"TruceWall$Reader", "<init>", "()V"⟩ "TruceWall", .methodLinkNest "TruceWall" 26 ⟨"TruceWall$Site", "<init>", "()V"⟩ "TruceWall", .methodLinkNest "TruceWall$Site" 39 ⟨"TruceWall$Reckoner", "<init>", "()V"⟩ "TruceWall", .methodLinkNest "TruceWall" 39 ⟨"TruceWall$Play", "<init>", "()V"⟩ "TruceWall", .methodLinkNest "TruceWall" 49 ⟨"TruceWall$Ways", "<init>", "()V"⟩ "TruceWall", .methodLinkNest "TruceWall" 77 ⟨"TruceWall$Mark", "<init>", "()V"⟩ "TruceWall", .methodLinkNest "TruceWall" 220 ⟨"TruceWall$Play", "outcome", "(JII)I"⟩ "TruceWall", .castable "[I" "java/lang/Cloneable"]
/-- the constant texts: where they lie, and what they hold -/
def vkB0 : List Int32 := "wall  stone gates fine  plain bridgeround twin  lent  cut   wide  level holes day   not   and   or    ".toList.map (fun c => Int32.ofNat c.toNat)
def vkB1 : List Int32 := "no such state".toList.map (fun c => Int32.ofNat c.toNat)
abbrev vk_fmt : String := "Ljava/util/function/BiFunction;"
abbrev vk_pre : String := "jdk/internal/util/Preconditions"
abbrev vk_words : String := "wall  stone gates fine  plain bridgeround twin  lent  cut   wide  level holes day   not   and   or    "
/-- constant texts and statics of the JDK that nobody writes -/
def SX (ad : Nat → Option Nat) (A : Nat → Prop) (U : State) (H : Heap) : Prop :=
  (∃ q qv : Nat, ad 0 = some q ∧ ad 10 = some qv ∧ vk_R "TruceWall$Reader" 157 vk_words q U ∧ va_O "java/lang/String" q A U H ∧ va_OF "java/lang/String" "coder" "B" (.int 0) q A U H ∧ va_OF "java/lang/String" "value" "[B" (.ref qv) q A U H ∧ va_T .byte qv 102 (fun j => .int (vkB0.getD j 0)) A U H) ∧ va_Z "java/lang/String" "COMPACT_STRINGS" "Z" (.int 1) A U H ∧ va_Z vk_pre "SIOOBE_FORMATTER" vk_fmt (va_rf (ad 20)) A U H
def TB (base : Nat) (Hb : Heap) (D : va_G) (ck : Nat → ClassId) (ad : Nat → Option Nat) (U : State) : Prop :=
  va_K D vwCl (tysC ck) U ∧ (∀ w ∈ nwl, va_Nw w U) ∧ va_AO "TruceWall$Mark" U ∧ SX ad (fun q => base + 1 ≤ q) U U.heap
def XO (X : Cx) : Prop :=
  (xp X).tables.exec = Jvm.exec ∧ (xc X).code = xy X ∧ (xc X).maxLocals = xn X ∧ (xs X).vm.findClass (xo X) = some (xm X).cls ∧ (∀ w ∈ T0, w.before (xa X) (xs X) = true) ∧ (xh X).locks = false ∧ TB (xb X) (xH X) (xD X) (xk X) (xS X) (xs X) ∧ (gZ (xf X) - gZ (x0 X) ≤ (xR X).cells ∧ gU (xf X) - gU (x0 X) ≤ (xR X).slots) ∧ ((xs X).heap.size = xb X + 1 + gZ (x0 X) ∧ ∀ q : Nat, q ≤ xb X → (xs X).heap[q]? = (xH X)[q]?) ∧ 1 ≤ (xR X).frames ∧ 64 ≤ (xR X).locals
theorem XO.ex {X : Cx} (h : XO X) : (xp X).tables.exec = Jvm.exec := h.1
theorem XO.by {X : Cx} (h : XO X) : (xc X).code = xy X := h.2.1
theorem XO.ml {X : Cx} (h : XO X) : (xc X).maxLocals = xn X := h.2.2.1
theorem XO.ow {X : Cx} (h : XO X) : (xs X).vm.findClass (xo X) = some (xm X).cls := h.2.2.2.1
theorem XO.ts {X : Cx} (h : XO X) : ∀ w ∈ T0, w.before (xa X) (xs X) = true := h.2.2.2.2.1
theorem XO.lk {X : Cx} (h : XO X) : (xh X).locks = false := h.2.2.2.2.2.1
theorem XO.tb {X : Cx} (h : XO X) : TB (xb X) (xH X) (xD X) (xk X) (xS X) (xs X) := h.2.2.2.2.2.2.1
theorem XO.rm {X : Cx} (h : XO X) : gZ (xf X) - gZ (x0 X) ≤ (xR X).cells ∧ gU (xf X) - gU (x0 X) ≤ (xR X).slots := h.2.2.2.2.2.2.2.1
theorem XO.sz {X : Cx} (h : XO X) : (xs X).heap.size = xb X + 1 + gZ (x0 X) := h.2.2.2.2.2.2.2.2.1.1
theorem XO.lo {X : Cx} (h : XO X) : ∀ q : Nat, q ≤ xb X → (xs X).heap[q]? = (xH X)[q]? := h.2.2.2.2.2.2.2.2.1.2
theorem XO.rf {X : Cx} (h : XO X) : 1 ≤ (xR X).frames ∧ 64 ≤ (xR X).locals := h.2.2.2.2.2.2.2.2.2
/-- the context of a method's body: its bytes, its class -/
def XM (X : Cx) (cc : ByteArray) (own : String) : Prop := XO X ∧ xy X = cc ∧ xo X = own
theorem XM.by {X : Cx} {cc : ByteArray} {own : String} (h : XM X cc own) : (xc X).code = cc := h.1.by.trans h.2.1
theorem XM.ow {X : Cx} {cc : ByteArray} {own : String} (h : XM X cc own) : (xs X).vm.findClass own = some (xm X).cls := by rw [← h.2.2]; exact h.1.ow
abbrev xA (X : Cx) : Nat → Prop := fun q => xb X + 1 ≤ q
/-- the machine's locals hold the abstract ones -/
def lh (base : Nat) (ad : Nat → Option Nat) (lm : Array Slot) (n : Nat) (ls : List Value) : Prop := lm.size = n ∧ lv_wf lm ∧ ls.length = n ∧ ∀ i, nth ls i ≠ .null → lm[i]? = some (.val (cv base ad (nth ls i)))
def WI (X : Cx) (pc : Nat) (ls st : List Value) (S : St) : Prop :=
  ∀ (H : Heap) (locs : List Loc) (lm : Array Slot), HR (xb X) (xD X) (xk X) S H → va_S (xA X) (xs X).heap H locs → lh (xb X) (xS X) lm (xn X) ls → gZ (x0 X) ≤ gZ S → gU (x0 X) ≤ gU S →
    W (xp X) (xl X) (xe X) (xR X) (xs X) (xm X) (xa X) (xw X) (xh X) (xc X) H locs (gZ S - gZ (x0 X)) (gU S - gU (x0 X)) (xQ X) (F0 (xm X) pc lm (st.map (xv X)))
def MW (X : Cx) (pc : Nat) (ls st : List Value) (S : St) : Prop := (gZ S ≤ gZ (xf X) ∧ gU S ≤ gU (xf X)) ∧ WI X pc ls st S
def RW (X : Cx) (pcs : Nat → Nat) (x : Option Rs) : Prop := match x with
  | some (.inl c) => MW X (pcs c.1) c.2.1 c.2.2.1 c.2.2.2
  | some (.inr q) => q = (xr X, xf X)
  | none => False
def GK (X : Cx) (pcs : Nat → Nat) (pc : Nat) (k : K) : Prop := ∀ (ls st : List Value) (S : St), RW X pcs (k ls st S) → MW X pc ls st S
section GKS
variable {X : Cx} {ps : Nat → Nat} {pc : Nat} {k kt kf : K}
theorem tI_el {st : List Value} {f : Int32 → List Value → Option Rs} (h : RW X ps (tI st f)) : ∃ x st', st = .int x :: st' ∧ RW X ps (f x st') := by
  unfold tI at h
  split at h
  · exact ⟨_, _, rfl, h⟩
  · exact h.elim
theorem tL_el {st : List Value} {f : Int64 → List Value → Option Rs} (h : RW X ps (tL st f)) : ∃ x st', st = .long x :: st' ∧ RW X ps (f x st') := by
  unfold tL at h
  split at h
  · exact ⟨_, _, rfl, h⟩
  · exact h.elim
theorem tR_el {st : List Value} {f : Nat → List Value → Option Rs} (h : RW X ps (tR st f)) : ∃ x st', st = .ref x :: st' ∧ RW X ps (f x st') := by
  unfold tR at h
  split at h
  · exact ⟨_, _, rfl, h⟩
  · exact h.elim
theorem tS_el {st : List Value} {f : Nat → List Value → Option Rs} (h : RW X ps (tS st f)) : ∃ x st', st = .retAddr x :: st' ∧ RW X ps (f x st') := by
  unfold tS at h
  split at h
  · exact ⟨_, _, rfl, h⟩
  · exact h.elim
theorem t1_el {st : List Value} {f : Value → List Value → Option Rs} (h : RW X ps (t1 st f)) : ∃ v st', st = v :: st' ∧ (xv X v).category = 1 ∧ RW X ps (f v st') := by
  unfold t1 at h
  split at h
  · exact ⟨_, _, rfl, rfl, h⟩
  · refine ⟨_, _, rfl, ?_, h⟩
    rename_i x _
    cases x <;> rfl
  · exact h.elim
theorem vI_el {v : Value} {f : Int32 → Option Rs} (h : RW X ps (vI v f)) : ∃ x, v = .int x ∧ RW X ps (f x) := by
  unfold vI at h
  split at h
  · exact ⟨_, rfl, h⟩
  · exact h.elim
theorem vL_el {v : Value} {f : Int64 → Option Rs} (h : RW X ps (vL v f)) : ∃ x, v = .long x ∧ RW X ps (f x) := by
  unfold vL at h
  split at h
  · exact ⟨_, rfl, h⟩
  · exact h.elim
theorem vR_el {v : Value} {f : Nat → Option Rs} (h : RW X ps (vR v f)) : ∃ x, v = .ref x ∧ RW X ps (f x) := by
  unfold vR at h
  split at h
  · exact ⟨_, rfl, h⟩
  · exact h.elim
theorem vS_el {v : Value} {f : Nat → Option Rs} (h : RW X ps (vS v f)) : ∃ x, v = .retAddr x ∧ RW X ps (f x) := by
  unfold vS at h
  split at h
  · exact ⟨_, rfl, h⟩
  · exact h.elim
theorem if_el {c : Prop} [Decidable c] {x : Option Rs} (h : RW X ps (if c then x else none)) : c ∧ RW X ps x := by
  by_cases hc : c
  · rw [if_pos hc] at h; exact ⟨hc, h⟩
  · rw [if_neg hc] at h; exact h.elim
theorem fi_el {c : Prop} [Decidable c] {x : Option Rs} (h : RW X ps (if c then none else x)) : ¬ c ∧ RW X ps x := by
  by_cases hc : c
  · rw [if_pos hc] at h; exact h.elim
  · rw [if_neg hc] at h; exact ⟨hc, h⟩
theorem c8_el {st : List Value} {x : Option Rs} (h : RW X ps (ck8 st x)) : catS st ≤ 8 ∧ RW X ps x := by
  unfold ck8 at h
  cases hc : Nat.ble (catS st) 8 with
  | true => rw [hc] at h; exact ⟨Nat.le_of_ble_eq_true hc, h⟩
  | false => rw [hc] at h; exact h.elim
theorem gk_jmp (b : Nat) (h : ps b = pc) : GK X ps pc (o_jmp b) := fun ls st S hr => by
  rw [← h]; exact hr
theorem gk_eq {pc' : Nat} (h : pc' = pc) (hk : GK X ps pc' k) : GK X ps pc k := h ▸ hk
end GKS
