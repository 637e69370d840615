/-! the tokens of a truce's text -/
def ltr (c : Nat) : Bool := decide (97 ≤ c ∧ c ≤ 122)
def dgt (c : Nat) : Bool := decide (48 ≤ c ∧ c ≤ 57)
def blk (c : Nat) : Bool := decide (c = 10 ∨ c = 32)
def sgn (c : Nat) : Bool := decide (c = 40 ∨ c = 41 ∨ c = 60 ∨ c = 61 ∨ c = 43 ∨ c = 45 ∨ c = 42 ∨ c = 59)
def wh (f : Nat → Bool) (tp : List Nat) (p : Nat) : Nat := p + ((tp.drop p).takeWhile f).length
section LEX
variable {f : Nat → Bool} {tp : List Nat} {p c : Nat}
theorem drop_c (h : tp[p]? = some c) : tp.drop p = c :: tp.drop (p + 1) := by
  obtain ⟨hp, e⟩ := List.getElem?_eq_some_iff.mp h
  rw [List.drop_eq_getElem_cons hp, e]
theorem wh_s (h : tp[p]? = some c) (hf : f c = true) : wh f tp p = wh f tp (p + 1) := by
  unfold wh
  rw [drop_c h, List.takeWhile_cons_of_pos hf, List.length_cons]
  omega
theorem wh_e (h : tp[p]? = some c) (hf : ¬ f c = true) : wh f tp p = p := by
  unfold wh
  rw [drop_c h, List.takeWhile_cons_of_neg hf]
  rfl
theorem wh_n (h : tp.length ≤ p) : wh f tp p = p := by
  unfold wh
  rw [List.drop_eq_nil_of_le h]
  rfl
theorem wh_ge : p ≤ wh f tp p := Nat.le_add_right _ _
theorem wh_le (h : p ≤ tp.length) : wh f tp p ≤ tp.length := by
  unfold wh
  have : ((tp.drop p).takeWhile f).length ≤ (tp.drop p).length := (List.takeWhile_sublist _).length_le
  rw [List.length_drop] at this
  omega
theorem wh_at (h : p < wh f tp p) : ∃ c, tp[p]? = some c ∧ f c = true := by
  cases hc : tp[p]? with
  | none => rw [wh_n (List.getElem?_eq_none_iff.mp hc)] at h; omega
  | some c =>
    by_cases hf : f c = true
    · exact ⟨c, rfl, hf⟩
    · rw [wh_e hc hf] at h; omega
theorem wh_in : ∀ (n : Nat) {p k : Nat}, n = wh f tp p - p → p ≤ k → k < wh f tp p → ∃ c, tp[k]? = some c ∧ f c = true := by
  intro n
  induction n with
  | zero => intro p k h1 h2 h3; omega
  | succ n ih =>
    intro p k h1 h2 h3
    obtain ⟨c, hc, hf⟩ := wh_at (f := f) (tp := tp) (p := p) (by omega)
    by_cases e : k = p
    · exact ⟨c, by rw [e]; exact hc, hf⟩
    · rw [wh_s hc hf] at h1 h3
      exact ih (by omega) (by omega) h3
def seg (tp : List Nat) (a b : Nat) : List Nat := (tp.drop a).take (b - a)
theorem seg_n {a b : Nat} (h : b ≤ tp.length) : (seg tp a b).length = b - a := by
  unfold seg
  rw [List.length_take, List.length_drop]
  omega
theorem seg_g {a b j : Nat} (h : j < b - a) : (seg tp a b)[j]? = tp[a + j]? := by
  unfold seg
  rw [List.getElem?_take_of_lt h, List.getElem?_drop]
theorem seg_s {a b : Nat} (h1 : a ≤ b) (h : tp[b]? = some c) : seg tp a (b + 1) = seg tp a b ++ [c] := by
  have hb := (List.getElem?_eq_some_iff.mp h).1
  unfold seg
  rw [show b + 1 - a = (b - a) + 1 by omega, List.take_succ, List.getElem?_drop, show a + (b - a) = b by omega, h]
  rfl
theorem seg_0 {a : Nat} : seg tp a a = [] := by unfold seg; rw [Nat.sub_self]; rfl
/-- the words of the document -/
def WL : List (List Nat) := [[119, 97, 108, 108], [115, 116, 111, 110, 101], [103, 97, 116, 101, 115], [102, 105, 110, 101], [112, 108, 97, 105, 110], [98, 114, 105, 100, 103, 101], [114, 111, 117, 110, 100], [116, 119, 105, 110], [108, 101, 110, 116], [99, 117, 116], [119, 105, 100, 101], [108, 101, 118, 101, 108], [104, 111, 108, 101, 115], [100, 97, 121], [110, 111, 116], [97, 110, 100], [111, 114]]
def kwF (w : List Nat) : List (List Nat) → Nat → Nat
  | [], _ => 256
  | v :: vs, i => if w = v then 128 + i else kwF w vs (i + 1)
def kw (w : List Nat) : Nat := kwF w WL 0
theorem kwF_c {w : List Nat} : ∀ {vs : List (List Nat)} {i : Nat}, kwF w vs i = 256 ∨ ∃ j, vs[j]? = some w ∧ kwF w vs i = 128 + i + j
  | [], i => Or.inl rfl
  | v :: vs, i => by
    by_cases h : w = v
    · refine Or.inr ⟨0, by rw [h]; rfl, ?_⟩
      show (if w = v then 128 + i else _) = _
      rw [if_pos h]
      rfl
    · have e : kwF w (v :: vs) i = kwF w vs (i + 1) := if_neg h
      rw [e]
      rcases kwF_c (w := w) (vs := vs) (i := i + 1) with h | ⟨j, h1, h2⟩
      · exact Or.inl h
      · exact Or.inr ⟨j + 1, h1, by rw [h2]; omega⟩
theorem kw_own : ∀ i, i < 17 → kw (WL.getD i []) = 128 + i := by decide
theorem kw_iff {w : List Nat} {i : Nat} {v : List Nat} (h : WL[i]? = some v) : kw w = 128 + i ↔ w = v := by
  have hi : i < 17 := (List.getElem?_eq_some_iff.mp h).1
  constructor
  · intro e
    rcases kwF_c (w := w) (vs := WL) (i := 0) with h1 | ⟨j, h1, h2⟩
    · have : kw w = 256 := h1
      omega
    · have h3 : kw w = 128 + 0 + j := h2
      have : j = i := by omega
      rw [this, h] at h1
      exact (Option.some.inj h1).symm
  · intro e
    have := kw_own i hi
    rw [List.getD_eq_getElem?_getD, h] at this
    rw [e]
    exact this
theorem kw_cases (w : List Nat) : kw w = 256 ∨ (128 ≤ kw w ∧ kw w < 145) := by
  rcases kwF_c (w := w) (vs := WL) (i := 0) with h1 | ⟨j, h1, h2⟩
  · exact Or.inl h1
  · have h3 : kw w = 128 + 0 + j := h2
    have := (List.getElem?_eq_some_iff.mp h1).1
    have h4 : WL.length = 17 := rfl
    exact Or.inr ⟨by omega, by omega⟩
def dval (l : List Nat) : Nat := l.foldl (fun v c => v * 10 + (c - 48)) 0
theorem dval_s (l : List Nat) (c : Nat) : dval (l ++ [c]) = dval l * 10 + (c - 48) := by unfold dval; rw [List.foldl_append]; rfl
def bval (l : List Nat) : Nat := l.foldl (fun v c => v * 256 + c) 0
theorem bval_s (l : List Nat) (c : Nat) : bval (l ++ [c]) = bval l * 256 + c := by unfold bval; rw [List.foldl_append]; rfl
/-- the token that follows the place p: where it is, what it is, where it ends -/
def tkA (tp : List Nat) (p : Nat) : Nat := wh blk tp p
def tkC (tp : List Nat) (p : Nat) : Nat := match tp[tkA tp p]? with
  | none => 259
  | some c => if ltr c then (if 8 < wh ltr tp (tkA tp p) - tkA tp p then 258 else kw (seg tp (tkA tp p) (wh ltr tp (tkA tp p)))) else if dgt c then (if 4 < wh dgt tp (tkA tp p) - tkA tp p then 258 else 257) else if sgn c then c else 258
def tkN (tp : List Nat) (p : Nat) : Nat := match tp[tkA tp p]? with
  | none => tkA tp p
  | some c => if ltr c then wh ltr tp (tkA tp p) else if dgt c then wh dgt tp (tkA tp p) else tkA tp p + 1
def tkW (tp : List Nat) (p : Nat) : List Nat := seg tp (tkA tp p) (wh ltr tp (tkA tp p))
def tkV (tp : List Nat) (p : Nat) : Nat := dval (seg tp (tkA tp p) (wh dgt tp (tkA tp p)))
end LEX
/-! the class's signs -/
def WS : List Nat := [119, 97, 108, 108, 32, 32, 115, 116, 111, 110, 101, 32, 103, 97, 116, 101, 115, 32, 102, 105, 110, 101, 32, 32, 112, 108, 97, 105, 110, 32, 98, 114, 105, 100, 103, 101, 114, 111, 117, 110, 100, 32, 116, 119, 105, 110, 32, 32, 108, 101, 110, 116, 32, 32, 99, 117, 116, 32, 32, 32, 119, 105, 100, 101, 32, 32, 108, 101, 118, 101, 108, 32, 104, 111, 108, 101, 115, 32, 100, 97, 121, 32, 32, 32, 110, 111, 116, 32, 32, 32, 97, 110, 100, 32, 32, 32, 111, 114, 32, 32, 32, 32]
theorem vk_ws : ∀ k, k < 102 → (((vkB0.getD k 0) &&& 255).toUInt32 % 65536).toInt32 = nI (WS.getD k 0) := by decide +kernel
theorem ws_lt : ∀ k, k < 102 → WS.getD k 0 < 128 := by decide
theorem ws_wl : ∀ i, i < 17 → ∀ j, j < 6 → WS.getD (6 * i + j) 0 = (WL.getD i []).getD j 32 := by decide
theorem wl_l : ∀ i, i < 17 → (WL.getD i []).length ≤ 6 ∧ ∀ c ∈ WL.getD i [], 97 ≤ c ∧ c ≤ 122 := by decide
section CLS
variable {S : St}
set_option maxRecDepth 4096 in
theorem f193 {d k : Nat} (hk : k < 102) : F (d + 1) 193 [.int (nI k), .int 102, .retAddr 20] S = some (some (.int (nI k)), S) := by
  refine fq193 (w193_0 ?_)
  refine W_f (by rw [c0, i_lt (by omega) (by decide)]; omega) ?_
  refine W_t (by rw [show (102 : Int32) = nI 102 from rfl, i_lt (by omega) (by decide)]; exact hk) ?_
  exact ⟨rfl, rfl⟩
set_option maxRecDepth 4096 in
theorem f192 {d k : Nat} (hk : k < 102) : F (d + 2) 192 [.int (nI k), .int 102] S = some (none, S) := by
  refine fq192 (w192_0 ?_)
  refine W_I (f193 hk) ?_
  exact ⟨rfl, rfl⟩
set_option maxRecDepth 4096 in
theorem f191 {d k : Nat} (hk : k < 102) : F (d + 3) 191 [.retAddr 10, .int (nI k)] S = some (some (.int (nI (WS.getD k 0))), S) := by
  have h := ws_lt k hk
  refine fq191 (w191_0 ?_)
  refine W_t (rfl) ?_
  refine W_V (f192 hk) ?_
  refine W_t (⟨rfl, inB_n hk (by decide)⟩) ?_
  rw [nI_clamp (by omega), vk_ws k hk]
  refine W_t (by rw [nI_toInt (by omega)]; exact ⟨by omega, by omega⟩) ?_
  exact ⟨rfl, rfl⟩
set_option maxRecDepth 4096 in
theorem f190 {d : Nat} : F (d + 1) 190 [.retAddr 0] S = some (some (.int 1), S) := by
  refine fq190 (w190_0 ?_)
  refine W_f (by decide) ?_
  refine W_t (rfl) ?_
  refine W_t (rfl) ?_
  refine W_t (Or.inr rfl) ?_
  exact ⟨rfl, rfl⟩
set_option maxRecDepth 4096 in
theorem f189 {d k : Nat} (hk : k < 102) : F (d + 4) 189 [.retAddr 0, .int (nI k)] S = some (some (.int (nI (WS.getD k 0))), S) := by
  have h := ws_lt k hk
  refine fq189 (w189_0 ?_)
  refine W_t (rfl) ?_
  refine W_I (f190) ?_
  refine W_f (by decide) ?_
  refine W_t (rfl) ?_
  refine W_I (f191 hk) ?_
  refine W_t (by rw [nI_toInt (by omega)]; exact ⟨by omega, by omega⟩) ?_
  exact ⟨rfl, rfl⟩
end CLS
