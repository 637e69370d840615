/-! the reference's reader of a fine, as a machine over tokens; and what the parts of the class say of it -/
/-- depth, whether a part is wanted, what opened, what is compared, the code, the place -/
abbrev RS : Type := Nat × Bool × (Nat → Nat) × (Nat → Bool) × List Nat × Nat
def upN (f : Nat → Nat) (k v : Nat) : Nat → Nat := fun i => if i = k then v else f i
def upB (f : Nat → Bool) (k : Nat) (v : Bool) : Nat → Bool := fun i => if i = k then v else f i
def popN (op : Nat → Nat) : Nat → Nat
  | 0 => 0
  | l + 1 => if op (l + 1) = 1 then popN op l else l + 1
abbrev isF (c : Nat) : Prop := 138 ≤ c ∧ c ≤ 141
/-- one token: on, or a fault, or the end with the code and the place behind -/
def rNext (tp : List Nat) (s : RS) : RS ⊕ (Nat ⊕ (List Nat × Nat)) :=
  let c := tkC tp s.2.2.2.2.2
  if s.2.1 = true then
    (if ¬ isF c ∧ c ≠ 142 ∧ c ≠ 40 ∧ c ≠ 257 then .inr (.inl (1 + 16 * tkA tp s.2.2.2.2.2))
    else if s.1 = 5 then .inr (.inl (5 + 16 * tkA tp s.2.2.2.2.2))
    else if c = 142 ∨ c = 40 then .inl ⟨s.1 + 1, true, upN s.2.2.1 (s.1 + 1) (if c = 142 then 1 else 2), upB s.2.2.2.1 (s.1 + 1) false, s.2.2.2.2.1 ++ [if c = 142 then 30 else 28], tkN tp s.2.2.2.2.2⟩
    else .inl ⟨popN s.2.2.1 s.1, false, s.2.2.1, s.2.2.2.1, s.2.2.2.2.1 ++ [if isF c then c - 137 else 100 + tkV tp s.2.2.2.2.2], tkN tp s.2.2.2.2.2⟩)
  else if c = 43 ∨ c = 45 ∨ c = 42 then .inl ⟨s.1, true, s.2.2.1, s.2.2.2.1, s.2.2.2.2.1 ++ [if c = 43 then 20 else if c = 45 then 21 else 22], tkN tp s.2.2.2.2.2⟩
  else if (c = 60 ∨ c = 61) ∧ s.2.2.2.1 s.1 = false then .inl ⟨s.1, true, s.2.2.1, upB s.2.2.2.1 s.1 true, s.2.2.2.2.1 ++ [if c = 60 then 24 else 25], tkN tp s.2.2.2.2.2⟩
  else if c = 143 ∨ c = 144 then .inl ⟨s.1, true, s.2.2.1, upB s.2.2.2.1 s.1 false, s.2.2.2.2.1 ++ [if c = 143 then 26 else 27], tkN tp s.2.2.2.2.2⟩
  else if c = 41 ∧ 0 < s.1 then .inl ⟨popN s.2.2.1 (s.1 - 1), false, s.2.2.1, s.2.2.2.1, s.2.2.2.2.1 ++ [29], tkN tp s.2.2.2.2.2⟩
  else if s.1 = 0 ∧ c = 59 then .inr (.inr (s.2.2.2.2.1, tkN tp s.2.2.2.2.2))
  else .inr (.inl (1 + 16 * tkA tp s.2.2.2.2.2))
def rIt (tp : List Nat) : Nat → RS → Option (Nat ⊕ (List Nat × Nat))
  | 0, _ => none
  | n + 1, s => match rNext tp s with
    | .inr r => some r
    | .inl s' => rIt tp n s'
def RRun (tp : List Nat) (s : RS) (r : Nat ⊕ (List Nat × Nat)) : Prop := ∃ n, rIt tp n s = some r
theorem RRun.fin {tp : List Nat} {s : RS} {r : Nat ⊕ (List Nat × Nat)} (h : rNext tp s = .inr r) : RRun tp s r := ⟨1, by show (match rNext tp s with | .inr r => some r | .inl s' => rIt tp 0 s') = _; rw [h]⟩
theorem RRun.go {tp : List Nat} {s s' : RS} {r : Nat ⊕ (List Nat × Nat)} (h : rNext tp s = .inl s') (h2 : RRun tp s' r) : RRun tp s r := by
  obtain ⟨n, hn⟩ := h2
  exact ⟨n + 1, by show (match rNext tp s with | .inr r => some r | .inl s' => rIt tp n s') = _; rw [h]; exact hn⟩
abbrev RIm (tp : List Nat) (s s' : RS) : Prop := ∀ r, RRun tp s' r → RRun tp s r
def botN (op : Nat → Nat) (d : Nat) : Prop := d = 0 ∨ op d ≠ 1
theorem botN.pop {op : Nat → Nat} {d : Nat} (h : botN op d) : popN op d = d := by
  cases d with
  | zero => rfl
  | succ l => exact if_neg (h.resolve_left (by omega))
def gpP (tp : List Nat) (d p q : Nat) (cs : List Nat) : Prop := ∀ op cm cs0, ∃ op' cm', (∀ i, i ≤ d → op' i = op i ∧ cm' i = cm i) ∧ RIm tp ⟨d, true, op, cm, cs0, p⟩ ⟨popN op d, false, op', cm', cs0 ++ cs, q⟩
def gpL (tp : List Nat) (d p q : Nat) (cs : List Nat) : Prop := ∀ op cm cs0, botN op d → ∃ op' cm', (∀ i, i ≤ d → op' i = op i ∧ cm' i = cm i) ∧ RIm tp ⟨d, true, op, cm, cs0, p⟩ ⟨d, false, op', cm', cs0 ++ cs, q⟩
def gpT (tp : List Nat) (d p q : Nat) (cs : List Nat) (b : Bool) : Prop := ∀ op cm cs0, botN op d → cm d = false → ∃ op' cm', (∀ i, i ≤ d → op' i = op i) ∧ (∀ i, i < d → cm' i = cm i) ∧ cm' d = b ∧ RIm tp ⟨d, true, op, cm, cs0, p⟩ ⟨d, false, op', cm', cs0 ++ cs, q⟩
def gxP (tp : List Nat) (d p f : Nat) : Prop := ∀ op cm cs0, RRun tp ⟨d, true, op, cm, cs0, p⟩ (.inl f)
def gxL (tp : List Nat) (d p f : Nat) : Prop := ∀ op cm cs0, botN op d → RRun tp ⟨d, true, op, cm, cs0, p⟩ (.inl f)
def gxT (tp : List Nat) (d p f : Nat) : Prop := ∀ op cm cs0, botN op d → cm d = false → RRun tp ⟨d, true, op, cm, cs0, p⟩ (.inl f)
section GR
variable {tp : List Nat} {d p q r f : Nat} {cs ds : List Nat} {b b' : Bool}
/-! parts -/
theorem pP_atom (hc : isF (tkC tp p) ∨ tkC tp p = 257) (hd : d < 5) : gpP tp d p (tkN tp p) [if isF (tkC tp p) then tkC tp p - 137 else 100 + tkV tp p] := by
  intro op cm cs0
  refine ⟨op, cm, fun i _ => ⟨rfl, rfl⟩, fun r h => RRun.go ?_ h⟩
  unfold isF at hc
  unfold rNext
  dsimp only
  rw [if_pos rfl, if_neg (by unfold isF; omega), if_neg (by omega), if_neg (by omega)]
theorem pP_not (hc : tkC tp p = 142) (hd : d < 5) (h : gpP tp (d + 1) (tkN tp p) q cs) : gpP tp d p q (30 :: cs) := by
  intro op cm cs0
  obtain ⟨op', cm', h1, h2⟩ := h (upN op (d + 1) 1) (upB cm (d + 1) false) (cs0 ++ [30])
  refine ⟨op', cm', fun i hi => ?_, fun r hr => RRun.go (s' := ⟨d + 1, true, upN op (d + 1) 1, upB cm (d + 1) false, cs0 ++ [30], tkN tp p⟩) ?_ (h2 r ?_)⟩
  · obtain ⟨a, b⟩ := h1 i (by omega)
    rw [a, b]
    exact ⟨if_neg (by omega), if_neg (by omega)⟩
  · unfold rNext
    dsimp only
    rw [if_pos rfl, if_neg (by omega), if_neg (by omega), if_pos (by omega), if_pos hc, if_pos hc]
  · have e : popN (upN op (d + 1) 1) (d + 1) = popN op d := by
      show (if upN op (d + 1) 1 (d + 1) = 1 then _ else _) = _
      rw [if_pos (show upN op (d + 1) 1 (d + 1) = 1 from if_pos rfl)]
      have : ∀ n, n ≤ d → popN (upN op (d + 1) 1) n = popN op n := by
        intro n
        induction n with
        | zero => intro _; rfl
        | succ n ih =>
          intro hn
          show (if upN op (d + 1) 1 (n + 1) = 1 then _ else _) = (if op (n + 1) = 1 then _ else _)
          rw [show upN op (d + 1) 1 (n + 1) = op (n + 1) from if_neg (by omega), ih (by omega)]
      exact this d (Nat.le_refl _)
    rw [e, List.append_assoc]
    exact hr
theorem xP_not (hc : tkC tp p = 142) (hd : d < 5) (h : gxP tp (d + 1) (tkN tp p) f) : gxP tp d p f := by
  intro op cm cs0
  refine RRun.go (s' := ⟨d + 1, true, upN op (d + 1) 1, upB cm (d + 1) false, cs0 ++ [30], tkN tp p⟩) ?_ (h _ _ _)
  unfold rNext
  dsimp only
  rw [if_pos rfl, if_neg (by omega), if_neg (by omega), if_pos (by omega), if_pos hc, if_pos hc]
theorem go_open {op : Nat → Nat} {cm : Nat → Bool} {cs0 : List Nat} (hc : tkC tp p = 40) (hd : d < 5) : rNext tp ⟨d, true, op, cm, cs0, p⟩ = .inl ⟨d + 1, true, upN op (d + 1) 2, upB cm (d + 1) false, cs0 ++ [28], tkN tp p⟩ := by
  unfold rNext
  dsimp only
  rw [if_pos rfl, if_neg (by omega), if_neg (by omega), if_pos (by omega), if_neg (by omega), if_neg (by omega)]
theorem pP_par (hc : tkC tp p = 40) (hd : d < 5) (h : gpT tp (d + 1) (tkN tp p) q cs b) (hq : tkC tp q = 41) : gpP tp d p (tkN tp q) (28 :: (cs ++ [29])) := by
  intro op cm cs0
  obtain ⟨op', cm', h1, h2, h3, h4⟩ := h (upN op (d + 1) 2) (upB cm (d + 1) false) (cs0 ++ [28]) (Or.inr (by unfold upN; rw [if_pos rfl]; decide)) (if_pos rfl)
  have ho : ∀ i, i ≤ d → op' i = op i := fun i hi => by rw [h1 i (by omega)]; exact if_neg (by omega)
  refine ⟨op', cm', fun i hi => ⟨ho i hi, ?_⟩, fun r hr => RRun.go (go_open hc hd) (h4 r (RRun.go (s' := ⟨popN op' d, false, op', cm', cs0 ++ [28] ++ cs ++ [29], tkN tp q⟩) ?_ ?_))⟩
  · rw [h2 i (by omega)]
    exact if_neg (by omega)
  · unfold rNext
    dsimp only
    rw [if_neg (by decide), if_neg (by omega), if_neg (by omega), if_neg (by omega), if_pos ⟨hq, by omega⟩]
    rfl
  · have e : popN op' d = popN op d := by
      have : ∀ n, n ≤ d → popN op' n = popN op n := by
        intro n
        induction n with
        | zero => intro _; rfl
        | succ n ih =>
          intro hn
          show (if op' (n + 1) = 1 then _ else _) = (if op (n + 1) = 1 then _ else _)
          rw [ho (n + 1) hn, ih (by omega)]
      exact this d (Nat.le_refl _)
    rw [e]
    have el : cs0 ++ [28] ++ cs ++ [29] = cs0 ++ (28 :: (cs ++ [29])) := by simp
    rw [el]
    exact hr
theorem xP_par (hc : tkC tp p = 40) (hd : d < 5) (h : gxT tp (d + 1) (tkN tp p) f) : gxP tp d p f := by
  intro op cm cs0
  exact RRun.go (go_open hc hd) (h _ _ _ (Or.inr (by unfold upN; rw [if_pos rfl]; decide)) (if_pos rfl))
/-- where nothing goes on -/
def ends (c : Nat) (b : Bool) : Prop := c ≠ 42 ∧ c ≠ 43 ∧ c ≠ 45 ∧ c ≠ 143 ∧ c ≠ 144 ∧ (b = false → c ≠ 60 ∧ c ≠ 61)
theorem xP_par2 (hc : tkC tp p = 40) (hd : d < 5) (h : gpT tp (d + 1) (tkN tp p) q cs b) (hq : tkC tp q ≠ 41) (he : ends (tkC tp q) b) : gxP tp d p (1 + 16 * tkA tp q) := by
  intro op cm cs0
  obtain ⟨op', cm', h1, h2, h3, h4⟩ := h (upN op (d + 1) 2) (upB cm (d + 1) false) (cs0 ++ [28]) (Or.inr (by unfold upN; rw [if_pos rfl]; decide)) (if_pos rfl)
  obtain ⟨e1, e2, e3, e4, e5, e6⟩ := he
  refine RRun.go (go_open hc hd) (h4 _ (RRun.fin ?_))
  unfold rNext
  dsimp only
  rw [if_neg (by decide), if_neg (by omega), if_neg (fun z => ?_), if_neg (by omega), if_neg (by omega), if_neg (by omega)]
  have := e6 (by rw [← h3]; exact z.2)
  have := z.1
  omega
theorem xP_1 (h : ¬ isF (tkC tp p) ∧ tkC tp p ≠ 142 ∧ tkC tp p ≠ 40 ∧ tkC tp p ≠ 257) : gxP tp d p (1 + 16 * tkA tp p) := by
  intro op cm cs0
  refine RRun.fin ?_
  unfold rNext
  dsimp only
  rw [if_pos rfl, if_pos h]
theorem xP_5 (h : ¬ (¬ isF (tkC tp p) ∧ tkC tp p ≠ 142 ∧ tkC tp p ≠ 40 ∧ tkC tp p ≠ 257)) : gxP tp 5 p (5 + 16 * tkA tp p) := by
  intro op cm cs0
  refine RRun.fin ?_
  unfold rNext
  dsimp only
  rw [if_pos rfl, if_neg h, if_pos rfl]
/-! products and sums -/
theorem gpP.l (h : gpP tp d p q cs) : gpL tp d p q cs := by
  intro op cm cs0 hb
  obtain ⟨op', cm', h1, h2⟩ := h op cm cs0
  rw [hb.pop] at h2
  exact ⟨op', cm', h1, h2⟩
theorem gxP.l (h : gxP tp d p f) : gxL tp d p f := fun op cm cs0 _ => h op cm cs0
theorem go_bin {op : Nat → Nat} {cm : Nat → Bool} {cs0 : List Nat} (hc : tkC tp q = 43 ∨ tkC tp q = 45 ∨ tkC tp q = 42) : rNext tp ⟨d, false, op, cm, cs0, q⟩ = .inl ⟨d, true, op, cm, cs0 ++ [if tkC tp q = 43 then 20 else if tkC tp q = 45 then 21 else 22], tkN tp q⟩ := by
  unfold rNext
  dsimp only
  rw [if_neg (by decide), if_pos hc]
theorem gpL.bin (h : gpL tp d p q cs) (hc : tkC tp q = 43 ∨ tkC tp q = 45 ∨ tkC tp q = 42) (h2 : gpL tp d (tkN tp q) r ds) : gpL tp d p r (cs ++ (if tkC tp q = 43 then 20 else if tkC tp q = 45 then 21 else 22) :: ds) := by
  intro op cm cs0 hb
  obtain ⟨op1, cm1, a1, a2⟩ := h op cm cs0 hb
  obtain ⟨op2, cm2, b1, b2⟩ := h2 op1 cm1 (cs0 ++ cs ++ [if tkC tp q = 43 then 20 else if tkC tp q = 45 then 21 else 22]) (by unfold botN; rw [(a1 d (Nat.le_refl _)).1]; exact hb)
  refine ⟨op2, cm2, fun i hi => ⟨(b1 i hi).1.trans (a1 i hi).1, (b1 i hi).2.trans (a1 i hi).2⟩, fun r' hr => a2 r' (RRun.go (go_bin hc) (b2 r' ?_))⟩
  rw [List.append_assoc, List.append_assoc]
  exact hr
theorem gpL.xbin (h : gpL tp d p q cs) (hc : tkC tp q = 43 ∨ tkC tp q = 45 ∨ tkC tp q = 42) (h2 : gxL tp d (tkN tp q) f) : gxL tp d p f := by
  intro op cm cs0 hb
  obtain ⟨op1, cm1, a1, a2⟩ := h op cm cs0 hb
  exact a2 _ (RRun.go (go_bin hc) (h2 _ _ _ (by unfold botN; rw [(a1 d (Nat.le_refl _)).1]; exact hb)))
/-! tests and E -/
theorem gpL.t (h : gpL tp d p q cs) : gpT tp d p q cs false := by
  intro op cm cs0 hb hm
  obtain ⟨op', cm', h1, h2⟩ := h op cm cs0 hb
  exact ⟨op', cm', fun i hi => (h1 i hi).1, fun i hi => (h1 i (by omega)).2, by rw [(h1 d (Nat.le_refl _)).2]; exact hm, h2⟩
theorem gxL.t (h : gxL tp d p f) : gxT tp d p f := fun op cm cs0 hb _ => h op cm cs0 hb
theorem go_cmp {op : Nat → Nat} {cm : Nat → Bool} {cs0 : List Nat} (hc : tkC tp q = 60 ∨ tkC tp q = 61) (hm : cm d = false) : rNext tp ⟨d, false, op, cm, cs0, q⟩ = .inl ⟨d, true, op, upB cm d true, cs0 ++ [if tkC tp q = 60 then 24 else 25], tkN tp q⟩ := by
  unfold rNext
  dsimp only
  rw [if_neg (by decide), if_neg (by omega), if_pos ⟨hc, hm⟩]
theorem gpL.cmp (h : gpL tp d p q cs) (hc : tkC tp q = 60 ∨ tkC tp q = 61) (h2 : gpL tp d (tkN tp q) r ds) : gpT tp d p r (cs ++ (if tkC tp q = 60 then 24 else 25) :: ds) true := by
  intro op cm cs0 hb hm
  obtain ⟨op1, cm1, a1, a2⟩ := h op cm cs0 hb
  obtain ⟨op2, cm2, b1, b2⟩ := h2 op1 (upB cm1 d true) (cs0 ++ cs ++ [if tkC tp q = 60 then 24 else 25]) (by unfold botN; rw [(a1 d (Nat.le_refl _)).1]; exact hb)
  refine ⟨op2, cm2, fun i hi => (b1 i hi).1.trans (a1 i hi).1, fun i hi => ?_, ?_, fun r' hr => a2 r' (RRun.go (go_cmp hc (by rw [(a1 d (Nat.le_refl _)).2]; exact hm)) (b2 r' ?_))⟩
  · rw [(b1 i (by omega)).2, ← (a1 i (by omega)).2]
    exact if_neg (by omega)
  · rw [(b1 d (Nat.le_refl _)).2]
    exact if_pos rfl
  · rw [List.append_assoc, List.append_assoc]
    exact hr
theorem gpL.xcmp (h : gpL tp d p q cs) (hc : tkC tp q = 60 ∨ tkC tp q = 61) (h2 : gxL tp d (tkN tp q) f) : gxT tp d p f := by
  intro op cm cs0 hb hm
  obtain ⟨op1, cm1, a1, a2⟩ := h op cm cs0 hb
  exact a2 _ (RRun.go (go_cmp hc (by rw [(a1 d (Nat.le_refl _)).2]; exact hm)) (h2 _ _ _ (by unfold botN; rw [(a1 d (Nat.le_refl _)).1]; exact hb)))
theorem go_log {op : Nat → Nat} {cm : Nat → Bool} {cs0 : List Nat} (hc : tkC tp q = 143 ∨ tkC tp q = 144) : rNext tp ⟨d, false, op, cm, cs0, q⟩ = .inl ⟨d, true, op, upB cm d false, cs0 ++ [if tkC tp q = 143 then 26 else 27], tkN tp q⟩ := by
  unfold rNext
  dsimp only
  rw [if_neg (by decide), if_neg (by omega), if_neg (by omega), if_pos hc]
theorem gpT.log (h : gpT tp d p q cs b) (hc : tkC tp q = 143 ∨ tkC tp q = 144) (h2 : gpT tp d (tkN tp q) r ds b') : gpT tp d p r (cs ++ (if tkC tp q = 143 then 26 else 27) :: ds) b' := by
  intro op cm cs0 hb hm
  obtain ⟨op1, cm1, a1, a2, a3, a4⟩ := h op cm cs0 hb hm
  obtain ⟨op2, cm2, b1, b2, b3, b4⟩ := h2 op1 (upB cm1 d false) (cs0 ++ cs ++ [if tkC tp q = 143 then 26 else 27]) (by unfold botN; rw [a1 d (Nat.le_refl _)]; exact hb) (if_pos rfl)
  refine ⟨op2, cm2, fun i hi => (b1 i hi).trans (a1 i hi), fun i hi => ?_, b3, fun r' hr => a4 r' (RRun.go (go_log hc) (b4 r' ?_))⟩
  · rw [b2 i hi, ← a2 i hi]
    exact if_neg (by omega)
  · rw [List.append_assoc, List.append_assoc]
    exact hr
theorem gpT.xlog (h : gpT tp d p q cs b) (hc : tkC tp q = 143 ∨ tkC tp q = 144) (h2 : gxT tp d (tkN tp q) f) : gxT tp d p f := by
  intro op cm cs0 hb hm
  obtain ⟨op1, cm1, a1, a2, a3, a4⟩ := h op cm cs0 hb hm
  exact a4 _ (RRun.go (go_log hc) (h2 _ _ _ (by unfold botN; rw [a1 d (Nat.le_refl _)]; exact hb) (if_pos rfl)))
/-! the whole line -/
theorem gpT.fin (h : gpT tp 0 p q cs b) (hq : tkC tp q = 59) (op : Nat → Nat) (cm : Nat → Bool) (hm : cm 0 = false) : RRun tp ⟨0, true, op, cm, [], p⟩ (.inr (cs, tkN tp q)) := by
  obtain ⟨op', cm', h1, h2, h3, h4⟩ := h op cm [] (Or.inl rfl) hm
  refine h4 _ (RRun.fin ?_)
  unfold rNext
  dsimp only
  rw [if_neg (by decide), if_neg (by omega), if_neg (by omega), if_neg (by omega), if_neg (by omega), if_pos ⟨rfl, hq⟩]
  rfl
theorem gpT.xfin (h : gpT tp 0 p q cs b) (hq : tkC tp q ≠ 59) (he : ends (tkC tp q) b) (op : Nat → Nat) (cm : Nat → Bool) (hm : cm 0 = false) : RRun tp ⟨0, true, op, cm, [], p⟩ (.inl (1 + 16 * tkA tp q)) := by
  obtain ⟨op', cm', h1, h2, h3, h4⟩ := h op cm [] (Or.inl rfl) hm
  obtain ⟨e1, e2, e3, e4, e5, e6⟩ := he
  refine h4 _ (RRun.fin ?_)
  unfold rNext
  dsimp only
  rw [if_neg (by decide), if_neg (by omega), if_neg (fun z => ?_), if_neg (by omega), if_neg (by omega), if_neg (by omega)]
  have := e6 (by rw [← h3]; exact z.2)
  have := z.1
  omega
end GR
