/-! the two codes of a fine, part by part -/
def envV (V : Vf) : Env := (V 62 1, V 62 2, V 62 3, V 62 4)
def botV (V : Vf) (d : Nat) : Prop := d = 0 ∨ V 61 d ≠ 1
def tVal (V : Vf) (l : Nat) : Int32 := if V 56 l = 25 then bi (V 55 l = V 57 l) else if V 56 l = 24 then bi (V 55 l < V 57 l) else V 57 l
def evP (d : Nat) (cs : List Nat) (js : List Int32) : Prop := ∀ V : Vf, ∃ v V', (∀ a k, k ≤ d → V' a k = V a k) ∧ wRun cs (d, V) = some (wTerm V' d v) ∧ ∀ st, st.length ≤ 15 + 4 * d → evC (envV V) js st = some (v :: st)
def evL (d : Nat) (cs : List Nat) (js : List Int32) : Prop := ∀ V : Vf, botV V d → V 60 d = 0 → ∃ V' : Vf, (∀ a k, k < d → V' a k = V a k) ∧ (∀ a, a ≠ 59 → a ≠ 60 → V' a d = V a d) ∧ wRun cs (d, V) = some (d, V') ∧ ∀ st, st.length ≤ 14 + 4 * d → evC (envV V) js st = some (V' 59 d :: st)
def evU (d : Nat) (cs : List Nat) (js : List Int32) : Prop := ∀ V : Vf, botV V d → V 60 d = 0 → V 57 d = 0 → V 58 d = 20 → ∃ V' : Vf, (∀ a k, k < d → V' a k = V a k) ∧ (∀ a, (a < 57 ∨ 60 < a) → V' a d = V a d) ∧ wRun cs (d, V) = some (d, V') ∧ ∀ st, st.length ≤ 13 + 4 * d → evC (envV V) js st = some (wSums V' d 57 d :: st)
def evT (d : Nat) (cs : List Nat) (js : List Int32) : Prop := ∀ V : Vf, botV V d → V 60 d = 0 → V 57 d = 0 → V 58 d = 20 → V 56 d = 0 → ∃ V' : Vf, (∀ a k, k < d → V' a k = V a k) ∧ (∀ a, (a < 55 ∨ 60 < a) → V' a d = V a d) ∧ wRun cs (d, V) = some (d, V') ∧ ∀ st, st.length ≤ 12 + 4 * d → evC (envV V) js st = some (tVal (wSums V' d) d :: st)
def evE (d : Nat) (cs : List Nat) (js : List Int32) : Prop := ∀ V : Vf, botV V d → V 60 d = 0 → V 57 d = 0 → V 58 d = 20 → V 56 d = 0 → V 54 d = 0 → ∃ V' : Vf, (∀ a k, k < d → V' a k = V a k) ∧ V' 61 d = V 61 d ∧ wRun cs (d, V) = some (d, V') ∧ ∀ st, st.length ≤ 11 + 4 * d → evC (envV V) js st = some (wTests V' d 53 d :: st)
section EV
variable {d c : Nat} {cs ds : List Nat} {js ks : List Int32}
theorem envV_eq {V V' : Vf} (h : ∀ k, V' 62 k = V 62 k) : envV V' = envV V := by
  unfold envV
  rw [h, h, h, h]
theorem wRun_env {V : Vf} {q : Nat × Vf} (h : wRun cs (d, V) = some q) : envV q.2 = envV V := envV_eq (fun k => wRun_o h (Or.inr (by decide)))
theorem wRun_1 {q q' : Nat × Vf} (h : wStep q c = some q') : wRun [c] q = some q' := by rw [wRun_c, h]; rfl
theorem wRun_a {q q' q'' : Nat × Vf} (h : wRun cs q = some q') (h2 : wRun ds q' = some q'') : wRun (cs ++ ds) q = some q'' := by rw [wRun_app, h]; exact h2
theorem wRun_k {q q' q'' : Nat × Vf} (h : wStep q c = some q') (h2 : wRun ds q' = some q'') : wRun (c :: ds) q = some q'' := by rw [wRun_c, h]; exact h2
theorem evC_a {e : Env} {st st' st'' : List Int32} (h : evC e js st = some st') (h2 : evC e ks st' = some st'') : evC e (js ++ ks) st = some st'' := by rw [evC_app, h]; exact h2
theorem evC_1 {e : Env} {x : Int32} {st st' : List Int32} (h : evS e x st = some st') : evC e [x] st = some st' := by
  show (match evS e x st with | some st' => evC e [] st' | none => none) = _
  rw [h]
  rfl
theorem botV.t {V : Vf} {v : Int32} (h : botV V d) : wTerm V d v = (d, wPut V d v) := by
  have : wNots V d v = (d, v) := by
    cases d with
    | zero => rfl
    | succ l => exact if_neg (h.resolve_left (by omega))
  unfold wTerm
  rw [this]
theorem st_num {q : Nat × Vf} {n : Nat} : wStep q (100 + n) = some (wTerm q.2 q.1 (nI n)) := by
  unfold wStep
  rw [if_neg (by omega), if_neg (by omega), if_neg (by omega), if_neg (by omega), if_neg (by omega), if_neg (by omega), if_pos (by omega), Nat.add_sub_cancel_left]
theorem st_fact {q : Nat × Vf} {n : Nat} (hn : n < 20) : wStep q n = some (wTerm q.2 q.1 (q.2 62 n)) := by
  unfold wStep
  rw [if_neg (by omega), if_neg (by omega), if_neg (by omega), if_neg (by omega), if_neg (by omega), if_neg (by omega), if_neg (by omega), if_pos hn]
theorem evS_num {e : Env} {st : List Int32} {n : Nat} (hn : n < 10000) (hs : st.length < 32) : evS e (nI n) st = some (nI n :: st) := by
  have h : ∀ k : Nat, 0 < k → k < 200 → ¬ (-(nI n) = nI k) := by
    intro k h0 hk e
    have e2 : nI n = -(nI k) := by rw [← e, Int32.neg_neg]
    have e3 : nI n + nI k = 0 := by rw [e2]; exact Int32.add_left_neg _
    rw [nI_add, c0, i_eq (by omega) (by decide)] at e3
    omega
  unfold evS
  rw [if_neg (show ¬ (-(nI n) = (138 : Int32)) from h 138 (by decide) (by decide)), if_neg (show ¬ (-(nI n) = (139 : Int32)) from h 139 (by decide) (by decide)), if_neg (show ¬ (-(nI n) = (140 : Int32)) from h 140 (by decide) (by decide)), if_neg (show ¬ (-(nI n) = (141 : Int32)) from h 141 (by decide) (by decide)), if_neg (show ¬ (-(nI n) = (142 : Int32)) from h 142 (by decide) (by decide)), if_neg (by rw [c0, i_lt (by omega) (by decide)]; omega)]
  unfold pus
  rw [if_pos hs]
theorem evP_num {n : Nat} (hd : d < 5) (hn : n < 10000) : evP d [100 + n] [nI n] := fun V => ⟨nI n, V, fun _ _ _ => rfl, wRun_1 st_num, fun st hs => evC_1 (evS_num hn (by omega))⟩
theorem evP_fact (hd : d < 5) (hc : isF c) : evP d [c - 137] [-(nI c)] := by
  obtain ⟨h1, h2⟩ := hc
  have go : ∀ n : Nat, 1 ≤ n → n ≤ 4 → c = 137 + n → evP d [c - 137] [-(nI c)] := by
    intro n n1 n4 e
    subst e
    rw [Nat.add_sub_cancel_left]
    refine fun V => ⟨V 62 n, V, fun _ _ _ => rfl, wRun_1 (st_fact (by omega)), fun st hs => evC_1 ?_⟩
    have hp : ∀ v : Int32, pus v st = some (v :: st) := fun v => if_pos (by omega)
    unfold evS
    rw [Int32.neg_neg]
    have hn : n = 1 ∨ n = 2 ∨ n = 3 ∨ n = 4 := by omega
    rcases hn with z | z | z | z
    · subst z
      rw [if_pos (by decide)]
      exact hp _
    · subst z
      rw [if_neg (by decide), if_pos (by decide)]
      exact hp _
    · subst z
      rw [if_neg (by decide), if_neg (by decide), if_pos (by decide)]
      exact hp _
    · subst z
      rw [if_neg (by decide), if_neg (by decide), if_neg (by decide), if_pos (by decide)]
      exact hp _
  exact go (c - 137) (by omega) (by omega) (by omega)
theorem st_open {V : Vf} (hd : d < 6) : wStep (d, V) 28 = some (d + 1, wOpens (u2 V 61 (d + 1) 0) (d + 1)) := by
  unfold wStep
  rw [if_pos (Or.inl rfl), if_pos hd, if_neg (by decide)]
theorem st_not {V : Vf} (hd : d < 6) : wStep (d, V) 30 = some (d + 1, wOpens (u2 V 61 (d + 1) 1) (d + 1)) := by
  unfold wStep
  rw [if_pos (Or.inr rfl), if_pos hd, if_pos rfl]
theorem wOpens_k {V : Vf} {l a k : Nat} (h : k ≠ l) : wOpens V l a k = V a k := by
  unfold wOpens
  rw [u2_j h, u2_j h, u2_j h, u2_j h, u2_j h]
theorem evP_not (hd : d < 5) (h : evP (d + 1) cs js) : evP d (30 :: cs) (js ++ [-142]) := by
  intro V
  obtain ⟨v, V1, h1, h2, h3⟩ := h (wOpens (u2 V 61 (d + 1) 1) (d + 1))
  have e61 : V1 61 (d + 1) = 1 := by
    rw [h1 _ _ (Nat.le_refl _)]
    unfold wOpens
    rw [u2_o (by decide), u2_o (by decide), u2_o (by decide), u2_o (by decide), u2_o (by decide), u2_p]
  have ev : envV (wOpens (u2 V 61 (d + 1) 1) (d + 1)) = envV V := envV_eq (fun k => by rw [wOpens_o (Or.inr (by decide)), u2_o (by decide)])
  refine ⟨bi (v = 0), V1, fun a k hk => ?_, ?_, fun st hs => ?_⟩
  · rw [h1 a k (by omega), wOpens_k (by omega), u2_j (by omega)]
  · refine wRun_k (st_not (by omega)) ?_
    rw [h2]
    have en : wNots V1 (d + 1) v = wNots V1 d (bi (v = 0)) := if_pos e61
    unfold wTerm
    rw [en]
  · rw [ev] at h3
    refine evC_a (h3 st (by omega)) (evC_1 ?_)
    unfold evS
    rw [if_neg (by decide), if_neg (by decide), if_neg (by decide), if_neg (by decide), if_pos (by decide)]
    dsimp only
    rw [if_pos (by omega)]
theorem wTests_k {V : Vf} {l a k : Nat} (h : k ≠ l) : wTests V l a k = V a k := by
  unfold wTests wSums
  rw [u2_j h, u2_j h, u2_j h, u2_j h, u2_j h, u2_j h]
theorem wSums_k {V : Vf} {l a k : Nat} (h : k ≠ l) : wSums V l a k = V a k := by
  unfold wSums
  rw [u2_j h, u2_j h]
theorem evP_par (hd : d < 5) (h : evE (d + 1) cs js) : evP d (28 :: (cs ++ [29])) js := by
  intro V
  have g : ∀ a, a ≠ 61 → wOpens (u2 V 61 (d + 1) 0) (d + 1) a (d + 1) = wOpens V (d + 1) a (d + 1) := by
    intro a ha
    unfold wOpens u2
    simp only [ha, false_and, if_false]
  obtain ⟨V1, h1, h2, h3, h4⟩ := h (wOpens (u2 V 61 (d + 1) 0) (d + 1)) (Or.inr (by
    unfold wOpens
    rw [u2_o (by decide), u2_o (by decide), u2_o (by decide), u2_o (by decide), u2_o (by decide), u2_p]
    decide)) (by rw [g _ (by decide)]; unfold wOpens; rw [u2_p]) (by rw [g _ (by decide)]; unfold wOpens; rw [u2_o (by decide), u2_o (by decide), u2_p]) (by rw [g _ (by decide)]; unfold wOpens; rw [u2_o (by decide), u2_p]) (by rw [g _ (by decide)]; unfold wOpens; rw [u2_o (by decide), u2_o (by decide), u2_o (by decide), u2_p]) (by rw [g _ (by decide)]; unfold wOpens; rw [u2_o (by decide), u2_o (by decide), u2_o (by decide), u2_o (by decide), u2_p])
  have ev : envV (wOpens (u2 V 61 (d + 1) 0) (d + 1)) = envV V := envV_eq (fun k => by rw [wOpens_o (Or.inr (by decide)), u2_o (by decide)])
  refine ⟨wTests V1 (d + 1) 53 (d + 1), wTests V1 (d + 1), fun a k hk => ?_, ?_, fun st hs => ?_⟩
  · rw [wTests_k (by omega), h1 a k (by omega), wOpens_k (by omega), u2_j (by omega)]
  · refine wRun_k (st_open (by omega)) (wRun_a h3 (wRun_1 ?_))
    unfold wStep
    rw [if_neg (by decide), if_neg (by decide), if_neg (by decide), if_neg (by decide), if_neg (by decide), if_pos rfl]
  · rw [ev] at h4
    exact h4 st (by omega)
theorem evP.l (hd : d < 5) (h : evP d cs js) : evL d cs js := by
  intro V hb h60
  obtain ⟨v, V1, h1, h2, h3⟩ := h V
  have hb1 : botV V1 d := by unfold botV; rw [h1 _ _ (Nat.le_refl _)]; exact hb
  rw [hb1.t] at h2
  refine ⟨wPut V1 d v, fun a k hk => ?_, fun a ha _ => ?_, h2, fun st hs => ?_⟩
  · unfold wPut; rw [u2_j (by omega)]; exact h1 a k (by omega)
  · unfold wPut; rw [u2_o ha]; exact h1 a d (Nat.le_refl _)
  · have e : wPut V1 d v 59 d = v := by unfold wPut; rw [u2_p, if_pos (by rw [h1 _ _ (Nat.le_refl _)]; exact h60)]
    rw [e]
    exact h3 st (by omega)
theorem evS_join {e : Env} {st : List Int32} {a b : Int32} (hc : c = 42 ∨ c = 43 ∨ c = 45 ∨ c = 60 ∨ c = 61 ∨ c = 143 ∨ c = 144) (hs : st.length < 31) : evS e (-(nI c)) (b :: a :: st) = some (joinV (nI c) a b :: st) := by
  unfold evS
  rw [Int32.neg_neg]
  have hc2 : nI c ≠ 138 ∧ nI c ≠ 139 ∧ nI c ≠ 140 ∧ nI c ≠ 141 ∧ nI c ≠ 142 ∧ -(nI c) < 0 := by
    rcases hc with z | z | z | z | z | z | z <;> (subst z; decide)
  obtain ⟨z1, z2, z3, z4, z5, z6⟩ := hc2
  rw [if_neg z1, if_neg z2, if_neg z3, if_neg z4, if_neg z5, if_pos z6]
  exact if_pos hs
theorem evL.mul (hd : d < 5) (h : evL d cs js) (h' : evP d ds ks) : evL d (cs ++ 22 :: ds) (js ++ ks ++ [-(nI 42)]) := by
  intro V hb h60
  obtain ⟨V1, a1, a2, a3, a4⟩ := h V hb h60
  obtain ⟨v, V3, b1, b2, b3⟩ := h' (u2 V1 60 d (nI 22))
  have hb3 : botV V3 d := by
    unfold botV
    rw [b1 _ _ (Nat.le_refl _), u2_o (by decide), a2 _ (by decide) (by decide)]
    exact hb
  rw [hb3.t] at b2
  have ev : envV (u2 V1 60 d (nI 22)) = envV V := by
    rw [← wRun_env a3]
    exact envV_eq (fun k => u2_o (by decide))
  refine ⟨wPut V3 d v, fun a k hk => ?_, fun a ha hb => ?_, ?_, fun st hs => ?_⟩
  · unfold wPut; rw [u2_j (by omega), b1 a k (by omega), u2_j (by omega)]; exact a1 a k hk
  · unfold wPut; rw [u2_o ha, b1 a d (Nat.le_refl _), u2_o hb]; exact a2 a ha hb
  · refine wRun_a a3 (wRun_k (q' := (d, u2 V1 60 d (nI 22))) ?_ b2)
    unfold wStep
    rw [if_neg (by decide), if_neg (by decide), if_pos rfl]
  · have e : wPut V3 d v 59 d = V1 59 d * v := by
      unfold wPut
      rw [u2_p, b1 60 d (Nat.le_refl _), b1 59 d (Nat.le_refl _), u2_p, u2_o (by decide), if_neg (by decide)]
    rw [e]
    rw [ev] at b3
    refine evC_a (evC_a (a4 st hs) (b3 _ (by rw [List.length_cons]; omega))) (evC_1 ?_)
    rw [evS_join (Or.inl rfl) (by omega)]
    rfl
theorem evL.u (h : evL d cs js) : evU d cs js := by
  intro V hb h60 h57 h58
  obtain ⟨V1, a1, a2, a3, a4⟩ := h V hb h60
  refine ⟨V1, a1, fun a ha => a2 a (by omega) (by omega), a3, fun st hs => ?_⟩
  have e : wSums V1 d 57 d = V1 59 d := by
    unfold wSums
    rw [u2_o (by decide), u2_p, a2 58 (by decide) (by decide), a2 57 (by decide) (by decide), h58, h57, if_neg (by decide)]
    exact Int32.zero_add _
  rw [e]
  exact a4 st (by omega)
theorem evU.add (hd : d < 5) (hc : c = 43 ∨ c = 45) (h : evU d cs js) (h' : evL d ds ks) : evU d (cs ++ (if c = 43 then 20 else if c = 45 then 21 else 22) :: ds) (js ++ ks ++ [-(nI c)]) := by
  intro V hb h60 h57 h58
  obtain ⟨V1, a1, a2, a3, a4⟩ := h V hb h60 h57 h58
  have hx : ∃ x, x = (if c = 43 then 20 else if c = 45 then 21 else 22) ∧ (x = 20 ∨ x = 21) ∧ (x = 21 ↔ c = 45) := by
    refine ⟨_, rfl, ?_, ?_⟩
    · rcases hc with z | z <;> (subst z; decide)
    · rcases hc with z | z <;> (subst z; decide)
  obtain ⟨x, ex, hx, hx2⟩ := hx
  rw [← ex]
  have s58 : ∀ a, a ≠ 58 → u2 (wSums V1 d) 58 d (nI x) a d = wSums V1 d a d := fun a ha => u2_o ha
  obtain ⟨V2, b1, b2, b3, b4⟩ := h' (u2 (wSums V1 d) 58 d (nI x)) (by
    unfold botV
    rw [u2_o (by decide)]
    unfold wSums
    rw [u2_o (by decide), u2_o (by decide), a2 61 (Or.inr (by decide))]
    exact hb) (by rw [u2_o (by decide)]; unfold wSums; rw [u2_p])
  have ev : envV (u2 (wSums V1 d) 58 d (nI x)) = envV V := by
    rw [← wRun_env a3]
    exact envV_eq (fun k => by rw [u2_o (by decide), wSums_o (Or.inr (by decide))])
  refine ⟨V2, fun a k hk => ?_, fun a ha => ?_, ?_, fun st hs => ?_⟩
  · rw [b1 a k hk, u2_j (by omega), wSums_k (by omega)]; exact a1 a k hk
  · rw [b2 a (by omega) (by omega), u2_o (by omega)]
    unfold wSums
    rw [u2_o (by omega), u2_o (by omega)]
    exact a2 a ha
  · refine wRun_a a3 (wRun_k (q' := (d, u2 (wSums V1 d) 58 d (nI x))) ?_ b3)
    unfold wStep
    rw [if_neg (by omega), if_pos hx]
  · have e : wSums V2 d 57 d = if c = 45 then wSums V1 d 57 d - V2 59 d else wSums V1 d 57 d + V2 59 d := by
      show u2 (u2 V2 57 d (if V2 58 d = 21 then V2 57 d - V2 59 d else V2 57 d + V2 59 d)) 60 d 0 57 d = _
      rw [u2_o (by decide), u2_p, b2 58 (by decide) (by decide), b2 57 (by decide) (by decide), u2_p, u2_o (by decide)]
      have : (nI x = 21) ↔ c = 45 := by rw [← hx2, show (21 : Int32) = nI 21 from rfl, i_eq (by omega) (by decide)]
      simp only [this]
    rw [e]
    rw [ev] at b4
    refine evC_a (evC_a (a4 st (by omega)) (b4 _ (by rw [List.length_cons]; omega))) (evC_1 ?_)
    rw [evS_join (by omega) (by omega)]
    rcases hc with z | z
    · subst z
      rfl
    · subst z
      rfl
theorem evU.t (h : evU d cs js) : evT d cs js := by
  intro V hb h60 h57 h58 h56
  obtain ⟨V1, a1, a2, a3, a4⟩ := h V hb h60 h57 h58
  refine ⟨V1, a1, fun a ha => a2 a (by omega), a3, fun st hs => ?_⟩
  have e56 : wSums V1 d 56 d = 0 := by
    unfold wSums
    rw [u2_o (by decide), u2_o (by decide), a2 56 (Or.inl (by decide))]
    exact h56
  have e : tVal (wSums V1 d) d = wSums V1 d 57 d := by
    unfold tVal
    rw [e56, if_neg (by decide), if_neg (by decide)]
  rw [e]
  exact a4 st (by omega)
theorem evU.cmp (hd : d < 5) (hc : c = 60 ∨ c = 61) (h : evU d cs js) (h' : evU d ds ks) : evT d (cs ++ (if c = 60 then 24 else 25) :: ds) (js ++ ks ++ [-(nI c)]) := by
  intro V hb h60 h57 h58 h56
  obtain ⟨V1, a1, a2, a3, a4⟩ := h V hb h60 h57 h58
  have hx : ∃ x, x = (if c = 60 then 24 else 25) ∧ (x = 24 ∨ x = 25) ∧ (x = 24 ↔ c = 60) ∧ (x = 25 ↔ c = 61) := by
    refine ⟨_, rfl, ?_, ?_, ?_⟩
    · rcases hc with z | z <;> (subst z; decide)
    · rcases hc with z | z <;> (subst z; decide)
    · rcases hc with z | z <;> (subst z; decide)
  obtain ⟨x, ex, hx, hx2, hx3⟩ := hx
  rw [← ex]
  generalize hW : u2 (u2 (u2 (u2 (wSums V1 d) 55 d (wSums V1 d 57 d)) 56 d (nI x)) 57 d 0) 58 d 20 = W
  have w61 : W 61 d = V 61 d := by
    rw [← hW, u2_o (by decide), u2_o (by decide), u2_o (by decide), u2_o (by decide)]
    unfold wSums
    rw [u2_o (by decide), u2_o (by decide)]
    exact a2 61 (Or.inr (by decide))
  have w60 : W 60 d = 0 := by
    rw [← hW, u2_o (by decide), u2_o (by decide), u2_o (by decide), u2_o (by decide)]
    unfold wSums
    rw [u2_p]
  have w57 : W 57 d = 0 := by rw [← hW, u2_o (by decide), u2_p]
  have w58 : W 58 d = 20 := by rw [← hW, u2_p]
  have w56 : W 56 d = nI x := by rw [← hW, u2_o (by decide), u2_o (by decide), u2_p]
  have w55 : W 55 d = wSums V1 d 57 d := by rw [← hW, u2_o (by decide), u2_o (by decide), u2_o (by decide), u2_p]
  obtain ⟨V2, b1, b2, b3, b4⟩ := h' W (by unfold botV; rw [w61]; exact hb) w60 w57 w58
  have ev : envV W = envV V := by
    rw [← wRun_env a3]
    exact envV_eq (fun k => by rw [← hW, u2_o (by decide), u2_o (by decide), u2_o (by decide), u2_o (by decide), wSums_o (Or.inr (by decide))])
  refine ⟨V2, fun a k hk => ?_, fun a ha => ?_, ?_, fun st hs => ?_⟩
  · rw [b1 a k hk, ← hW, u2_j (by omega), u2_j (by omega), u2_j (by omega), u2_j (by omega), wSums_k (by omega)]; exact a1 a k hk
  · rw [b2 a (by omega), ← hW, u2_o (by omega), u2_o (by omega), u2_o (by omega), u2_o (by omega)]
    unfold wSums
    rw [u2_o (by omega), u2_o (by omega)]
    exact a2 a (by omega)
  · refine wRun_a a3 (wRun_k (q' := (d, W)) ?_ b3)
    unfold wStep
    rw [if_neg (by omega), if_neg (by omega), if_neg (by omega), if_pos hx]
    rw [← hW]
  · have e : tVal (wSums V2 d) d = joinV (nI c) (wSums V1 d 57 d) (wSums V2 d 57 d) := by
      have k56 : wSums V2 d 56 d = nI x := by
        unfold wSums
        rw [u2_o (by decide), u2_o (by decide), b2 56 (Or.inl (by decide)), w56]
      have k55 : wSums V2 d 55 d = wSums V1 d 57 d := by
        rw [← w55, ← b2 55 (Or.inl (by decide))]
        unfold wSums
        rw [u2_o (by decide), u2_o (by decide)]
      unfold tVal
      rw [k56, k55]
      rcases hc with z | z
      · have : x = 24 := hx2.mpr z
        subst this
        subst z
        rw [if_neg (by decide), if_pos (by decide)]
        rfl
      · have : x = 25 := hx3.mpr z
        subst this
        subst z
        rw [if_pos (by decide)]
        rfl
    rw [e]
    rw [ev] at b4
    refine evC_a (evC_a (a4 st (by omega)) (b4 _ (by rw [List.length_cons]; omega))) (evC_1 ?_)
    rw [evS_join (by omega) (by omega)]
theorem wTests_53 {V : Vf} : wTests V d 53 d = wVal (wSums V d) d := by
  unfold wTests
  rw [u2_o (by decide), u2_o (by decide), u2_o (by decide), u2_p]
theorem wVal_t {V : Vf} (h : V 54 d = 0) : wVal V d = tVal V d := by
  unfold wVal tVal
  dsimp only
  rw [h, if_neg (by decide), if_neg (by decide)]
theorem evT.e (h : evT d cs js) : evE d cs js := by
  intro V hb h60 h57 h58 h56 h54
  obtain ⟨V1, a1, a2, a3, a4⟩ := h V hb h60 h57 h58 h56
  refine ⟨V1, a1, a2 61 (Or.inr (by decide)), a3, fun st hs => ?_⟩
  have e54 : wSums V1 d 54 d = 0 := by
    unfold wSums
    rw [u2_o (by decide), u2_o (by decide), a2 54 (Or.inl (by decide))]
    exact h54
  rw [wTests_53, wVal_t e54]
  exact a4 st (by omega)
theorem evE.log (hd : d < 5) (hc : c = 143 ∨ c = 144) (h : evE d cs js) (h' : evT d ds ks) : evE d (cs ++ (if c = 143 then 26 else 27) :: ds) (js ++ ks ++ [-(nI c)]) := by
  intro V hb h60 h57 h58 h56 h54
  obtain ⟨V1, a1, a2, a3, a4⟩ := h V hb h60 h57 h58 h56 h54
  have hx : ∃ x, x = (if c = 143 then 26 else 27) ∧ (x = 26 ∨ x = 27) ∧ (x = 26 ↔ c = 143) ∧ (x = 27 ↔ c = 144) := by
    refine ⟨_, rfl, ?_, ?_, ?_⟩
    · rcases hc with z | z <;> (subst z; decide)
    · rcases hc with z | z <;> (subst z; decide)
    · rcases hc with z | z <;> (subst z; decide)
  obtain ⟨x, ex, hx, hx2, hx3⟩ := hx
  rw [← ex]
  generalize hW : u2 (wTests V1 d) 54 d (nI x) = W
  have t : ∀ a, a ≠ 54 → W a d = wTests V1 d a d := fun a ha => by rw [← hW, u2_o ha]
  have w61 : W 61 d = V 61 d := by
    rw [t _ (by decide)]
    unfold wTests wSums
    rw [u2_o (by decide), u2_o (by decide), u2_o (by decide), u2_o (by decide), u2_o (by decide), u2_o (by decide)]
    exact a2
  have w60 : W 60 d = 0 := by
    rw [t _ (by decide)]
    unfold wTests
    rw [u2_o (by decide), u2_o (by decide), u2_o (by decide), u2_o (by decide)]
    unfold wSums
    rw [u2_p]
  have w57 : W 57 d = 0 := by rw [t _ (by decide)]; unfold wTests; rw [u2_o (by decide), u2_p]
  have w58 : W 58 d = 20 := by rw [t _ (by decide)]; unfold wTests; rw [u2_p]
  have w56 : W 56 d = 0 := by rw [t _ (by decide)]; unfold wTests; rw [u2_o (by decide), u2_o (by decide), u2_p]
  have w53 : W 53 d = wTests V1 d 53 d := t _ (by decide)
  have w54 : W 54 d = nI x := by rw [← hW, u2_p]
  obtain ⟨V2, b1, b2, b3, b4⟩ := h' W (by unfold botV; rw [w61]; exact hb) w60 w57 w58 w56
  have ev : envV W = envV V := by
    rw [← wRun_env a3]
    exact envV_eq (fun k => by rw [← hW, u2_o (by decide), wTests_o (Or.inr (by decide))])
  refine ⟨V2, fun a k hk => ?_, ?_, ?_, fun st hs => ?_⟩
  · rw [b1 a k hk, ← hW, u2_j (by omega), wTests_k (by omega)]; exact a1 a k hk
  · rw [b2 61 (Or.inr (by decide)), w61]
  · refine wRun_a a3 (wRun_k (q' := (d, W)) ?_ b3)
    unfold wStep
    rw [if_neg (by omega), if_neg (by omega), if_neg (by omega), if_neg (by omega), if_pos hx]
    rw [← hW]
  · have e : wTests V2 d 53 d = joinV (nI c) (wTests V1 d 53 d) (tVal (wSums V2 d) d) := by
      have k54 : wSums V2 d 54 d = nI x := by
        unfold wSums
        rw [u2_o (by decide), u2_o (by decide), b2 54 (Or.inl (by decide)), w54]
      have k53 : wSums V2 d 53 d = wTests V1 d 53 d := by
        rw [← w53, ← b2 53 (Or.inl (by decide))]
        unfold wSums
        rw [u2_o (by decide), u2_o (by decide)]
      rw [wTests_53]
      unfold wVal
      dsimp only
      rw [k54, k53]
      rcases hc with z | z
      · have : x = 26 := hx2.mpr z
        subst this
        subst z
        rw [if_neg (by decide), if_pos (by decide)]
        rfl
      · have : x = 27 := hx3.mpr z
        subst this
        subst z
        rw [if_pos (by decide), if_neg (by decide)]
        rfl
    rw [e]
    rw [ev] at b4
    refine evC_a (evC_a (a4 st (by omega)) (b4 _ (by rw [List.length_cons]; omega))) (evC_1 ?_)
    rw [evS_join (by omega) (by omega)]
end EV
