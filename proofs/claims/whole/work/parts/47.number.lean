/-! a wall's number -/
def numG (B : Nat) (dg : Nat → Nat) : Nat → Nat → Nat
  | _, 0 => 0
  | c, n + 1 => numG B dg (c + 1) n * B + dg c
theorem numG_lt {B : Nat} {dg : Nat → Nat} : ∀ {n c : Nat}, (∀ j, c ≤ j → j < c + n → dg j < B) → numG B dg c n < B ^ n
  | 0, _, _ => by simp [numG]
  | n + 1, c, h => by
    have h1 := numG_lt (B := B) (dg := dg) (n := n) (c := c + 1) (fun j h1 h2 => h j (by omega) (by omega))
    have h2 := h c (by omega) (by omega)
    show numG B dg (c + 1) n * B + dg c < B ^ (n + 1)
    have h3 : (numG B dg (c + 1) n + 1) * B ≤ B ^ n * B := Nat.mul_le_mul_right _ h1
    rw [Nat.pow_succ]
    rw [Nat.add_mul] at h3
    omega
theorem numG_mod {B : Nat} {dg : Nat → Nat} {n c : Nat} (h : dg c < B) : numG B dg c (n + 1) % B = dg c := by
  show (numG B dg (c + 1) n * B + dg c) % B = dg c
  rw [Nat.add_comm, Nat.add_mul_mod_self_right, Nat.mod_eq_of_lt h]
theorem numG_div {B : Nat} {dg : Nat → Nat} {n c : Nat} (h : dg c < B) : numG B dg c (n + 1) / B = numG B dg (c + 1) n := by
  show (numG B dg (c + 1) n * B + dg c) / B = numG B dg (c + 1) n
  rw [Nat.add_comm, Nat.add_mul_div_right _ _ (by omega), Nat.div_eq_of_lt h, Nat.zero_add]
theorem numG_at {B : Nat} {dg : Nat → Nat} : ∀ {i n c : Nat}, i < n → (∀ j, c ≤ j → j < c + n → dg j < B) → numG B dg c n / B ^ i % B = dg (c + i)
  | 0, n + 1, c, _, h => by simpa using numG_mod (n := n) (h c (by omega) (by omega))
  | i + 1, n + 1, c, hi, h => by
    rw [Nat.pow_succ, Nat.mul_comm, ← Nat.div_div_eq_div_mul, numG_div (h c (by omega) (by omega)), numG_at (i := i) (by omega) (fun j h1 h2 => h j (by omega) (by omega))]
    congr 1
    omega
theorem numG_congr {B : Nat} {dg dg' : Nat → Nat} : ∀ {n c : Nat}, (∀ j, c ≤ j → j < c + n → dg j = dg' j) → numG B dg c n = numG B dg' c n
  | 0, _, _ => rfl
  | n + 1, c, h => by
    show numG B dg (c + 1) n * B + dg c = numG B dg' (c + 1) n * B + dg' c
    rw [numG_congr (fun j h1 h2 => h j (by omega) (by omega)), h c (by omega) (by omega)]
theorem numG_digits {B : Nat} (hB : 0 < B) (x : Nat) : ∀ {n c : Nat}, x < B ^ (c + n) → numG B (fun j => x / B ^ j % B) c n = x / B ^ c
  | 0, c, h => by
    rw [Nat.div_eq_of_lt (by simpa using h)]
    rfl
  | n + 1, c, h => by
    show numG B _ (c + 1) n * B + x / B ^ c % B = x / B ^ c
    rw [numG_digits hB x (n := n) (c := c + 1) (by rw [show c + 1 + n = c + (n + 1) by omega]; exact h), Nat.pow_succ, ← Nat.div_div_eq_div_mul]
    have := Nat.div_add_mod (x / B ^ c) B
    rw [Nat.mul_comm] at this
    exact this
def dig (T : TD) (w c : Nat) : Nat := if gat w c = 0 then hgt w c else tH T + gat w c
def digl (T : TD) (w c : Nat) : Nat := if gat w c = 0 then hgt w c else tH T + 1
def num (T : TD) (w : Nat) : Nat := numG (tH T + 3) (dig T w) 0 (tW T)
def numl (T : TD) (w : Nat) : Nat := numG (tH T + 3) (digl T w) 0 (tW T)
theorem gat_sub {w c : Nat} (h : gat w c ≠ 0) : nI (gat w c) - 1 = nI (gat w c - 1) := pk_sub (b := 1) (by omega)
theorem m1_add (k : Nat) : nI k + (-1) = nI k - 1 := by
  rw [Int32.sub_eq_add_neg]
theorem f76 {d t w : Nat} {S : St} {T : TD} (hT : TA S t T) (hw : w < 2 ^ 42) : F (d + 2) 76 [.ref t, .long (lN w)] S = some (some (.int (nI (num T w))), S) := by
  have hK : gK S t = 5 := hT.2.1
  have h0 : gI S t 0 = nI (tW T) := hT.2.2.1
  have h1 : gI S t 1 = nI (tH T) := hT.2.2.2.1
  have hW := hT.1.1
  refine fq76 (w76_0 ?_)
  refine W_t (hK) ?_
  have key : ∀ k, k ≤ tW T → ∀ z2 z5 : Value, WP (P76 (F (d + 1))) (1, [.ref t, .long (lN w), z2, .int (nI (numG (tH T + 3) (dig T w) k (tW T - k))), .int (nI k - 1), z5], [], S) (fun r S' => r = some (.int (nI (num T w))) ∧ S' = S) := by
    intro k
    induction k with
    | zero =>
      intro _ z2 z5
      refine w76_1 ?_
      refine W_t (by decide +kernel) ?_
      exact ⟨rfl, rfl⟩
    | succ k ih =>
      intro hk z2 z5
      rw [nI_pred]
      have fin : ∀ (x5 y0 : Int32), y0 = nI (dig T w k) → WP (P76 (F (d + 1))) (2, [.ref t, .long (lN w), z2, .int (nI (numG (tH T + 3) (dig T w) (k + 1) (tW T - (k + 1)))), .int (nI k), .int x5], [.int y0, .int (nI (numG (tH T + 3) (dig T w) (k + 1) (tW T - (k + 1))) * (gI S t 1 + 3))], S) (fun r S' => r = some (.int (nI (num T w))) ∧ S' = S) := by
        intro x5 y0 hy
        refine w76_2 ?_
        show WP _ _ _
        have := ih (by omega) (jk z2) (.int x5)
        rw [show tW T - k = (tW T - (k + 1)) + 1 by omega] at this
        rw [h1, c3, nI_add, pk_mul, hy, nI_add, m1_add]
        exact this
      refine w76_1 ?_
      refine W_f (nI_n0 (by omega)) ?_
      refine W_I (f58 hw (by omega)) ?_
      refine W_t (hK) ?_
      refine W_if (fun q => ?_) (fun q => ?_)
      · rw [gat_m1] at q
        refine W_I (f57 hw (by omega)) ?_
        exact fin _ _ (by unfold dig; rw [if_pos q])
      · rw [gat_m1] at q
        refine W_t (hK) ?_
        refine fin _ _ ?_
        rw [h1, gat_sub q, c1, nI_add, nI_add]
        unfold dig
        rw [if_neg q]
        congr 1
        omega
  have := key (tW T) (by omega) .null .null
  rw [Nat.sub_self] at this
  rw [h0]
  exact this
theorem f77 {d t w : Nat} {S : St} {T : TD} (hT : TA S t T) (hw : w < 2 ^ 42) : F (d + 2) 77 [.ref t, .long (lN w)] S = some (some (.int (nI (numl T w))), S) := by
  have hK : gK S t = 5 := hT.2.1
  have h0 : gI S t 0 = nI (tW T) := hT.2.2.1
  have h1 : gI S t 1 = nI (tH T) := hT.2.2.2.1
  have hW := hT.1.1
  refine fq77 (w77_0 ?_)
  refine W_t (hK) ?_
  have key : ∀ k, k ≤ tW T → ∀ z2 z5 : Value, WP (P77 (F (d + 1))) (1, [.ref t, .long (lN w), z2, .int (nI (numG (tH T + 3) (digl T w) k (tW T - k))), .int (nI k - 1), z5], [], S) (fun r S' => r = some (.int (nI (numl T w))) ∧ S' = S) := by
    intro k
    induction k with
    | zero =>
      intro _ z2 z5
      refine w77_1 ?_
      refine W_t (by decide +kernel) ?_
      exact ⟨rfl, rfl⟩
    | succ k ih =>
      intro hk z2 z5
      rw [nI_pred]
      have fin : ∀ (x5 y0 : Int32), y0 = nI (digl T w k) → WP (P77 (F (d + 1))) (3, [.ref t, .long (lN w), z2, .int (nI (numG (tH T + 3) (digl T w) (k + 1) (tW T - (k + 1)))), .int (nI k), .int x5], [.int y0, .int (nI (numG (tH T + 3) (digl T w) (k + 1) (tW T - (k + 1))) * (gI S t 1 + 3))], S) (fun r S' => r = some (.int (nI (numl T w))) ∧ S' = S) := by
        intro x5 y0 hy
        refine w77_3 ?_
        show WP _ _ _
        have := ih (by omega) (jk z2) (.int x5)
        rw [show tW T - k = (tW T - (k + 1)) + 1 by omega] at this
        rw [h1, c3, nI_add, pk_mul, hy, nI_add, m1_add]
        exact this
      refine w77_1 ?_
      refine W_f (nI_n0 (by omega)) ?_
      refine W_I (f58 hw (by omega)) ?_
      refine W_if (fun q => ?_) (fun q => ?_)
      · rw [gat_m1] at q
        show WP _ _ _
        refine w77_2 ?_
        refine W_t (hK) ?_
        refine W_t (rfl) ?_
        refine W_I (f57 hw (by omega)) ?_
        exact fin _ _ (by unfold digl; rw [if_pos q])
      · rw [gat_m1] at q
        show WP _ _ _
        refine w77_2 ?_
        refine W_t (hK) ?_
        refine W_f (by decide) ?_
        refine W_t (hK) ?_
        refine fin _ _ ?_
        rw [h1, c1, nI_add]
        unfold digl
        rw [if_neg q]
  have := key (tW T) (by omega) .null .null
  rw [Nat.sub_self] at this
  rw [h0]
  exact this
theorem f79 {d t : Nat} {S : St} {T : TD} (hT : TA S t T) : F (d + 2) 79 [.ref t] S = some (some (.int (nI ((tH T + 3) ^ tW T))), S) := by
  have hK : gK S t = 5 := hT.2.1
  have h0 : gI S t 0 = nI (tW T) := hT.2.2.1
  have h1 : gI S t 1 = nI (tH T) := hT.2.2.2.1
  have hW := hT.1.1
  refine fq79 (w79_0 ?_)
  refine W_t (hK) ?_
  refine W_t (hK) ?_
  rw [h0, h1, c3, nI_add]
  refine W_I (f60 (by omega)) ?_
  exact ⟨rfl, rfl⟩
/-- the wall of digits -/
def walU (T : TD) (dg : Nat → Nat) : Nat → Nat
  | 0 => 0
  | c + 1 => if tH T < dg c then setg (putp (walU T dg c) c (8 + (dg c - tH T - 1))) (dg c - tH T - 1) else putp (walU T dg c) c (dg c)
def wallN (T : TD) (n : Nat) : Nat := walU T (fun j => n / (tH T + 3) ^ j % (tH T + 3)) (tW T)
theorem walU_lt {T : TD} {dg : Nat → Nat} (hH : tH T ≤ 6) (h : ∀ j, dg j < tH T + 3) : ∀ {c : Nat}, c ≤ 10 → walU T dg c < 2 ^ 42
  | 0, _ => by simp [walU]
  | c + 1, hc => by
    have ih := walU_lt hH h (c := c) (by omega)
    have hd := h c
    unfold walU
    split
    · exact setg_lt (putp_lt ih (by omega) (by omega)) (by omega)
    · exact putp_lt ih (by omega) (by omega)
theorem f78 {d t n : Nat} {S : St} {T : TD} (hT : TA S t T) (hn : n < 2 ^ 31) : F (d + 3) 78 [.ref t, .int (nI n)] S = some (some (.long (lN (wallN T n))), S) := by
  have hK : gK S t = 5 := hT.2.1
  have h0 : gI S t 0 = nI (tW T) := hT.2.2.1
  have h1 : gI S t 1 = nI (tH T) := hT.2.2.2.1
  have hW := hT.1.1
  have hH := hT.1.2.1
  refine fq78 (w78_0 ?_)
  have hdg : ∀ j, n / (tH T + 3) ^ j % (tH T + 3) < tH T + 3 := fun j => Nat.mod_lt _ (by omega)
  have key : ∀ m c, m = tW T - c → c ≤ tW T → ∀ z3 z6 z7 : Value, WP (P78 (F (d + 2))) (1, [.ref t, .int (nI n), .long (lN (walU T (fun j => n / (tH T + 3) ^ j % (tH T + 3)) c)), z3, .int (nI (n / (tH T + 3) ^ c)), .int (nI c), z6, z7], [], S) (fun r S' => r = some (.long (lN (wallN T n))) ∧ S' = S) := by
    intro m
    induction m with
    | zero =>
      intro c hm hc z3 z6 z7
      have e : c = tW T := by omega
      subst e
      refine w78_1 ?_
      refine W_t (hK) ?_
      refine W_f (by rw [h0, i_lt (by omega) (by omega)]; omega) ?_
      exact ⟨rfl, rfl⟩
    | succ m ih =>
      intro c hm hc z3 z6 z7
      have hlt : n / (tH T + 3) ^ c < 2 ^ 31 := Nat.lt_of_le_of_lt (Nat.div_le_self _ _) hn
      have hwl := walU_lt (T := T) (dg := fun j => n / (tH T + 3) ^ j % (tH T + 3)) hH.2 hdg (c := c) (by omega)
      have hd := hdg c
      have fin : ∀ (z3 : Value) (x6 x7 : Int32) (x2 : Int64), WP (P78 (F (d + 2))) (3, [.ref t, .int (nI n), .long x2, z3, .int (nI (n / (tH T + 3) ^ (c + 1))), .int (nI c), .int x6, .int x7], [.long (lN (walU T (fun j => n / (tH T + 3) ^ j % (tH T + 3)) (c + 1)))], S) (fun r S' => r = some (.long (lN (wallN T n))) ∧ S' = S) := by
        intro z3 x6 x7 x2
        refine w78_3 ?_
        show WP _ _ _
        rw [nI_1]
        exact ih (c + 1) (by omega) (by omega) _ _ _
      refine w78_1 ?_
      refine W_t (hK) ?_
      refine W_t (by rw [h0, i_lt (by omega) (by omega)]; omega) ?_
      refine W_t (hK) ?_
      refine W_f (by rw [h1, c3, nI_add, c0, i_eq (by omega) (by decide)]; omega) ?_
      refine W_si fun v e => ?_
      rw [h1, c3, nI_add, pk_rem hlt (by omega) (by omega)] at e
      refine W_t (hK) ?_
      refine W_f (by rw [h1, c3, nI_add, c0, i_eq (by omega) (by decide)]; omega) ?_
      refine W_t (hK) ?_
      have e1 : nI (n / (tH T + 3) ^ c) / (gI S t 1 + 3) = nI (n / (tH T + 3) ^ (c + 1)) := by
        rw [h1, c3, nI_add, pk_div hlt (by omega) (by omega), Nat.div_div_eq_div_mul, Nat.pow_succ]
      rw [e1]
      refine W_if (fun q => ?_) (fun q => ?_)
      · rw [h1, e, i_lt (by omega) (by omega)] at q
        show WP _ _ _
        refine w78_2 ?_
        refine W_f (by decide) ?_
        refine W_t (hK) ?_
        have e2 : v - gI S t 1 - 1 = nI (n / (tH T + 3) ^ c % (tH T + 3) - tH T - 1) := by
          rw [e, h1, pk_sub (by omega), c1, pk_sub (by omega)]
        rw [e2]
        refine W_L (f70 hwl (by omega) (by omega)) ?_
        show WP _ _ _
        have := fin (jk z3) v 1 (lN (walU T (fun j => n / (tH T + 3) ^ j % (tH T + 3)) c))
        rw [show walU T (fun j => n / (tH T + 3) ^ j % (tH T + 3)) (c + 1) = _ from if_pos q] at this
        exact this
      · rw [h1, e, i_lt (by omega) (by omega)] at q
        show WP _ _ _
        refine w78_2 ?_
        refine W_t (rfl) ?_
        rw [e]
        refine W_L (f59 hwl (by omega) (by omega)) ?_
        show WP _ _ _
        have := fin (jk z3) v 0 (lN (walU T (fun j => n / (tH T + 3) ^ j % (tH T + 3)) c))
        rw [show walU T (fun j => n / (tH T + 3) ^ j % (tH T + 3)) (c + 1) = _ from if_neg q, e] at this
        exact this
  have := key (tW T) 0 (by omega) (by omega) .null .null .null
  rw [show n / (tH T + 3) ^ 0 = n by simp] at this
  exact this
