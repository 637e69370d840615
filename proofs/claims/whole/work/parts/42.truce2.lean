/-! acts as numbers; how a stone stands -/
theorem tw_or {a k : Nat} (b : Nat) (h : a < 2 ^ k) (hb : 2 ^ k * b + a < 2 ^ 32) : nI (2 ^ k * b) ||| nI a = nI (2 ^ k * b + a) := by
  apply Int32.toBitVec_inj.mp
  rw [Int32.toBitVec_or]
  show BitVec.ofNat 32 _ ||| BitVec.ofNat 32 _ = BitVec.ofNat 32 _
  apply BitVec.eq_of_toNat_eq
  rw [BitVec.toNat_or, BitVec.toNat_ofNat, BitVec.toNat_ofNat, BitVec.toNat_ofNat, Nat.mod_eq_of_lt (by omega), Nat.mod_eq_of_lt (by omega), Nat.mod_eq_of_lt hb, Nat.two_pow_add_eq_or_of_lt h]
/-- an act as the class has it: a stone's, a gate's -/
def acS (s c b : Nat) : Nat := 64 * s + (4 * c + (b - 1))
def acG (c : Nat) : Nat := 384 + 4 * c
theorem f0 {d s c b : Nat} {S : St} (hs : s < 6) (hc : c < 10) (hb : 1 ≤ b) (hb4 : b ≤ 4) : F (d + 1) 0 [.int (nI s), .int (nI c), .int (nI b)] S = some (some (.int (nI (acS s c b))), S) := by
  refine fq0 (w0_0 ?_)
  refine ⟨?_, rfl⟩
  rw [pk_shlN (6 &&& 31) 6 (by decide) (by omega), pk_shlN (2 &&& 31) 2 (by decide) (by omega), show (1 : Int32) = nI 1 from rfl, pk_sub hb]
  rw [show s * 2 ^ 6 = 2 ^ 6 * s by omega, tw_or s (by omega) (by omega), show 2 ^ 6 * s + c * 2 ^ 2 = 2 ^ 2 * (16 * s + c) by omega, tw_or _ (by omega) (by omega), show 2 ^ 2 * (16 * s + c) + (b - 1) = acS s c b by unfold acS; omega]
theorem f1 {d c : Nat} {S : St} (hc : c < 10) : F (d + 1) 1 [.int (nI c)] S = some (some (.int (nI (acG c))), S) := by
  refine fq1 (w1_0 ?_)
  refine ⟨?_, rfl⟩
  rw [pk_shlN (2 &&& 31) 2 (by decide) (by omega), show (384 : Int32) = nI (2 ^ 6 * 6) from rfl, tw_or 6 (by omega) (by omega), show 2 ^ 6 * 6 + c * 2 ^ 2 = acG c by unfold acG; omega]
theorem f3 {d a : Nat} {S : St} (ha : a < 2 ^ 31) : F (d + 1) 3 [.int (nI a)] S = some (some (.int (nI (a / 64))), S) := by
  refine fq3 (w3_0 ?_)
  exact ⟨by rw [pk_shrN ha (6 &&& 31) 6 (by decide)], rfl⟩
theorem f4 {d a : Nat} {S : St} (ha : a < 2 ^ 31) : F (d + 1) 4 [.int (nI a)] S = some (some (.int (nI (a / 4 % 16))), S) := by
  refine fq4 (w4_0 ?_)
  exact ⟨by rw [pk_shrN ha (2 &&& 31) 2 (by decide), show (15 : Int32) = nI (2 ^ 4 - 1) from rfl, tw_and _ 4 (by decide)], rfl⟩
theorem f5 {d a : Nat} {S : St} : F (d + 1) 5 [.int (nI a)] S = some (some (.int (nI (a % 4 + 1))), S) := by
  refine fq5 (w5_0 ?_)
  exact ⟨by rw [show (3 : Int32) = nI (2 ^ 2 - 1) from rfl, tw_and _ 2 (by decide), show (1 : Int32) = nI 1 from rfl, nI_add], rfl⟩
theorem f2 {d a : Nat} {S : St} (ha : a < 2 ^ 31) : F (d + 2) 2 [.int (nI a)] S = some (some (.int (if a / 64 = 6 then 1 else 0)), S) := by
  refine fq2 (w2_0 ?_)
  refine W_I (f3 ha) ?_
  refine W_if (fun h => ?_) (fun h => ?_)
  · have h : a / 64 = 6 := (i_eq (b := 6) (by omega) (by decide)).mp h
    exact W_t (Or.inr rfl) ⟨by rw [if_pos h], rfl⟩
  · have h : ¬ a / 64 = 6 := fun z => h ((i_eq (b := 6) (by omega) (by decide)).mpr z)
    exact W_t (Or.inl rfl) ⟨by rw [if_neg h], rfl⟩
theorem acS_s (s c b : Nat) (hc : c < 10) (hb : 1 ≤ b) (hb4 : b ≤ 4) : acS s c b / 64 = s ∧ acS s c b / 4 % 16 = c ∧ acS s c b % 4 + 1 = b := by
  unfold acS
  refine ⟨by omega, by omega, by omega⟩
theorem acG_s (c : Nat) (hc : c < 10) : acG c / 64 = 6 ∧ acG c / 4 % 16 = c := by
  unfold acG
  refine ⟨by omega, by omega⟩
/-- the places that a stone of b columns from c on lies on, as one number -/
def pls (w c b : Nat) : Nat := w / 2 ^ (4 * c) % 2 ^ (4 * b)
theorem pls_at {w c b j : Nat} (hj : j < b) : pls w c b / 2 ^ (4 * j) % 16 = plc w (c + j) := by
  apply Nat.eq_of_testBit_eq
  intro i
  unfold pls plc
  rw [show (16 : Nat) = 2 ^ 4 from rfl, Nat.testBit_mod_two_pow, Nat.testBit_mod_two_pow, Nat.testBit_div_two_pow, Nat.testBit_div_two_pow, Nat.testBit_mod_two_pow, Nat.testBit_div_two_pow]
  by_cases hi : i < 4
  · rw [show i + 4 * j + 4 * c = i + 4 * (c + j) by omega]
    simp [hi, show i + 4 * j < 4 * b by omega]
  · simp [hi]
theorem pls_lt (w c b : Nat) : pls w c b < 2 ^ (4 * b) := Nat.mod_lt _ (Nat.two_pow_pos _)
theorem b_cases {b : Nat} (h1 : 1 ≤ b) (h4 : b ≤ 4) : b = 1 ∨ b = 2 ∨ b = 3 ∨ b = 4 := by omega
/-- the digits of the places -/
theorem pls_sum {w c b : Nat} (h1 : 1 ≤ b) (h4 : b ≤ 4) : pls w c b = plc w c + (if 2 ≤ b then 16 * plc w (c + 1) else 0) + (if 3 ≤ b then 256 * plc w (c + 2) else 0) + (if 4 ≤ b then 4096 * plc w (c + 3) else 0) := by
  have hlt := pls_lt w c b
  have d0 := pls_at (w := w) (c := c) (b := b) (j := 0) (by omega)
  rw [Nat.add_zero] at d0
  rcases b_cases h1 h4 with rfl | rfl | rfl | rfl
  · simp at d0 hlt ⊢; omega
  · have d1 := pls_at (w := w) (c := c) (b := 2) (j := 1) (by omega)
    simp at d0 d1 hlt ⊢; omega
  · have d1 := pls_at (w := w) (c := c) (b := 3) (j := 1) (by omega)
    have d2 := pls_at (w := w) (c := c) (b := 3) (j := 2) (by omega)
    simp at d0 d1 d2 hlt ⊢; omega
  · have d1 := pls_at (w := w) (c := c) (b := 4) (j := 1) (by omega)
    have d2 := pls_at (w := w) (c := c) (b := 4) (j := 2) (by omega)
    have d3 := pls_at (w := w) (c := c) (b := 4) (j := 3) (by omega)
    simp at d0 d1 d2 d3 hlt ⊢; omega
theorem tw_pls {w c b : Nat} (hw : w < 2 ^ 64) (hc : c < 10) (hb : b ≤ 4) : Int64.toInt32 (((lN w).toUInt64 >>> (((4 : Int32) * nI c).toInt64.toUInt64 &&& Int64.toUInt64 63)).toInt64) &&& nI (2 ^ (4 * b) - 1) = nI (pls w c b) := by
  rw [tw_i4 hc, wb_shr hw (by omega), lN_i, tw_and _ (4 * b) (by omega)]
  rfl
theorem tw_mask {b : Nat} (h1 : 1 ≤ b) (h4 : b ≤ 4) : ((1 : Int32) <<< (((4 : Int32) * nI b) &&& 31)) - 1 = nI (2 ^ (4 * b) - 1) := by
  rcases b_cases h1 h4 with rfl | rfl | rfl | rfl <;> decide +kernel
theorem bit3 {x : Nat} (h : x < 16) : x.testBit 3 = false ↔ x < 8 := by
  have : ∀ x, x < 16 → (x.testBit 3 = false ↔ x < 8) := by decide
  exact this x h
/-- no gate among the places -/
theorem tw_nogate {w c b : Nat} (h1 : 1 ≤ b) (h4 : b ≤ 4) : nI (pls w c b) &&& 34952 = 0 ↔ ∀ j, j < b → gat w (c + j) = 0 := by
  have hlt := pls_lt w c b
  have hp : pls w c b < 2 ^ 16 := Nat.lt_of_lt_of_le hlt (Nat.pow_le_pow_right (by decide) (by omega))
  have e1 : nI (pls w c b) &&& 34952 = nI (pls w c b &&& 34952) := by
    apply Int32.toBitVec_inj.mp
    rw [Int32.toBitVec_and]
    show BitVec.ofNat 32 _ &&& BitVec.ofNat 32 34952 = BitVec.ofNat 32 _
    apply BitVec.eq_of_toNat_eq
    rw [BitVec.toNat_and, BitVec.toNat_ofNat, BitVec.toNat_ofNat, BitVec.toNat_ofNat, Nat.mod_eq_of_lt (by omega), Nat.mod_eq_of_lt (by decide), Nat.mod_eq_of_lt (Nat.lt_of_le_of_lt Nat.and_le_left (by omega))]
  have e2 : nI (pls w c b &&& 34952) = 0 ↔ pls w c b &&& 34952 = 0 := i_eq (b := 0) (Nat.lt_of_le_of_lt Nat.and_le_left (by omega)) (by decide)
  rw [e1, e2]
  have hg : ∀ j, gat w j = 0 ↔ (plc w j).testBit 3 = false := fun j => by
    rw [bit3 (plc_lt w j)]
    unfold gat
    have := plc_lt w j
    split <;> omega
  have hb : ∀ j, j < b → (pls w c b).testBit (4 * j + 3) = (plc w (c + j)).testBit 3 := fun j hj => by
    rw [← pls_at hj, show (16 : Nat) = 2 ^ 4 from rfl, Nat.testBit_mod_two_pow, Nat.testBit_div_two_pow, Nat.add_comm 3]
    rfl
  have hm : ∀ i, (34952 : Nat).testBit i = true → i = 3 ∨ i = 7 ∨ i = 11 ∨ i = 15 := by
    intro i hi
    by_cases h16 : i < 16
    · have : ∀ i, i < 16 → (34952 : Nat).testBit i = true → i = 3 ∨ i = 7 ∨ i = 11 ∨ i = 15 := by decide
      exact this i h16 hi
    · rw [Nat.testBit_lt_two_pow (Nat.lt_of_lt_of_le (show 34952 < 2 ^ 16 by decide) (Nat.pow_le_pow_right (by decide) (by omega)))] at hi
      cases hi
  constructor
  · intro h j hj
    rw [hg, ← hb j hj]
    have h9 := congrArg (fun n => Nat.testBit n (4 * j + 3)) h
    simp only [Nat.testBit_and, Nat.zero_testBit] at h9
    have : (34952 : Nat).testBit (4 * j + 3) = true := by
      rcases (show j = 0 ∨ j = 1 ∨ j = 2 ∨ j = 3 by omega) with rfl | rfl | rfl | rfl <;> decide
    rw [this, Bool.and_true] at h9
    exact h9
  · intro h
    apply Nat.eq_of_testBit_eq
    intro i
    rw [Nat.testBit_and, Nat.zero_testBit]
    cases hi : (34952 : Nat).testBit i with
    | false => simp
    | true =>
      rw [Bool.and_true]
      obtain ⟨j, rfl⟩ : ∃ j, i = 4 * j + 3 := by
        rcases hm i hi with rfl | rfl | rfl | rfl
        · exact ⟨0, rfl⟩
        · exact ⟨1, rfl⟩
        · exact ⟨2, rfl⟩
        · exact ⟨3, rfl⟩
      by_cases hj : j < b
      · rw [hb j hj, ← hg]; exact h j hj
      · exact Nat.testBit_lt_two_pow (Nat.lt_of_lt_of_le hlt (Nat.pow_le_pow_right (by decide) (by omega)))
theorem dig2 {a b : Nat} (ha : a < 16) (hb : b < 16) : a + 16 * b = a * 4369 % 256 ↔ b = a := by omega
theorem dig3 {a b c : Nat} (ha : a < 16) (hb : b < 16) (hc : c < 16) : a + 16 * b + 256 * c = a * 4369 % 4096 ↔ b = a ∧ c = a := by
  have e : a * 4369 % 4096 = a * 273 := by omega
  rw [e]
  constructor
  · intro h
    have h1 : b = a := by omega
    exact ⟨h1, by omega⟩
  · rintro ⟨rfl, rfl⟩
    omega
theorem dig4 {a b c d : Nat} (ha : a < 16) (hb : b < 16) (hc : c < 16) (hd : d < 16) : a + 16 * b + 256 * c + 4096 * d = a * 4369 % 65536 ↔ b = a ∧ c = a ∧ d = a := by
  have e : a * 4369 % 65536 = a * 4369 := by omega
  rw [e]
  constructor
  · intro h
    have h1 : b = a := by omega
    subst h1
    have h2 : c = b := by omega
    exact ⟨rfl, h2, by omega⟩
  · rintro ⟨rfl, rfl, rfl⟩
    omega
/-- all places alike -/
theorem tw_level {w c b : Nat} (h1 : 1 ≤ b) (h4 : b ≤ 4) : nI (pls w c b) = ((nI (pls w c b) &&& 15) * 4369) &&& nI (2 ^ (4 * b) - 1) ↔ ∀ j, j < b → plc w (c + j) = plc w c := by
  have hlt := pls_lt w c b
  have hp : pls w c b < 2 ^ 16 := Nat.lt_of_lt_of_le hlt (Nat.pow_le_pow_right (by decide) (by omega))
  have d0 := pls_at (w := w) (c := c) (b := b) (j := 0) (by omega)
  rw [Nat.add_zero] at d0
  have d0' : pls w c b % 16 = plc w c := by simpa using d0
  have p0 := plc_lt w c
  rw [show (15 : Int32) = nI (2 ^ 4 - 1) from rfl, tw_and _ 4 (by decide), show (4369 : Int32) = nI 4369 from rfl, pk_mul, tw_and _ (4 * b) (by omega), show (2 : Nat) ^ 4 = 16 from rfl, d0']
  rw [i_eq (by omega) (Nat.lt_of_lt_of_le (Nat.mod_lt _ (Nat.two_pow_pos _)) (Nat.pow_le_pow_right (by decide) (by omega)))]
  have hs := pls_sum (w := w) (c := c) h1 h4
  have p1 := plc_lt w (c + 1)
  have p2 := plc_lt w (c + 2)
  have p3 := plc_lt w (c + 3)
  rw [hs]
  rcases b_cases h1 h4 with rfl | rfl | rfl | rfl
  · simp only [Nat.reduceLeDiff, if_false, Nat.reduceMul, Nat.reducePow]
    constructor
    · intro _ j hj
      rw [show j = 0 by omega, Nat.add_zero]
    · intro _
      omega
  · simp only [Nat.reduceLeDiff, if_false, if_true, Nat.reduceMul, Nat.reducePow, Nat.add_zero]
    rw [dig2 p0 p1]
    constructor
    · intro h j hj
      rcases (show j = 0 ∨ j = 1 by omega) with rfl | rfl
      · rfl
      · exact h
    · intro h
      exact h 1 (by omega)
  · simp only [Nat.reduceLeDiff, if_false, if_true, Nat.reduceMul, Nat.reducePow, Nat.add_zero]
    rw [dig3 p0 p1 p2]
    constructor
    · intro h j hj
      rcases (show j = 0 ∨ j = 1 ∨ j = 2 by omega) with rfl | rfl | rfl
      · rfl
      · exact h.1
      · exact h.2
    · intro h
      exact ⟨h 1 (by omega), h 2 (by omega)⟩
  · simp only [Nat.reduceLeDiff, if_true, Nat.reduceMul, Nat.reducePow]
    rw [dig4 p0 p1 p2 p3]
    constructor
    · intro h j hj
      rcases (show j = 0 ∨ j = 1 ∨ j = 2 ∨ j = 3 by omega) with rfl | rfl | rfl | rfl
      · rfl
      · exact h.1
      · exact h.2.1
      · exact h.2.2
    · intro h
      exact ⟨h 1 (by omega), h 2 (by omega), h 3 (by omega)⟩
/-- a yes or no as the machine has it -/
def bi (p : Prop) [Decidable p] : Int32 := if p then 1 else 0
theorem bi_t {p : Prop} [Decidable p] (h : p) : bi p = 1 := if_pos h
theorem bi_f {p : Prop} [Decidable p] (h : ¬ p) : bi p = 0 := if_neg h
theorem bi_0 {p : Prop} [Decidable p] : bi p = 0 ↔ ¬ p := by
  unfold bi
  split
  · exact ⟨fun z => absurd z (by decide), fun z => absurd ‹p› z⟩
  · exact ⟨fun _ => ‹¬ p›, fun _ => rfl⟩
theorem W_b {md : Nat → K} {Q : Option Value → St → Prop} {v : Int32} {S : St} (h : v = 0 ∨ v = 1) (hq : Q (some (.int v)) S) : WR md (if v = 0 ∨ v = 1 then some (.inr (some (.int v), S)) else none) Q := W_t h hq
abbrev brS (w c b : Nat) : Prop := (∀ j, j < b → 1 ≤ j → j + 1 < b → plc w (c + j) ≤ plc w c) ∧ plc w (c + (b - 1)) = plc w c

theorem f67_loop {d w c b : Nat} {S : St} (hb2 : 2 ≤ b) (hb4 : b ≤ 4) : ∀ (n i : Nat), n = b - i → 1 ≤ i → i < b → (∀ j, j < i → 1 ≤ j → j + 1 < b → plc w (c + j) ≤ plc w c) → WP (P67 (F d)) (1, [.int (nI (pls w c b)), .int (nI (plc w c)), .int (nI b), .int (nI i)], [], S) (fun r S' => r = some (.int (bi (brS w c b))) ∧ S' = S) := by
  intro n
  have hlt := pls_lt w c b
  have hp : pls w c b < 2 ^ 16 := Nat.lt_of_lt_of_le hlt (Nat.pow_le_pow_right (by decide) (by omega))
  have hpl := plc_lt w c
  induction n with
  | zero => intro i h1 h2 h3; omega
  | succ n ih =>
    intro i hn h1 hi hall
    have hsh : ∀ j, j < b → nI (pls w c b) >>> (((4 : Int32) * nI j) &&& 31) = nI (pls w c b / 2 ^ (4 * j)) := fun j hj => by
      rw [show (4 : Int32) = nI 4 from rfl, pk_mul]
      exact pk_shrN (by omega) _ (4 * j) (by
        rcases (show j = 0 ∨ j = 1 ∨ j = 2 ∨ j = 3 by omega) with rfl | rfl | rfl | rfl <;> decide)
    refine w67_1 ?_
    rw [show nI b - 1 = nI (b - 1) from pk_sub (b := 1) (by omega)]
    refine W_if (fun h => ?_) (fun h => ?_)
    · rw [i_lt (by omega) (by omega)] at h
      rw [hsh i hi, show (15 : Int32) = nI (2 ^ 4 - 1) from rfl, tw_and _ 4 (by decide), show (2 : Nat) ^ 4 = 16 from rfl, pls_at hi]
      have hpi := plc_lt w (c + i)
      refine W_if (fun q => ?_) (fun q => ?_)
      · rw [i_lt (by omega) (by omega)] at q
        refine W_b (Or.inl rfl) ⟨?_, rfl⟩
        rw [bi_f (fun z => by have := z.1 i hi h1 (by omega); omega)]
      · rw [i_lt (by omega) (by omega)] at q
        show WP _ _ _
        rw [nI_1]
        refine ih (i + 1) (by omega) (by omega) (by omega) (fun j hj h1j hjb => ?_)
        by_cases e : j = i
        · subst e; omega
        · exact hall j (by omega) h1j hjb
    · rw [i_lt (by omega) (by omega)] at h
      have hib : i = b - 1 := by omega
      rw [hsh (b - 1) (by omega)]
      have hlast : pls w c b / 2 ^ (4 * (b - 1)) = plc w (c + (b - 1)) := by
        rw [← pls_at (show b - 1 < b by omega)]
        refine (Nat.mod_eq_of_lt ?_).symm
        refine Nat.div_lt_of_lt_mul ?_
        rw [show (16 : Nat) = 2 ^ 4 from rfl, ← Nat.pow_add, show 4 * (b - 1) + 4 = 4 * b by omega]
        exact hlt
      have hpb := plc_lt w (c + (b - 1))
      rw [hlast]
      refine W_if (fun q => ?_) (fun q => ?_)
      · rw [i_eq (by omega) (by omega)] at q
        refine W_b (Or.inr rfl) ⟨?_, rfl⟩
        rw [bi_t ⟨fun j hj h1j hjb => hall j (by omega) h1j hjb, q⟩]
      · rw [i_eq (by omega) (by omega)] at q
        refine W_b (Or.inl rfl) ⟨?_, rfl⟩
        rw [bi_f (fun z => q z.2)]
theorem f67 {d w c b : Nat} {S : St} (hb2 : 2 ≤ b) (hb4 : b ≤ 4) : F (d + 1) 67 [.int (nI (pls w c b)), .int (nI (plc w c)), .int (nI b)] S = some (some (.int (bi (brS w c b))), S) := by
  refine fq67 (w67_0 ?_)
  exact f67_loop hb2 hb4 (b - 1) 1 rfl (by omega) (by omega) (fun j hj h1 _ => by omega)
