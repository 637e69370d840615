/-! bits: the wall as a number; first a family of kit/laws/BITS.to-paste (wb_), then mine -/
theorem wb_tb (n : Nat) : (lN n).toBitVec = BitVec.ofNat 64 n := rfl
theorem wb_inj {a b : Int64} (h : a.toBitVec = b.toBitVec) : a = b := Int64.toBitVec_inj.mp h
theorem wb_tn {n : Nat} (h : n < 2 ^ 64) : (lN n).toBitVec.toNat = n := by rw [wb_tb, BitVec.toNat_ofNat, Nat.mod_eq_of_lt h]
theorem wb_of (x : Int64) : ∃ n, n < 2 ^ 64 ∧ x = lN n := ⟨x.toBitVec.toNat, x.toBitVec.isLt, wb_inj (by rw [wb_tb]; simp)⟩
theorem wb_of32 (x : Int32) : ∃ n, n < 2 ^ 32 ∧ x = nI n := ⟨x.toBitVec.toNat, x.toBitVec.isLt, Int32.toBitVec_inj.mp (by show _ = BitVec.ofNat 32 _; simp)⟩
theorem wb_c : ∀ k, k < 64 → ((nI k).toInt64 &&& 63) = lN k := by decide +kernel
theorem wb_cu : ∀ k, k < 64 → ((nI k).toInt64.toUInt64 &&& Int64.toUInt64 63) = UInt64.ofNat k := by decide +kernel
theorem wb_sm : ∀ k, k < 64 → (BitVec.ofNat 64 k).smod 64 = BitVec.ofNat 64 k := by decide +kernel
theorem wb_pw {a b : Nat} (h : a ≤ b) : 2 ^ b = 2 ^ a * 2 ^ (b - a) := by rw [← Nat.pow_add]; congr 1; omega
theorem wb_lt2 {a b : Nat} (h : a < b) : 2 ^ a < 2 ^ b := Nat.pow_lt_pow_right (by decide) h
theorem wb_mod (n : Nat) : lN n = lN (n % 2 ^ 64) := wb_inj (by rw [wb_tb, wb_tb]; apply BitVec.eq_of_toNat_eq; rw [BitVec.toNat_ofNat, BitVec.toNat_ofNat, Nat.mod_mod])
theorem wb_shr {n k : Nat} (hn : n < 2 ^ 64) (hk : k < 64) : ((lN n).toUInt64 >>> ((nI k).toInt64.toUInt64 &&& Int64.toUInt64 63)).toInt64 = lN (n / 2 ^ k) := by
  rw [wb_cu k hk]
  apply wb_inj
  apply BitVec.eq_of_toNat_eq
  show ((lN n).toUInt64 >>> UInt64.ofNat k).toNat = (BitVec.ofNat 64 _).toNat
  have h1 : (UInt64.ofNat k).toNat = k := by
    show (BitVec.ofNat 64 k).toNat = k
    rw [BitVec.toNat_ofNat, Nat.mod_eq_of_lt (by omega)]
  have h2 : (lN n).toUInt64.toNat = n := wb_tn hn
  rw [UInt64.toNat_shiftRight, h1, h2, Nat.mod_eq_of_lt hk, Nat.shiftRight_eq_div_pow, BitVec.toNat_ofNat, Nat.mod_eq_of_lt (Nat.lt_of_le_of_lt (Nat.div_le_self _ _) hn)]
theorem wb_shl (n : Nat) {k : Nat} (hk : k < 64) : lN n <<< ((nI k).toInt64 &&& 63) = lN (n * 2 ^ k) := by
  rw [wb_c k hk]
  apply wb_inj
  rw [Int64.toBitVec_shiftLeft, wb_tb, wb_tb, wb_tb, wb_sm k hk]
  apply BitVec.eq_of_toNat_eq
  rw [BitVec.shiftLeft_eq', BitVec.toNat_shiftLeft, BitVec.toNat_ofNat, BitVec.toNat_ofNat, BitVec.toNat_ofNat, Nat.mod_eq_of_lt (show k < 2 ^ 64 by omega), Nat.shiftLeft_eq, Nat.mul_mod, Nat.mod_mod, ← Nat.mul_mod]
theorem wb_and {a b : Nat} (ha : a < 2 ^ 64) (hb : b < 2 ^ 64) : lN a &&& lN b = lN (a &&& b) := by
  apply wb_inj
  rw [Int64.toBitVec_and, wb_tb, wb_tb, wb_tb]
  apply BitVec.eq_of_toNat_eq
  rw [BitVec.toNat_and, BitVec.toNat_ofNat, BitVec.toNat_ofNat, BitVec.toNat_ofNat, Nat.mod_eq_of_lt ha, Nat.mod_eq_of_lt hb, Nat.mod_eq_of_lt (Nat.and_lt_two_pow _ hb)]
theorem wb_or {a b : Nat} (ha : a < 2 ^ 64) (hb : b < 2 ^ 64) : lN a ||| lN b = lN (a ||| b) := by
  apply wb_inj
  rw [Int64.toBitVec_or, wb_tb, wb_tb, wb_tb]
  apply BitVec.eq_of_toNat_eq
  rw [BitVec.toNat_or, BitVec.toNat_ofNat, BitVec.toNat_ofNat, BitVec.toNat_ofNat, Nat.mod_eq_of_lt ha, Nat.mod_eq_of_lt hb, Nat.mod_eq_of_lt (Nat.or_lt_two_pow ha hb)]
theorem wb_mask {n k : Nat} (hn : n < 2 ^ 64) (hk : k < 64) : lN n &&& lN (2 ^ k - 1) = lN (n % 2 ^ k) := by
  rw [wb_and hn (by have := wb_lt2 hk; omega), Nat.and_two_pow_sub_one_eq_mod]
theorem wb_a1 {n : Nat} (hn : n < 2 ^ 64) : lN n &&& 1 = lN (n % 2) := wb_mask (k := 1) hn (by decide)
theorem wb_bit {n k : Nat} (hn : n < 2 ^ 64) (hk : k < 64) : ((lN n).toUInt64 >>> ((nI k).toInt64.toUInt64 &&& Int64.toUInt64 63)).toInt64 &&& 1 = lN (n / 2 ^ k % 2) := by
  rw [wb_shr hn hk, wb_a1 (Nat.lt_of_le_of_lt (Nat.div_le_self _ _) hn)]
theorem tw_i4 {c : Nat} (h : c < 10) : (4 : Int32) * nI c = nI (4 * c) := by
  rw [show (4 : Int32) = nI 4 from rfl, pk_mul]
theorem tw_and (n k : Nat) (hk : k ≤ 31) : nI n &&& nI (2 ^ k - 1) = nI (n % 2 ^ k) := by
  apply Int32.toBitVec_inj.mp
  rw [Int32.toBitVec_and]
  show BitVec.ofNat 32 n &&& BitVec.ofNat 32 (2 ^ k - 1) = BitVec.ofNat 32 (n % 2 ^ k)
  apply BitVec.eq_of_toNat_eq
  have h1 : 2 ^ k ≤ 2 ^ 31 := Nat.pow_le_pow_right (by decide) hk
  have h2 : n % 2 ^ k < 2 ^ k := Nat.mod_lt _ (Nat.two_pow_pos k)
  rw [BitVec.toNat_and, BitVec.toNat_ofNat, BitVec.toNat_ofNat, BitVec.toNat_ofNat, Nat.mod_eq_of_lt (show 2 ^ k - 1 < 2 ^ 32 by omega), Nat.and_two_pow_sub_one_eq_mod, Nat.mod_eq_of_lt (show n % 2 ^ k < 2 ^ 32 by omega), Nat.mod_mod_of_dvd]
  exact Nat.pow_dvd_pow 2 (by omega)
/-- the place of a column in a wall's number -/
def plc (w c : Nat) : Nat := w / 2 ^ (4 * c) % 16
theorem plc_lt (w c : Nat) : plc w c < 16 := Nat.mod_lt _ (by decide)
theorem tw_plc {w c : Nat} (hw : w < 2 ^ 64) (hc : c < 10) : Int64.toInt32 (((lN w).toUInt64 >>> (((4 : Int32) * nI c).toInt64.toUInt64 &&& Int64.toUInt64 63)).toInt64) &&& 15 = nI (plc w c) := by
  rw [tw_i4 hc, wb_shr hw (by omega), lN_i, show (15 : Int32) = nI (2 ^ 4 - 1) from rfl, tw_and _ 4 (by decide)]
  rfl
theorem plc_bit (w c i : Nat) : (plc w c).testBit i = (decide (i < 4) && w.testBit (4 * c + i)) := by
  unfold plc
  rw [show (16 : Nat) = 2 ^ 4 from rfl, Nat.testBit_mod_two_pow, Nat.testBit_div_two_pow, Nat.add_comm i]
/-- a place is put -/
def putp (w c v : Nat) : Nat := (w &&& ((15 * 2 ^ (4 * c)) ^^^ (2 ^ 64 - 1))) ||| (v * 2 ^ (4 * c))
theorem putp_bit {w c v : Nat} (hw : w < 2 ^ 64) (hc : c < 10) (hv : v < 16) (i : Nat) : (putp w c v).testBit i = if 4 * c ≤ i ∧ i < 4 * c + 4 then v.testBit (i - 4 * c) else w.testBit i := by
  unfold putp
  rw [Nat.testBit_or, Nat.testBit_and, Nat.testBit_xor, Nat.testBit_two_pow_sub_one]
  rw [← Nat.shiftLeft_eq, ← Nat.shiftLeft_eq, Nat.testBit_shiftLeft, Nat.testBit_shiftLeft]
  have h15 : ∀ j, (15 : Nat).testBit j = decide (j < 4) := fun j => by
    rw [show (15 : Nat) = 2 ^ 4 - 1 from rfl, Nat.testBit_two_pow_sub_one]
  have hv4 : ∀ j, 4 ≤ j → v.testBit j = false := fun j hj => Nat.testBit_lt_two_pow (Nat.lt_of_lt_of_le hv (by rw [show (16 : Nat) = 2 ^ 4 from rfl]; exact Nat.pow_le_pow_right (by decide) hj))
  have hw64 : 64 ≤ i → w.testBit i = false := fun hj => Nat.testBit_lt_two_pow (Nat.lt_of_lt_of_le hw (Nat.pow_le_pow_right (by decide) hj))
  rw [h15]
  by_cases h1 : 4 * c ≤ i
  · by_cases h2 : i < 4 * c + 4
    · rw [if_pos ⟨h1, h2⟩]
      simp [h1, show i < 64 by omega, show i - 4 * c < 4 by omega]
    · rw [if_neg (by omega), hv4 (i - 4 * c) (by omega)]
      by_cases h3 : i < 64
      · simp [h1, h3, show ¬ i - 4 * c < 4 by omega]
      · simp [hw64 (by omega)]
  · rw [if_neg (by omega)]
    simp [h1, show i < 64 by omega]
theorem putp_lt {w c v : Nat} (hw : w < 2 ^ 42) (hc : c < 10) (hv : v < 16) : putp w c v < 2 ^ 42 := by
  apply Nat.lt_pow_two_of_testBit
  intro i hi
  rw [putp_bit (by omega) hc hv, if_neg (by omega)]
  exact Nat.testBit_lt_two_pow (Nat.lt_of_lt_of_le hw (Nat.pow_le_pow_right (by decide) hi))
theorem plc_putp {w c v : Nat} (hw : w < 2 ^ 42) (hc : c < 10) (hv : v < 16) {j : Nat} (hj : j < 10) : plc (putp w c v) j = if j = c then v else plc w j := by
  apply Nat.eq_of_testBit_eq
  intro i
  rw [plc_bit, putp_bit (by omega) hc hv]
  by_cases hi : i < 4
  · by_cases e : j = c
    · subst e
      rw [if_pos rfl, if_pos (by omega)]
      simp [hi]
    · rw [if_neg e, if_neg (by omega), plc_bit]
  · have : (if j = c then v else plc w j).testBit i = false := by
      apply Nat.testBit_lt_two_pow
      have : (if j = c then v else plc w j) < 16 := by
        split
        · exact hv
        · exact plc_lt w j
      exact Nat.lt_of_lt_of_le this (by rw [show (16 : Nat) = 2 ^ 4 from rfl]; exact Nat.pow_le_pow_right (by decide) (by omega))
    rw [this]
    simp [hi]
/-- the bit of a town that has left a gate -/
def gbit (w t : Nat) : Nat := w / 2 ^ (40 + t) % 2
theorem gbit_bit (w t : Nat) : gbit w t = if w.testBit (40 + t) then 1 else 0 := by
  unfold gbit
  rw [Nat.testBit_eq_decide_div_mod_eq]
  rcases Nat.mod_two_eq_zero_or_one (w / 2 ^ (40 + t)) with h | h <;> simp [h]
theorem gbit_putp {w c v : Nat} (hw : w < 2 ^ 42) (hc : c < 10) (hv : v < 16) (t : Nat) : gbit (putp w c v) t = gbit w t := by
  have : (putp w c v).testBit (40 + t) = w.testBit (40 + t) := by rw [putp_bit (by omega) hc hv, if_neg (by omega)]
  rw [gbit_bit, gbit_bit, this]
theorem tw_putp {w c v : Nat} (hw : w < 2 ^ 42) (hc : c < 10) (hv : v < 16) : (lN w &&& (((15 : Int64) <<< (((4 : Int32) * nI c).toInt64 &&& 63)) ^^^ (-1))) ||| ((nI v).toInt64 <<< (((4 : Int32) * nI c).toInt64 &&& 63)) = lN (putp w c v) := by
  have h2 : 15 * 2 ^ (4 * c) < 2 ^ 64 := by
    have : 2 ^ (4 * c) ≤ 2 ^ 36 := Nat.pow_le_pow_right (by decide) (by omega)
    omega
  have h3 : v * 2 ^ (4 * c) < 2 ^ 64 := by
    have : 2 ^ (4 * c) ≤ 2 ^ 36 := Nat.pow_le_pow_right (by decide) (by omega)
    calc v * 2 ^ (4 * c) ≤ 15 * 2 ^ (4 * c) := Nat.mul_le_mul_right _ (by omega)
      _ < 2 ^ 64 := h2
  have hx : lN (15 * 2 ^ (4 * c)) ^^^ (-1) = lN ((15 * 2 ^ (4 * c)) ^^^ (2 ^ 64 - 1)) := by
    apply wb_inj
    rw [Int64.toBitVec_xor, wb_tb, wb_tb]
    apply BitVec.eq_of_toNat_eq
    have : (-1 : Int64).toBitVec.toNat = 2 ^ 64 - 1 := by decide
    rw [BitVec.toNat_xor, this, BitVec.toNat_ofNat, BitVec.toNat_ofNat, Nat.mod_eq_of_lt h2, Nat.mod_eq_of_lt (Nat.xor_lt_two_pow h2 (by decide))]
  rw [tw_i4 hc, show (15 : Int64) = lN 15 from rfl, wb_shl 15 (by omega), hx, nI_l (by omega), wb_shl v (by omega), wb_and (by omega) (Nat.xor_lt_two_pow h2 (by decide)), wb_or (Nat.and_lt_two_pow _ (Nat.xor_lt_two_pow h2 (by decide))) h3]
  rfl
/-- a town's bit is set -/
def setg (w t : Nat) : Nat := w ||| 2 ^ (40 + t)
theorem tw_setg {w t : Nat} (hw : w < 2 ^ 42) (ht : t < 2) : lN w ||| ((1 : Int64) <<< (((40 : Int32) + nI t).toInt64 &&& 63)) = lN (setg w t) := by
  have h2 : 2 ^ (40 + t) < 2 ^ 64 := Nat.pow_lt_pow_right (by decide) (by omega)
  rw [show (40 : Int32) = nI 40 from rfl, nI_add, show (1 : Int64) = lN 1 from rfl, wb_shl 1 (by omega), Nat.one_mul, wb_or (by omega) h2]
  rfl
theorem setg_bit (w t i : Nat) : (setg w t).testBit i = (w.testBit i || decide (40 + t = i)) := by
  unfold setg
  rw [Nat.testBit_or, Nat.testBit_two_pow]
theorem setg_lt {w t : Nat} (hw : w < 2 ^ 42) (ht : t < 2) : setg w t < 2 ^ 42 := Nat.or_lt_two_pow hw (Nat.pow_lt_pow_right (by decide) (by omega))
theorem plc_setg {w t j : Nat} (hj : j < 10) : plc (setg w t) j = plc w j := by
  apply Nat.eq_of_testBit_eq
  intro i
  rw [plc_bit, plc_bit, setg_bit]
  by_cases hi : i < 4
  · rw [show decide (40 + t = 4 * j + i) = false by simp; omega]
    simp
  · simp [hi]
theorem gbit_setg (w t u : Nat) : gbit (setg w t) u = if u = t then 1 else gbit w u := by
  rw [gbit_bit, gbit_bit, setg_bit]
  by_cases e : u = t
  · subst e; simp
  · rw [if_neg e, show decide (40 + t = 40 + u) = false by simp; omega]
    simp
theorem tw_gbit {w t : Nat} (hw : w < 2 ^ 64) (ht : t < 2) : Int64.toInt32 (((lN w).toUInt64 >>> (((40 : Int32) + nI t).toInt64.toUInt64 &&& Int64.toUInt64 63)).toInt64) &&& 1 = nI (gbit w t) := by
  rw [show (40 : Int32) = nI 40 from rfl, nI_add, wb_shr hw (by omega), lN_i, show (1 : Int32) = nI (2 ^ 1 - 1) from rfl, tw_and _ 1 (by decide)]
  rfl
