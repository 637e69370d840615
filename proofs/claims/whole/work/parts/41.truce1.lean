/-! the rules over a wall's number; the small methods of Truce -/
def hgt (w c : Nat) : Nat := if plc w c < 8 then plc w c else 0
/-- 0: no gate; else 1 and the town -/
def gat (w c : Nat) : Nat := if plc w c < 8 then 0 else plc w c - 7
theorem i_lt {a b : Nat} (ha : a < 2 ^ 31) (hb : b < 2 ^ 31) : nI a < nI b ↔ a < b := nI_ltI ha hb
theorem i_eq {a b : Nat} (ha : a < 2 ^ 31) (hb : b < 2 ^ 31) : nI a = nI b ↔ a = b := nI_eq ha hb
theorem gat_le (w c : Nat) : gat w c ≤ 8 := by
  have := plc_lt w c
  unfold gat
  split <;> omega
theorem hgt_le (w c : Nat) : hgt w c ≤ 7 := by unfold hgt; split <;> omega
theorem f57 {d w c : Nat} {S : St} (hw : w < 2 ^ 42) (hc : c < 10) : F (d + 1) 57 [.long (lN w), .int (nI c)] S = some (some (.int (nI (hgt w c))), S) := by
  have hp := plc_lt w c
  refine fq57 (w57_0 ?_)
  refine W_si fun v hv => ?_
  rw [tw_plc (by omega) hc] at hv
  subst hv
  refine W_if (fun h => ?_) (fun h => ?_)
  · have h : plc w c < 8 := (i_lt (b := 8) (by omega) (by decide)).mp h
    exact ⟨by rw [hgt, if_pos h], rfl⟩
  · have h : ¬ plc w c < 8 := fun z => h ((i_lt (b := 8) (by omega) (by decide)).mpr z)
    exact ⟨by rw [hgt, if_neg h]; rfl, rfl⟩
theorem f58 {d w c : Nat} {S : St} (hw : w < 2 ^ 42) (hc : c < 10) : F (d + 1) 58 [.long (lN w), .int (nI c)] S = some (some (.int (nI (gat w c) - 1)), S) := by
  have hp := plc_lt w c
  refine fq58 (w58_0 ?_)
  refine W_si fun v hv => ?_
  rw [tw_plc (by omega) hc] at hv
  subst hv
  refine W_if (fun h => ?_) (fun h => ?_)
  · have h : plc w c < 8 := (i_lt (b := 8) (by omega) (by decide)).mp h
    exact ⟨by rw [gat, if_pos h]; rfl, rfl⟩
  · have h : ¬ plc w c < 8 := fun z => h ((i_lt (b := 8) (by omega) (by decide)).mpr z)
    refine ⟨?_, rfl⟩
    rw [gat, if_neg h, show (8 : Int32) = nI 8 from rfl, pk_sub (by omega), show (1 : Int32) = nI 1 from rfl, pk_sub (by omega)]
    congr 3
theorem f59 {d w c v : Nat} {S : St} (hw : w < 2 ^ 42) (hc : c < 10) (hv : v < 16) : F (d + 1) 59 [.long (lN w), .int (nI c), .int (nI v)] S = some (some (.long (lN (putp w c v))), S) := by
  refine fq59 (w59_0 ?_)
  exact ⟨by rw [tw_putp hw hc hv], rfl⟩
theorem f70 {d w c t : Nat} {S : St} (hw : w < 2 ^ 42) (hc : c < 10) (ht : t < 2) : F (d + 2) 70 [.long (lN w), .int (nI c), .int (nI t)] S = some (some (.long (lN (setg (putp w c (8 + t)) t))), S) := by
  refine fq70 (w70_0 ?_)
  have h := f59 (d := d) (S := S) hw hc (v := 8 + t) (by omega)
  rw [← nI_add] at h
  refine W_L h ?_
  exact ⟨by rw [tw_setg (putp_lt hw hc (by omega)) ht], rfl⟩
/-- a truce: columns, height, gates, stones; their kinds, how wide -/
abbrev TD : Type := Nat × Nat × Nat × Nat × (Nat → Nat) × (Nat → Nat)
abbrev tW (T : TD) : Nat := T.1
abbrev tH (T : TD) : Nat := T.2.1
abbrev tG (T : TD) : Nat := T.2.2.1
abbrev tN (T : TD) : Nat := T.2.2.2.1
abbrev tK (T : TD) (i : Nat) : Nat := T.2.2.2.2.1 i
abbrev tB (T : TD) (i : Nat) : Nat := T.2.2.2.2.2 i
def okT (T : TD) : Prop := (2 ≤ tW T ∧ tW T ≤ 10) ∧ (1 ≤ tH T ∧ tH T ≤ 6) ∧ tG T ≤ 1 ∧ tN T ≤ 6 ∧ ∀ i, i < tN T → tK T i ≤ 5 ∧ 1 ≤ tB T i ∧ tB T i ≤ 4 ∧ (tK T i = 1 → 2 ≤ tB T i) ∧ (tK T i = 2 ∨ tK T i = 3 → tB T i = 1)
/-- cell t holds the truce -/
def TA (S : St) (t : Nat) (T : TD) : Prop := okT T ∧ gK S t = 5 ∧ gI S t 0 = nI (tW T) ∧ gI S t 1 = nI (tH T) ∧ gI S t 2 = nI (tG T) ∧ gI S t 3 = nI (tN T) ∧ (gK S (gR S t 4) = 100 ∧ gN S (gR S t 4) = 6 ∧ ∀ i, i < tN T → gI S (gR S t 4) i = nI (tK T i)) ∧ (gK S (gR S t 5) = 100 ∧ gN S (gR S t 5) = 6 ∧ ∀ i, i < tN T → gI S (gR S t 5) i = nI (tB T i))
theorem f63 {d t c : Nat} {S : St} {T : TD} (hT : TA S t T) (hc : c < tW T) : F (d + 1) 63 [.ref t, .int (nI c)] S = some (some (.int (nI (tW T - 1 - c))), S) := by
  obtain ⟨⟨hw, -⟩, hk, h0, -⟩ := hT
  refine fq63 (w63_0 ?_)
  refine W_t hk ?_
  exact ⟨by rw [h0, show (1 : Int32) = nI 1 from rfl, pk_sub (by omega), pk_sub (by omega)], rfl⟩
theorem f69 {d t w tn : Nat} {S : St} {T : TD} (hT : TA S t T) (hw : w < 2 ^ 42) (ht : tn < 2) (hg : gbit w tn ≤ tG T) : F (d + 1) 69 [.ref t, .long (lN w), .int (nI tn)] S = some (some (.int (nI (tG T - gbit w tn))), S) := by
  obtain ⟨-, hk, -, -, h2, -⟩ := hT
  refine fq69 (w69_0 ?_)
  refine W_t hk ?_
  exact ⟨by rw [h2, tw_gbit (by omega) ht, pk_sub hg], rfl⟩
theorem gat_m1 (w c : Nat) : nI (gat w c) - 1 = -1 ↔ gat w c = 0 := by
  have := gat_le w c
  constructor
  · intro h
    have h2 : (nI (gat w c) - nI 1).toInt = ((gat w c : Nat) : Int) - 1 := pk_sub_toInt (by omega) (by decide)
    rw [show nI 1 = (1 : Int32) from rfl, h] at h2
    have : (-1 : Int32).toInt = -1 := by decide
    omega
  · intro h
    rw [h]; rfl
/-- why a twin can't be set, or 0 -/
def twinH (T : TD) (w c : Nat) : Nat := if gat w c ≠ 0 ∨ gat w (tW T - 1 - c) ≠ 0 then 4 else if hgt w c < tH T ∧ hgt w (tW T - 1 - c) < tH T then 0 else 6
theorem f65 {d t w c : Nat} {S : St} {T : TD} (hT : TA S t T) (hw : w < 2 ^ 42) (hc : c < tW T) : F (d + 2) 65 [.ref t, .long (lN w), .int (nI c)] S = some (some (.int (nI (twinH T w c))), S) := by
  have hk : gK S t = 5 := hT.2.1
  have h1 : gI S t 1 = nI (tH T) := hT.2.2.2.1
  have hW : tW T ≤ 10 := hT.1.1.2
  have hH : tH T ≤ 6 := hT.1.2.1.2
  have g1 := hgt_le w c
  have g2 := hgt_le w (tW T - 1 - c)
  refine fq65 (w65_0 ?_)
  refine W_t hk ?_
  refine W_I (f63 hT hc) ?_
  refine W_I (f58 hw (by omega)) ?_
  unfold twinH
  refine W_if (fun h => ?_) (fun h => ?_)
  · rw [gat_m1] at h
    refine W_I (f58 hw (by omega)) ?_
    refine W_if (fun h' => ?_) (fun h' => ?_)
    · rw [gat_m1] at h'
      rw [if_neg (by omega)]
      refine W_I (f57 hw (by omega)) ?_
      refine W_t hk ?_
      rw [h1]
      refine W_if (fun q => ?_) (fun q => ?_)
      · rw [i_lt (by omega) (by omega)] at q
        refine W_I (f57 hw (by omega)) ?_
        refine W_t hk ?_
        rw [h1]
        refine W_if (fun q' => ?_) (fun q' => ?_)
        · rw [i_lt (by omega) (by omega)] at q'
          rw [if_pos ⟨q, q'⟩]; exact ⟨rfl, rfl⟩
        · rw [i_lt (by omega) (by omega)] at q'
          rw [if_neg (fun z => q' z.2)]; exact ⟨rfl, rfl⟩
      · rw [i_lt (by omega) (by omega)] at q
        rw [if_neg (fun z => q z.1)]; exact ⟨rfl, rfl⟩
    · rw [gat_m1] at h'
      rw [if_pos (Or.inr h')]; exact ⟨rfl, rfl⟩
  · rw [gat_m1] at h
    rw [if_pos (Or.inl h)]; exact ⟨rfl, rfl⟩
/-- why a gate can't be left, or 0 -/
def gateH (T : TD) (w tn c : Nat) : Nat := if tG T - gbit w tn = 0 then 3 else if gat w c ≠ 0 then 4 else if hgt w c = 0 then 0 else 5
theorem f68 {d t w tn c : Nat} {S : St} {T : TD} (hT : TA S t T) (hw : w < 2 ^ 42) (ht : tn < 2) (hg : gbit w tn ≤ tG T) (hc : c < 10) : F (d + 2) 68 [.ref t, .long (lN w), .int (nI tn), .int (nI c)] S = some (some (.int (nI (gateH T w tn c))), S) := by
  have hk : gK S t = 5 := hT.2.1
  have hG : tG T ≤ 1 := hT.1.2.2.1
  have g1 := hgt_le w c
  refine fq68 (w68_0 ?_)
  refine W_t hk ?_
  refine W_I (f69 hT hw ht hg) ?_
  unfold gateH
  refine W_if (fun h => ?_) (fun h => ?_)
  · rw [show (0 : Int32) = nI 0 from rfl, i_eq (by omega) (by decide)] at h
    rw [if_pos h]; exact ⟨rfl, rfl⟩
  · rw [show (0 : Int32) = nI 0 from rfl, i_eq (by omega) (by decide)] at h
    rw [if_neg h]
    refine W_I (f58 hw hc) ?_
    refine W_if (fun h' => ?_) (fun h' => ?_)
    · rw [gat_m1] at h'
      rw [if_neg (fun z => z h')]
      refine W_I (f57 hw hc) ?_
      refine W_if (fun q => ?_) (fun q => ?_)
      · rw [show (0 : Int32) = nI 0 from rfl, i_eq (by omega) (by decide)] at q
        rw [if_pos q]; exact ⟨rfl, rfl⟩
      · rw [show (0 : Int32) = nI 0 from rfl, i_eq (by omega) (by decide)] at q
        rw [if_neg q]; exact ⟨rfl, rfl⟩
    · rw [gat_m1] at h'
      rw [if_pos h']; exact ⟨rfl, rfl⟩
