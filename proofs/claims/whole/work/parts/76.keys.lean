/-! the reference's numbers of walls -/
def gbd (w c : Nat) : Nat := if gat w c = 0 then 0 else 1
def wkh (T : TD) (w : Nat) : Nat := numG (tH T + 1) (hgt w) 0 (tW T)
def wkg (T : TD) (w : Nat) : Nat := numG 2 (gbd w) 0 (tW T)
def wkey (T : TD) (w : Nat) : Nat := 32 * wkh T w + wkg T w
def nkey (T : TD) (w tn : Nat) : Nat := 8 * wkey T w + 4 * tn + 2 * (tG T - gbit w 1) + (tG T - gbit w 0)
theorem gbd_lt (w c : Nat) : gbd w c < 2 := by unfold gbd; split <;> omega
theorem wkh_lt {T : TD} {w : Nat} (hT : okT T) (hs : small T) (hw : okW T w) : wkh T w < 256 := by
  have h1 := hT.1
  have : wkh T w < (tH T + 1) ^ tW T := numG_lt (fun j _ hj => Nat.lt_succ_of_le (hw.hgt_le (by omega) hT.2.1.2))
  have h2 : (tH T + 1) ^ tW T ≤ 256 := hs.2
  omega
theorem wkg_lt {T : TD} {w : Nat} (hs : small T) : wkg T w < 32 := by
  have h1 : wkg T w < 2 ^ tW T := numG_lt (fun j _ _ => gbd_lt w j)
  have h2 : 2 ^ tW T ≤ 2 ^ 5 := Nat.pow_le_pow_right (by decide) hs.1
  omega
theorem wkey_lt {T : TD} {w : Nat} (hT : okT T) (hs : small T) (hw : okW T w) : wkey T w < 8192 := by
  have h1 := wkh_lt hT hs hw
  have h2 := wkg_lt (w := w) hs
  unfold wkey
  omega
theorem nkey_lt {T : TD} {w tn : Nat} (hT : okT T) (hs : small T) (hw : okW T w) (ht : tn < 2) : nkey T w tn < 65536 := by
  have h1 := wkey_lt hT hs hw
  have hG := hT.2.2.1
  unfold nkey
  omega
theorem nkey_div {T : TD} {w tn : Nat} (hT : okT T) (hs : small T) (ht : tn < 2) : nkey T w tn / 256 = wkh T w ∧ nkey T w tn / 8 % 32 = wkg T w ∧ nkey T w tn / 4 % 2 = tn ∧ nkey T w tn / 2 % 2 = tG T - gbit w 1 ∧ nkey T w tn % 2 = tG T - gbit w 0 ∧ nkey T w tn / 8 = wkey T w := by
  have h2 := wkg_lt (w := w) hs
  have hG := hT.2.2.1
  unfold nkey wkey
  generalize wkh T w = a at *
  generalize wkg T w = b at *
  have g1 : tG T - gbit w 1 ≤ 1 := by omega
  have g0 : tG T - gbit w 0 ≤ 1 := by omega
  generalize tG T - gbit w 1 = c at *
  generalize tG T - gbit w 0 = e at *
  refine ⟨by omega, by omega, by omega, by omega, by omega, by omega⟩
theorem wkh_at {T : TD} {w c : Nat} (hT : okT T) (hw : okW T w) (hc : c < tW T) : wkh T w / (tH T + 1) ^ c % (tH T + 1) = hgt w c := by
  have h1 := hT.1
  have := numG_at (B := tH T + 1) (dg := hgt w) (i := c) (n := tW T) (c := 0) hc (fun j _ hj => Nat.lt_succ_of_le (hw.hgt_le (by omega) hT.2.1.2))
  rw [Nat.zero_add] at this
  exact this
theorem wkg_at {T : TD} {w c : Nat} (hc : c < tW T) : wkg T w / 2 ^ c % 2 = gbd w c := by
  have := numG_at (B := 2) (dg := gbd w) (i := c) (n := tW T) (c := 0) hc (fun j _ _ => gbd_lt w j)
  rw [Nat.zero_add] at this
  exact this
/-- walls of one look -/
theorem wkey_look {T : TD} {w w' : Nat} (hT : okT T) (hs : small T) (hw : okW T w) (hw' : okW T w') (h : wkey T w = wkey T w') : ∀ c, c < tW T → hgt w c = hgt w' c ∧ (gat w c = 0 ↔ gat w' c = 0) := by
  have a1 := wkg_lt (w := w) hs
  have a2 := wkg_lt (w := w') hs
  unfold wkey at h
  have e1 : wkh T w = wkh T w' := by omega
  have e2 : wkg T w = wkg T w' := by omega
  intro c hc
  refine ⟨by rw [← wkh_at hT hw hc, ← wkh_at hT hw' hc, e1], ?_⟩
  have e3 : gbd w c = gbd w' c := by rw [← wkg_at (w := w) hc, ← wkg_at (w := w') hc, e2]
  unfold gbd at e3
  constructor
  · intro z
    rw [if_pos z] at e3
    by_cases y : gat w' c = 0
    · exact y
    · rw [if_neg y] at e3; omega
  · intro z
    rw [if_pos z] at e3
    by_cases y : gat w c = 0
    · exact y
    · rw [if_neg y] at e3; omega
theorem look_wkey {T : TD} {w w' : Nat} (h : ∀ c, c < tW T → hgt w c = hgt w' c ∧ (gat w c = 0 ↔ gat w' c = 0)) : wkey T w = wkey T w' ∧ numl T w = numl T w' := by
  have e : ∀ c, c < tW T → gbd w c = gbd w' c := fun c hc => by
    unfold gbd
    by_cases z : gat w c = 0
    · rw [if_pos z, if_pos ((h c hc).2.mp z)]
    · rw [if_neg z, if_neg (fun y => z ((h c hc).2.mpr y))]
  refine ⟨?_, ?_⟩
  · unfold wkey wkh wkg
    rw [numG_congr (fun j _ hj => (h j (by omega)).1), numG_congr (B := 2) (fun j _ hj => e j (by omega))]
  · unfold numl
    refine numG_congr (fun j _ hj => ?_)
    have := h j (by omega)
    unfold digl
    by_cases z : gat w j = 0
    · rw [if_pos z, if_pos (this.2.mp z), this.1]
    · rw [if_neg z, if_neg (fun y => z (this.2.mpr y))]
theorem gat_hgt {w c : Nat} (h : gat w c ≠ 0) : hgt w c = 0 := by
  unfold hgt
  rw [if_neg (fun z => h (gat0.mpr z))]
theorem numl_look {T : TD} {w w' : Nat} (hT : okT T) (hw : okW T w) (hw' : okW T w') (h : numl T w = numl T w') : ∀ c, c < tW T → hgt w c = hgt w' c ∧ (gat w c = 0 ↔ gat w' c = 0) := by
  have h1 := hT.1
  intro c hc
  have e : digl T w c = digl T w' c := by
    have a := numG_at (B := tH T + 3) (dg := digl T w) (i := c) (n := tW T) (c := 0) hc (fun i _ h => digl_lt hT hw (by omega))
    have b := numG_at (B := tH T + 3) (dg := digl T w') (i := c) (n := tW T) (c := 0) hc (fun i _ h => digl_lt hT hw' (by omega))
    rw [Nat.zero_add] at a b
    rw [← a, ← b]
    show numl T w / _ % _ = numl T w' / _ % _
    rw [h]
  have g1 := hw.hgt_le (c := c) (by omega) hT.2.1.2
  have g2 := hw'.hgt_le (c := c) (by omega) hT.2.1.2
  unfold digl at e
  by_cases z : gat w c = 0
  · rw [if_pos z] at e
    by_cases y : gat w' c = 0
    · rw [if_pos y] at e; exact ⟨e, ⟨fun _ => y, fun _ => z⟩⟩
    · rw [if_neg y] at e; omega
  · rw [if_neg z] at e
    by_cases y : gat w' c = 0
    · rw [if_pos y] at e; omega
    · exact ⟨by rw [gat_hgt z, gat_hgt y], ⟨fun x => absurd x z, fun x => absurd x y⟩⟩
theorem key_numl {T : TD} {w w' : Nat} (hT : okT T) (hs : small T) (hw : okW T w) (hw' : okW T w') : numl T w = numl T w' ↔ wkey T w = wkey T w' := ⟨fun h => (look_wkey (numl_look hT hw hw' h)).1, fun h => (look_wkey (wkey_look hT hs hw hw' h)).2⟩
theorem nkey_like {T : TD} {w w' tn tn' : Nat} (hT : okT T) (hs : small T) (hw : okW T w) (hw' : okW T w') (ht : tn < 2) (ht' : tn' < 2) (h : nkey T w tn = nkey T w' tn') : tn = tn' ∧ like T w w' := by
  obtain ⟨a1, a2, a3, a4, a5, a6⟩ := nkey_div (w := w) hT hs ht
  obtain ⟨b1, b2, b3, b4, b5, b6⟩ := nkey_div (w := w') hT hs ht'
  rw [h] at a3 a4 a5 a6
  have g0 := hw.g (tn := 0) (by omega)
  have g1 := hw.g (tn := 1) (by omega)
  have g0' := hw'.g (tn := 0) (by omega)
  have g1' := hw'.g (tn := 1) (by omega)
  refine ⟨by omega, wkey_look hT hs hw hw' (a6.symm.trans b6), fun t ht => ?_⟩
  rcases (show t = 0 ∨ t = 1 by omega) with rfl | rfl <;> omega
theorem like_nkey {T : TD} {w w' tn : Nat} (h : like T w w') : nkey T w tn = nkey T w' tn := by
  unfold nkey
  rw [(look_wkey h.1).1, h.2 0 (by omega), h.2 1 (by omega)]
section REF
variable {S : St} {T : TD} {o w tn : Nat}
set_option maxRecDepth 4096 in
/-- wallOf -/
theorem f166 {d : Nat} (hM : ShM S) (hR : RT S T) (hrow : RoW S o T w tn) (ho : o + 64 ≤ 2560) : F (d + 1) 166 [.ref 39, .int (nI o)] S = some (some (.int (nI (wkey T w))), S) := by
  have hT := hR.1
  have hW := hT.1
  refine fq166 (w166_0 ?_)
  simp only [hM.k39, hM.r39_10, hM.k41, hM.n41, z0c, eq_self, if_true, Nat.reduceAdd, true_and]
  refine W_t (in0 (by decide) (by decide)) ?_
  rw [hR.2.1]
  refine W_si fun v e => ?_
  subst e
  show WP _ _ _
  have key : ∀ k, k ≤ tW T → WP (P166 (F d)) (1, [.ref 39, .int (nI o), .int (nI (numG (tH T + 1) (hgt w) k (tW T - k))), .int (nI (numG 2 (gbd w) k (tW T - k))), .int (nI k - 1)], [], S) (fun r S' => r = some (.int (nI (wkey T w))) ∧ S' = S) := by
    intro k
    induction k with
    | zero =>
      intro _
      refine w166_1 ?_
      refine W_t (by decide +kernel) ?_
      refine ⟨?_, rfl⟩
      rw [show (32 : Int32) = nI 32 from rfl, pk_mul, nI_add]
      rfl
    | succ k ih =>
      intro hk
      rw [nI_pred]
      refine w166_1 ?_
      refine W_f (nI_n0 (by omega)) ?_
      simp only [hM.k39, hM.r39_11, hM.k42, hM.n42, hM.r39_36, hM.k63, hM.n63, z0c, eq_self, if_true, Nat.reduceAdd, true_and]
      refine W_t (in0 (by decide) (by decide)) ?_
      rw [nI_add, c10, nI_add, nI_add]
      refine W_t (inB_n (by omega) (by decide)) ?_
      rw [nI_clamp (n := o + k) (by omega), hrow.1 k (by omega), hR.2.2.1, nI_1, pk_mul, nI_add]
      refine W_si fun v e => ?_
      refine W_t (inB_n (by omega) (by decide)) ?_
      rw [nI_clamp (by omega)]
      have hgp := hrow.gp (c := k) (by omega)
      have e1 : numG (tH T + 1) (hgt w) k (tW T - k) = numG (tH T + 1) (hgt w) (k + 1) (tW T - (k + 1)) * (tH T + 1) + hgt w k := by
        rw [show tW T - k = (tW T - (k + 1)) + 1 by omega]
        rfl
      have e2 : numG 2 (gbd w) k (tW T - k) = numG 2 (gbd w) (k + 1) (tW T - (k + 1)) * 2 + gbd w k := by
        rw [show tW T - k = (tW T - (k + 1)) + 1 by omega]
        rfl
      have fin : ∀ y : Int32, y = nI (gbd w k) → WP (P166 (F d)) (2, [.ref 39, .int (nI o), .int v, .int (nI (numG 2 (gbd w) (k + 1) (tW T - (k + 1)))), .int (nI k)], [.int y, .int ((2 : Int32) * nI (numG 2 (gbd w) (k + 1) (tW T - (k + 1))))], S) (fun r S' => r = some (.int (nI (wkey T w))) ∧ S' = S) := by
        intro y hy
        refine w166_2 ?_
        show WP _ _ _
        have := ih (by omega)
        rw [e1, e2] at this
        rw [e, hy, c2, pk_mul, nI_add, m1_add, Nat.mul_comm 2]
        exact this
      refine W_if (fun q => ?_) (fun q => ?_)
      · exact fin 1 (by unfold gbd; rw [if_neg (hgp.mp q)]; rfl)
      · exact fin 0 (by unfold gbd; rw [if_pos (Classical.byContradiction fun z => q (hgp.mpr z))]; rfl)
  have := key (tW T) (by omega)
  rw [Nat.sub_self] at this
  exact this
set_option maxRecDepth 4096 in
/-- numberOf -/
theorem f167 {d : Nat} (hM : ShM S) (hR : RT S T) (hrow : RoW S o T w tn) (ho : o + 64 ≤ 2560) : F (d + 2) 167 [.ref 39, .int (nI o)] S = some (some (.int (nI (nkey T w tn))), S) := by
  refine fq167 (w167_0 ?_)
  simp only [hM.k39, z0c, eq_self, if_true, Nat.reduceAdd, true_and]
  refine W_I (f166 hM hR hrow ho) ?_
  simp only [hM.k39, hM.r39_36, hM.k63, hM.n63, z0c, eq_self, if_true, Nat.reduceAdd, true_and]
  rw [k42, nI_add, k40, nI_add, nI_1]
  refine W_t (inB_n (by omega) (by decide)) ?_
  refine W_t (inB_n (by omega) (by decide)) ?_
  refine W_t (inB_n (by omega) (by decide)) ?_
  rw [nI_clamp (by omega), nI_clamp (by omega), nI_clamp (by omega), hrow.2.2.2]
  have l0 := hrow.2.2.1 0 (by omega)
  have l1 := hrow.2.2.1 1 (by omega)
  rw [Nat.add_zero] at l0
  rw [l0, l1, c8, c4, c2, pk_mul, pk_mul, pk_mul, nI_add, nI_add, nI_add]
  exact ⟨rfl, rfl⟩
theorem sh_c : ∀ c, c < 10 → ((nI c &&& 31).toBitVec.smod 32).toNat = c := by decide +kernel
set_option maxRecDepth 4096 in
/-- laysOut -/
theorem f168 {d : Nat} (hM : ShM S) (hR : RT S T) (hs : small T) (hw : okW T w) (ht : tn < 2) (ho : o + 64 ≤ 2560) : Sp (F (d + 7) 168 [.ref 39, .int (nI o), .int (nI (nkey T w tn))] S) (fun v S' => v = none ∧ Fr (DoP o) nol S S' ∧ ∃ day, day ≤ 1 ∧ RoL S' o T w tn day) := by
  have hT := hR.1
  have hW := hT.1
  have hH := hT.2.1
  have hG := hT.2.2.1
  have hlt := nkey_lt hT hs hw ht
  obtain ⟨n1, n2, n3, n4, n5, n6⟩ := nkey_div (w := w) hT hs ht
  have hwk := wkey_lt hT hs hw
  have hg32 := wkg_lt (w := w) hs
  have hh256 := wkh_lt hT hs hw
  refine fw168 (w168_0 ?_)
  -- the columns, then the rest
  have two : ∀ (n c : Nat) (S1 : St), n = tW T - c → c ≤ tW T → Fr (DoP o) nol S S1 → (∀ j, j < 64 → ¬ (j < c) → ¬ (10 ≤ j ∧ j < 10 + c) → gI S1 63 (o + j) = 0) → (∀ j, j < c → gI S1 63 (o + j) = nI (hgt w j) ∧ gI S1 63 (o + 10 + j) = nI (gbd w j)) → WP (P168 (F (d + 6))) (2, [.ref 39, .int (nI o), .int (nI (nkey T w tn)), .int (nI (wkh T w / (tH T + 1) ^ c)), .int (nI (wkg T w)), .int (nI c)], [], S1) (fun v S' => (gZ S ≤ gZ S' ∧ gU S ≤ gU S') ∧ v = none ∧ Fr (DoP o) nol S S' ∧ ∃ day, day ≤ 1 ∧ RoL S' o T w tn day) := by
    intro n
    induction n with
    | zero =>
      intro c S1 hn hc f1 hz hd
      have e : c = tW T := by omega
      subst e
      have hM1 := hM.fr f1
      have hR1 := hR.do' f1
      refine w168_2 ?_
      simp only [hM1.k39, hM1.r39_10, hM1.k41, hM1.n41, hM1.r39_36, hM1.k63, hM1.n63, z0c, eq_self, if_true, Nat.reduceAdd, true_and]
      refine W_t (in0 (by decide) (by decide)) ?_
      rw [hR1.2.1]
      refine W_f (by rw [i_lt (by omega) (by omega)]; omega) ?_
      refine W_f (by decide) ?_
      refine W_f (by decide) ?_
      rw [k42, nI_add]
      refine W_t (inB_n (by omega) (by decide)) ?_
      rw [nI_clamp (n := o + 42) (by omega), c4, c2, pk_div (by omega) (by decide) (by decide), pk_rem (by omega) (by decide) (by decide), n3]
      refine W_s fun S2 e2 => ?_
      have f2 : Fr (DoP o) nol S1 S2 := by rw [e2]; exact Fr.putI (Or.inl ⟨rfl, by omega, by omega⟩)
      have hM2 := hM1.fr f2
      simp only [hM2.k39, hM2.r39_36, hM2.k63, hM2.n63, z0c, eq_self, if_true, Nat.reduceAdd, true_and]
      refine W_f (by decide) ?_
      refine W_f (by decide) ?_
      rw [k40, nI_add, nI_1]
      refine W_t (inB_n (by omega) (by decide)) ?_
      rw [nI_clamp (n := o + 40 + 1) (by omega), pk_div (by omega) (by decide) (by decide), pk_rem (by omega) (by decide) (by decide), n4]
      refine W_s fun S3 e3 => ?_
      have f3 : Fr (DoP o) nol S2 S3 := by rw [e3]; exact Fr.putI (Or.inl ⟨rfl, by omega, by omega⟩)
      have hM3 := hM2.fr f3
      simp only [hM3.k39, hM3.r39_36, hM3.k63, hM3.n63, z0c, eq_self, if_true, Nat.reduceAdd, true_and]
      refine W_f (by decide) ?_
      refine W_t (inB_n (by omega) (by decide)) ?_
      have er : nI (nkey T w tn) - nI (nkey T w tn / 2) * nI 2 = nI (nkey T w tn % 2) := by
        rw [pk_mul, pk_sub (by omega)]
        congr 1
        omega
      rw [nI_clamp (n := o + 40) (by omega), er, n5]
      refine W_s fun S4 e4 => ?_
      have f4 : Fr (DoP o) nol S3 S4 := by rw [e4]; exact Fr.putI (Or.inl ⟨rfl, by omega, by omega⟩)
      have hM4 := hM3.fr f4
      have fa := ((f1.tr f2).tr f3).tr f4
      have k63 : ∀ k, k ≠ o + 40 → k ≠ o + 41 → k ≠ o + 42 → gI S4 63 k = gI S1 63 k := fun k z1 z2 z3 => by rw [e4, gI_pI, if_neg (fun z => z1 z.2), e3, gI_pI, if_neg (fun z => z2 z.2), e2, gI_pI, if_neg (fun z => z3 z.2)]
      have hrow4 : RoW S4 o T w tn := by
        refine ⟨fun c hc => ?_, fun c hc => ?_, fun t ht' => ?_, ?_⟩
        · rw [k63 _ (by omega) (by omega) (by omega)]
          by_cases z : c < tW T
          · exact (hd c z).1
          · rw [hz c (by omega) z (by omega)]
            have : plc w c = 0 := hw.2.2.2.1 c (by omega) hc
            have e : hgt w c = 0 := by unfold hgt; rw [this]; rfl
            rw [e]; rfl
        · rw [k63 _ (by omega) (by omega) (by omega)]
          by_cases z : c < tW T
          · refine ⟨gbd w c, by have := gbd_lt w c; omega, (hd c z).2, ?_⟩
            unfold gbd
            constructor
            · intro y
              by_cases x : gat w c = 0
              · exact x
              · rw [if_neg x] at y; omega
            · intro y; rw [if_pos y]
          · have : plc w c = 0 := hw.2.2.2.1 c (by omega) hc
            refine ⟨0, by omega, ?_, ?_⟩
            · rw [Nat.add_assoc, hz (10 + c) (by omega) (by omega) (by omega)]; rfl
            · rw [gat0, this]; omega
        · rcases (show t = 0 ∨ t = 1 by omega) with rfl | rfl
          · rw [e4, gI_pI, if_pos ⟨rfl, by omega⟩]
          · rw [e4, gI_pI, if_neg (by omega), e3, gI_pI, if_pos ⟨rfl, by omega⟩]
        · rw [e4, gI_pI, if_neg (by omega), e3, gI_pI, if_neg (by omega), e2, gI_pI, if_pos ⟨rfl, by omega⟩]
      simp only [hM4.k39, hM4.r39_36, hM4.k63, hM4.n63, z0c, eq_self, if_true, Nat.reduceAdd, true_and]
      refine W_I (f166 (d := d + 5) hM4 (hR.do' fa) hrow4 ho) ?_
      have fin : ∀ (dy : Nat) (y : Int32), y = nI dy → dy ≤ 1 → (closed T w → 0 < dy) → WP (P168 (F (d + 6))) (3, [.ref 39, .int (nI o), .int (nI (nkey T w tn)), .int (nI (wkh T w / (tH T + 1) ^ tW T)), .int (nI (wkg T w)), .int (nI (tW T))], [.int y, .int (nI o + 45), .ref 63], S4) (fun v S' => (gZ S ≤ gZ S' ∧ gU S ≤ gU S') ∧ v = none ∧ Fr (DoP o) nol S S' ∧ ∃ day, day ≤ 1 ∧ RoL S' o T w tn day) := by
        intro dy y hy hdy hcl
        refine w168_3 ?_
        rw [k45, nI_add]
        refine W_t (⟨hM4.k63, by rw [hM4.n63]; exact inB_n (by omega) (by decide)⟩) ?_
        rw [nI_clamp (by omega)]
        refine W_s fun S5 e5 => ?_
        have f5 : Fr (DoP o) nol S4 S5 := by rw [e5]; exact Fr.putI (Or.inl ⟨rfl, by omega, by omega⟩)
        have hM5 := hM4.fr f5
        have hrow5 : RoW S5 o T w tn := by
          obtain ⟨a1, a2, a3, a4⟩ := hrow4
          refine ⟨fun c hc => by rw [e5, gI_pI, if_neg (by omega)]; exact a1 c hc, fun c hc => by rw [e5, gI_pI, if_neg (by omega)]; exact a2 c hc, fun c hc => by rw [e5, gI_pI, if_neg (by omega)]; exact a3 c hc, by rw [e5, gI_pI, if_neg (by omega)]; exact a4⟩
        have h45 : gI S5 63 (o + 45) = nI dy := by rw [e5, gI_pI, if_pos ⟨rfl, rfl⟩, hy]
        simp only [hM5.k39, z0c, eq_self, if_true, Nat.reduceAdd, true_and]
        refine W_Ve (f142 (d := d) hM5 ((hR.do' fa).do' f5) hrow5 ho hw ht (by omega) h45 hcl) ?_
        rintro S6 ⟨f6, e44, e43⟩
        have f6' : Fr (DoP o) nol S5 S6 := f6.weak (fun a k z => by
          rcases z with z | z
          · exact Or.inl ⟨z.1, by omega, by omega⟩
          · exact Or.inr (Or.inr z)) (fun a k z => z)
        have fb := (fa.tr f5).tr f6'
        exact ⟨fb.mono, rfl, fb, dy, hdy, hrow5.fr f6 (fun k h1 h2 z => by rcases z with z | z <;> omega), e43, e44, by rw [f6.1 _ _ (by show ¬ (_ ∨ _); omega)]; exact h45⟩
      refine W_if (fun q => ?_) (fun q => ?_)
      · have q : wkey T w = 0 := (i_cst 0 (by omega) (by decide)).mp q
        refine fin 0 0 rfl (by omega) (fun z => ?_)
        exfalso
        unfold wkey at q
        have q1 : wkh T w = 0 := by omega
        have q2 : wkg T w = 0 := by omega
        have h0 := wkh_at (c := 0) hT hw (by omega)
        have h1 := wkg_at (T := T) (w := w) (c := 0) (by omega)
        rw [q1, Nat.zero_div, Nat.zero_mod] at h0
        rw [q2, Nat.zero_div, Nat.zero_mod] at h1
        unfold gbd at h1
        by_cases y : gat w 0 = 0
        · have := z 0 (by omega) y
          omega
        · rw [if_neg y] at h1; omega
      · exact fin 1 1 rfl (by omega) (fun _ => by omega)
    | succ n ih =>
      intro c S1 hn hc f1 hz hd
      have hM1 := hM.fr f1
      have hR1 := hR.do' f1
      have hlt' : wkh T w / (tH T + 1) ^ c < 2 ^ 31 := Nat.lt_of_le_of_lt (Nat.div_le_self _ _) (by omega)
      refine w168_2 ?_
      simp only [hM1.k39, hM1.r39_10, hM1.k41, hM1.n41, hM1.r39_11, hM1.k42, hM1.n42, hM1.r39_36, hM1.k63, hM1.n63, z0c, eq_self, if_true, Nat.reduceAdd, true_and]
      refine W_t (in0 (by decide) (by decide)) ?_
      rw [hR1.2.1]
      refine W_t (by rw [i_lt (by omega) (by omega)]; omega) ?_
      refine W_t (in0 (by decide) (by decide)) ?_
      rw [hR1.2.2.1, nI_1]
      refine W_f (by rw [c0, i_eq (by omega) (by decide)]; omega) ?_
      rw [nI_add]
      refine W_t (inB_n (by omega) (by decide)) ?_
      rw [nI_clamp (n := o + c) (by omega), pk_rem hlt' (by omega) (by omega), wkh_at hT hw (by omega)]
      refine W_s fun S2 e2 => ?_
      have f2 : Fr (DoP o) nol S1 S2 := by rw [e2]; exact Fr.putI (Or.inl ⟨rfl, by omega, by omega⟩)
      have hM2 := hM1.fr f2
      have hR2 := hR1.do' f2
      simp only [hM2.k39, hM2.r39_11, hM2.k42, hM2.n42, hM2.r39_36, hM2.k63, hM2.n63, z0c, eq_self, if_true, Nat.reduceAdd, true_and]
      refine W_t (in0 (by decide) (by decide)) ?_
      rw [hR2.2.2.1, nI_1]
      refine W_f (by rw [c0, i_eq (by omega) (by decide)]; omega) ?_
      refine W_si fun v ev => ?_
      rw [pk_div hlt' (by omega) (by omega), Nat.div_div_eq_div_mul, ← Nat.pow_succ] at ev
      rw [c10, nI_add, nI_add]
      refine W_t (inB_n (by omega) (by decide)) ?_
      have eb : (nI (wkg T w) >>> (nI c &&& 31)) &&& 1 = nI (gbd w c) := by
        rw [pk_shrN (by omega) _ c (sh_c c (by omega)), i_and1, wkg_at (by omega)]
      rw [nI_clamp (n := o + 10 + c) (by omega), eb]
      refine W_s fun S3 e3 => ?_
      have f3 : Fr (DoP o) nol S2 S3 := by rw [e3]; exact Fr.putI (Or.inl ⟨rfl, by omega, by omega⟩)
      show WP _ _ _
      rw [ev, nI_1]
      refine ih (c + 1) S3 (by omega) (by omega) ((f1.tr f2).tr f3) (fun j h1 h2 h3 => ?_) (fun j hj => ?_)
      · rw [e3, gI_pI, if_neg (by omega), e2, gI_pI, if_neg (by omega)]
        exact hz j h1 (by omega) (by omega)
      · by_cases z : j = c
        · subst z
          exact ⟨by rw [e3, gI_pI, if_neg (by omega), e2, gI_pI, if_pos ⟨rfl, rfl⟩], by rw [e3, gI_pI, if_pos ⟨rfl, rfl⟩]⟩
        · have := hd j (by omega)
          exact ⟨by rw [e3, gI_pI, if_neg (by omega), e2, gI_pI, if_neg (by omega)]; exact this.1, by rw [e3, gI_pI, if_neg (by omega), e2, gI_pI, if_neg (by omega)]; exact this.2⟩
  have key : ∀ (n k : Nat) (S1 : St), n = 64 - k → k ≤ 64 → Fr (DoP o) nol S S1 → (∀ j, j < k → gI S1 63 (o + j) = 0) → ∀ z4 z5 : Value, WP (P168 (F (d + 6))) (1, [.ref 39, .int (nI o), .int (nI (nkey T w tn)), .int (nI k), z4, z5], [], S1) (fun v S' => (gZ S ≤ gZ S' ∧ gU S ≤ gU S') ∧ v = none ∧ Fr (DoP o) nol S S' ∧ ∃ day, day ≤ 1 ∧ RoL S' o T w tn day) := by
    intro n
    induction n with
    | zero =>
      intro k S1 hn hk f1 h0 z4 z5
      have e : k = 64 := by omega
      subst e
      refine w168_1 ?_
      refine W_f (by decide +kernel) ?_
      refine W_f (by decide +kernel) ?_
      refine W_f (by decide +kernel) ?_
      refine W_f (by decide +kernel) ?_
      rw [show (256 : Int32) = nI 256 from rfl, c8, show (32 : Int32) = nI 32 from rfl, pk_div (by omega) (by decide) (by decide), pk_div (by omega) (by decide) (by decide), pk_rem (by omega) (by decide) (by decide), n1, n2]
      have := two (tW T) 0 S1 (by omega) (by omega) f1 (fun j h1 _ _ => h0 j h1) (fun j hj => by omega)
      rw [Nat.pow_zero, Nat.div_one] at this
      exact this
    | succ n ih =>
      intro k S1 hn hk f1 h0 z4 z5
      have hM1 := hM.fr f1
      refine w168_1 ?_
      refine W_t (by rw [k64, i_lt (by omega) (by decide)]; omega) ?_
      simp only [hM1.k39, hM1.r39_36, hM1.k63, hM1.n63, z0c, eq_self, if_true, Nat.reduceAdd, true_and]
      rw [nI_add]
      refine W_t (inB_n (by omega) (by decide)) ?_
      rw [nI_clamp (by omega)]
      refine W_s fun S2 e2 => ?_
      have f2 : Fr (DoP o) nol S1 S2 := by rw [e2]; exact Fr.putI (Or.inl ⟨rfl, by omega, by omega⟩)
      show WP _ _ _
      rw [nI_1]
      refine ih (k + 1) S2 (by omega) (by omega) (f1.tr f2) (fun j hj => ?_) _ _
      rw [e2, gI_pI]
      by_cases e : j = k
      · rw [if_pos ⟨rfl, by omega⟩]
      · rw [if_neg (by omega)]; exact h0 j (by omega)
  exact key 64 0 S (by omega) (by omega) Fr.rf (fun j hj => by omega) .null .null
end REF
