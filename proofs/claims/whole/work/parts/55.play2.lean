/-! the class's Play: outcomes that are kept -/
abbrev PQ (kc : Nat) (T : TD) (m r : Int32) (S : St) (n : Nat) : Option Value → St → Prop := fun v S' => ∃ x, v = some (.int x) ∧ x = nI n ∧ Fr (fun a _ => a = kc) nol S S' ∧ KnP S' kc T m r
/-- outcomes behind the acts that can be done -/
abbrev Rec14 (D pc kc t : Nat) (T : TD) (E : Env → Int32) (m r : Int32) (w tn dep : Nat) : Prop := ∀ a, a ∈ actsL T w tn → ∀ S, PrS S pc kc t T E m r → KnP S kc T m r → Sp (F D 14 [.ref pc, .long (lN (aft T w tn a)), .int (nI (1 - tn)), .int (nI (dep + 1))] S) (PQ kc T m r S (out T m r (aft T w tn a) (1 - tn)))
theorem i_1m {tn : Nat} (h : tn < 2) : (1 : Int32) - nI tn = nI (1 - tn) := by rw [c1, pk_sub (by omega)]
set_option maxRecDepth 4096 in
theorem f15_loop {d pc kc t w tn dep : Nat} {T : TD} {E : Env → Int32} {m r : Int32} (hw : okW T w) (ht : tn < 2) (hrec : Rec14 (d + 4) pc kc t T E m r w tn dep) : ∀ (n i : Nat) (S : St), n = (candL T).length - i → i ≤ (candL T).length → PrS S pc kc t T E m r → KnP S kc T m r → ∀ z2 z7 z8 : Value, WP (P15 (F (d + 4))) (1, [.ref pc, .long (lN w), z2, .int (nI tn), .int (nI dep), .int (optI ((((candL T).take i).filter (fun a => decide (canA T w tn a))).foldl (fun ch a => pick tn ch (out T m r (aft T w tn a) (1 - tn) + 2)) none)), .int (nI i), z7, z8], [], S) (PQ kc T m r S (orE ((actsL T w tn).foldl (fun ch a => pick tn ch (out T m r (aft T w tn a) (1 - tn) + 2)) none) (payr T w tn))) := by
  intro n
  induction n with
  | zero =>
    intro i S hn hi hp hkn z2 z7 z8
    obtain ⟨⟨p1, p2, p3, p4, p5⟩, p6, p7, p8, hF, hsm⟩ := hp
    have hTC := hF.1
    have hT := hTC.1
    have hokT := hT.1
    have hlen := candL_250 T hokT
    have e : i = (candL T).length := by omega
    subst e
    rw [List.take_length, show (candL T).filter (fun a => decide (canA T w tn a)) = actsL T w tn from rfl]
    refine w15_1 ?_
    refine W_t (p1) ?_
    refine W_t (by rw [p6]; exact hT.2.1) ?_
    refine W_t (by rw [p6, hTC.2.1]; decide) ?_
    refine W_f (by rw [p6, hTC.2.2.1, c_ofNat, i_lt (by omega) (by omega)]; omega) ?_
    have hbd : ∀ v, (actsL T w tn).foldl (fun ch a => pick tn ch (out T m r (aft T w tn a) (1 - tn) + 2)) none = some v → v ≤ 125 := pick_le (fun a _ => by
      have := out_le (T := T) (m := m) (r := r) (w := aft T w tn a) (tn := 1 - tn) (by omega)
      omega) (fun v hv => by cases hv)
    generalize (actsL T w tn).foldl (fun ch a => pick tn ch (out T m r (aft T w tn a) (1 - tn) + 2)) none = ch at *
    cases ch with
    | none =>
      refine W_t (rfl) ?_
      refine W_t (p1) ?_
      refine W_t (by rw [p6]; exact hT.2.1) ?_
      rw [p6]
      refine W_I (f75 hT hw.1 ht) ?_
      exact ⟨_, rfl, rfl, Fr.rf, hkn⟩
    | some v =>
      have := hbd v rfl
      refine W_f (nI_m1 (by omega)) ?_
      exact ⟨_, rfl, rfl, Fr.rf, hkn⟩
  | succ n ih =>
    intro i S hn hi hp hkn z2 z7 z8
    have hp0 := hp
    obtain ⟨⟨p1, p2, p3, p4, p5⟩, p6, p7, p8, hF, hsm⟩ := hp
    have hTC := hF.1
    have hT := hTC.1
    have hokT := hT.1
    have hlen := candL_250 T hokT
    have hg := hw.2.1 tn ht
    have k5 : gK S (gR S pc 1) = 5 := by rw [p6]; exact hT.2.1
    have k8 : gK S (gR S (gR S pc 1) 8) = 100 := by rw [p6]; exact hTC.2.1
    have n8 : gN S (gR S (gR S pc 1) 8) = (candL T).length := by rw [p6]; exact hTC.2.2.1
    have hilt : i < (candL T).length := by omega
    obtain ⟨a, ha⟩ : ∃ a, (candL T)[i]? = some a := ⟨_, List.getElem?_eq_getElem hilt⟩
    have hget : gI S (gR S (gR S pc 1) 8) (nI i).toNatClampNeg = nI a := by rw [p6, nI_clamp (by omega)]; exact hTC.2.2.2 i _ ha
    have hmem := candL_mem.mp (List.mem_of_getElem? ha)
    have htk : (candL T).take (i + 1) = (candL T).take i ++ [a] := by rw [List.take_add_one, ha]; rfl
    have ih' := fun S' h1 h2 => ih (i + 1) S' (by omega) (by omega) h1 h2
    rw [htk, List.filter_append, List.foldl_append] at ih'
    have hbd : ∀ v, (((candL T).take i).filter (fun a => decide (canA T w tn a))).foldl (fun ch a => pick tn ch (out T m r (aft T w tn a) (1 - tn) + 2)) none = some v → v ≤ 125 := pick_le (fun a _ => by
      have := out_le (T := T) (m := m) (r := r) (w := aft T w tn a) (tn := 1 - tn) (by omega)
      omega) (fun v hv => by cases hv)
    generalize (((candL T).take i).filter (fun a => decide (canA T w tn a))).foldl (fun ch a => pick tn ch (out T m r (aft T w tn a) (1 - tn) + 2)) none = ch at ih' hbd ⊢
    refine w15_1 ?_
    refine W_t (p1) ?_
    refine W_t (k5) ?_
    refine W_t (by rw [k8]; decide) ?_
    refine W_t (by rw [n8, c_ofNat, i_lt (by omega) (by omega)]; omega) ?_
    refine W_t (p1) ?_
    refine W_t (k5) ?_
    refine W_t (⟨k8, by rw [n8]; exact inB_n hilt (by omega)⟩) ?_
    refine W_si fun v ev => ?_
    rw [hget] at ev
    subst ev
    refine W_t (p1) ?_
    refine W_t (k5) ?_
    rw [p6]
    refine W_I (f71 hT hw.1 ht hg (cand_va hokT hmem.2)) ?_
    refine W_if (fun q => ?_) (fun q => ?_)
    · rw [bi_0] at q
      show WP _ _ _
      refine w15_3 ?_
      show WP _ _ _
      rw [nI_1]
      rw [show [a].filter (fun a => decide (canA T w tn a)) = [] by simp [q]] at ih'
      exact ih' S hp0 hkn _ _ _
    · rw [bi_0] at q
      have q := Classical.not_not.mp q
      rw [show [a].filter (fun a => decide (canA T w tn a)) = [a] by simp [q]] at ih'
      have hin : a ∈ actsL T w tn := actsL_mem.mpr ⟨hmem.1, hmem.2, q⟩
      refine W_t (p1) ?_
      refine W_t (k5) ?_
      rw [p6]
      refine W_L (f73 hT hw.1 ht (cand_va hokT hmem.2) (can_in hokT hmem.2 q)) ?_
      refine W_t (p1) ?_
      rw [i_1m ht, nI_1]
      refine W_Ie (hrec a hin S hp0 hkn) ?_
      rintro x S6 ⟨rfl, f6, hkn6⟩
      have hp6 := hp0.fr f6
      refine W_I (f11) ?_
      have ob := out_le (T := T) (m := m) (r := r) (w := aft T w tn a) (tn := 1 - tn) (by omega)
      have ih'' : ∀ z2 z7 z8 : Value, WP (P15 (F (d + 4))) (1, [.ref pc, .long (lN w), z2, .int (nI tn), .int (nI dep), .int (optI (pick tn ch (out T m r (aft T w tn a) (1 - tn) + 2))), .int (nI (i + 1)), z7, z8], [], S6) (PQ kc T m r S (orE ((actsL T w tn).foldl (fun ch a => pick tn ch (out T m r (aft T w tn a) (1 - tn) + 2)) none) (payr T w tn))) := fun z2 z7 z8 => WP.mono (ih' S6 hp6 hkn6 z2 z7 z8) (fun v S' h => by
        obtain ⟨x, h1, h2, h3, h4⟩ := h
        exact ⟨x, h1, h2, f6.tr h3, h4⟩)
      have keep : pick tn ch (out T m r (aft T w tn a) (1 - tn) + 2) = ch → ∀ (x7 : Int32) (z8 : Value), WP (P15 (F (d + 4))) (3, [.ref pc, .long (lN w), z2, .int (nI tn), .int (nI dep), .int (optI ch), .int (nI i), .int x7, z8], [], S6) (PQ kc T m r S (orE ((actsL T w tn).foldl (fun ch a => pick tn ch (out T m r (aft T w tn a) (1 - tn) + 2)) none) (payr T w tn))) := by
        intro he x7 z8
        refine w15_3 ?_
        show WP _ _ _
        rw [nI_1]
        rw [he] at ih''
        exact ih'' _ _ _
      have take : pick tn ch (out T m r (aft T w tn a) (1 - tn) + 2) = some (out T m r (aft T w tn a) (1 - tn) + 2) → ∀ (x5 x7 : Int32), WP (P15 (F (d + 4))) (2, [.ref pc, .long (lN w), z2, .int (nI tn), .int (nI dep), .int x5, .int (nI i), .int x7, .int (nI (out T m r (aft T w tn a) (1 - tn) + 2))], [], S6) (PQ kc T m r S (orE ((actsL T w tn).foldl (fun ch a => pick tn ch (out T m r (aft T w tn a) (1 - tn) + 2)) none) (payr T w tn))) := by
        intro he x5 x7
        refine w15_2 ?_
        show WP _ _ _
        refine w15_3 ?_
        show WP _ _ _
        rw [nI_1]
        rw [he] at ih''
        exact ih'' _ _ _
      cases hc : ch with
      | none =>
        refine W_t (rfl) ?_
        exact take (by rw [hc]; rfl) _ _
      | some c =>
        have hcb := hbd c hc
        rw [hc] at take keep
        refine W_f (nI_m1 (by omega)) ?_
        refine W_I (f12 (by omega) ht) ?_
        refine W_I (f12 (by omega) ht) ?_
        have s1 : scr c tn ≤ 1000 := by unfold scr; split <;> omega
        have s2 : scr (out T m r (aft T w tn a) (1 - tn) + 2) tn ≤ 1000 := by unfold scr; split <;> omega
        refine W_if (fun q1 => ?_) (fun q1 => ?_)
        · have q1 := (i_lt (by omega) (by omega)).mp q1
          exact take (if_pos q1) _ _
        · have q1 := fun z => q1 ((i_lt (by omega) (by omega)).mpr z)
          exact keep (if_neg q1) _ _
theorem f15 {d pc kc t w tn dep : Nat} {S : St} {T : TD} {E : Env → Int32} {m r : Int32} (hw : okW T w) (ht : tn < 2) (hrec : Rec14 (d + 4) pc kc t T E m r w tn dep) (hp : PrS S pc kc t T E m r) (hkn : KnP S kc T m r) (hm : nI tn ≠ m) : Sp (F (d + 5) 15 [.ref pc, .long (lN w), .int (nI tn), .int (nI dep)] S) (PQ kc T m r S (out T m r w tn)) := by
  have hokT := hp.2.2.2.2.1.1.1.1
  rw [out_eq hokT hw ht, if_neg hm]
  refine fw15 (w15_0 ?_)
  refine WP.mono (f15_loop hw ht hrec (candL T).length 0 S (by omega) (by omega) hp hkn .null .null .null) ?_
  rintro v S' ⟨x, h1, h2, h3, h4⟩
  exact ⟨h3.mono, x, h1, h2, h3, h4⟩
theorem f16 {d pc kc t w tn dep : Nat} {S : St} {T : TD} {E : Env → Int32} {m r : Int32} (hw : okW T w) (ht : tn < 2) (hrec : Rec14 (d + 5) pc kc t T E m r w tn dep) (hp : PrS S pc kc t T E m r) (hkn : KnP S kc T m r) (hm : nI tn = m) : Sp (F (d + 6) 16 [.ref pc, .long (lN w), .int (nI tn), .int (nI dep)] S) (PQ kc T m r S (out T m r w tn)) := by
  have hp0 := hp
  obtain ⟨⟨p1, p2, p3, p4, p5⟩, p6, p7, p8, hF, hsm⟩ := hp
  have hTC := hF.1
  have hT := hTC.1
  have hokT := hT.1
  have k5 : gK S (gR S pc 1) = 5 := by rw [p6]; exact hT.2.1
  rw [out_eq hokT hw ht, if_pos hm]
  refine fw16 (w16_0 ?_)
  refine W_t (p1) ?_
  refine W_I (f17 hp0 hw ht) ?_
  cases hq : (actsL T w tn).foldl (pickA r w) none with
  | none =>
    refine W_t (rfl) ?_
    refine W_t (p1) ?_
    refine W_t (k5) ?_
    rw [p6]
    refine W_I (f75 hT hw.1 ht) ?_
    exact ⟨nochg S, _, rfl, rfl, Fr.rf, hkn⟩
  | some a =>
    have hin := (pickA_mem hq).resolve_right (by simp)
    obtain ⟨a1, a2, a3⟩ := actsL_mem.mp hin
    refine W_f (nI_m1 (by omega)) ?_
    refine W_t (p1) ?_
    refine W_t (k5) ?_
    rw [p6]
    refine W_L (f73 hT hw.1 ht (cand_va hokT a2) (can_in hokT a2 a3)) ?_
    refine W_t (p1) ?_
    rw [i_1m ht, nI_1]
    refine W_Ie (hrec a hin S hp0 hkn) ?_
    rintro x S6 ⟨rfl, f6, hkn6⟩
    refine W_I (f11) ?_
    exact ⟨f6.mono, _, rfl, rfl, f6, hkn6⟩
theorem f14_step {d pc kc t w tn dep : Nat} {S : St} {T : TD} {E : Env → Int32} {m r : Int32} (hw : okW T w) (ht : tn < 2) (hp : PrS S pc kc t T E m r) (hkn : KnP S kc T m r) (hdep : dep ≤ fil T w) (hrec : Rec14 (d + 5) pc kc t T E m r w tn dep) (hrec' : Rec14 (d + 5) pc kc t T E m r w tn dep) : Sp (F (d + 7) 14 [.ref pc, .long (lN w), .int (nI tn), .int (nI dep)] S) (PQ kc T m r S (out T m r w tn)) := by
  have hp0 := hp
  obtain ⟨⟨p1, p2, p3, p4, p5⟩, p6, p7, p8, hF, hsm⟩ := hp
  have hTC := hF.1
  have hT := hTC.1
  have hokT := hT.1
  have k5 : gK S (gR S pc 1) = 5 := by rw [p6]; exact hT.2.1
  obtain ⟨s1, s2⟩ := small_num hokT hsm
  have hfil := fil_le hokT hw
  have hnum := num_lt hokT hw
  have hdt := hF.2.2.2.1
  have hob := out_le (T := T) (m := m) (r := r) (w := w) (tn := tn) ht
  refine fw14 (w14_0 ?_)
  refine W_t (p1) ?_
  refine W_f (by rw [p6]; unfold dyn at hdt; omega) ?_
  refine W_f (by rw [show (20 : Int32) = nI 20 from rfl, i_lt (by decide) (by omega)]; omega) ?_
  refine W_t (p1) ?_
  refine W_t (k5) ?_
  rw [p6]
  refine W_I (f76 hT hw.1) ?_
  rw [c2, pk_mul, nI_add]
  refine W_t (p1) ?_
  refine W_t (by rw [p2, p3]; decide) ?_
  refine W_t (by rw [p2, p4, c_ofNat, i_lt (by omega) (by omega)]; omega) ?_
  refine W_t (p1) ?_
  refine W_t (by rw [p2, p3, p4]; exact ⟨rfl, inB_n (by omega) (by decide)⟩) ?_
  rw [p2, nI_clamp (by omega)]
  have two : ∀ (S' : St) (z2 : Value), Fr (fun a _ => a = kc) nol S S' → KnP S' kc T m r → gI S' kc (2 * num T w + tn) = nI (1 + out T m r w tn) → WP (P14 (F (d + 6))) (2, [.ref pc, .long (lN w), z2, .int (nI tn), .int (nI dep), .int (nI (2 * num T w + tn))], [], S') (fun v S'' => (gZ S ≤ gZ S'' ∧ gU S ≤ gU S'') ∧ PQ kc T m r S (out T m r w tn) v S'') := by
    intro S' z2 hf hk' hv
    refine w14_2 ?_
    refine W_t (by rw [hf.K]; exact p1) ?_
    refine W_t (by rw [hf.R, hf.K, hf.N, p2, p3, p4]; exact ⟨rfl, inB_n (by omega) (by decide)⟩) ?_
    rw [hf.R, p2, nI_clamp (by omega), hv]
    exact ⟨hf.mono, _, rfl, by rw [Nat.add_comm, nI_pred], hf, hk'⟩
  have one : ∀ (S' : St) (z2 : Value) (y0 : Int32), y0 = nI (out T m r w tn) → Fr (fun a _ => a = kc) nol S S' → KnP S' kc T m r → WP (P14 (F (d + 6))) (1, [.ref pc, .long (lN w), z2, .int (nI tn), .int (nI dep), .int (nI (2 * num T w + tn))], [.int y0, .int 1, .int (nI (2 * num T w + tn)), .ref kc], S') (fun v S'' => (gZ S ≤ gZ S'' ∧ gU S ≤ gU S'') ∧ PQ kc T m r S (out T m r w tn) v S'') := by
    intro S' z2 y0 hy hf hk'
    refine w14_1 ?_
    refine W_t (by rw [hf.K, hf.N, p3, p4]; exact ⟨rfl, inB_n (by omega) (by decide)⟩) ?_
    refine W_s fun S1 e1 => ?_
    rw [nI_clamp (by omega), hy, c1, nI_add] at e1
    have f1 : Fr (fun a _ => a = kc) nol S' S1 := by rw [e1]; exact Fr.putI rfl
    show WP _ _ _
    refine two S1 z2 (hf.tr f1) (fun w' tn' h1 h2 => ?_) (by rw [e1, gI_pI, if_pos ⟨rfl, rfl⟩])
    rw [e1, gI_pI]
    by_cases e : 2 * num T w' + tn' = 2 * num T w + tn
    · have e1 : tn' = tn := by omega
      have e2 : w' = w := num_inj hokT h1 hw (by omega)
      rw [if_pos ⟨rfl, e⟩, e1, e2]
      exact Or.inr rfl
    · rw [if_neg (fun z => e z.2)]
      exact hk' w' tn' h1 h2
  refine W_if (fun q => ?_) (fun q => ?_)
  · refine W_t (p1) ?_
    refine W_t (p1) ?_
    rw [p7]
    refine W_if (fun q2 => ?_) (fun q2 => ?_)
    · refine W_t (p1) ?_
      refine W_Ie (f16 (d := d) hw ht hrec hp0 hkn q2) ?_
      rintro x S3 ⟨rfl, f3, hk3⟩
      exact one S3 _ _ rfl f3 hk3
    · refine W_t (p1) ?_
      refine W_Ie (f15 (d := d + 1) hw ht hrec' hp0 hkn q2) ?_
      rintro x S3 ⟨rfl, f3, hk3⟩
      exact one S3 _ _ rfl f3 hk3
  · show WP _ _ _
    refine two S _ Fr.rf hkn ?_
    exact (hkn w tn hw ht).resolve_left q
theorem f14 {pc kc t : Nat} {T : TD} {E : Env → Int32} {m r : Int32} : ∀ (k d w tn dep : Nat) (S : St), okW T w → tn < 2 → PrS S pc kc t T E m r → KnP S kc T m r → tW T * tH T ≤ fil T w + k → dep ≤ fil T w → Sp (F (d + 2 * k + 7) 14 [.ref pc, .long (lN w), .int (nI tn), .int (nI dep)] S) (PQ kc T m r S (out T m r w tn)) := by
  intro k
  induction k with
  | zero =>
    intro d w tn dep S hw ht hp hkn hk hdep
    have hokT := hp.2.2.2.2.1.1.1.1
    have hrec : ∀ D, Rec14 D pc kc t T E m r w tn dep := fun D a ha => by
      obtain ⟨a1, a2, a3⟩ := actsL_mem.mp ha
      have h1 := fil_aft hokT hw ht a2 a3
      have h2 := fil_le hokT (hw.aft hokT ht a2 a3)
      omega
    exact f14_step hw ht hp hkn hdep (hrec _) (hrec _)
  | succ k ih =>
    intro d w tn dep S hw ht hp hkn hk hdep
    have hokT := hp.2.2.2.2.1.1.1.1
    have hrec : Rec14 (d + 2 * k + 7) pc kc t T E m r w tn dep := fun a ha S' h1 h2 => by
      obtain ⟨a1, a2, a3⟩ := actsL_mem.mp ha
      have g1 := fil_aft hokT hw ht a2 a3
      exact ih d _ _ _ S' (hw.aft hokT ht a2 a3) (by omega) h1 h2 (by omega) (by omega)
    have := f14_step (d := d + 2 * k + 2) hw ht hp hkn hdep hrec hrec
    exact this
