/-! ways: what is counted in the end; how many unlike -/
def lk (T : TD) (v : Nat) : Nat := if tH T < v then tH T + 1 else v
/-- the number of what a wall's number looks like -/
def lkN (T : TD) (n : Nat) : Nat := numG (tH T + 3) (fun c => lk T (n / (tH T + 3) ^ c % (tH T + 3))) 0 (tW T)
theorem digl_dig {T : TD} {w c : Nat} (h : gat w c = 0 → hgt w c ≤ tH T) : digl T w c = lk T (dig T w c) := by
  unfold digl dig lk
  by_cases g : gat w c = 0
  · rw [if_pos g, if_pos g, if_neg (by have := h g; omega)]
  · rw [if_neg g, if_neg g, if_pos (by omega)]
theorem wallN_hgt {T : TD} {n c : Nat} (hT : okT T) (hc : c < tW T) : gat (wallN T n) c = 0 → hgt (wallN T n) c ≤ tH T := by
  intro hg
  have h := (walU_plc (T := T) (dg := fun j => n / (tH T + 3) ^ j % (tH T + 3)) hT.2.1.2 (fun j => Nat.mod_lt _ (by omega)) (c := tW T) hT.1.2).1 c (by have := hT.1.2; omega)
  rw [if_pos hc] at h
  have hp : plc (wallN T n) c = hgt (wallN T n) c := plc_hgt hg
  have hg8 := gat0.mp hg
  have h : plc (wallN T n) c = _ := h
  rw [← hp]
  by_cases q : tH T < n / (tH T + 3) ^ c % (tH T + 3)
  · rw [if_pos q] at h; omega
  · rw [if_neg q] at h; omega
theorem numl_wallN {T : TD} {n : Nat} (hT : okT T) : numl T (wallN T n) = lkN T n := by
  unfold numl lkN
  refine numG_congr (fun j h1 h2 => ?_)
  rw [digl_dig (wallN_hgt hT (by omega)), wallN_dig hT (by omega)]
theorem lkN_num {T : TD} {w : Nat} (hT : okT T) (hw : okW T w) : lkN T (num T w) = numl T w := by
  rw [← numl_wallN hT, wallN_num hT hw]
theorem digl_lt {T : TD} {w c : Nat} (hT : okT T) (hw : okW T w) (hc : c < 10) : digl T w c < tH T + 3 := Nat.lt_of_le_of_lt digl_le (dig_lt hT hw hc)
theorem lkN_numl {T : TD} {w : Nat} (hT : okT T) (hw : okW T w) : lkN T (numl T w) = numl T w := by
  unfold lkN
  show numG _ _ 0 (tW T) = numG _ _ 0 (tW T)
  refine numG_congr (fun j h1 h2 => ?_)
  have hW := hT.1.2
  show lk T (numl T w / (tH T + 3) ^ j % (tH T + 3)) = digl T w j
  have e : numl T w / (tH T + 3) ^ j % (tH T + 3) = digl T w j := by
    have := numG_at (B := tH T + 3) (dg := digl T w) (i := j) (n := tW T) (c := 0) (by omega) (fun i _ h => digl_lt hT hw (by omega))
    rw [Nat.zero_add] at this
    exact this
  rw [e]
  unfold lk digl
  by_cases g : gat w j = 0
  · rw [if_pos g, if_neg (by have := hw.hgt_le (c := j) (by omega) hT.2.1.2; omega)]
  · rw [if_neg g, if_pos (by omega)]
/-- 1 where some of a list comes to -/
def indc (f : Nat → Nat) (L : List Nat) (v : Nat) : Nat := if L.any (fun x => decide (f x = v)) = true then 1 else 0
theorem indc_t {f : Nat → Nat} {L : List Nat} {v x : Nat} (h : x ∈ L) (e : f x = v) : indc f L v = 1 := by
  unfold indc
  rw [if_pos (List.any_eq_true.mpr ⟨x, h, decide_eq_true e⟩)]
theorem indc_f {f : Nat → Nat} {L : List Nat} {v : Nat} (h : ∀ x, x ∈ L → f x ≠ v) : indc f L v = 0 := by
  unfold indc
  rw [if_neg (fun z => ?_)]
  obtain ⟨x, hx, e⟩ := List.any_eq_true.mp z
  exact h x hx (by simpa using e)
theorem indc_cons {f : Nat → Nat} {L : List Nat} {a v : Nat} : indc f (a :: L) v = if v = f a then 1 else indc f L v := by
  by_cases e : v = f a
  · rw [if_pos e, indc_t (x := a) (by simp) e.symm]
  · rw [if_neg e]
    unfold indc
    rw [List.any_cons, show decide (f a = v) = false from decide_eq_false (fun z => e z.symm), Bool.false_or]
theorem smN_cg {f g : Nat → Nat} : ∀ {n : Nat}, (∀ c, c < n → f c = g c) → smN f n = smN g n
  | 0, _ => rfl
  | n + 1, h => by
    show smN f n + f n = smN g n + g n
    rw [smN_cg (fun c hc => h c (by omega)), h n (by omega)]
theorem smN_up1 {f : Nat → Nat} {k v : Nat} : ∀ {n : Nat}, k < n → smN (fun c => if c = k then v else f c) n + f k = smN f n + v
  | n + 1, hk => by
    show smN _ n + (if n = k then v else f n) + f k = smN f n + f n + v
    by_cases e : n = k
    · rw [if_pos e, smN_cg (g := f) (fun c hc => by rw [if_neg (by omega)]), e]
      omega
    · have := smN_up1 (f := f) (k := k) (v := v) (n := n) (by omega)
      rw [if_neg e]
      omega
/-- how many unlike: by one key or another -/
theorem dst_eq {f g : Nat → Nat} {N M : Nat} : ∀ {L : List Nat}, (∀ x, x ∈ L → f x < N) → (∀ x, x ∈ L → g x < M) → (∀ x y, x ∈ L → y ∈ L → (f x = f y ↔ g x = g y)) → smN (indc f L) N = smN (indc g L) M
  | [], _, _, _ => by
    have z : ∀ (h : Nat → Nat) n, smN (indc h []) n = 0 := fun h n => by
      induction n with
      | zero => rfl
      | succ n ih => show smN (indc h []) n + indc h [] n = 0; rw [ih]; rfl
    rw [z, z]
  | a :: L, hf, hg, hfg => by
    have ih := dst_eq (f := f) (g := g) (N := N) (M := M) (L := L) (fun x hx => hf x (by simp [hx])) (fun x hx => hg x (by simp [hx])) (fun x y hx hy => hfg x y (by simp [hx]) (by simp [hy]))
    have e1 : smN (indc f (a :: L)) N + indc f L (f a) = smN (indc f L) N + 1 := by
      rw [smN_cg (g := fun c => if c = f a then 1 else indc f L c) (fun c _ => indc_cons), smN_up1 (hf a (by simp))]
    have e2 : smN (indc g (a :: L)) M + indc g L (g a) = smN (indc g L) M + 1 := by
      rw [smN_cg (g := fun c => if c = g a then 1 else indc g L c) (fun c _ => indc_cons), smN_up1 (hg a (by simp))]
    have e3 : indc f L (f a) = indc g L (g a) := by
      by_cases h : ∃ x, x ∈ L ∧ f x = f a
      · obtain ⟨x, hx, e⟩ := h
        rw [indc_t hx e, indc_t hx ((hfg x a (by simp [hx]) (by simp)).mp e)]
      · rw [indc_f (fun x hx e => h ⟨x, hx, e⟩), indc_f (fun x hx e => h ⟨x, hx, (hfg x a (by simp [hx]) (by simp)).mpr e⟩)]
    omega
theorem indc_le (f : Nat → Nat) (L : List Nat) (v : Nat) : indc f L v ≤ 1 := by unfold indc; split <;> omega
/-- what is marked in the row when the numbers from k on are through -/
def unlM (T : TD) (L : List Nat) (k : Nat) (S : St) : Prop := ∀ j, j < k → ((gI S 22 j ≠ 0) ↔ (∃ x, x ∈ L ∧ num T x = j) ∨ ∃ x, x ∈ L ∧ k ≤ num T x ∧ numl T x = j)
set_option maxRecDepth 4096 in
theorem f84_loop {d t : Nat} {T : TD} {E : Env → Int32} {L : List Nat} (hL : ∀ x, x ∈ L → okW T x) : ∀ (k c : Nat) (S : St), k ≤ 3125 → ShC S → TF S t T E → unlM T L k S → c + smN (indc (numl T) L) k = smN (indc (numl T) L) 3125 → ∀ z4 : Value, WP (P84 (F (d + 3))) (1, [.ref 21, .ref t, .int (nI c), .int (nI k - 1), z4], [], S) (fun v S' => ∃ x, v = some (.int x) ∧ x = nI (smN (indc (numl T) L) 3125) ∧ Fr WyP nol S S') := by
  intro k
  induction k with
  | zero =>
    intro c S hk hS hF hM hc z4
    refine w84_1 ?_
    refine W_t (by decide +kernel) ?_
    refine ⟨_, rfl, ?_, Fr.rf⟩
    rw [← hc]; rfl
  | succ k ih =>
    intro c S hk hS hF hM hc z4
    have hT := hF.1.1.1
    have hin : inB (nI k) 3125 := inB_n (by omega) (by decide)
    have hk' := hM k (by omega)
    have hcs : c + (smN (indc (numl T) L) k + indc (numl T) L k) = smN (indc (numl T) L) 3125 := hc
    rw [nI_pred]
    refine w84_1 ?_
    refine W_f (nI_n0 (by omega)) ?_
    refine W_t (hS.k21) ?_
    rw [hS.r21_0]
    refine W_t (⟨hS.k22, by rw [hS.n22]; exact hin⟩) ?_
    rw [nI_clamp (by omega)]
    have go : ∀ (c' : Nat) (S' : St) (z4 : Value), Fr WyP nol S S' → unlM T L k S' → c' + smN (indc (numl T) L) k = smN (indc (numl T) L) 3125 → WP (P84 (F (d + 3))) (2, [.ref 21, .ref t, .int (nI c'), .int (nI k), z4], [], S') (fun v S' => ∃ x, v = some (.int x) ∧ x = nI (smN (indc (numl T) L) 3125) ∧ Fr WyP nol S S') := by
      intro c' S' z4 f1 h1 h2
      refine w84_2 ?_
      show WP _ _ _
      rw [m1_add]
      refine WP.mono (ih c' S' (by omega) (hS.of f1.2.2) (hF.fr f1 WyP_dyn) h1 h2 z4) ?_
      rintro v S'' ⟨x, r1, r2, r3⟩
      exact ⟨x, r1, r2, f1.tr r3⟩
    refine W_if (fun q => ?_) (fun q => ?_)
    · have no1 : ∀ x, x ∈ L → num T x ≠ k := fun x hx e => (hk'.mpr (Or.inl ⟨x, hx, e⟩)) q
      have no2 : ∀ x, x ∈ L → numl T x ≠ k := fun x hx e => by
        have h1 := numl_le (T := T) (w := x)
        by_cases h2 : num T x = k
        · exact no1 x hx h2
        · exact (hk'.mpr (Or.inr ⟨x, hx, by omega, e⟩)) q
      have := indc_f no2
      refine go c S z4 Fr.rf (fun j hj => ?_) (by omega)
      rw [hM j (by omega)]
      refine or_congr Iff.rfl ⟨?_, ?_⟩
      · rintro ⟨x, h1, h2, h3⟩; exact ⟨x, h1, by omega, h3⟩
      · rintro ⟨x, h1, h2, h3⟩
        have := no1 x h1
        exact ⟨x, h1, by omega, h3⟩
    · have q' := hk'.mp q
      refine W_t (hF.1.1.2.1) ?_
      refine W_L (f78 hF.1.1 (by omega)) ?_
      refine W_t (hF.1.1.2.1) ?_
      refine W_I (f77 hF.1.1 (wallN_lt hT k)) ?_
      rw [numl_wallN hT]
      have hlk : lkN T k < 2 ^ 31 := by
        rcases q' with ⟨x, h1, h2⟩ | ⟨x, h1, h2, h3⟩
        · rw [← h2, lkN_num hT (hL x h1)]; have := numl_le (T := T) (w := x); omega
        · rw [← h3, lkN_numl hT (hL x h1)]; omega
      have hl1 : ∀ x, x ∈ L → num T x = k → numl T x = lkN T k := fun x hx e => by rw [← e, lkN_num hT (hL x hx)]
      have hl2 : ∀ x, x ∈ L → numl T x = k → lkN T k = k := fun x hx e => by
        have := lkN_numl hT (hL x hx)
        rw [e] at this
        exact this
      refine W_if (fun q2 => ?_) (fun q2 => ?_)
      · have q2 : lkN T k = k := (i_eq hlk (by omega)).mp q2
        show WP _ _ _
        rw [nI_1]
        have hex : ∃ x, x ∈ L ∧ numl T x = k := by
          rcases q' with ⟨x, h1, h2⟩ | ⟨x, h1, h2, h3⟩
          · exact ⟨x, h1, by rw [hl1 x h1 h2, q2]⟩
          · exact ⟨x, h1, h3⟩
        obtain ⟨x, h1, h2⟩ := hex
        have := indc_t (f := numl T) h1 h2
        refine go (c + 1) S _ Fr.rf (fun j hj => ?_) (by omega)
        rw [hM j (by omega)]
        refine or_congr Iff.rfl ⟨?_, ?_⟩
        · rintro ⟨x, h1, h2, h3⟩; exact ⟨x, h1, by omega, h3⟩
        · rintro ⟨x, h1, h2, h3⟩
          by_cases e : num T x = k
          · have := hl1 x h1 e; omega
          · exact ⟨x, h1, by omega, h3⟩
      · have q2 : ¬ lkN T k = k := fun z => q2 (by rw [z])
        have hno : ∀ x, x ∈ L → numl T x ≠ k := fun x hx e => q2 (hl2 x hx e)
        have hnum : ∃ x, x ∈ L ∧ num T x = k := by
          rcases q' with h | ⟨x, h1, h2, h3⟩
          · exact h
          · exact absurd h3 (hno x h1)
        obtain ⟨x0, g1, g2⟩ := hnum
        have hlt : lkN T k < k := by
          have := numl_le (T := T) (w := x0)
          have := hl1 x0 g1 g2
          omega
        refine W_t (hS.k21) ?_
        rw [hS.r21_0]
        refine W_t (by rw [hS.k22]; decide) ?_
        rw [hS.n22]
        refine W_t (by rw [c_ofNat, i_lt (by omega) (by decide)]; omega) ?_
        refine W_t (hS.k21) ?_
        refine W_t (⟨hS.k22, inB_n (by omega) (by decide)⟩) ?_
        refine W_s fun S1 e1 => ?_
        have f1 : Fr WyP nol S S1 := by rw [e1]; exact Fr.putI rfl
        show WP _ _ _
        have := indc_f hno
        refine go c S1 _ f1 (fun j hj => ?_) (by omega)
        rw [e1, gI_pI, nI_clamp (by omega)]
        by_cases e : j = lkN T k
        · rw [if_pos ⟨rfl, e⟩]
          exact ⟨fun _ => Or.inr ⟨x0, g1, by omega, by rw [e]; exact hl1 x0 g1 g2⟩, fun _ => by decide⟩
        · rw [if_neg (fun z => e z.2), hM j (by omega)]
          refine or_congr Iff.rfl ⟨?_, ?_⟩
          · rintro ⟨x, h1, h2, h3⟩; exact ⟨x, h1, by omega, h3⟩
          · rintro ⟨x, h1, h2, h3⟩
            by_cases e2 : num T x = k
            · have := hl1 x h1 e2; omega
            · exact ⟨x, h1, by omega, h3⟩
theorem f84 {d t : Nat} {S : St} {T : TD} {E : Env → Int32} {L : List Nat} (hsm : small T) (hL : ∀ x, x ∈ L → okW T x) (hS : ShC S) (hF : TF S t T E) (hM : MWy S T false (cnN T L)) : Sp (F (d + 4) 84 [.ref 21, .ref t] S) (fun v S' => ∃ x, v = some (.int x) ∧ x = nI (smN (indc (numl T) L) 3125) ∧ Fr WyP nol S S') := by
  have hT := hF.1.1.1
  have hB := small_num hT hsm
  refine fw84 (w84_0 ?_)
  refine W_t (hS.k21) ?_
  rw [hS.r21_0]
  refine W_t (by rw [hS.k22]; decide) ?_
  rw [hS.n22]
  show WP _ _ _
  refine WP.mono (f84_loop (d := d) hL 3125 0 S (by omega) hS hF (fun j hj => ?_) (by omega) .null) ?_
  · rw [hM j hj]
    have hz : nI (vl false (cnN T L j)) ≠ 0 ↔ cnN T L j ≠ 0 := by
      unfold vl
      by_cases h : cnN T L j = 0
      · rw [if_neg (by decide), if_pos h]
        exact ⟨fun z => absurd rfl z, fun z => absurd h z⟩
      · rw [if_neg (by decide), if_neg h]
        exact ⟨fun _ => h, fun _ => by decide⟩
    rw [hz]
    constructor
    · intro h
      obtain ⟨x, hx, e⟩ := List.countP_pos_iff.mp (Nat.pos_of_ne_zero h)
      exact Or.inl ⟨x, hx, by simpa using e⟩
    · rintro (⟨x, h1, h2⟩ | ⟨x, h1, h2, h3⟩)
      · exact Nat.pos_iff_ne_zero.mp (List.countP_pos_iff.mpr ⟨x, h1, by simpa using h2⟩)
      · have := num_lt hT (hL x h1); omega
  · rintro v S' ⟨x, r1, r2, r3⟩
    exact ⟨r3.mono, x, r1, r2, r3⟩
/-- those whose number passes -/
theorem cnN_sum {T : TD} {q : Nat → Bool} {N : Nat} : ∀ {L : List Nat}, (∀ x, x ∈ L → num T x < N) → smN (fun i => if q i = true then cnN T L i else 0) N = L.countP (fun x => q (num T x))
  | [], _ => by
    rw [smN_cg (g := fun _ => 0) (fun c _ => by split <;> rfl), smN_const]
    rfl
  | a :: L, h => by
    have ih := cnN_sum (T := T) (q := q) (N := N) (L := L) (fun x hx => h x (by simp [hx]))
    have ha := h a (by simp)
    have e := smN_up1 (f := fun i => if q i = true then cnN T L i else 0) (k := num T a) (v := (if q (num T a) = true then cnN T L (num T a) + 1 else 0)) ha
    rw [List.countP_cons, ← ih, smN_cg (g := fun c => if c = num T a then (if q (num T a) = true then cnN T L (num T a) + 1 else 0) else (if q c = true then cnN T L c else 0)) (fun c _ => ?_)]
    · by_cases hq : q (num T a) = true
      · simp only [hq, if_true] at e ⊢; omega
      · simp only [hq] at e ⊢
        simp at e ⊢
        omega
    · unfold cnN
      rw [List.countP_cons]
      by_cases e : c = num T a
      · subst e
        simp
      · rw [if_neg e, show decide (num T a = c) = false from decide_eq_false (fun z => e z.symm)]
        simp
theorem smN_mod {f : Nat → Nat} {m : Nat} : ∀ {n : Nat}, smN (fun i => f i % m) n % m = smN f n % m
  | 0 => rfl
  | n + 1 => by
    show (smN (fun i => f i % m) n + f n % m) % m = (smN f n + f n) % m
    rw [Nat.add_mod, smN_mod, Nat.mod_mod, ← Nat.add_mod]
theorem smN_bd {f : Nat → Nat} {B : Nat} : ∀ {n : Nat}, (∀ c, c < n → f c ≤ B) → smN f n ≤ n * B
  | n, h => by rw [← smN_const]; exact smN_le h
set_option maxRecDepth 4096 in
theorem f85 {d t w : Nat} {S : St} {T : TD} {E : Env → Int32} {L : List Nat} (hsm : small T) (hL : ∀ x, x ∈ L → okW T x) (hw : okW T w) (hS : ShC S) (hF : TF S t T E) (hM : MWy S T true (cnN T L)) : F (d + 4) 85 [.ref 21, .ref t, .long (lN w)] S = some (some (.int (nI (L.countP (fun x => decide (numl T x = numl T w)) % md7))), S) := by
  have hT := hF.1.1.1
  have hB := small_num hT hsm
  have hnl := numl_lt hT hw
  have hv : ∀ i, i < 3125 → gI S 22 i = nI (cnN T L i % md7) := fun i hi => hM i hi
  refine fq85 (w85_0 ?_)
  refine W_t (hF.1.1.2.1) ?_
  refine W_I (f77 hF.1.1 hw.1) ?_
  show WP _ _ _
  let fs : Nat → Nat := fun i => (if decide (lkN T i = numl T w) = true then cnN T L i else 0) % md7
  have hfs : ∀ i, fs i < 1000000007 := fun i => Nat.mod_lt _ (by decide)
  have hsum : ∀ n, n ≤ 3125 → smN fs n < 2 ^ 42 := fun n hn => by
    have h1 : smN fs n ≤ n * 1000000007 := smN_bd (fun c _ => Nat.le_of_lt (hfs c))
    have h2 : n * 1000000007 ≤ 3125 * 1000000007 := Nat.mul_le_mul_right _ hn
    have h3 : 3125 * 1000000007 < 2 ^ 42 := by decide
    omega
  have key : ∀ (m i : Nat), m = 3125 - i → i ≤ 3125 → ∀ z3 z6 : Value, WP (P85 (F (d + 3))) (1, [.ref 21, .ref t, .long (lN w), z3, .int (nI (numl T w)), .long (lN (smN fs i)), z6, .int (nI i)], [], S) (fun r S' => r = some (.int (nI (L.countP (fun x => decide (numl T x = numl T w)) % md7))) ∧ S' = S) := by
    intro m
    induction m with
    | zero =>
      intro i hm hi z3 z6
      have e : i = 3125 := by omega
      subst e
      have hs := hsum 3125 (by omega)
      refine w85_1 ?_
      refine W_t (hS.k21) ?_
      rw [hS.r21_0]
      refine W_t (by rw [hS.k22]; decide) ?_
      rw [hS.n22]
      refine W_f (by decide +kernel) ?_
      refine W_f (by decide +kernel) ?_
      refine ⟨?_, rfl⟩
      rw [show (1000000007 : Int64) = lN 1000000007 from rfl, pk_lRem (by omega) (by decide) (by decide), lN_i]
      suffices hfin : smN fs 3125 % md7 = L.countP (fun x => decide (numl T x = numl T w)) % md7 by
        show some (Value.int (nI (smN fs 3125 % md7))) = _
        rw [hfin]
      show smN (fun i => (if decide (lkN T i = numl T w) = true then cnN T L i else 0) % md7) 3125 % md7 = _
      rw [smN_mod, cnN_sum (q := fun i => decide (lkN T i = numl T w)) (fun x hx => by have := num_lt hT (hL x hx); omega)]
      congr 1
      refine List.countP_congr (fun x hx => ?_)
      rw [lkN_num hT (hL x hx)]
    | succ m ih =>
      intro i hm hi z3 z6
      have hin : inB (nI i) 3125 := inB_n (by omega) (by decide)
      have hci : cnN T L i % md7 < 1000000007 := Nat.mod_lt _ (by decide)
      have hss : smN fs (i + 1) = smN fs i + fs i := rfl
      have go : ∀ (z3 z6 : Value), WP (P85 (F (d + 3))) (2, [.ref 21, .ref t, .long (lN w), z3, .int (nI (numl T w)), .long (lN (smN fs (i + 1))), z6, .int (nI i)], [], S) (fun r S' => r = some (.int (nI (L.countP (fun x => decide (numl T x = numl T w)) % md7))) ∧ S' = S) := by
        intro z3 z6
        refine w85_2 ?_
        show WP _ _ _
        rw [nI_1]
        exact ih (i + 1) (by omega) (by omega) _ _
      refine w85_1 ?_
      refine W_t (hS.k21) ?_
      rw [hS.r21_0]
      refine W_t (by rw [hS.k22]; decide) ?_
      rw [hS.n22]
      refine W_t (by rw [c_ofNat, i_lt (by omega) (by decide)]; omega) ?_
      refine W_t (hS.k21) ?_
      refine W_t (⟨hS.k22, hin⟩) ?_
      rw [nI_clamp (by omega), hv i (by omega)]
      refine W_if (fun q => ?_) (fun q => ?_)
      · have q : cnN T L i % md7 = 0 := (i_eq (b := 0) (by omega) (by decide)).mp q
        have e0 : fs i = 0 := by
          show (if decide (lkN T i = numl T w) = true then cnN T L i else 0) % md7 = 0
          split
          · exact q
          · rfl
        rw [e0, Nat.add_zero] at hss
        have := go z3 z6
        rw [hss] at this
        exact this
      · have hpos : 0 < cnN T L i := Nat.pos_of_ne_zero fun z => q (by rw [z]; rfl)
        obtain ⟨x, hx, hxi⟩ := List.countP_pos_iff.mp hpos
        have hxi : num T x = i := by simpa using hxi
        refine W_t (hF.1.1.2.1) ?_
        refine W_L (f78 hF.1.1 (by omega)) ?_
        refine W_t (hF.1.1.2.1) ?_
        refine W_I (f77 hF.1.1 (wallN_lt hT i)) ?_
        rw [numl_wallN hT]
        have hlk : lkN T i < 2 ^ 31 := by
          rw [← hxi, lkN_num hT (hL x hx)]
          have := numl_le (T := T) (w := x)
          omega
        refine W_if (fun q2 => ?_) (fun q2 => ?_)
        · have q2 : lkN T i = numl T w := (i_eq hlk (by omega)).mp q2
          refine W_t (hS.k21) ?_
          rw [hS.r21_0, hS.n22]
          refine W_t (⟨hS.k22, hin⟩) ?_
          rw [hv i (by omega)]
          have e0 : fs i = cnN T L i % md7 := by
            show (if decide (lkN T i = numl T w) = true then cnN T L i else 0) % md7 = _
            rw [if_pos (decide_eq_true q2)]
          refine W_sj fun v e => ?_
          rw [nI_l (by omega), lN_add, ← e0, ← hss] at e
          rw [e]
          exact go _ _
        · have q2 : ¬ lkN T i = numl T w := fun z => q2 (by rw [z])
          have e0 : fs i = 0 := by
            show (if decide (lkN T i = numl T w) = true then cnN T L i else 0) % md7 = 0
            rw [if_neg (by simpa using q2)]; rfl
          rw [e0, Nat.add_zero] at hss
          have := go z3 z6
          rw [hss] at this
          exact this
  exact key 3125 0 (by omega) (by omega) .null .null
