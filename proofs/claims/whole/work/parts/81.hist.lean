/-! the reference's reached, histories, lots -/
theorem smN_add {f g : Nat → Nat} : ∀ {n : Nat}, smN (fun k => f k + g k) n = smN f n + smN g n
  | 0 => rfl
  | n + 1 => by
    show smN (fun k => f k + g k) n + (f n + g n) = (smN f n + f n) + (smN g n + g n)
    rw [smN_add]
    omega
set_option maxRecDepth 4096 in
theorem sm8_eq {f : Nat → Nat} {K : Nat} : ∀ {L : List Nat}, smN (fun k => L.countP (fun x => decide (f x = 8 * K + k))) 8 = L.countP (fun x => decide (f x / 8 = K))
  | [] => rfl
  | a :: L => by
    have ih := sm8_eq (f := f) (K := K) (L := L)
    have e : smN (fun k => (a :: L).countP (fun x => decide (f x = 8 * K + k))) 8 = smN (fun k => L.countP (fun x => decide (f x = 8 * K + k)) + (if f a = 8 * K + k then 1 else 0)) 8 := smN_cg (fun k _ => by
      rw [List.countP_cons]
      by_cases z : f a = 8 * K + k
      · simp [z]
      · simp [z])
    rw [e, smN_add, ih, List.countP_cons]
    congr 1
    show 0 + (if f a = 8 * K + 0 then 1 else 0) + (if f a = 8 * K + 1 then 1 else 0) + (if f a = 8 * K + 2 then 1 else 0) + (if f a = 8 * K + 3 then 1 else 0) + (if f a = 8 * K + 4 then 1 else 0) + (if f a = 8 * K + 5 then 1 else 0) + (if f a = 8 * K + 6 then 1 else 0) + (if f a = 8 * K + 7 then 1 else 0) = _
    by_cases z : f a / 8 = K
    · simp only [z, decide_true, if_true]
      have : f a % 8 < 8 := Nat.mod_lt _ (by decide)
      rcases (show f a = 8 * K + 0 ∨ f a = 8 * K + 1 ∨ f a = 8 * K + 2 ∨ f a = 8 * K + 3 ∨ f a = 8 * K + 4 ∨ f a = 8 * K + 5 ∨ f a = 8 * K + 6 ∨ f a = 8 * K + 7 by omega) with y | y | y | y | y | y | y | y <;> simp [y]
    · rw [if_neg (by omega), if_neg (by omega), if_neg (by omega), if_neg (by omega), if_neg (by omega), if_neg (by omega), if_neg (by omega), if_neg (by omega), if_neg (by simpa using z)]
abbrev WyQ : Nat → Nat → Prop := fun a k => (a = 63 ∧ 64 ≤ k) ∨ (53 ≤ a ∧ a ≤ 62) ∨ TaP a k ∨ a = 68 ∨ a = 69
theorem WyQ_s : ∀ a k, WyQ a k → Scr a k := fun a k z => by
  rcases z with z | z | z | z | z
  · exact Or.inr (Or.inr (Or.inr (Or.inl z)))
  · exact Or.inr (Or.inr (Or.inl (by omega)))
  · exact TaP_s a k z
  · exact Or.inr (Or.inr (Or.inr (Or.inr (by omega))))
  · exact Or.inr (Or.inr (Or.inr (Or.inr (by omega))))
theorem GoP_wy : ∀ a k, GoP a k → WyQ a k := fun a k z => by
  rcases z with z | z | z | z | z
  · exact Or.inl z
  · exact Or.inr (Or.inl z)
  · exact Or.inr (Or.inr (Or.inl ⟨z.1, Or.inr z.2⟩))
  · exact Or.inr (Or.inr (Or.inr (Or.inl z)))
  · exact Or.inr (Or.inr (Or.inr (Or.inr z)))
section RIB
variable {S : St} {tp : List Nat} {T : TD} {E : Env → Int32} {A : List Nat} {mk : Nat → Option MkD}
theorem RI.wy {S' : St} (h : RI S tp T E A mk) (f : Fr WyQ nol S S') : RI S' tp T E A mk := ⟨h.1.fr f WyQ_s, h.2.fr f (fun a k z => by
  rcases z with z | z | z | z | z
  · omega
  · omega
  · have z : a = 39 ∧ _ := z; omega
  · omega
  · omega)⟩
theorem wkL_par (w tn d : Nat) : 1 - (tn + d) % 2 = (tn + (d + 1)) % 2 := by omega
theorem wy_one {w tn : Nat} {b : Bool} {S S1 : St} (h0 : ∀ j, j < 65536 → gI S 68 j = 0) (e : S1 = pI S 68 (nkey T w tn) 1) : WyR S1 T b tn [w] := fun n hn => by
  rw [e, gI_pI]
  show _ = nI (vl b ([w].countP (fun x => decide (nkey T x tn = n))))
  by_cases z : n = nkey T w tn
  · rw [if_pos ⟨rfl, z⟩, z]
    cases b <;> simp [vl] <;> rfl
  · rw [if_neg (fun y => z y.2), h0 n hn]
    have : [w].countP (fun x => decide (nkey T x tn = n)) = 0 := by
      simp
      exact fun y => z y.symm
    rw [this, vl_0]; rfl
/-- what the reference counts is what the class counts -/
theorem dst_key {L : List Nat} (hT : okT T) (hs : small T) (hL : ∀ x, x ∈ L → okW T x) : smN (indc (wkey T) L) 8192 = smN (indc (numl T) L) 3125 := by
  have hB := small_num hT hs
  refine dst_eq (fun x hx => wkey_lt hT hs (hL x hx)) (fun x hx => by have := numl_lt hT (hL x hx); omega) (fun x y hx hy => (key_numl hT hs (hL x hx) (hL y hy)).symm)
set_option maxRecDepth 4096 in
theorem f183 {d : Nat} {x : Int32} (h : RI S tp T E A mk) : Sp (F (d + 9) 183 [.ref 39, .int x] S) (fun v S' => ∃ y, v = some (.int y) ∧ y = aReached T (pw (posA T E A)) (ptn (posA T E A)) x ∧ Fr WyQ nol S S' ∧ RI S' tp T E A mk) := by
  obtain ⟨hT, hok, hday⟩ := h.1.ok
  have htn := ptn_lt (posA T E A)
  refine fw183 (w183_0 ?_)
  refine W_t (h.1.1.k39) ?_
  refine W_s fun S1 e1 => ?_
  have f1 : Fr WyQ nol S S1 := by rw [e1]; exact Fr.putI (Or.inr (Or.inr (Or.inl ⟨rfl, Or.inl rfl⟩)))
  have h1 := h.wy f1
  have hM := h1.1.1
  unfold aReached
  refine W_I (f114) ?_
  refine W_if (fun q1 => ?_) (fun q1 => ?_)
  · rw [bi_0] at q1
    refine ⟨f1.mono, _, rfl, ?_, f1, h1⟩
    rw [if_pos]
    by_cases z : x < 0
    · exact Or.inl z
    · exact Or.inr (Or.inl (Classical.byContradiction fun y => q1 ⟨z, y⟩))
  rw [bi_0] at q1
  obtain ⟨g1, g2⟩ := Classical.not_not.mp q1
  obtain ⟨n, hn, rfl⟩ := wi_n (k := 30) g1 g2 (by decide)
  simp only [hM.k39, z0c, eq_self, if_true, Nat.reduceAdd, true_and]
  refine W_I (f165 hM h1.1.2.2.1) ?_
  refine W_if (fun q3 => ?_) (fun q3 => ?_)
  · rw [bi_0] at q3
    exact ⟨f1.mono, _, rfl, by rw [if_pos (Or.inr (Or.inr q3))], f1, h1⟩
  rw [bi_0] at q3
  have hs := Classical.not_not.mp q3
  have ng : ¬ (nI n < 0 ∨ 30 < nI n ∨ ¬ small T) := by
    rintro (z | z | z)
    · exact g1 z
    · exact g2 z
    · exact z hs
  rw [if_neg ng, nI_clamp (by omega)]
  have hokw : okW T (pw (posA T E A)) := hok.1
  generalize hw : pw (posA T E A) = w at *
  generalize htt : ptn (posA T E A) = tn at *
  have hL : ∀ x, x ∈ wkL T w tn n → okW T x := fun x hx => wkL_ok hT hokw hx
  rw [← dst_key hT hs hL]
  show WP _ _ _
  -- the count
  have three : ∀ (S5 : St), Fr WyQ nol S S5 → WyR S5 T false ((tn + n) % 2) (wkL T w tn n) → ∀ (m v : Nat) (z4 z5 : Value), m = 8192 - v → v ≤ 8192 → WP (P183 (F (d + 8))) (3, [.ref 39, .int (nI n), .int (nI (smN (indc (wkey T) (wkL T w tn n)) v)), .int (nI v), z4, z5], [], S5) (fun v S' => (gZ S ≤ gZ S' ∧ gU S ≤ gU S') ∧ ∃ y, v = some (.int y) ∧ y = nI (smN (indc (wkey T) (wkL T w tn n)) 8192) ∧ Fr WyQ nol S S' ∧ RI S' tp T E A mk) := by
    intro S5 f5 hW m
    induction m with
    | zero =>
      intro v z4 z5 hm hv
      have e : v = 8192 := by omega
      subst e
      refine w183_3 ?_
      refine W_f (by decide +kernel) ?_
      exact ⟨f5.mono, _, rfl, rfl, f5, h.wy f5⟩
    | succ m ih =>
      intro v z4 z5 hm hv
      have hM5 := h.1.1.fr f5
      refine w183_3 ?_
      refine W_t (by rw [show (8192 : Int32) = nI 8192 from rfl, i_lt (by omega) (by decide)]; omega) ?_
      show WP _ _ _
      -- one wall, eight numbers
      have four : ∀ (i k : Nat) (yes : Bool), i = 8 - k → k ≤ 8 → (yes = true ↔ ∃ j, j < k ∧ cnK T ((tn + n) % 2) (wkL T w tn n) (8 * v + j) ≠ 0) → WP (P183 (F (d + 8))) (4, [.ref 39, .int (nI n), .int (nI (smN (indc (wkey T) (wkL T w tn n)) v)), .int (nI v), .int (bi (yes = true)), .int (nI k)], [], S5) (fun v S' => (gZ S ≤ gZ S' ∧ gU S ≤ gU S') ∧ ∃ y, v = some (.int y) ∧ y = nI (smN (indc (wkey T) (wkL T w tn n)) 8192) ∧ Fr WyQ nol S S' ∧ RI S' tp T E A mk) := by
        intro i
        induction i with
        | zero =>
          intro k yes hi hk hy
          have e : k = 8 := by omega
          subst e
          have seven : ∀ (b : Nat), b = indc (wkey T) (wkL T w tn n) v → ∀ x4 x5 : Int32, WP (P183 (F (d + 8))) (7, [.ref 39, .int (nI n), .int (nI (smN (indc (wkey T) (wkL T w tn n)) v)), .int (nI v), .int x4, .int x5], [.int (nI b), .int (nI (smN (indc (wkey T) (wkL T w tn n)) v))], S5) (fun v S' => (gZ S ≤ gZ S' ∧ gU S ≤ gU S') ∧ ∃ y, v = some (.int y) ∧ y = nI (smN (indc (wkey T) (wkL T w tn n)) 8192) ∧ Fr WyQ nol S S' ∧ RI S' tp T E A mk) := by
            intro b hb x4 x5
            refine w183_7 ?_
            show WP _ _ _
            rw [nI_add, nI_1, hb]
            exact ih (v + 1) _ _ (by clear hy; omega) (by clear hy; omega)
          have hiff : (∃ j, j < 8 ∧ cnK T ((tn + n) % 2) (wkL T w tn n) (8 * v + j) ≠ 0) ↔ ∃ x, x ∈ wkL T w tn n ∧ wkey T x = v := by
            constructor
            · rintro ⟨j, hj, hc⟩
              obtain ⟨x, hx, he⟩ := List.countP_pos_iff.mp (Nat.pos_of_ne_zero hc)
              have he : nkey T x ((tn + n) % 2) = 8 * v + j := by simpa using he
              refine ⟨x, hx, ?_⟩
              have := (nkey_div (w := x) hT hs (tn := (tn + n) % 2) (Nat.mod_lt _ (by decide))).2.2.2.2.2
              rw [← this, he]; omega
            · rintro ⟨x, hx, he⟩
              have := (nkey_div (w := x) hT hs (tn := (tn + n) % 2) (Nat.mod_lt _ (by decide))).2.2.2.2.2
              refine ⟨nkey T x ((tn + n) % 2) % 8, Nat.mod_lt _ (by decide), Nat.pos_iff_ne_zero.mp (List.countP_pos_iff.mpr ⟨x, hx, ?_⟩)⟩
              simp only [decide_eq_true_eq]
              omega
          refine w183_4 ?_
          refine W_f (by decide +kernel) ?_
          refine W_if (fun z => ?_) (fun z => ?_)
          · rw [bi_0] at z
            refine seven 0 ?_ _ _
            rw [indc_f (fun x hx he => z (hy.mpr (hiff.mpr ⟨x, hx, he⟩)))]
          · rw [bi_0] at z
            obtain ⟨x, hx, he⟩ := hiff.mp (hy.mp (Classical.not_not.mp z))
            refine seven 1 ?_ _ _
            rw [indc_t hx he]
        | succ i ih2 =>
          intro k yes hi hk hy
          have hval := hW (8 * v + k) (by omega)
          have hvl := vl_lt false (cnK T ((tn + n) % 2) (wkL T w tn n) (8 * v + k))
          have next : ∀ (yes' : Bool) (y : Int32), y = bi (yes' = true) → (yes' = true ↔ ∃ j, j < k + 1 ∧ cnK T ((tn + n) % 2) (wkL T w tn n) (8 * v + j) ≠ 0) → ∀ x4 : Int32, WP (P183 (F (d + 8))) (6, [.ref 39, .int (nI n), .int (nI (smN (indc (wkey T) (wkL T w tn n)) v)), .int (nI v), .int x4, .int (nI k)], [.int y], S5) (fun v S' => (gZ S ≤ gZ S' ∧ gU S ≤ gU S') ∧ ∃ y, v = some (.int y) ∧ y = nI (smN (indc (wkey T) (wkL T w tn n)) 8192) ∧ Fr WyQ nol S S' ∧ RI S' tp T E A mk) := by
            intro yes' y hy' hiff x4
            refine w183_6 ?_
            show WP _ _ _
            rw [nI_1, hy']
            exact ih2 (k + 1) yes' (by clear hiff hy; omega) (by clear hiff hy; omega) hiff
          refine w183_4 ?_
          refine W_t (by rw [c8, i_lt (by omega) (by decide)]; omega) ?_
          refine W_if (fun z => ?_) (fun z => ?_)
          · rw [bi_0] at z
            simp only [hM5.k39, hM5.r39_46, hM5.k68, hM5.n68, z0c, eq_self, if_true, Nat.reduceAdd, true_and]
            rw [c8, pk_mul, nI_add]
            refine W_t (inB_n (by omega) (by decide)) ?_
            rw [nI_clamp (by omega), hval]
            have hnz : 0 < nI (vl false (cnK T ((tn + n) % 2) (wkL T w tn n) (8 * v + k))) ↔ cnK T ((tn + n) % 2) (wkL T w tn n) (8 * v + k) ≠ 0 := by
              rw [c0, i_lt (by decide) (by omega)]
              unfold vl
              by_cases y : cnK T ((tn + n) % 2) (wkL T w tn n) (8 * v + k) = 0
              · rw [if_neg (by decide), if_pos y]
                exact ⟨fun u => by omega, fun u => absurd y u⟩
              · rw [if_neg (by decide), if_neg y]
                exact ⟨fun _ => y, fun _ => by omega⟩
            refine W_if (fun z2 => ?_) (fun z2 => ?_)
            · show WP _ _ _
              refine w183_5 ?_
              exact next true 1 rfl ⟨fun _ => ⟨k, by omega, hnz.mp z2⟩, fun _ => rfl⟩ _
            · refine next false 0 rfl ⟨fun u => absurd u (by decide), fun u => ?_⟩ _
              obtain ⟨j, hj, hc⟩ := u
              by_cases ej : j = k
              · rw [ej] at hc; exact absurd (hnz.mpr hc) z2
              · exact absurd (hy.mpr ⟨j, by omega, hc⟩) z
          · rw [bi_0] at z
            obtain ⟨j, hj, hc⟩ := hy.mp (Classical.not_not.mp z)
            show WP _ _ _
            refine w183_5 ?_
            exact next true 1 rfl ⟨fun _ => ⟨j, by omega, hc⟩, fun _ => rfl⟩ _
      exact four 8 0 false (by omega) (by omega) ⟨fun u => absurd u (by decide), fun u => by obtain ⟨j, hj, -⟩ := u; omega⟩
  -- the days
  have two : ∀ (m dd : Nat) (S4 : St), m = n - dd → dd ≤ n → Fr WyQ nol S S4 → WyR S4 T false ((tn + dd) % 2) (wkL T w tn dd) → ∀ z3 z4 z5 : Value, WP (P183 (F (d + 8))) (2, [.ref 39, .int (nI n), .int (nI dd), z3, z4, z5], [], S4) (fun v S' => (gZ S ≤ gZ S' ∧ gU S ≤ gU S') ∧ ∃ y, v = some (.int y) ∧ y = nI (smN (indc (wkey T) (wkL T w tn n)) 8192) ∧ Fr WyQ nol S S' ∧ RI S' tp T E A mk) := by
    intro m
    induction m with
    | zero =>
      intro dd S4 hm hd f4 hW z3 z4 z5
      have e : dd = n := by omega
      subst e
      refine w183_2 ?_
      refine W_f (by rw [i_lt (by omega) (by omega)]; omega) ?_
      exact three S4 f4 hW 8192 0 _ _ (by omega) (by omega)
    | succ m ih =>
      intro dd S4 hm hd f4 hW z3 z4 z5
      have h4 := h.wy f4
      refine w183_2 ?_
      refine W_t (by rw [i_lt (by omega) (by omega)]; omega) ?_
      refine W_t (h4.1.1.k39) ?_
      refine W_Ve (f182 (E := E) (d := d) (b := false) h4.1.1 h4.1.2.2.1 h4.1.2.2.2.1 hs (fun x hx => wkL_ok hT hokw hx) (Nat.mod_lt _ (by decide)) hW) ?_
      rintro S5 ⟨f5, hW5⟩
      show WP _ _ _
      rw [nI_1]
      refine ih (dd + 1) S5 (by omega) (by omega) (f4.tr (f5.weak GoP_wy (fun a k z => z))) ?_ _ _ _
      rw [wkL_par w] at hW5
      exact hW5
  have one : ∀ (m k : Nat) (S2 : St), m = 65536 - k → k ≤ 65536 → Fr WyQ nol S S2 → (∀ j, j < k → gI S2 68 j = 0) → ∀ z3 z4 z5 : Value, WP (P183 (F (d + 8))) (1, [.ref 39, .int (nI n), .int (nI k), z3, z4, z5], [], S2) (fun v S' => (gZ S ≤ gZ S' ∧ gU S ≤ gU S') ∧ ∃ y, v = some (.int y) ∧ y = nI (smN (indc (wkey T) (wkL T w tn n)) 8192) ∧ Fr WyQ nol S S' ∧ RI S' tp T E A mk) := by
    intro m
    induction m with
    | zero =>
      intro k S2 hm hk f2 h0 z3 z4 z5
      have e : k = 65536 := by omega
      subst e
      have h2 := h.wy f2
      have hM2 := h2.1.1
      have hrow := h2.1.row.1.1
      rw [hw, htt] at hrow
      have hlt := nkey_lt hT hs hokw htn
      refine w183_1 ?_
      refine W_f (by decide +kernel) ?_
      simp only [hM2.k39, hM2.r39_46, hM2.k68, hM2.n68, z0c, eq_self, if_true, Nat.reduceAdd, true_and]
      refine W_I (f167 (d := d + 6) (o := 0) hM2 h2.1.2.2.1 hrow (by omega)) ?_
      refine W_t (⟨hM2.k68, by rw [hM2.n68]; exact inB_n (by omega) (by decide)⟩) ?_
      rw [nI_clamp (by omega)]
      refine W_s fun S3 e3 => ?_
      have f3 : Fr WyQ nol S2 S3 := by rw [e3]; exact Fr.putI (Or.inr (Or.inr (Or.inr (Or.inl rfl))))
      show WP _ _ _
      refine two n 0 S3 (by omega) (by omega) (f2.tr f3) ?_ _ _ _
      rw [Nat.add_zero, Nat.mod_eq_of_lt htn]
      exact wy_one h0 e3
    | succ m ih =>
      intro k S2 hm hk f2 h0 z3 z4 z5
      have hM2 := h.1.1.fr f2
      refine w183_1 ?_
      refine W_t (by rw [show (65536 : Int32) = nI 65536 from rfl, i_lt (by omega) (by decide)]; omega) ?_
      simp only [hM2.k39, hM2.r39_46, hM2.k68, hM2.n68, z0c, eq_self, if_true, Nat.reduceAdd, true_and]
      refine W_t (inB_n (by omega) (by decide)) ?_
      rw [nI_clamp (by omega)]
      refine W_s fun S3 e3 => ?_
      have f3 : Fr WyQ nol S2 S3 := by rw [e3]; exact Fr.putI (Or.inr (Or.inr (Or.inr (Or.inl rfl))))
      show WP _ _ _
      rw [nI_1]
      refine ih (k + 1) S3 (by omega) (by omega) (f2.tr f3) (fun j hj => ?_) _ _ _
      rw [e3, gI_pI]
      by_cases e : j = k
      · rw [if_pos ⟨rfl, e⟩]
      · rw [if_neg (fun z => e z.2)]; exact h0 j (by omega)
  exact one 65536 0 S1 (by omega) (by omega) f1 (fun j hj => by omega) .null .null .null
theorem hist_key {L : List Nat} {w : Nat} (hT : okT T) (hs : small T) (hL : ∀ x, x ∈ L → okW T x) (hw : okW T w) : L.countP (fun y => decide (numl T y = numl T w)) = L.countP (fun y => decide (wkey T y = wkey T w)) := List.countP_congr (fun x hx => by
  simp only [decide_eq_true_eq]
  exact key_numl hT hs (hL x hx) hw)
set_option maxRecDepth 4096 in
theorem f184 {d : Nat} {x : Int32} (h : RI S tp T E A mk) : Sp (F (d + 9) 184 [.ref 39, .int x] S) (fun v S' => ∃ y, v = some (.int y) ∧ y = aHist T (pw (posA T E A)) x ∧ Fr WyQ nol S S' ∧ RI S' tp T E A mk) := by
  obtain ⟨hT, hok, hday⟩ := h.1.ok
  refine fw184 (w184_0 ?_)
  refine W_t (h.1.1.k39) ?_
  refine W_s fun S1 e1 => ?_
  have f1 : Fr WyQ nol S S1 := by rw [e1]; exact Fr.putI (Or.inr (Or.inr (Or.inl ⟨rfl, Or.inl rfl⟩)))
  have h1 := h.wy f1
  have hM := h1.1.1
  unfold aHist
  refine W_I (f114) ?_
  refine W_if (fun q1 => ?_) (fun q1 => ?_)
  · rw [bi_0] at q1
    refine ⟨f1.mono, _, rfl, ?_, f1, h1⟩
    rw [if_pos]
    by_cases z : x < 0
    · exact Or.inl z
    · exact Or.inr (Or.inl (Classical.byContradiction fun y => q1 ⟨z, y⟩))
  rw [bi_0] at q1
  obtain ⟨g1, g2⟩ := Classical.not_not.mp q1
  obtain ⟨n, hn, rfl⟩ := wi_n (k := 30) g1 g2 (by decide)
  simp only [hM.k39, z0c, eq_self, if_true, Nat.reduceAdd, true_and]
  refine W_I (f165 hM h1.1.2.2.1) ?_
  refine W_if (fun q3 => ?_) (fun q3 => ?_)
  · rw [bi_0] at q3
    exact ⟨f1.mono, _, rfl, by rw [if_pos (Or.inr (Or.inr q3))], f1, h1⟩
  rw [bi_0] at q3
  have hs := Classical.not_not.mp q3
  have ng : ¬ (nI n < 0 ∨ 30 < nI n ∨ ¬ small T) := by
    rintro (z | z | z)
    · exact g1 z
    · exact g2 z
    · exact z hs
  have hL : ∀ x, x ∈ wkL T 0 0 n → okW T x := fun x hx => wkL_ok hT (okW_0 T) hx
  rw [if_neg ng, nI_clamp (by omega), hist_key hT hs hL hok.1]
  have hwk := wkey_lt hT hs hok.1
  generalize hK : wkey T (pw (posA T E A)) = K at *
  show WP _ _ _
  have hfs : ∀ k, cnK T ((0 + n) % 2) (wkL T 0 0 n) (8 * K + k) % md7 < 1000000007 := fun k => Nat.mod_lt _ (by decide)
  have three : ∀ (S5 : St), Fr WyQ nol S S5 → WyR S5 T true ((0 + n) % 2) (wkL T 0 0 n) → ∀ (m k : Nat) (z3 : Value), m = 8 - k → k ≤ 8 → WP (P184 (F (d + 8))) (3, [.ref 39, .int (nI n), .long (lN (smN (fun k => cnK T ((0 + n) % 2) (wkL T 0 0 n) (8 * K + k) % md7) k)), z3, .int (nI k)], [], S5) (fun v S' => (gZ S ≤ gZ S' ∧ gU S ≤ gU S') ∧ ∃ y, v = some (.int y) ∧ y = nI ((wkL T 0 0 n).countP (fun y => decide (wkey T y = K)) % md7) ∧ Fr WyQ nol S S' ∧ RI S' tp T E A mk) := by
    intro S5 f5 hW m
    induction m with
    | zero =>
      intro k z3 hm hk
      have e : k = 8 := by omega
      subst e
      refine w184_3 ?_
      refine W_f (by decide +kernel) ?_
      refine W_f (by decide +kernel) ?_
      have hb : smN (fun k => cnK T ((0 + n) % 2) (wkL T 0 0 n) (8 * K + k) % md7) 8 ≤ 8 * 1000000007 := smN_bd (fun c _ => Nat.le_of_lt (hfs c))
      refine ⟨f5.mono, _, rfl, ?_, f5, h.wy f5⟩
      rw [show (1000000007 : Int64) = lN 1000000007 from rfl, pk_lRem (by omega) (by decide) (by decide), lN_i]
      have e2 : smN (fun k => cnK T ((0 + n) % 2) (wkL T 0 0 n) (8 * K + k) % md7) 8 % md7 = (wkL T 0 0 n).countP (fun y => decide (wkey T y = K)) % md7 := by
        rw [smN_mod]
        have e3 : smN (fun k => cnK T ((0 + n) % 2) (wkL T 0 0 n) (8 * K + k)) 8 = (wkL T 0 0 n).countP (fun x => decide (nkey T x ((0 + n) % 2) / 8 = K)) := sm8_eq
        rw [e3]
        congr 1
        refine List.countP_congr (fun x hx => ?_)
        rw [(nkey_div (w := x) hT hs (tn := (0 + n) % 2) (Nat.mod_lt _ (by decide))).2.2.2.2.2]
      show nI (smN (fun k => cnK T ((0 + n) % 2) (wkL T 0 0 n) (8 * K + k) % md7) 8 % md7) = _
      rw [e2]
    | succ m ih =>
      intro k z3 hm hk
      have h5 := h.wy f5
      have hM5 := h5.1.1
      have hrow := h5.1.row.1.1
      refine w184_3 ?_
      refine W_t (by rw [c8, i_lt (by omega) (by decide)]; omega) ?_
      simp only [hM5.k39, hM5.r39_46, hM5.k68, hM5.n68, z0c, eq_self, if_true, Nat.reduceAdd, true_and]
      have h166 := f166 (d := d + 7) (o := 0) hM5 h5.1.2.2.1 hrow (by omega)
      rw [hK] at h166
      refine W_I (h166) ?_
      rw [c8, pk_mul, nI_add]
      refine W_t (⟨hM5.k68, by rw [hM5.n68]; exact inB_n (by omega) (by decide)⟩) ?_
      have hval : gI S5 68 (8 * K + k) = nI (cnK T ((0 + n) % 2) (wkL T 0 0 n) (8 * K + k) % md7) := hW (8 * K + k) (by omega)
      have hf := hfs k
      rw [nI_clamp (by omega), hval]
      refine W_sj fun v ev => ?_
      rw [nI_l (by omega), lN_add] at ev
      show WP _ _ _
      rw [ev, nI_1]
      exact ih (k + 1) _ (by omega) (by omega)
  have two : ∀ (m dd : Nat) (S4 : St), m = n - dd → dd ≤ n → Fr WyQ nol S S4 → WyR S4 T true ((0 + dd) % 2) (wkL T 0 0 dd) → ∀ z3 z4 : Value, WP (P184 (F (d + 8))) (2, [.ref 39, .int (nI n), .int (nI dd), z3, z4], [], S4) (fun v S' => (gZ S ≤ gZ S' ∧ gU S ≤ gU S') ∧ ∃ y, v = some (.int y) ∧ y = nI ((wkL T 0 0 n).countP (fun y => decide (wkey T y = K)) % md7) ∧ Fr WyQ nol S S' ∧ RI S' tp T E A mk) := by
    intro m
    induction m with
    | zero =>
      intro dd S4 hm hd f4 hW z3 z4
      have e : dd = n := by omega
      subst e
      refine w184_2 ?_
      refine W_f (by rw [i_lt (by omega) (by omega)]; omega) ?_
      exact three S4 f4 hW 8 0 _ (by omega) (by omega)
    | succ m ih =>
      intro dd S4 hm hd f4 hW z3 z4
      have h4 := h.wy f4
      refine w184_2 ?_
      refine W_t (by rw [i_lt (by omega) (by omega)]; omega) ?_
      refine W_t (h4.1.1.k39) ?_
      refine W_Ve (f182 (E := E) (d := d) (b := true) h4.1.1 h4.1.2.2.1 h4.1.2.2.2.1 hs (fun x hx => wkL_ok hT (okW_0 T) hx) (Nat.mod_lt _ (by decide)) hW) ?_
      rintro S5 ⟨f5, hW5⟩
      show WP _ _ _
      rw [nI_1]
      refine ih (dd + 1) S5 (by omega) (by omega) (f4.tr (f5.weak GoP_wy (fun a k z => z))) ?_ _ _
      rw [wkL_par 0] at hW5
      exact hW5
  have one : ∀ (m k : Nat) (S2 : St), m = 65536 - k → k ≤ 65536 → Fr WyQ nol S S2 → (∀ j, j < k → gI S2 68 j = 0) → ∀ z3 z4 : Value, WP (P184 (F (d + 8))) (1, [.ref 39, .int (nI n), .int (nI k), z3, z4], [], S2) (fun v S' => (gZ S ≤ gZ S' ∧ gU S ≤ gU S') ∧ ∃ y, v = some (.int y) ∧ y = nI ((wkL T 0 0 n).countP (fun y => decide (wkey T y = K)) % md7) ∧ Fr WyQ nol S S' ∧ RI S' tp T E A mk) := by
    intro m
    induction m with
    | zero =>
      intro k S2 hm hk f2 h0 z3 z4
      have e : k = 65536 := by omega
      subst e
      have h2 := h.wy f2
      have hM2 := h2.1.1
      have hlt := nkey_lt (tn := 0) hT hs (okW_0 T) (by omega)
      refine w184_1 ?_
      refine W_f (by decide +kernel) ?_
      simp only [hM2.k39, z0c, eq_self, if_true, Nat.reduceAdd, true_and]
      refine W_Ve (f140 (d := d + 7) (o := 64) hM2 h2.1.2.2.1 (by omega)) ?_
      rintro S3 ⟨f3, hrow, -, -⟩
      have f3' : Fr WyQ nol S2 S3 := f3.weak (fun a k z => by
        rcases z with z | z | z
        · exact Or.inl ⟨z.1, by omega⟩
        · exact Or.inr (Or.inl z)
        · exact Or.inr (Or.inr (Or.inl ⟨z.1, Or.inr z.2⟩))) (fun a k z => z)
      have hM3 := hM2.fr f3
      simp only [hM3.k39, hM3.r39_46, hM3.k68, hM3.n68, z0c, eq_self, if_true, Nat.reduceAdd, true_and]
      refine W_I (f167 (d := d + 6) (o := 64) hM3 (h.wy (f2.tr f3')).1.2.2.1 hrow (by omega)) ?_
      refine W_t (⟨hM3.k68, by rw [hM3.n68]; exact inB_n (by omega) (by decide)⟩) ?_
      rw [nI_clamp (by omega)]
      refine W_s fun S4 e4 => ?_
      have f4 : Fr WyQ nol S3 S4 := by rw [e4]; exact Fr.putI (Or.inr (Or.inr (Or.inr (Or.inl rfl))))
      show WP _ _ _
      refine two n 0 S4 (by omega) (by omega) ((f2.tr f3').tr f4) ?_ _ _
      exact wy_one (fun j hj => by rw [f3.1 _ _ (by show ¬ (_ ∨ _); omega)]; exact h0 j hj) e4
    | succ m ih =>
      intro k S2 hm hk f2 h0 z3 z4
      have hM2 := h.1.1.fr f2
      refine w184_1 ?_
      refine W_t (by rw [show (65536 : Int32) = nI 65536 from rfl, i_lt (by omega) (by decide)]; omega) ?_
      simp only [hM2.k39, hM2.r39_46, hM2.k68, hM2.n68, z0c, eq_self, if_true, Nat.reduceAdd, true_and]
      refine W_t (inB_n (by omega) (by decide)) ?_
      rw [nI_clamp (by omega)]
      refine W_s fun S3 e3 => ?_
      have f3 : Fr WyQ nol S2 S3 := by rw [e3]; exact Fr.putI (Or.inr (Or.inr (Or.inr (Or.inl rfl))))
      show WP _ _ _
      rw [nI_1]
      refine ih (k + 1) S3 (by omega) (by omega) (f2.tr f3) (fun j hj => ?_) _ _
      rw [e3, gI_pI]
      by_cases e : j = k
      · rw [if_pos ⟨rfl, e⟩]
      · rw [if_neg (fun z => e z.2)]; exact h0 j (by omega)
  exact one 65536 0 S1 (by omega) (by omega) f1 (fun j hj => by omega) .null .null
end RIB
