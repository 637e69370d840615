/-! how play ends: the rule, then the class's Play -/
def scr (o tn : Nat) : Nat := if o % 2 = tn then o / 2 else 1000 - o / 2
def pick (tn : Nat) (ch : Option Nat) (e : Nat) : Option Nat := match ch with
  | none => some e
  | some c => if scr c tn < scr e tn then some e else some c
def pickA (r : Int32) (w : Nat) (ch : Option Nat) (a : Nat) : Option Nat := match ch with
  | none => some a
  | some c => if r = 1 ∨ (r = 2 ∧ hgt w (a / 4 % 16) < hgt w (c / 4 % 16)) then some a else some c
def orE (o : Option Nat) (v : Nat) : Nat := match o with
  | none => v
  | some x => x
def outc (T : TD) (m r : Int32) : Nat → Nat → Nat → Nat
  | 0, _, tn => tn
  | n + 1, w, tn => if nI tn = m then orE (((actsL T w tn).foldl (pickA r w) none).map (fun a => outc T m r n (aft T w tn a) (1 - tn) + 2)) (payr T w tn)
    else orE ((actsL T w tn).foldl (fun ch a => pick tn ch (outc T m r n (aft T w tn a) (1 - tn) + 2)) none) (payr T w tn)
theorem outc_s (T : TD) (m r : Int32) (n w tn : Nat) : outc T m r (n + 1) w tn = if nI tn = m then orE (((actsL T w tn).foldl (pickA r w) none).map (fun a => outc T m r n (aft T w tn a) (1 - tn) + 2)) (payr T w tn) else orE ((actsL T w tn).foldl (fun ch a => pick tn ch (outc T m r n (aft T w tn a) (1 - tn) + 2)) none) (payr T w tn) := rfl
theorem foldl_cg {α : Type} {f g : α → Nat → α} : ∀ {L : List Nat} {x : α}, (∀ a, a ∈ L → ∀ y, f y a = g y a) → L.foldl f x = L.foldl g x
  | [], _, _ => rfl
  | a :: L, x, h => by
    show L.foldl f (f x a) = L.foldl g (g x a)
    rw [h a (by simp) x]
    exact foldl_cg (fun b hb y => h b (by simp [hb]) y)
theorem pickA_mem {r : Int32} {w : Nat} : ∀ {L : List Nat} {x : Option Nat} {a : Nat}, L.foldl (pickA r w) x = some a → a ∈ L ∨ x = some a
  | [], x, a, h => Or.inr h
  | b :: L, x, a, h => by
    have h : L.foldl (pickA r w) (pickA r w x b) = some a := h
    rcases pickA_mem h with z | z
    · exact Or.inl (by simp [z])
    · cases x with
      | none => exact Or.inl (by have : b = a := Option.some.inj z; simp [this])
      | some c =>
        unfold pickA at z
        dsimp only at z
        split at z
        · exact Or.inl (by have : b = a := Option.some.inj z; simp [this])
        · exact Or.inr z
theorem fil_60 {T : TD} {w : Nat} (hT : okT T) (hw : okW T w) : fil T w ≤ 60 := by
  have h1 := fil_le hT hw
  have h2 : tW T * tH T ≤ 10 * 6 := Nat.mul_le_mul hT.1.2 hT.2.1.2
  omega
theorem outc_st {T : TD} {m r : Int32} (hT : okT T) : ∀ {n n' w tn : Nat}, okW T w → tn < 2 → 60 < n + fil T w → 60 < n' + fil T w → outc T m r n w tn = outc T m r n' w tn
  | 0, n', w, tn, hw, ht, h1, _ => by have := fil_60 hT hw; omega
  | n + 1, 0, w, tn, hw, ht, _, h2 => by have := fil_60 hT hw; omega
  | n + 1, n' + 1, w, tn, hw, ht, h1, h2 => by
    have key : ∀ a, a ∈ actsL T w tn → outc T m r n (aft T w tn a) (1 - tn) = outc T m r n' (aft T w tn a) (1 - tn) := fun a ha => by
      obtain ⟨-, g2, g3⟩ := actsL_mem.mp ha
      have := fil_aft hT hw ht g2 g3
      exact outc_st hT (hw.aft hT ht g2 g3) (by omega) (by omega) (by omega)
    unfold outc
    by_cases hm : nI tn = m
    · rw [if_pos hm, if_pos hm]
      cases hq : (actsL T w tn).foldl (pickA r w) none with
      | none => rfl
      | some a =>
        have := (pickA_mem hq).resolve_right (by simp)
        show outc T m r n (aft T w tn a) (1 - tn) + 2 = outc T m r n' (aft T w tn a) (1 - tn) + 2
        rw [key a this]
    · rw [if_neg hm, if_neg hm]
      rw [foldl_cg (fun a ha y => by rw [key a ha])]
def out (T : TD) (m r : Int32) (w tn : Nat) : Nat := outc T m r 61 w tn
/-- how play ends: by its next act -/
theorem out_eq {T : TD} {m r : Int32} {w tn : Nat} (hT : okT T) (hw : okW T w) (ht : tn < 2) : out T m r w tn = if nI tn = m then orE (((actsL T w tn).foldl (pickA r w) none).map (fun a => out T m r (aft T w tn a) (1 - tn) + 2)) (payr T w tn) else orE ((actsL T w tn).foldl (fun ch a => pick tn ch (out T m r (aft T w tn a) (1 - tn) + 2)) none) (payr T w tn) := by
  have key : ∀ a, a ∈ actsL T w tn → outc T m r 60 (aft T w tn a) (1 - tn) = outc T m r 61 (aft T w tn a) (1 - tn) := fun a ha => by
    obtain ⟨-, g2, g3⟩ := actsL_mem.mp ha
    have := fil_aft hT hw ht g2 g3
    generalize hn1 : (61 : Nat) = n1
    generalize hn0 : (60 : Nat) = n0
    exact outc_st hT (hw.aft hT ht g2 g3) (by omega) (by omega) (by omega)
  show outc T m r (60 + 1) w tn = _
  rw [outc_s]
  by_cases hm : nI tn = m
  · rw [if_pos hm, if_pos hm]
    cases hq : (actsL T w tn).foldl (pickA r w) none with
    | none => rw [Option.map_none, Option.map_none]
    | some a =>
      have := (pickA_mem hq).resolve_right (by simp)
      show outc T m r 60 (aft T w tn a) (1 - tn) + 2 = outc T m r 61 (aft T w tn a) (1 - tn) + 2
      rw [key a this]
  · rw [if_neg hm, if_neg hm]
    rw [foldl_cg (fun a ha y => by rw [key a ha])]
    rfl
theorem pick_le {tn B : Nat} {f : Nat → Nat} : ∀ {L : List Nat} {x : Option Nat}, (∀ a, a ∈ L → f a ≤ B) → (∀ v, x = some v → v ≤ B) → ∀ v, L.foldl (fun ch a => pick tn ch (f a)) x = some v → v ≤ B
  | [], x, _, hx, v, h => hx v h
  | b :: L, x, hf, hx, v, h => by
    have h : L.foldl (fun ch a => pick tn ch (f a)) (pick tn x (f b)) = some v := h
    refine pick_le (fun a ha => hf a (by simp [ha])) (fun u hu => ?_) v h
    cases x with
    | none =>
      have : f b = u := Option.some.inj hu
      rw [← this]; exact hf b (by simp)
    | some c =>
      unfold pick at hu
      dsimp only at hu
      split at hu
      · have : f b = u := Option.some.inj hu
        rw [← this]; exact hf b (by simp)
      · exact hx u hu
theorem payr_le {T : TD} {w tn : Nat} (ht : tn < 2) : payr T w tn ≤ 1 := by unfold payr; split <;> omega
theorem outc_le {T : TD} {m r : Int32} : ∀ {n w tn : Nat}, tn < 2 → outc T m r n w tn ≤ 2 * n + 1
  | 0, w, tn, ht => by show tn ≤ 1; omega
  | n + 1, w, tn, ht => by
    have hp := payr_le (T := T) (w := w) ht
    unfold outc
    by_cases hm : nI tn = m
    · rw [if_pos hm]
      cases (actsL T w tn).foldl (pickA r w) none with
      | none => show payr T w tn ≤ _; omega
      | some a =>
        show outc T m r n (aft T w tn a) (1 - tn) + 2 ≤ _
        have := outc_le (T := T) (m := m) (r := r) (n := n) (w := aft T w tn a) (tn := 1 - tn) (by omega)
        omega
    · rw [if_neg hm]
      cases hq : (actsL T w tn).foldl (fun ch a => pick tn ch (outc T m r n (aft T w tn a) (1 - tn) + 2)) none with
      | none => show payr T w tn ≤ _; omega
      | some v =>
        show v ≤ _
        refine pick_le (fun a _ => ?_) (fun u hu => by cases hu) v hq
        have := outc_le (T := T) (m := m) (r := r) (n := n) (w := aft T w tn a) (tn := 1 - tn) (by omega)
        omega
theorem out_le {T : TD} {m r : Int32} {w tn : Nat} (ht : tn < 2) : out T m r w tn ≤ 123 := outc_le ht
theorem f9 {d o : Nat} {S : St} : F (d + 1) 9 [.int (nI o)] S = some (some (.int (nI (o % 2))), S) := by
  refine fq9 (w9_0 ?_)
  exact ⟨by rw [i_and1], rfl⟩
theorem f10 {d o : Nat} {S : St} (h : o < 2 ^ 31) : F (d + 1) 10 [.int (nI o)] S = some (some (.int (nI (o / 2))), S) := by
  refine fq10 (w10_0 ?_)
  exact ⟨by rw [pk_shrN h (1 &&& 31) 1 (by decide)], rfl⟩
theorem f11 {d o : Nat} {S : St} : F (d + 1) 11 [.int (nI o)] S = some (some (.int (nI (o + 2))), S) := by
  refine fq11 (w11_0 ?_)
  exact ⟨by rw [c2, nI_add], rfl⟩
theorem f12 {d o tn : Nat} {S : St} (h : o < 1000) (ht : tn < 2) : F (d + 2) 12 [.int (nI o), .int (nI tn)] S = some (some (.int (nI (scr o tn))), S) := by
  refine fq12 (w12_0 ?_)
  refine W_I (f10 (by omega)) ?_
  refine W_I (f9) ?_
  refine W_if (fun q => ?_) (fun q => ?_)
  · simp (disch := omega) only [c0, c1, c2, c3, c4, c5, c6, c7, c8, c9, c10, c_ofNat, i_lt, i_eq, i_le] at q
    exact ⟨by unfold scr; rw [if_pos q], rfl⟩
  · simp (disch := omega) only [c0, c1, c2, c3, c4, c5, c6, c7, c8, c9, c10, c_ofNat, i_lt, i_eq, i_le] at q
    exact ⟨by unfold scr; rw [if_neg q, show (1000 : Int32) = nI 1000 from rfl, pk_sub (by omega)], rfl⟩
def optI (o : Option Nat) : Int32 := match o with
  | none => -1
  | some a => nI a
theorem nI_m1 {n : Nat} (h : n < 2 ^ 31) : nI n ≠ -1 := fun e => by
  have h1 := nI_toInt h
  rw [e] at h1
  have : (-1 : Int32).toInt = -1 := by decide
  omega
/-- a play and its row of what is known -/
def isPl (S : St) (pc kc : Nat) : Prop := gK S pc = 1 ∧ gR S pc 0 = kc ∧ gK S kc = 100 ∧ gN S kc = 6250 ∧ ((pc = 17 ∧ kc = 18) ∨ (pc = 19 ∧ kc = 20))
def KnP (S : St) (kc : Nat) (T : TD) (m r : Int32) : Prop := ∀ w tn, okW T w → tn < 2 → gI S kc (2 * num T w + tn) = 0 ∨ gI S kc (2 * num T w + tn) = nI (1 + out T m r w tn)
def PrS (S : St) (pc kc t : Nat) (T : TD) (E : Env → Int32) (m r : Int32) : Prop := isPl S pc kc ∧ gR S pc 1 = t ∧ gI S pc 2 = m ∧ gI S pc 3 = r ∧ TF S t T E ∧ small T
theorem isPl.of {S S' : St} {pc kc : Nat} (h : isPl S pc kc) (e : S'.2.2 = S.2.2) : isPl S' pc kc := by
  unfold isPl gK gR gN at h ⊢
  rw [e]
  exact h
theorem isPl.nd {S : St} {pc kc : Nat} (h : isPl S pc kc) : ¬ dyn kc ∧ ¬ dyn pc ∧ pc ≠ kc := by
  have := h.2.2.2.2
  unfold dyn
  omega
theorem PrS.fr {S S' : St} {pc kc t : Nat} {T : TD} {E : Env → Int32} {m r : Int32} (h : PrS S pc kc t T E m r) (hf : Fr (fun a _ => a = kc) nol S S') : PrS S' pc kc t T E m r := by
  obtain ⟨h1, h2, h3, h4, h5, h6⟩ := h
  have hn := h1.nd
  exact ⟨h1.of hf.2.2, by rw [hf.R]; exact h2, by rw [hf.1 _ _ hn.2.2]; exact h3, by rw [hf.1 _ _ hn.2.2]; exact h4, h5.fr hf (fun a k z y => hn.1 (by have z : a = kc := z; rw [← z]; exact y)), h6⟩
theorem small_num {T : TD} (hT : okT T) (hs : small T) : (tH T + 3) ^ tW T ≤ 3125 ∧ tW T * tH T ≤ 15 := by
  have h1 := hT.1
  have h2 := hT.2.1
  have h3 := hs.1
  have h4 : (tH T + 1) ^ tW T ≤ 256 := hs.2
  generalize tW T = W at *
  generalize tH T = H at *
  rcases (show W = 2 ∨ W = 3 ∨ W = 4 ∨ W = 5 by omega) with rfl | rfl | rfl | rfl <;> rcases (show H = 1 ∨ H = 2 ∨ H = 3 ∨ H = 4 ∨ H = 5 ∨ H = 6 by omega) with rfl | rfl | rfl | rfl | rfl | rfl <;> first | (exact ⟨by decide, by decide⟩) | (exact absurd h4 (by decide))
def lowI (w : Nat) (o : Option Nat) : Int32 := match o with
  | none => 0
  | some a => nI (hgt w (a / 4 % 16))
set_option maxRecDepth 4096 in
theorem f17 {d pc kc t w tn : Nat} {S : St} {T : TD} {E : Env → Int32} {m r : Int32} (hp : PrS S pc kc t T E m r) (hw : okW T w) (ht : tn < 2) : F (d + 5) 17 [.ref pc, .long (lN w), .int (nI tn)] S = some (some (.int (optI ((actsL T w tn).foldl (pickA r w) none))), S) := by
  obtain ⟨⟨p1, p2, p3, p4, p5⟩, p6, p7, p8, hF, hsm⟩ := hp
  have hTC := hF.1
  have hT := hTC.1
  have hokT := hT.1
  have hW := hokT.1
  have hg := hw.2.1 tn ht
  have hlen := candL_250 T hokT
  have k1 : gK S pc = 1 := p1
  have k5 : gK S (gR S pc 1) = 5 := by rw [p6]; exact hT.2.1
  have k8 : gK S (gR S (gR S pc 1) 8) = 100 := by rw [p6]; exact hTC.2.1
  have n8 : gN S (gR S (gR S pc 1) 8) = (candL T).length := by rw [p6]; exact hTC.2.2.1
  refine fq17 (w17_0 ?_)
  have key : ∀ (n i : Nat), n = (candL T).length - i → i ≤ (candL T).length → ∀ z2 z7 z8 : Value, WP (P17 (F (d + 4))) (1, [.ref pc, .long (lN w), z2, .int (nI tn), .int (optI ((((candL T).take i).filter (fun a => decide (canA T w tn a))).foldl (pickA r w) none)), .int (lowI w ((((candL T).take i).filter (fun a => decide (canA T w tn a))).foldl (pickA r w) none)), .int (nI i), z7, z8], [], S) (fun v S' => v = some (.int (optI ((actsL T w tn).foldl (pickA r w) none))) ∧ S' = S) := by
    intro n
    induction n with
    | zero =>
      intro i hn hi z2 z7 z8
      have e : i = (candL T).length := by omega
      subst e
      rw [List.take_length]
      refine w17_1 ?_
      refine W_t (k1) ?_
      refine W_t (k5) ?_
      refine W_t (by rw [k8]; decide) ?_
      refine W_f (by rw [n8, c_ofNat, i_lt (by omega) (by omega)]; omega) ?_
      exact ⟨rfl, rfl⟩
    | succ n ih =>
      intro i hn hi z2 z7 z8
      have hilt : i < (candL T).length := by omega
      obtain ⟨a, ha⟩ : ∃ a, (candL T)[i]? = some a := ⟨_, List.getElem?_eq_getElem hilt⟩
      have hget : gI S (gR S (gR S pc 1) 8) (nI i).toNatClampNeg = nI a := by rw [p6, nI_clamp (by omega)]; exact hTC.2.2.2 i _ ha
      have hmem := candL_mem.mp (List.mem_of_getElem? ha)
      have hcol := cand_col hmem.2
      have htk : (candL T).take (i + 1) = (candL T).take i ++ [a] := by rw [List.take_add_one, ha]; rfl
      have ih' := ih (i + 1) (by omega) (by omega)
      rw [htk, List.filter_append, List.foldl_append] at ih'
      generalize hch : (((candL T).take i).filter (fun a => decide (canA T w tn a))).foldl (pickA r w) none = ch at ih' ⊢
      have hchm : ∀ c, ch = some c → c < 448 ∧ c / 4 % 16 < 16 := fun c hc => by
        rw [hc] at hch
        have := (pickA_mem hch).resolve_right (by simp)
        have := candL_mem.mp (List.mem_of_mem_take (List.mem_filter.mp this).1)
        omega
      refine w17_1 ?_
      refine W_t (k1) ?_
      refine W_t (k5) ?_
      refine W_t (by rw [k8]; decide) ?_
      refine W_t (by rw [n8, c_ofNat, i_lt (by omega) (by omega)]; omega) ?_
      refine W_t (k1) ?_
      refine W_t (k5) ?_
      refine W_t (⟨k8, by rw [n8]; exact inB_n hilt (by omega)⟩) ?_
      refine W_si fun v ev => ?_
      rw [hget] at ev
      subst ev
      refine W_t (k1) ?_
      refine W_t (k5) ?_
      rw [p6]
      refine W_I (f71 hT hw.1 ht hg (cand_va hokT hmem.2)) ?_
      refine W_if (fun q => ?_) (fun q => ?_)
      · rw [bi_0] at q
        show WP _ _ _
        refine w17_3 ?_
        show WP _ _ _
        rw [nI_1]
        rw [show [a].filter (fun a => decide (canA T w tn a)) = [] by simp [q]] at ih'
        exact ih' _ _ _
      · rw [bi_0] at q
        have q := Classical.not_not.mp q
        rw [show [a].filter (fun a => decide (canA T w tn a)) = [a] by simp [q]] at ih'
        have ih' : ∀ z2 z7 z8 : Value, WP (P17 (F (d + 4))) (1, [.ref pc, .long (lN w), z2, .int (nI tn), .int (optI (pickA r w ch a)), .int (lowI w (pickA r w ch a)), .int (nI (i + 1)), z7, z8], [], S) (fun v S' => v = some (.int (optI ((actsL T w tn).foldl (pickA r w) none))) ∧ S' = S) := ih'
        have keep : pickA r w ch a = ch → ∀ (x7 : Int32) (z8 : Value), WP (P17 (F (d + 4))) (3, [.ref pc, .long (lN w), z2, .int (nI tn), .int (optI ch), .int (lowI w ch), .int (nI i), .int x7, z8], [], S) (fun v S' => v = some (.int (optI ((actsL T w tn).foldl (pickA r w) none))) ∧ S' = S) := by
          intro he x7 z8
          refine w17_3 ?_
          show WP _ _ _
          rw [nI_1]
          rw [he] at ih'
          exact ih' _ _ _
        have take : pickA r w ch a = some a → ∀ (x4 x5 : Int32), WP (P17 (F (d + 4))) (2, [.ref pc, .long (lN w), z2, .int (nI tn), .int x4, .int x5, .int (nI i), .int (nI a), .int (nI (hgt w (a / 4 % 16)))], [], S) (fun v S' => v = some (.int (optI ((actsL T w tn).foldl (pickA r w) none))) ∧ S' = S) := by
          intro he x4 x5
          refine w17_2 ?_
          show WP _ _ _
          refine w17_3 ?_
          show WP _ _ _
          rw [nI_1]
          rw [he] at ih'
          exact ih' _ _ _
        refine W_I (f4 (by omega)) ?_
        refine W_I (f57 hw.1 (by omega)) ?_
        cases hc : ch with
        | none =>
          refine W_t (rfl) ?_
          exact take (by rw [hc]; rfl) _ _
        | some c =>
          have hcm := hchm c hc
          rw [hc] at take keep
          have g1 := hgt_le w (a / 4 % 16)
          have g2 := hgt_le w (c / 4 % 16)
          refine W_f (nI_m1 (by omega)) ?_
          refine W_t (k1) ?_
          rw [p8]
          refine W_if (fun q1 => ?_) (fun q1 => ?_)
          · exact take (by show (if r = 1 ∨ _ then some a else some c) = some a; rw [if_pos (Or.inl q1)]) _ _
          refine W_t (k1) ?_
          refine W_if (fun q2 => ?_) (fun q2 => ?_)
          · refine W_if (fun q3 => ?_) (fun q3 => ?_)
            · have q3 : hgt w (a / 4 % 16) < hgt w (c / 4 % 16) := (i_lt (by omega) (by omega)).mp q3
              exact take (by show (if r = 1 ∨ _ then some a else some c) = some a; rw [if_pos (Or.inr ⟨q2, q3⟩)]) _ _
            · have q3 : ¬ hgt w (a / 4 % 16) < hgt w (c / 4 % 16) := fun z => q3 ((i_lt (by omega) (by omega)).mpr z)
              exact keep (by show (if r = 1 ∨ _ then some a else some c) = some c; rw [if_neg (fun z => z.elim q1 (fun y => q3 y.2))]) _ _
          · exact keep (by show (if r = 1 ∨ _ then some a else some c) = some c; rw [if_neg (fun z => z.elim q1 (fun y => q2 y.1))]) _ _
  exact key _ 0 (by omega) (by omega) .null .null .null
