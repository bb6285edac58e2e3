/-! conflict: sets of orders -/
def pc (b : Nat) : Nat := cnt 10 b.testBit
def ky (b : Nat) : Nat := pc b * 1024 + b
theorem bor10 {p : Nat → Bool} {i : Nat} (hi : i < 10) : nI (bts 10 p) ||| jshl 1 (nI i) = nI (bts 10 (fun k => p k || k == i)) := by
  have h1 : bts 10 p < 1024 := bts_lt 10 p
  have h2 : 2 ^ i < 2 ^ 31 := Nat.pow_lt_pow_right (by decide) (by omega)
  rw [shl6 (by omega), nI_or (by omega) h2, bts_one hi, bts_or]
theorem bno10 {a b : Nat} (ha : a < 1024) (hb : b < 1024) : nI a &&& (nI b ^^^ (-1)) = nI (a &&& (1023 ^^^ b)) := by
  have h1 : ∀ b, b < 1024 → (nI b ^^^ (-1)) &&& 1023 = nI (1023 ^^^ b) := by decide +kernel
  have h2 : ∀ a, a < 1024 → nI a &&& 1023 = nI a := by decide +kernel
  have hx : 1023 ^^^ b < 2 ^ 10 := Nat.xor_lt_two_pow (by decide) hb
  calc nI a &&& (nI b ^^^ (-1)) = (nI a &&& 1023) &&& (nI b ^^^ (-1)) := by rw [h2 a ha]
    _ = nI a &&& ((nI b ^^^ (-1)) &&& 1023) := by rw [Int32.and_assoc, Int32.and_comm 1023]
    _ = nI a &&& nI (1023 ^^^ b) := by rw [h1 b hb]
    _ = nI (a &&& (1023 ^^^ b)) := nI_and (by omega) (by omega)
theorem tb10 {b : Nat} (h : b < 1024) : b = bts 10 b.testBit := bts_ext h (fun _ _ => rfl)
/-- one set in another -/
def sub (a b : Nat) : Prop := ∀ o, o < 10 → a.testBit o = true → b.testBit o = true
theorem bts_mo {p q : Nat → Bool} : ∀ n, (∀ i, i < n → p i = true → q i = true) → bts n p ≤ bts n q := by
  intro n
  induction n with
  | zero => intro _; exact Nat.le_refl _
  | succ n ih =>
    intro h
    have h1 := ih (fun i hi => h i (by omega))
    rw [bts_s, bts_s]
    cases hp : p n with
    | false => simp; omega
    | true => rw [h n (by omega) hp]; simp; omega
theorem sub_ky {a b : Nat} (ha : a < 1024) (hb : b < 1024) (h : sub a b) : ky a ≤ ky b := by
  unfold ky pc
  have h1 := cnt_mo 10 h
  have h2 : a ≤ b := by
    rw [tb10 ha, tb10 hb]
    exact bts_mo 10 h
  omega
theorem ky_inj {a b : Nat} (ha : a < 1024) (hb : b < 1024) (h : ky a = ky b) : a = b := by
  unfold ky at h
  omega
theorem sub_eq {a b : Nat} (ha : a < 1024) (hb : b < 1024) (h : sub a b) (h2 : pc b ≤ pc a) : a = b := by
  rw [tb10 ha, tb10 hb]
  refine bts_cg (fun i hi => ?_)
  cases hx : a.testBit i with
  | true => exact (h i hi hx).symm
  | false =>
    cases hy : b.testBit i with
    | false => rfl
    | true =>
      have := cnt_st 10 h hi hx hy
      unfold pc at h2
      omega
theorem and_z {a b : Nat} (ha : a < 1024) (hb : b < 1024) : (a &&& (1023 ^^^ b)) = 0 ↔ sub a b := by
  have h1023 : ∀ i, i < 10 → (1023 : Nat).testBit i = true := by decide
  constructor
  · intro h o ho hx
    have := congrArg (fun z => Nat.testBit z o) h
    simp [Nat.testBit_and, Nat.testBit_xor, h1023 o ho, hx] at this
    exact this
  · intro h
    apply Nat.eq_of_testBit_eq
    intro i
    rw [Nat.testBit_and, Nat.testBit_xor]
    by_cases hi : i < 10
    · cases hx : a.testBit i with
      | false => simp
      | true => simp [h1023 i hi, h i hi hx]
    · have : a.testBit i = false := Nat.testBit_lt_two_pow (Nat.lt_of_lt_of_le (show a < 2 ^ 10 from ha) (Nat.pow_le_pow_right (by decide) (by omega)))
      simp [this]
theorem bb_lt {N : Nat} {g : Sy} {q : Nat → Int32} (O : okS N g) (hN : N ≤ 10) : bb g q < 1024 := by
  have h1 := bts_lt (no g) (brk g q)
  have hno := O.2.1.2
  have h2 : 2 ^ no g ≤ 2 ^ 10 := Nat.pow_le_pow_right (by decide) (by omega)
  unfold bb
  omega
theorem m_countBits {s : gS} {Q : Int32 → gS → Prop} {b : Nat} (h : b < 1024) (k : Q (nI (pc b)) s) : wpX12_countBits (nI b) s Q := by
  have hb : ∀ b, b < 1024 → b ≠ 0 → (nI b &&& (nI b - 1)) = nI (b &&& (b - 1)) ∧ pc (b &&& (b - 1)) + 1 = pc b ∧ (b &&& (b - 1)) < 1024 := by decide +kernel
  have Lp : ∀ n c acc, c < 1024 → pc c ≤ n → acc + pc c = pc b → wX12_countBits_4 (nI b) Q (n + 1) (nI acc) (nI c) s := by
    intro n
    induction n with
    | zero =>
      intro c acc hc hp ha
      have hz : c = 0 := by
        apply Classical.byContradiction
        intro hne
        have := (hb c hc hne).2.1
        omega
      subst hz
      rw [wX12_countBits_4]
      refine ⟨fun _ => ?_, fun h => absurd rfl h⟩
      have : acc = pc b := by omega
      rw [this]; exact k
    | succ n ih =>
      intro c acc hc hp ha
      rw [wX12_countBits_4]
      have hz : (nI c = 0) = (c = 0) := by rw [show (0 : Int32) = nI 0 from rfl, nI_eq (by omega) (by decide)]
      rw [hz]
      refine ⟨fun h0 => ?_, fun h0 => ?_⟩
      · subst h0
        have : acc = pc b := by
          have : pc 0 = 0 := by decide +kernel
          omega
        rw [this]; exact k
      · obtain ⟨a1, a2, a3⟩ := hb c hc h0
        rw [a1, nI_1]
        exact ih _ (acc + 1) a3 (by omega) (by omega)
  exact ⟨pc b + 1, Lp (pc b) b 0 h (Nat.le_refl _) (by omega)⟩
theorem c_pop {s : gS} {Q : Int32 → gS → Prop} {b : Nat} (h : b < 1024) : wpJ6_bitCount_0f7a4 (nI b) s Q = Q (nI (pc b)) s := pop_10 h s Q
/-- the best set so far, and in how many ways -/
def stC (r : Nat × Nat) (b : Nat) : Nat × Nat := if ky r.1 < ky b then r else if b = r.1 then (r.1, r.2 + 1) else (b, 1)
theorem stC_ok (Lb : List Nat) : (∀ b, b ∈ Lb → b < 1024) → ∀ r : Nat × Nat, r.1 < 1024 → (Lb.foldl stC r).1 < 1024 ∧ ky (Lb.foldl stC r).1 ≤ ky r.1 ∧ (∀ b, b ∈ Lb → ky (Lb.foldl stC r).1 ≤ ky b) ∧ ((Lb.foldl stC r).1 = r.1 ∨ (Lb.foldl stC r).1 ∈ Lb) ∧ (Lb.foldl stC r).2 = (if (Lb.foldl stC r).1 = r.1 then r.2 else 0) + Lb.count (Lb.foldl stC r).1 := by
  induction Lb with
  | nil => intro _ r hr; simp [hr]
  | cons b Lb ih =>
    intro hl r hr
    have hb := hl b List.mem_cons_self
    have hr' : (stC r b).1 < 1024 := by unfold stC; split; exact hr; split; exact hr; exact hb
    obtain ⟨a0, a1, a2, a3, a4⟩ := ih (fun b hb => hl b (List.mem_cons_of_mem _ hb)) (stC r b) hr'
    rw [List.foldl_cons]
    generalize hR : Lb.foldl stC (stC r b) = R at *
    have hk : ky (stC r b).1 ≤ ky r.1 ∧ ky (stC r b).1 ≤ ky b ∧ ((stC r b).1 = r.1 ∨ (stC r b).1 = b) := by
      unfold stC
      split
      next h => exact ⟨Nat.le_refl _, by omega, Or.inl rfl⟩
      next h =>
        split
        next h2 => exact ⟨Nat.le_refl _, by rw [h2]; exact Nat.le_refl _, Or.inl rfl⟩
        next h2 => exact ⟨by show ky b ≤ _; omega, Nat.le_refl _, Or.inr rfl⟩
    refine ⟨a0, by omega, fun c hc => ?_, ?_, ?_⟩
    · rcases List.mem_cons.mp hc with rfl | hc
      · omega
      · exact a2 c hc
    · rcases a3 with a3 | a3
      · rcases hk.2.2 with h | h
        · exact Or.inl (a3.trans h)
        · exact Or.inr (by rw [a3, h]; exact List.mem_cons_self)
      · exact Or.inr (List.mem_cons_of_mem _ a3)
    · rw [a4, List.count_cons]
      unfold stC at a1 ⊢
      by_cases h1 : ky r.1 < ky b
      · rw [if_pos h1]
        have : ¬ b = R.1 := fun e => by
          rw [if_pos h1] at a1
          rw [← e] at a1
          omega
        simp [this]
      · rw [if_neg h1]
        by_cases h2 : b = r.1
        · rw [if_pos h2]
          by_cases h3 : R.1 = r.1
          · simp [h3, h2]; omega
          · have : ¬ b = R.1 := fun e => h3 (e.symm.trans h2)
            simp [h3, this]
        · rw [if_neg h2]
          have hlt : ky b < ky r.1 := by
            rcases Nat.lt_or_eq_of_le (Nat.le_of_not_lt h1) with h | h
            · exact h
            · exact absurd (ky_inj hb hr h) h2
          rw [if_neg h1, if_neg h2] at a1
          have hRr : ¬ R.1 = r.1 := fun e => by rw [e] at a1; have : ky r.1 ≤ ky b := a1; omega
          by_cases h3 : R.1 = b
          · simp [h3, hRr, show ¬ b = r.1 from h2]; omega
          · have h4 : ¬ b = R.1 := fun e => h3 e.symm
            simp [h3, h4, hRr]
theorem stC_skip (Lb : List Nat) (r : Nat × Nat) (h : ∀ b, b ∈ Lb → ky r.1 < ky b) : Lb.foldl stC r = r := by
  induction Lb with
  | nil => rfl
  | cons b Lb ih =>
    rw [List.foldl_cons]
    have : stC r b = r := by unfold stC; rw [if_pos (h b List.mem_cons_self)]
    rw [this]
    exact ih (fun b hb => h b (List.mem_cons_of_mem _ hb))
section CONF
variable {t : List Nat} {L : List Int32} {g g' : Sy} {us us' : List Sy} {ks : Nat → Option Sy} {s s' : gS} {K : gS → Prop} {Q : gS → Prop}
/-- an order's breaks so far -/
def xtr (g : Sy) (o : Nat) (D : Nat → Nat → Bool) (e i e' k : Nat) : Bool := if ox g o = e ∧ oy g o = e' then D i k && !hh g o i k else if ox g o = e' ∧ oy g o = e then D k i && !hh g o k i else false
def BK (g : Sy) (o : Nat) (D : Nat → Nat → Bool) (s : gS) : Prop := ∀ e i e' k, e < e' → e' < 6 → i < 6 → k < 6 → ∃ p, s.1 (139 + 1 + (6 * e + i)) (6 * e' + k) = nI (bts 10 p) ∧ (tl g e = true → tl g e' = true → i < mn g e → k < mn g e' → ∀ j, j < 10 → p j = ((decide (j < o) && !okp g j e i e' k) || (decide (j = o) && xtr g o D e i e' k))) ∧ (¬ (tl g e = true ∧ tl g e' = true) → ∀ j, j < 10 → p j = false)
def fC (s s' : gS) : Prop := (∀ a, ¬ (138 ≤ a ∧ a < 177) → s'.1 a = s.1 a) ∧ s'.2 = s.2
theorem fC.rf {s : gS} : fC s s := ⟨fun _ _ => rfl, rfl⟩
theorem fC.tr {s1 s2 : gS} (h : fC s s1) (h2 : fC s1 s2) : fC s s2 := ⟨fun a d => (h2.1 a d).trans (h.1 a d), h2.2.trans h.2⟩
theorem fC_wi {a i : Nat} {v : Int32} (h1 : 138 ≤ a) (h2 : a < 177) : fC s (wi s a i v) := ⟨fun b hb => wi_na _ _ _ _ (by omega), rfl⟩
theorem xtr_cg {o : Nat} {D D' : Nat → Nat → Bool} {e i e' k : Nat} (h : ∀ i k, i < 6 → k < 6 → D i k = D' i k) (hi : i < 6) (hk : k < 6) : xtr g o D e i e' k = xtr g o D' e i e' k := by
  unfold xtr
  rw [h i k hi hk, h k i hk hi]
theorem c_cheed {o : Nat} (O : okS 10 g) (R : repC (s.1 (20 + 1)) g) (ho : o < no g) (I : BK g o (fun _ _ => false) s) (Kk : ∀ s', fC s s' → BK g (o + 1) (fun _ _ => false) s' → Q s') : wpX1_heed 20 (nI o) s Q := by
  obtain ⟨-, -, -, h1, h2, h3, hne⟩ := O.2.2.1 o ho
  obtain ⟨e1, e2, e3⟩ := cd_y h1 h2 h3
  have hno := O.2.1.2
  have hmx := (O.2.2.2.1 _ h2).2
  have hmy := (O.2.2.2.1 _ h3).2
  unfold wpX1_heed
  rw [c_code (by decide) O R ho, c_both O R ho]
  -- what the order adds when all is gone through
  have fin : ∀ s', BK g o (fun _ _ => (tl g (ox g o) && tl g (oy g o))) s' → BK g (o + 1) (fun _ _ => false) s' := by
    intro s' I' e i e' k he he' hi hk
    obtain ⟨p, q1, q2, q3⟩ := I' e i e' k he he' hi hk
    refine ⟨p, q1, fun t1 t2 hi2 hk2 j hj => ?_, q3⟩
    rw [q2 t1 t2 hi2 hk2 j hj]
    have hx0 : xtr g (o + 1) (fun _ _ => false) e i e' k = false := by
      unfold xtr
      split
      · rfl
      · split <;> rfl
    rw [hx0, Bool.and_false, Bool.or_false]
    by_cases hjo : j = o
    · subst hjo
      simp only [Nat.lt_irrefl, decide_false, Bool.false_and, Bool.false_or, decide_true, Bool.true_and, show j < j + 1 by omega]
      unfold xtr okp hh
      by_cases c1 : ox g j = e ∧ oy g j = e'
      · rw [if_pos c1, if_pos c1, c1.1, c1.2, t1, t2]
        rfl
      · rw [if_neg c1, if_neg c1]
        by_cases c2 : ox g j = e' ∧ oy g j = e
        · rw [if_pos c2, if_pos c2, c2.1, c2.2, t1, t2]
          rfl
        · rw [if_neg c2, if_neg c2]
          rfl
    · have : (j < o + 1) = (j < o) := by simp; omega
      simp [this, hjo]
  cases hb : (tl g (ox g o) && tl g (oy g o)) with
  | false => exact ⟨fun h => absurd rfl h, fun _ => Kk s fC.rf (fin s (by rw [hb]; exact I))⟩
  | true =>
    rw [hb] at fin
    have htx : tl g (ox g o) = true := by rw [Bool.and_eq_true] at hb; exact hb.1
    have hty : tl g (oy g o) = true := by rw [Bool.and_eq_true] at hb; exact hb.2
    refine ⟨fun _ => ⟨7, ?_⟩, fun h => absurd h (by decide)⟩
    have d1 : jrem (nI (cd g o)) 10 * 6 = nI (6 * oy g o) := by
      rw [show cd g o = 100 * kd g o + 10 * ox g o + oy g o from rfl, e1, show (6 : Int32) = nI 6 from rfl, nI_mul, Nat.mul_comm]
    have d2 : jrem (nI (cd g o) / 10) 10 * 6 = nI (6 * ox g o) := by
      rw [show cd g o = 100 * kd g o + 10 * ox g o + oy g o from rfl, e2, show (6 : Int32) = nI 6 from rfl, nI_mul, Nat.mul_comm]
    rw [d1, d2]
    have Lp : ∀ n i0, i0 + n = 6 → ∀ s1, fC s s1 → BK g o (fun i _ => decide (i < i0)) s1 → wX1_heed_39 20 (nI o) Q (n + 1) (nI (cd g o)) (nI (6 * ox g o)) (nI (6 * oy g o)) (nI i0) s1 := by
      intro n
      induction n with
      | zero =>
        intro i0 hi s1 f1 I1
        have : i0 = 6 := by omega
        subst this
        rw [wX1_heed_39]
        refine ⟨fun _ => Kk s1 f1 (fin s1 (fun e i e' k he he' hi hk => ?_)), fun h => absurd (by decide) h⟩
        obtain ⟨p, q1, q2, q3⟩ := I1 e i e' k he he' hi hk
        refine ⟨p, q1, fun t1 t2 hi2 hk2 j hj => ?_, q3⟩
        rw [q2 t1 t2 hi2 hk2 j hj, xtr_cg (D' := fun _ _ => true) (fun i k hi _ => by simp [hi]) hi hk]
      | succ n ih =>
        intro i0 hi s1 f1 I1
        have hi6 : i0 < 6 := by omega
        have R1 : repC (s1.1 (20 + 1)) g := by rw [f1.1 _ (by omega)]; exact R
        rw [wX1_heed_39]
        refine ⟨fun h => absurd h (by rw [ge6 hi6]; exact id), fun _ => c_bth O R1 ho hi6 (fun bp hbp => ⟨7, ?_⟩)⟩
        have inner : ∀ m k0, k0 + m = 6 → ∀ s2, fC s s2 → BK g o (fun i k => decide (i < i0) || (decide (i = i0) && decide (k < k0))) s2 → wX1_heed_58 20 (nI o) Q (fun y3 y4 y5 y6 s => wX1_heed_39 20 (nI o) Q (n + 1) y3 y4 y5 y6 s) (m + 1) (nI (cd g o)) (nI (6 * ox g o)) (nI (6 * oy g o)) (nI i0) (nI (bts 6 bp)) (nI k0) s2 := by
          intro m
          induction m with
          | zero =>
            intro k0 hk0 s2 f2 I2
            have : k0 = 6 := by omega
            subst this
            rw [wX1_heed_58]
            refine ⟨fun _ => ?_, fun h => absurd (by decide) h⟩
            rw [nI_1]
            refine ih (i0 + 1) (by omega) s2 f2 (fun e i e' k he he' hi hk => ?_)
            obtain ⟨p, q1, q2, q3⟩ := I2 e i e' k he he' hi hk
            refine ⟨p, q1, fun t1 t2 hi2 hk2 j hj => ?_, q3⟩
            rw [q2 t1 t2 hi2 hk2 j hj, xtr_cg (D' := fun i _ => decide (i < i0 + 1)) (fun i k hi hk => by
              by_cases c4 : i < i0
              · simp [c4]; omega
              · by_cases c5 : i = i0
                · simp [c5, hk]
                · simp [c4, c5]; omega) hi hk]
          | succ m ih2 =>
            intro k0 hk0 s2 f2 I2
            have hk6 : k0 < 6 := by omega
            rw [wX1_heed_58, c_hasBit hk6, nI_1 k0]
            simp only [ge6 hk6, bi_0, false_implies, true_and, not_false_eq_true, true_implies]
            -- all cells but the one of this pair
            have same : ∀ s3, fC s s3 → (∀ e i e' k, e < e' → e' < 6 → i < 6 → k < 6 → ¬ ((ox g o = e ∧ oy g o = e' ∧ i = i0 ∧ k = k0) ∨ (ox g o = e' ∧ oy g o = e ∧ k = i0 ∧ i = k0)) → s3.1 (139 + 1 + (6 * e + i)) (6 * e' + k) = s2.1 (139 + 1 + (6 * e + i)) (6 * e' + k)) → (∀ e i e' k, e < e' → e' < 6 → i < 6 → k < 6 → ((ox g o = e ∧ oy g o = e' ∧ i = i0 ∧ k = k0) ∨ (ox g o = e' ∧ oy g o = e ∧ k = i0 ∧ i = k0)) → ∀ p, s2.1 (139 + 1 + (6 * e + i)) (6 * e' + k) = nI (bts 10 p) → s3.1 (139 + 1 + (6 * e + i)) (6 * e' + k) = nI (bts 10 (fun j => p j || (j == o && !bp k0)))) → wX1_heed_58 20 (nI o) Q (fun y3 y4 y5 y6 s => wX1_heed_39 20 (nI o) Q (n + 1) y3 y4 y5 y6 s) (m + 1) (nI (cd g o)) (nI (6 * ox g o)) (nI (6 * oy g o)) (nI i0) (nI (bts 6 bp)) (nI (k0 + 1)) s3 := by
              intro s3 f3 hs hn
              refine ih2 (k0 + 1) (by omega) s3 f3 (fun e i e' k he he' hi hk => ?_)
              obtain ⟨p, q1, q2, q3⟩ := I2 e i e' k he he' hi hk
              by_cases hc : (ox g o = e ∧ oy g o = e' ∧ i = i0 ∧ k = k0) ∨ (ox g o = e' ∧ oy g o = e ∧ k = i0 ∧ i = k0)
              · refine ⟨_, hn e i e' k he he' hi hk hc p q1, fun t1 t2 hi2 hk2 j hj => ?_, fun hnt => ?_⟩
                · show (p j || (j == o && !bp k0)) = _
                  rw [q2 t1 t2 hi2 hk2 j hj]
                  by_cases hjo : j = o
                  · subst hjo
                    simp only [Nat.lt_irrefl, decide_false, Bool.false_and, Bool.false_or, decide_true, Bool.true_and, BEq.rfl]
                    unfold xtr
                    rcases hc with ⟨c1, c2, c3, c4⟩ | ⟨c1, c2, c3, c4⟩
                    · rw [if_pos ⟨c1, c2⟩, if_pos ⟨c1, c2⟩, hbp (by rw [c1, ← c3]; exact hi2) k0 (by rw [c2, ← c4]; exact hk2), c3, c4]
                      simp
                    · have c5 : ¬ (ox g j = e ∧ oy g j = e') := fun h => by omega
                      rw [if_neg c5, if_neg c5, if_pos ⟨c1, c2⟩, if_pos ⟨c1, c2⟩, hbp (by rw [c1, ← c3]; exact hk2) k0 (by rw [c2, ← c4]; exact hi2), c3, c4]
                      simp
                  · have : (j == o) = false := by simpa using hjo
                    simp [hjo, this]
                · exfalso
                  rcases hc with ⟨c1, c2, -⟩ | ⟨c1, c2, -⟩
                  · rw [c1] at htx; rw [c2] at hty; exact hnt ⟨htx, hty⟩
                  · rw [c1] at htx; rw [c2] at hty; exact hnt ⟨hty, htx⟩
              · refine ⟨p, by rw [hs e i e' k he he' hi hk hc]; exact q1, fun t1 t2 hi2 hk2 j hj => ?_, q3⟩
                rw [q2 t1 t2 hi2 hk2 j hj]
                congr 2
                unfold xtr
                by_cases c1 : ox g o = e ∧ oy g o = e'
                · rw [if_pos c1, if_pos c1]
                  congr 1
                  by_cases c3 : i = i0
                  · have c4 : k ≠ k0 := fun h => hc (Or.inl ⟨c1.1, c1.2, c3, h⟩)
                    have : (k < k0 + 1) = (k < k0) := by simp; omega
                    simp [this]
                  · simp [c3]
                · rw [if_neg c1, if_neg c1]
                  by_cases c2 : ox g o = e' ∧ oy g o = e
                  · rw [if_pos c2, if_pos c2]
                    congr 1
                    by_cases c3 : k = i0
                    · have c4 : i ≠ k0 := fun h => hc (Or.inr ⟨c2.1, c2.2, c3, h⟩)
                      have : (i < k0 + 1) = (i < k0) := by simp; omega
                      simp [this]
                    · simp [c3]
                  · rw [if_neg c2, if_neg c2]
            cases hbk : bp k0 with
            | true =>
              rw [hbk] at same
              refine ⟨fun _ => same s2 f2 (fun _ _ _ _ _ _ _ _ _ => rfl) (fun e i e' k _ _ _ _ _ p hp => ?_), fun h => (by cases h)⟩
              rw [hp]
              refine congrArg nI (bts_cg (fun j _ => ?_))
              simp
            | false =>
              rw [hbk] at same
              refine ⟨fun h => absurd rfl h, fun _ => ?_⟩
              have w1 : jmin (nI (6 * ox g o) + nI i0) (nI (6 * oy g o) + nI k0) = nI (min (6 * ox g o + i0) (6 * oy g o + k0)) := by
                rw [nI_add, nI_add, nI_i, nI_i, iI_min (by omega) (by omega) (by omega) (by omega), nI_i]
                congr 1
                omega
              have w2 : jmax (nI (6 * ox g o) + nI i0) (nI (6 * oy g o) + nI k0) = nI (max (6 * ox g o + i0) (6 * oy g o + k0)) := by
                rw [nI_add, nI_add, nI_i, nI_i, iI_max (by omega) (by omega) (by omega) (by omega), nI_i]
                congr 1
                omega
              rw [w1, w2, ix_nI (by omega), ix_nI (by omega)]
              refine ⟨vp_in_nI (by omega) (by decide), vp_in_nI (by omega) (by decide), vp_in_nI (by omega) (by decide), ?_⟩
              refine same _ (f2.tr (fC_wi (by omega) (by omega))) (fun e i e' k he he' hi hk hc => ?_) (fun e i e' k he he' hi hk hc p hp => ?_)
              · by_cases hrow : 6 * e + i = min (6 * ox g o + i0) (6 * oy g o + k0)
                · rw [hrow]
                  refine wi_ne _ _ _ _ (fun h => hc ?_)
                  rcases Nat.lt_or_ge (ox g o) (oy g o) with hlt | hge
                  · exact Or.inl (by omega)
                  · exact Or.inr (by omega)
                · rw [wi_na _ _ _ _ (by omega)]
              · have hr : 6 * e + i = min (6 * ox g o + i0) (6 * oy g o + k0) := by rcases hc with hc | hc <;> omega
                have hl : 6 * e' + k = max (6 * ox g o + i0) (6 * oy g o + k0) := by rcases hc with hc | hc <;> omega
                rw [hr, hl] at hp ⊢
                rw [wi_at, show gi s2 (139 + 1 + min (6 * ox g o + i0) (6 * oy g o + k0)) (max (6 * ox g o + i0) (6 * oy g o + k0)) = nI (bts 10 p) from hp, bor10 (by omega)]
                refine congrArg nI (bts_cg (fun j _ => ?_))
                simp
        refine inner 6 0 rfl s1 f1 (fun e i e' k he he' hi hk => ?_)
        obtain ⟨p, q1, q2, q3⟩ := I1 e i e' k he he' hi hk
        refine ⟨p, q1, fun t1 t2 hi2 hk2 j hj => ?_, q3⟩
        rw [q2 t1 t2 hi2 hk2 j hj, xtr_cg (D' := fun i k => decide (i < i0) || (decide (i = i0) && decide (k < 0))) (fun i k _ _ => by simp) hi hk]
    refine Lp 6 0 rfl s fC.rf (fun e i e' k he he' hi hk => ?_)
    obtain ⟨p, q1, q2, q3⟩ := I e i e' k he he' hi hk
    refine ⟨p, q1, fun t1 t2 hi2 hk2 j hj => ?_, q3⟩
    rw [q2 t1 t2 hi2 hk2 j hj, xtr_cg (D' := fun i _ => decide (i < 0)) (fun i k _ _ => by simp) hi hk]
end CONF
