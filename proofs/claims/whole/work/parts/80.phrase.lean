/-! phrases: the class reads a phrase -/
def spn (t : List Nat) : Nat → Nat → Bool × List St × Nat
  | 0, p => (false, [], p)
  | n + 1, p => if (stp t p).1 = 0 then (false, [], (stp t p).2.2) else if (stp t p).1 = 2 then (true, [(stp t p).2.1], (stp t p).2.2) else ((spn t n (stp t p).2.2).1, (spn t n (stp t p).2.2).2.1 ++ [(stp t p).2.1], (spn t n (stp t p).2.2).2.2)
def prt (t : List Nat) (p : Nat) : Bool × List St × Nat :=
  if (spn t 27 p).1 = false then (false, [], (spn t 27 p).2.2)
  else if tk t (spn t 27 p).2.2 = 38 then
    (if (spn t 27 (te t (spn t 27 p).2.2)).1 = false then (false, [], (spn t 27 (te t (spn t 27 p).2.2)).2.2)
    else (true, (spn t 27 p).2.1 ++ [(18, 0, 0, 0)] ++ (spn t 27 (te t (spn t 27 p).2.2)).2.1 ++ [(19, 0, 0, 0)], (spn t 27 (te t (spn t 27 p).2.2)).2.2))
  else (true, (spn t 27 p).2.1 ++ [(20, 0, 0, 0)], (spn t 27 p).2.2)
/-- behind a part -/
def pho (t : List Nat) : Nat → Nat → Bool × List St × Nat
  | 0, p => (false, [], p)
  | n + 1, p => if tk t p = 39 then (if (prt t (te t p)).1 = false then (false, [], (prt t (te t p)).2.2) else ((pho t n (prt t (te t p)).2.2).1, (prt t (te t p)).2.1 ++ (pho t n (prt t (te t p)).2.2).2.1, (pho t n (prt t (te t p)).2.2).2.2)) else (decide (tk t p = 41), [], p)
def ph (t : List Nat) : Bool × List St × Nat := if (prt t 0).1 = false then (false, [], (prt t 0).2.2) else ((pho t 81 (prt t 0).2.2).1, (prt t 0).2.1 ++ (pho t 81 (prt t 0).2.2).2.1, (pho t 81 (prt t 0).2.2).2.2)
section PHRASE
variable {t : List Nat} {s s' s0 : gS} {Q : Int32 → gS → Prop} {Q' : gS → Prop} {p q e : Nat} {S P : List St}
/-- how far a step goes -/
def far (t : List Nat) (p : Nat) (r : Nat × St × Nat) : Prop := r.2.2 ≤ t.length ∧ p ≤ r.2.2 ∧ (r.1 = 1 → p + 3 ≤ r.2.2 ∧ r.2.1.2.2.2 = 0 ∧ 11 ≤ r.2.1.1 ∧ r.2.1.1 < 18) ∧ (r.1 = 2 → p + 3 ≤ r.2.2 ∧ r.2.1.1 < 11) ∧ r.1 ≤ 2
theorem far0 {x : St} (h1 : p ≤ q) (h2 : q ≤ t.length) : far t p (0, x, q) := ⟨h2, h1, fun h => (by cases h), fun h => (by cases h), by simp⟩
theorem far1 {c : Nat} {a b : Int} (hc : 11 ≤ c ∧ c < 18) (h1 : p + 3 ≤ q) (h2 : q ≤ t.length) : far t p (1, (c, a, b, 0), q) := ⟨h2, by show p ≤ q; omega, fun _ => ⟨h1, rfl, hc⟩, fun h => (by cases h), by simp⟩
theorem far2 {x : St} (hx : x.1 < 11) (h1 : p + 3 ≤ q) (h2 : q ≤ t.length) : far t p (2, x, q) := ⟨h2, by show p ≤ q; omega, fun h => (by cases h), fun _ => ⟨h1, hx⟩, by simp⟩
theorem far_mo {r : Nat × St × Nat} (h : far t q r) (hp : p ≤ q) : far t p r := ⟨h.1, Nat.le_trans hp h.2.1, fun e => ⟨by have := (h.2.2.1 e).1; omega, (h.2.2.1 e).2⟩, fun e => ⟨by have := (h.2.2.2.1 e).1; omega, (h.2.2.2.1 e).2⟩, h.2.2.2.2⟩
theorem far_num (hp : p ≤ t.length) (h : 100 ≤ tk t p) : far t p (sNum t p) := by
  have l1 := te_le hp
  have l2 := te_le l1
  have l3 := te_le l2
  have g1 := te_ge (t := t) p
  have g2 := te_ge (t := t) (te t p)
  have g3 := te_ge (t := t) (te t (te t p))
  have hn := te_num h
  unfold sNum
  split
  · exact far2 (by simp) (by have := hn.2 (by omega); omega) l1
  split
  · split
    next h3 =>
      have := te3 (show tk t (te t p) < 31 by omega) l1
      split
      · exact far2 (by simp) (by omega) l3
      split
      · exact far1 (by decide) (by omega) l3
      split
      · exact far1 (by decide) (by omega) l3
      · exact far0 (by omega) l2
    next => exact far0 g1 l1
  · exact far0 (Nat.le_refl _) hp
theorem far_day (hp : p ≤ t.length) (h : 4 ≤ tk t p ∧ tk t p < 11) : far t p (sDay t p) := by
  have l1 := te_le hp
  have l2 := te_le l1
  have l3 := te_le l2
  have g2 := te_ge (t := t) (te t p)
  have g3 := te_ge (t := t) (te t (te t p))
  have := te3 (show tk t p < 31 by omega) hp
  unfold sDay
  split
  · split
    · exact far2 (by simp) (by omega) l3
    · exact far0 (by omega) l2
  · exact far2 (by simp) (by omega) l1
theorem far_mon (hp : p ≤ t.length) (h : 11 ≤ tk t p ∧ tk t p < 23) : far t p (sMon t p) := by
  have l1 := te_le hp
  have l2 := te_le l1
  have l3 := te_le l2
  have g2 := te_ge (t := t) (te t p)
  have g3 := te_ge (t := t) (te t (te t p))
  have := te3 (show tk t p < 31 by omega) hp
  unfold sMon
  split
  · split
    · split
      · split
        · exact far2 (by simp) (by omega) l3
        · exact far0 (by omega) l2
      · exact far2 (by simp) (by omega) l2
    · exact far0 (by omega) l1
  · exact far2 (by simp) (by omega) l1
theorem far_fst (hp : p ≤ t.length) : far t p (sFst t p) := by
  have l1 := te_le hp
  have l2 := te_le l1
  have g1 := te_ge (t := t) p
  have g2 := te_ge (t := t) (te t p)
  unfold sFst
  split
  next h =>
    have := te3 (show tk t p < 31 by omega) hp
    split
    · exact far1 (by decide) (by omega) l2
    · exact far0 (by omega) l1
  next => exact far0 (Nat.le_refl _) hp
theorem far_ths {c : Nat} {b : Int} (hc : c < 11) (hp : p ≤ t.length) : far t p (sThs c b t p) := by
  have l1 := te_le hp
  have l2 := te_le l1
  have g1 := te_ge (t := t) p
  have g2 := te_ge (t := t) (te t p)
  unfold sThs
  split
  next h =>
    have := te3 (show tk t p < 31 by omega) hp
    exact far2 (by simp) (by omega) l1
  next =>
    split
    next h =>
      have := te3 (show tk t p < 31 by omega) hp
      split
      · exact far1 (by decide) (by omega) l2
      · exact far2 hc (by omega) l1
    next => exact far0 (Nat.le_refl _) hp
theorem far_in (hp : p ≤ t.length) : far t p (sIn t p) := by
  have l1 := te_le hp
  have l2 := te_le l1
  have g1 := te_ge (t := t) p
  have g2 := te_ge (t := t) (te t p)
  unfold sIn
  split
  next h =>
    split
    next h1 =>
      have := te3 (show tk t (te t p) < 31 by omega) l1
      exact far2 (by simp) (by omega) l2
    next => exact far0 g1 l1
  next => exact far0 (Nat.le_refl _) hp
theorem far_stp (hp : p ≤ t.length) : far t p (stp t p) := by
  have l1 := te_le hp
  have g1 := te_ge (t := t) p
  unfold stp
  by_cases h : 100 ≤ tk t p
  · rw [if_pos h]; exact far_num hp h
  rw [if_neg h]
  clear h
  by_cases h : 4 ≤ tk t p ∧ tk t p < 11
  · rw [if_pos h]; exact far_day hp h
  rw [if_neg h]
  clear h
  by_cases h : 11 ≤ tk t p ∧ tk t p < 23
  · rw [if_pos h]; exact far_mon hp h
  rw [if_neg h]
  clear h
  by_cases h : tk t p = 23
  · rw [if_pos h]; exact far1 (by decide) (te3 (by omega) hp) l1
  rw [if_neg h]
  clear h
  by_cases h : tk t p = 24
  · rw [if_pos h]; exact far1 (by decide) (te3 (by omega) hp) l1
  rw [if_neg h]
  clear h
  by_cases h : tk t p = 25
  · rw [if_pos h]; exact far1 (by decide) (te3 (by omega) hp) l1
  rw [if_neg h]
  clear h
  by_cases h : tk t p = 26
  · rw [if_pos h]; exact far_mo (far_fst l1) g1
  rw [if_neg h]
  clear h
  by_cases h : tk t p = 27
  · rw [if_pos h]; exact far_mo (far_ths (by decide) l1) g1
  rw [if_neg h]
  clear h
  by_cases h : tk t p = 28
  · rw [if_pos h]; exact far2 (by simp) (te3 (by omega) hp) l1
  rw [if_neg h]
  clear h
  by_cases h : tk t p = 29
  · rw [if_pos h]; exact far2 (by simp) (te3 (by omega) hp) l1
  rw [if_neg h]
  clear h
  by_cases h : tk t p = 30
  · rw [if_pos h]; exact far2 (by simp) (te3 (by omega) hp) l1
  rw [if_neg h]
  clear h
  by_cases h : tk t p = 31
  · rw [if_pos h]; exact far_mo (far_in l1) g1
  rw [if_neg h]
  clear h
  by_cases h : tk t p = 32
  · rw [if_pos h]; exact far_mo (far_ths (by decide) l1) g1
  rw [if_neg h]
  clear h
  by_cases h : tk t p = 33
  · rw [if_pos h]; exact far_mo (far_ths (by decide) l1) g1
  rw [if_neg h]
  clear h
  exact far0 (Nat.le_refl _) hp
theorem far_spn : ∀ n p, p ≤ t.length → (spn t n p).2.2 ≤ t.length ∧ p ≤ (spn t n p).2.2 ∧ ((spn t n p).1 = true → p + (spn t n p).2.1.length + 1 ≤ (spn t n p).2.2) := by
  intro n
  induction n with
  | zero => intro p hp; exact ⟨hp, Nat.le_refl _, fun h => by cases h⟩
  | succ n ih =>
    intro p hp
    obtain ⟨a, b, c, d, e⟩ := far_stp hp
    rw [spn]
    split
    · exact ⟨a, b, fun h => by cases h⟩
    split
    next h =>
      refine ⟨a, b, fun _ => ?_⟩
      have := (d h).1
      show p + 1 + 1 ≤ (stp t p).2.2
      omega
    next h1 h2 =>
      obtain ⟨a2, b2, c2⟩ := ih (stp t p).2.2 a
      refine ⟨a2, Nat.le_trans b b2, fun h => ?_⟩
      have := c2 h
      have := (c (by omega)).1
      show p + ((spn t n (stp t p).2.2).2.1 ++ [(stp t p).2.1]).length + 1 ≤ (spn t n (stp t p).2.2).2.2
      rw [List.length_append]
      show p + ((spn t n (stp t p).2.2).2.1.length + 1) + 1 ≤ (spn t n (stp t p).2.2).2.2
      omega
theorem far_prt (hp : p ≤ t.length) : (prt t p).2.2 ≤ t.length ∧ p ≤ (prt t p).2.2 ∧ ((prt t p).1 = true → p + (prt t p).2.1.length ≤ (prt t p).2.2) := by
  obtain ⟨a, b, c⟩ := far_spn 27 p hp
  have l1 := te_le a
  have g1 := te_ge (t := t) (spn t 27 p).2.2
  obtain ⟨a2, b2, c2⟩ := far_spn 27 (te t (spn t 27 p).2.2) l1
  unfold prt
  split
  · exact ⟨a, b, fun h => by cases h⟩
  next h =>
    have := c (by simpa using h)
    split
    next h38 =>
      have g2 := te2 (show tk t (spn t 27 p).2.2 < 40 by omega) a
      split
      · exact ⟨a2, Nat.le_trans b (Nat.le_trans g1 b2), fun h => by cases h⟩
      next h2 =>
        have := c2 (by simpa using h2)
        refine ⟨a2, Nat.le_trans b (Nat.le_trans g1 b2), fun _ => ?_⟩
        simp only [List.length_append, List.length_singleton]
        omega
    next =>
      refine ⟨a, b, fun _ => ?_⟩
      simp only [List.length_append, List.length_singleton]
      omega
theorem c_rev {m : Nat} (hP : ∀ x, x ∈ P → x.2.2.2 = 0) : ∀ m S s, PZ s0 t p S P s → m ≤ P.length → S.length + m < 80 → (∀ s', PZ s0 t p (S ++ (P.take m).reverse) P s' → Q 1 s') → wX4_readSpan_45 Q (m + 1) (iI ((m : Int) - 1)) s := by
  intro m
  induction m with
  | zero =>
    intro S s Z hm hS k
    rw [wX4_readSpan_45]
    refine ⟨fun _ => k s (by simpa using Z), fun h => absurd (by decide) h⟩
  | succ m ih =>
    intro S s Z hm hS k
    have e1 : iI (((m + 1 : Nat) : Int) - 1) = nI m := by rw [nI_i]; congr 1; omega
    have v : ∀ j, j < 4 → vp_in (nI (4 * m + j)) 320 := fun j hj => vp_in_nI (by omega) (by decide)
    have ix' : ∀ j, j < 4 → ix (nI (4 * m + j)) = 4 * m + j := fun j hj => ix_nI (by omega)
    have hA : nI (4 * m) + 1 = nI (4 * m + 1) := n4a _ 1
    have hB : nI (4 * m) + 2 = nI (4 * m + 2) := n4a _ 2
    have hix0 : ix (nI (4 * m)) = 4 * m := ix' 0 (by omega)
    have y2 := Z.2.2.2.2 m (by omega)
    have q0 : gi s 8 (4 * m) = nI (P.getD m st0).1 := by rw [nI_i]; exact y2 0 (by decide)
    have q1 : gi s 8 (4 * m + 1) = iI (P.getD m st0).2.1 := y2 1 (by decide)
    have q2 : gi s 8 (4 * m + 2) = iI (P.getD m st0).2.2.1 := y2 2 (by decide)
    have e3 : nI m + -1 = iI ((m : Int) - 1) := by rw [nI_i, show (-1 : Int32) = iI (-1) from rfl, iI_add]; rfl
    rw [wX4_readSpan_45, e1, n4, hA, hB, hix0, ix' 1 (by omega), ix' 2 (by omega), q0, q1, q2, e3]
    refine ⟨fun h => absurd h (nI_nn (by omega)), fun _ => ⟨v 0 (by omega), v 1 (by omega), v 2 (by omega), ?_⟩⟩
    refine c_base (d := 0) Z (by omega) rfl rfl rfl rfl (fun s1 Z1 => ?_)
    have hm2 : m < P.length := by omega
    have hg : P.getD m st0 = P[m] := by rw [List.getD_eq_getElem?_getD, List.getElem?_eq_getElem hm2]; rfl
    have hx : ((P.getD m st0).1, (P.getD m st0).2.1, (P.getD m st0).2.2.1, (0 : Int)) = P[m] := by
      have h0 := hP P[m] (List.getElem_mem hm2)
      rw [hg, ← h0]
    rw [hx] at Z1
    refine ih (S ++ [P[m]]) s1 Z1 (by omega) (by rw [List.length_append]; show S.length + 1 + m < 80; omega) (fun s2 Z2 => k s2 ?_)
    have : (P.take (m + 1)).reverse = P[m] :: (P.take m).reverse := by
      rw [List.take_succ, List.getElem?_eq_getElem hm2, List.reverse_append]
      rfl
    rw [this, ← List.singleton_append, ← List.append_assoc]
    exact Z2
theorem c_spanL (ht : okT t) : ∀ n i p P s, PZ s0 t p S P s → (∀ x, x ∈ P → x.2.2.2 = 0) → S.length + P.length ≤ p → S.length + P.length < 80 → p ≤ t.length → t.length < p + 3 * n → i + n ≤ 60 → ((spn t n p).1 = true → ∀ s' P', PZ s0 t (spn t n p).2.2 (S ++ ((spn t n p).2.1 ++ P.reverse)) P' s' → Q 1 s') → ((spn t n p).1 = false → ∀ s' S' P', PZ s0 t (spn t n p).2.2 S' P' s' → Q 0 s') → wX4_readSpan_9 Q (n + 1) 1 (nI i) s := by
  have h80 := ht.1
  intro n
  induction n with
  | zero => intro i p P s Z hP hS hS2 hp hn; omega
  | succ n ih =>
    intro i p P s Z hP hS hS2 hp hn hi k1 k0
    obtain ⟨a, b, c, d, e⟩ := far_stp hp
    rw [wX4_readSpan_9, g80 (by omega), nI_1]
    refine ⟨fun h => absurd h (by omega), fun _ => ⟨fun h => absurd rfl h, fun _ => ?_⟩⟩
    by_cases hlt : S.length + P.length < 80
    · refine c_step ht Z hlt ?_
      intro s1 Z1
      rw [spn] at k1 k0
      by_cases h0 : (stp t p).1 = 0
      · rw [if_pos h0] at k1 k0
        rw [h0] at Z1 ⊢
        rw [wX4_readSpan_9, g80 (by omega)]
        exact ⟨fun h => absurd h (by omega), fun _ => ⟨fun _ => ⟨fun h => absurd h (by decide), fun _ => k0 rfl s1 S P Z1⟩, fun h => absurd h (by decide)⟩⟩
      rw [if_neg h0] at k1 k0
      by_cases h2 : (stp t p).1 = 2
      · rw [if_pos h2] at k1 k0
        rw [h2] at Z1 ⊢
        have := (d h2).1
        rw [wX4_readSpan_9, g80 (by omega)]
        refine ⟨fun h => absurd h (by omega), fun _ => ⟨fun _ => ⟨fun _ => ⟨P.length + 1, ?_⟩, fun h => absurd rfl h⟩, fun h => absurd h (by decide)⟩⟩
        have e1 : gi s1 3 4 - 1 = iI ((P.length : Int) - 1) := by
          rw [show gi s1 3 4 = nI P.length from Z1.2.2.2.1, nI_i, show (1 : Int32) = iI 1 from rfl, iI_sub]
        rw [e1]
        have Z1 : PZ s0 t (stp t p).2.2 (S ++ [(stp t p).2.1]) P s1 := Z1
        refine c_rev (m := 0) hP P.length _ s1 Z1 (Nat.le_refl _) (by rw [List.length_append]; show S.length + 1 + P.length < 80; omega) (fun s2 Z2 => k1 rfl s2 P ?_)
        rw [List.take_length, List.append_assoc] at Z2
        exact Z2
      · rw [if_neg h2] at k1 k0
        have h1 : (stp t p).1 = 1 := by omega
        obtain ⟨c1, c2, _⟩ := c h1
        rw [h1] at Z1 ⊢
        have Z1 : PZ s0 t (stp t p).2.2 S (P ++ [(stp t p).2.1]) s1 := Z1
        refine ih (i + 1) (stp t p).2.2 _ s1 Z1 (fun x hx => ?_) (by rw [List.length_append]; show S.length + (P.length + 1) ≤ _; omega) (by rw [List.length_append]; show S.length + (P.length + 1) < 80; omega) a (by omega) (by omega) (fun h s2 P2 Z2 => k1 h s2 P2 ?_) (fun h => k0 h)
        · rcases List.mem_append.mp hx with hx | hx
          · exact hP x hx
          · rw [List.mem_singleton.mp hx]; exact c2
        · rw [List.reverse_append, List.reverse_singleton] at Z2
          show PZ s0 t (spn t n (stp t p).2.2).2.2 (S ++ ((spn t n (stp t p).2.2).2.1 ++ [(stp t p).2.1] ++ P.reverse)) P2 s2
          rw [List.append_assoc]
          exact Z2
    · omega
def PY (s0 : gS) (t : List Nat) (p : Nat) (S : List St) (s : gS) : Prop := fR phD s0 s ∧ WS t p s ∧ (s.1 3 2 = nI S.length ∧ SL 7 S s)
theorem PZ.y (Z : PZ s0 t p S P s) : PY s0 t p S s := ⟨Z.1, Z.2.1, Z.2.2.1⟩
theorem PY.p0 (Z : PY s0 t p S s) : PZ s0 t p S [] (wi s 3 4 0) := by
  obtain ⟨f, W, z1, z2⟩ := Z
  refine ⟨f.tr (fR_wi rfl), W.cg (wi_na _ _ _ _ (by decide)) (wi_na _ _ _ _ (by decide)) (wi_na _ _ _ _ (by decide)), ⟨?_, fun i hi j hj => ?_⟩, wi_at _ _ _ _, fun i hi => absurd hi (Nat.not_lt_zero _)⟩
  · rw [wi_ne _ _ _ _ (by decide)]; exact z1
  · rw [wi_na _ _ _ _ (by decide)]; exact z2 i hi j hj
theorem c_span (ht : okT t) (Z : PY s0 t p S s) (hS : S.length ≤ p) (hS2 : S.length < 80) (k1 : (spn t 27 p).1 = true → ∀ s' P', PZ s0 t (spn t 27 p).2.2 (S ++ (spn t 27 p).2.1) P' s' → Q 1 s') (k0 : (spn t 27 p).1 = false → ∀ s' S' P', PZ s0 t (spn t 27 p).2.2 S' P' s' → Q 0 s') : wpX4_readSpan s Q := by
  have h80 := ht.1
  exact ⟨28, c_spanL ht 27 0 p [] _ Z.p0 (fun x hx => by cases hx) hS hS2 Z.2.1.le (by omega) (by omega) (fun h s' P' Z' => k1 h s' P' (by simpa using Z')) k0⟩
theorem c_part (ht : okT t) (Z : PY s0 t p S s) (hS : S.length ≤ p) (hS2 : S.length < 80) (k1 : (prt t p).1 = true → ∀ s' P', PZ s0 t (prt t p).2.2 (S ++ (prt t p).2.1) P' s' → Q 1 s') (k0 : (prt t p).1 = false → ∀ s' S' P', PZ s0 t (prt t p).2.2 S' P' s' → Q 0 s') : wpX4_readPart s Q := by
  have h80 := ht.1
  obtain ⟨a, b, c⟩ := far_spn 27 p Z.2.1.le
  have l1 := te_le a
  obtain ⟨a2, b2, c2⟩ := far_spn 27 (te t (spn t 27 p).2.2) l1
  unfold wpX4_readPart
  unfold prt at k1 k0
  refine c_span ht Z hS hS2 (fun h s1 P1 Z1 => j1 ?_) (fun h s1 S1 P1 Z1 => j0 ?_)
  · rw [if_neg (by rw [h]; decide)] at k1 k0
    have hl := c h
    rw [kE Z1.W (x := 38) (n := 38) rfl (by decide)]
    refine ⟨fun h38 => c_advP ht Z1 (lvW (by omega)) (fun s2 Z2 => ?_), fun h38 => ?_⟩
    · rw [if_pos h38] at k1 k0
      have g2 := te2 (show tk t (spn t 27 p).2.2 < 40 by omega) a
      have hl1 : (S ++ (spn t 27 p).2.1).length + 1 ≤ (spn t 27 p).2.2 := by rw [List.length_append]; omega
      refine c_base (c := 18) (a := 0) (b := 0) (d := 0) Z2 (by omega) rfl rfl rfl rfl (fun s3 Z3 => ?_)
      refine c_span ht Z3.y (by rw [List.length_append]; show (S ++ (spn t 27 p).2.1).length + 1 ≤ _; omega) (by rw [List.length_append]; show (S ++ (spn t 27 p).2.1).length + 1 < 80; omega) (fun h4 s4 P4 Z4 => j1 ?_) (fun h4 s4 S4 P4 Z4 => j0 ?_)
      · rw [if_neg (by rw [h4]; decide)] at k1 k0
        have hl2 := c2 h4
        refine c_base (c := 19) (a := 0) (b := 0) (d := 0) Z4 ?_ rfl rfl rfl rfl (fun s5 Z5 => k1 rfl s5 P4 ?_)
        · simp only [List.length_append, List.length_singleton] at hl1 ⊢
          omega
        · simp only [List.append_assoc] at Z5 ⊢
          exact Z5
      · rw [if_pos h4] at k1 k0
        exact k0 rfl s4 S4 P4 Z4
    · rw [if_neg h38] at k1 k0
      refine c_base (c := 20) (a := 0) (b := 0) (d := 0) Z1 ?_ rfl rfl rfl rfl (fun s2 Z2 => k1 rfl s2 P1 ?_)
      · rw [List.length_append]
        omega
      · rw [List.append_assoc] at Z2
        exact Z2
  · rw [if_pos h] at k1 k0
    exact k0 rfl s1 S1 P1 Z1
theorem c_phoL (ht : okT t) : ∀ n i p S P s, PZ s0 t p S P s → S.length ≤ p → t.length < p + n → i + n ≤ 81 → ((pho t n p).1 = true → ∀ s' P', PZ s0 t (pho t n p).2.2 (S ++ (pho t n p).2.1) P' s' → Q (-1) s') → ((pho t n p).1 = false → ∀ s' S' P', PZ s0 t (pho t n p).2.2 S' P' s' → Q (nI (tb t (pho t n p).2.2)) s') → wX4_parse_20 Q n 1 (nI i) s := by
  have h80 := ht.1
  intro n
  induction n with
  | zero => intro i p S P s Z hS hn; have := Z.W.le; omega
  | succ n ih =>
    intro i p S P s Z hS hn hi k1 k0
    have hp := Z.W.le
    rw [pho] at k1 k0
    rw [wX4_parse_20, g80 (by omega), kE Z.W (x := 39) (n := 39) rfl (by decide), nI_1]
    have fin : tk t p ≠ 39 → wX4_parse_60 Q 1 s := by
      intro h39
      rw [if_neg h39] at k1 k0
      unfold wX4_parse_60
      rw [kE Z.W (x := 41) (n := 41) rfl (by decide), Z.W.b]
      refine i1 ⟨fun h41 => k0 (decide_eq_false h41) s _ P Z, fun h41 => k1 (decide_eq_true h41) s P (by simpa using Z)⟩
    have l1 := te_le hp
    refine ⟨fun h2 => fin (fun h39 => ?_), fun _ => i1 ⟨fun h39 => fin h39, fun h39 => ?_⟩⟩
    · have := te2 (show tk t p < 40 by omega) hp
      omega
    · rw [if_pos h39] at k1 k0
      have g2 := te2 (show tk t p < 40 by omega) hp
      obtain ⟨a, b, c⟩ := far_prt l1
      refine c_advP ht Z (lvW (by omega)) (fun s2 Z2 => c_part ht Z2.y (by omega) (by omega) (fun h s3 P3 Z3 => ?_) (fun h s3 S3 P3 Z3 => ?_))
      · rw [if_neg (by rw [h]; decide)] at k1 k0
        have hl := c h
        refine ih (i + 1) _ _ P3 s3 Z3 (by rw [List.length_append]; omega) (by omega) (by omega) (fun h3 s4 P4 Z4 => k1 h3 s4 P4 ?_) (fun h3 => k0 h3)
        rw [List.append_assoc] at Z4
        exact Z4
      · rw [if_pos h] at k1 k0
        cases n with
        | zero => omega
        | succ n =>
          rw [wX4_parse_20, g80 (by omega)]
          have fin2 : wX4_parse_60 Q 0 s3 := by
            unfold wX4_parse_60
            rw [Z3.W.b]
            exact i0 (k0 rfl s3 S3 P3 Z3)
          exact ⟨fun _ => fin2, fun _ => i0 fin2⟩
theorem c_parse (ht : okT t) (T : txC t s) (k1 : (ph t).1 = true → ∀ s', fR phD s s' → s'.1 3 2 = nI (ph t).2.1.length → SL 7 (ph t).2.1 s' → Q (-1) s') (k0 : (ph t).1 = false → ∀ s', fR phD s s' → Q (nI (tb t (ph t).2.2)) s') : wpX4_parse s Q := by
  have h80 := ht.1
  unfold wpX4_parse
  have T1 : txC t (wi s 3 2 0) := T.fr (fr.wi (D := fun a => a == 3) rfl) rfl rfl
  refine c_split ht T1 (fun s1 f W => ?_)
  have f1 : fR phD s s1 := (fR_wi (a := 3) (i := 2) (v := 0) rfl).tr (f.mono (fun a ha => by
    unfold phD at ha
    unfold w456
    simp at ha ⊢
    omega))
  have Z : PY s t 0 [] s1 := ⟨f1, W, by rw [f.1 3 rfl, wi_at]; rfl, fun i hi => absurd hi (Nat.not_lt_zero _)⟩
  obtain ⟨a, b, c⟩ := far_prt (t := t) (p := 0) (Nat.zero_le _)
  unfold ph at k1 k0
  refine c_part ht Z (Nat.le_refl _) (by show 0 < 80; decide) (fun h s2 P2 Z2 => ⟨81, ?_⟩) (fun h s2 S2 P2 Z2 => ⟨1, ?_⟩)
  · rw [if_neg (by rw [h]; decide)] at k1 k0
    have hl := c h
    exact c_phoL ht 81 0 _ _ P2 s2 Z2 (by simpa using hl) (by omega) (by omega) (fun h3 s4 P4 Z4 => k1 h3 s4 Z4.1 Z4.2.2.1.1 Z4.2.2.1.2) (fun h3 s4 S4 P4 Z4 => k0 h3 s4 Z4.1)
  · rw [if_pos h] at k1 k0
    rw [wX4_parse_20]
    have fin2 : wX4_parse_60 Q 0 s2 := by
      unfold wX4_parse_60
      rw [Z2.W.b]
      exact i0 (k0 rfl s2 Z2.1)
    exact ⟨fun _ => fin2, fun _ => i0 fin2⟩
end PHRASE
