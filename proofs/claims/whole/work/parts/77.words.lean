/-! phrases: the words of the class, one behind another -/
section WORDS
variable {t : List Nat} {s s' : gS} {Q : Int32 → gS → Prop} {p q e : Nat}
def lv (t : List Nat) (p : Nat) : Prop := tk t p ≠ 40 ∧ tk t p ≠ 41
def nz (t : List Nat) : Nat → Nat
  | 0 => 0
  | n + 1 => te t (nz t n)
def WT (t : List Nat) (s : gS) : Prop := ∀ j, (∀ j', j' < j → lv t (nz t j')) → s.1 5 j = nI (tk t (nz t j)) ∧ s.1 6 j = nI (tb t (nz t j))
def WS (t : List Nat) (p : Nat) (s : gS) : Prop := WT t s ∧ ∃ i, p = nz t i ∧ (∀ j, j < i → lv t (nz t j)) ∧ s.1 4 2 = nI i ∧ s.1 4 3 = nI (tk t p) ∧ s.1 4 4 = nI (tb t p)
theorem nz_le : ∀ i, nz t i ≤ t.length := by
  intro i
  induction i with
  | zero => exact Nat.zero_le _
  | succ i ih => exact te_le ih
theorem lvL (h : lv t p) : p < t.length := Classical.byContradiction fun c => h.2 (tk_end (by omega))
theorem nz_ge : ∀ i, (∀ j, j < i → lv t (nz t j)) → i ≤ nz t i := by
  intro i
  induction i with
  | zero => intro _; exact Nat.zero_le _
  | succ i ih =>
    intro h
    have h1 := ih (fun j hj => h j (by omega))
    have h2 := h i (by omega)
    have := te1 h2.1 h2.2 (nz_le i)
    show i + 1 ≤ te t (nz t i)
    omega
theorem WS.cg (W : WS t p s) (h4 : s'.1 4 = s.1 4) (h5 : s'.1 5 = s.1 5) (h6 : s'.1 6 = s.1 6) : WS t p s' := by
  obtain ⟨a, i, b, c, d, e, f⟩ := W
  exact ⟨fun j hj => by rw [h5, h6]; exact a j hj, i, b, c, by rw [h4]; exact d, by rw [h4]; exact e, by rw [h4]; exact f⟩
theorem WS.le (W : WS t p s) : p ≤ t.length := by
  obtain ⟨a, i, b, c⟩ := W
  rw [b]
  exact nz_le i
def w456 (a : Nat) : Bool := a == 4 || a == 5 || a == 6
theorem c_split1 {i m : Nat} {Q' : gS → Prop} (ht : okT t) (T : txC t s) (hi : i ≤ 80) (hp : p ≤ t.length) (kF : ¬ lv t p → ∀ s', fR w456 s s' → s'.1 5 i = nI (tk t p) → s'.1 6 i = nI (tb t p) → (∀ j, j ≠ i → s'.1 5 j = s.1 5 j ∧ s'.1 6 j = s.1 6 j) → wX10_split_145 Q' s') (kR : lv t p → ∀ s', fR w456 s s' → s'.1 5 i = nI (tk t p) → s'.1 6 i = nI (tb t p) → (∀ j, j ≠ i → s'.1 5 j = s.1 5 j ∧ s'.1 6 j = s.1 6 j) → wX10_split_8 Q' m (nI (te t p)) (nI (i + 1)) s') : wX10_split_8 Q' (m + 1) (nI p) (nI i) s := by
  have h80 := ht.1
  have hq1 := tq_ge (t := t) p
  have hq2 := tq_le hp
  have vi : vp_in (nI i) 81 := vp_in_nI (by omega) (by decide)
  have hk := tk_lt (t := t) p
  have fin : ∀ s2, fR w456 s s2 → s2.1 6 i = nI (tb t p) → (∀ j, j ≠ i → s2.1 5 j = s.1 5 j ∧ s2.1 6 j = s.1 6 j) → wX10_split_116 Q' (fun y2 y4 s => wX10_split_8 Q' m y2 y4 s) (wX10_split_145 Q') (nI (te t p)) (nI (tk t p)) (nI i) s2 := by
    intro s2 f h6 ho
    unfold wX10_split_116
    rw [show (41 : Int32) = nI 41 from rfl, show (40 : Int32) = nI 40 from rfl, nI_eq (by omega) (by decide), nI_eq (by omega) (by decide), ix_nI (by omega), nI_1]
    have f2 : fR w456 s (wi s2 5 i (nI (tk t p))) := f.tr (fR_wi rfl)
    have g6 : (wi s2 5 i (nI (tk t p))).1 6 i = nI (tb t p) := by rw [wi_na _ _ _ _ (by decide)]; exact h6
    have go : ∀ j, j ≠ i → (wi s2 5 i (nI (tk t p))).1 5 j = s.1 5 j ∧ (wi s2 5 i (nI (tk t p))).1 6 j = s.1 6 j := fun j hj => ⟨by rw [wi_ne _ _ _ _ hj]; exact (ho j hj).1, by rw [wi_na _ _ _ _ (by decide)]; exact (ho j hj).2⟩
    exact ⟨vi, fun h => kF (fun c => c.2 h) _ f2 (wi_at _ _ _ _) g6 go, fun h => ⟨fun h2 => kR ⟨h2, h⟩ _ f2 (wi_at _ _ _ _) g6 go, fun h2 => kF (fun c => c.1 h2) _ f2 (wi_at _ _ _ _) g6 go⟩⟩
  rw [wX10_split_8]
  refine ⟨fun h => absurd h (by rw [show (80 : Int32) = nI 80 from rfl, nI_ltI (by decide) (by omega)]; omega), fun _ => c_blanks ht T (by omega) ⟨vi, ?_⟩⟩
  rw [ix_nI (by omega)]
  have T1 : txC t (wi s 6 i (nI (tq t p))) := T.fr (fr.wi (D := fun a => a == 6) rfl) rfl rfl
  have f1 : fR w456 s (wi s 6 i (nI (tq t p))) := fR_wi rfl
  have o1 : ∀ j, j ≠ i → (wi s 6 i (nI (tq t p))).1 5 j = s.1 5 j ∧ (wi s 6 i (nI (tq t p))).1 6 j = s.1 6 j := fun j hj => ⟨by rw [wi_na _ _ _ _ (by decide)], by rw [wi_ne _ _ _ _ hj]⟩
  have g6 : gi (wi s 6 i (nI (tq t p))) 6 i = nI (tq t p) := wi_at _ _ _ _
  have eL : gi (wi s 6 i (nI (tq t p))) 1 1 = nI t.length := T1.1
  rw [eL, nI_ltI (by omega) (by omega)]
  refine ⟨fun h => ?_, fun h => ?_⟩
  · rw [c_isDigit ht T1 h, bi_0]
    refine ⟨fun hd => c_letters ht T1 (by omega) ⟨vi, ?_⟩, fun hd => c_digits ht T1 (by omega) ⟨vi, ?_⟩⟩
    · have hd' : ¬ isDg (sg t (tq t p)) = true := by rw [hd]; decide
      have e1 : te t p = tL t (tq t p) := by unfold te teQ; rw [if_neg (by omega), if_neg hd']
      have e2 : tk t p = wdL.idxOf (slc t (tq t p) (tL t (tq t p))) := by unfold tk tkQ; rw [if_neg (by omega), if_neg hd']
      have e3 : tb t p = tq t p := by unfold tb tbQ; rw [if_neg (by omega), if_neg hd']
      rw [g6]
      refine c_letK ht T1 (skp_ge _ _) (skp_le _ _ hq2) ?_
      rw [← e2, ← e1]
      exact fin _ f1 (by rw [e3]; exact g6) o1
    · have hd' : isDg (sg t (tq t p)) = true := by simpa using hd
      have hN2 : tN t (tq t p) ≤ t.length := skp_le _ _ hq2
      have e1 : te t p = tN t (tq t p) := by unfold te teQ; rw [if_neg (by omega), if_pos hd']
      rw [g6]
      refine c_numK ht T1 (skp_ge _ _) (by omega) (fun h3 => ?_) (fun h3 => ?_)
      · have e2 : tk t p = 40 := by unfold tk tkQ; rw [if_neg (by omega), if_pos hd', if_pos h3]
        have e3 : tb t p = tN t (tq t p) := by unfold tb tbQ; rw [if_neg (by omega), if_pos hd', if_pos h3]
        refine ⟨fun c => absurd rfl c, fun _ => ⟨vi, ?_⟩⟩
        rw [ix_nI (by omega), ← e1, show (40 : Int32) = nI (tk t p) by rw [e2]; rfl]
        refine fin _ (f1.tr (fR_wi rfl)) (by rw [wi_at, e1, e3]) (fun j hj => ⟨by rw [wi_na _ _ _ _ (by decide)]; exact (o1 j hj).1, by rw [wi_ne _ _ _ _ hj]; exact (o1 j hj).2⟩)
      · have e2 : tk t p = 100 + dfn t 0 (tN t (tq t p) - tq t p) (tq t p) := by unfold tk tkQ; rw [if_neg (by omega), if_pos hd', if_neg h3]
        have e3 : tb t p = tq t p := by unfold tb tbQ; rw [if_neg (by omega), if_pos hd', if_neg h3]
        rw [← e2, ← e1]
        refine ⟨fun _ => ⟨vi, vi, ?_⟩, fun c => absurd c ?_⟩
        · rw [g6, ix_nI (by omega)]
          refine fin _ (f1.tr (fR_wi rfl)) (by rw [wi_at, e3]) (fun j hj => ⟨by rw [wi_na _ _ _ _ (by decide)]; exact (o1 j hj).1, by rw [wi_ne _ _ _ _ hj]; exact (o1 j hj).2⟩)
        · rw [show (40 : Int32) = nI 40 from rfl, nI_eq (by omega) (by decide)]
          omega
  · have e1 : te t p = tq t p := by unfold te teQ; rw [if_pos (by omega)]
    have e2 : tk t p = 41 := by unfold tk tkQ; rw [if_pos (by omega)]
    have e3 : tb t p = tq t p := by unfold tb tbQ; rw [if_pos (by omega)]
    have := fin _ f1 (by rw [e3]; exact g6) o1
    rw [e1, e2] at this
    exact this
theorem c_split {Q' : gS → Prop} (ht : okT t) (T : txC t s) (k : ∀ s', fR w456 s s' → WS t 0 s' → Q' s') : wpX10_split s Q' := by
  have h80 := ht.1
  have fin : ∀ i s1, fR w456 s s1 → (∀ j, j < i → lv t (nz t j)) → ¬ lv t (nz t i) → (∀ j, j ≤ i → s1.1 5 j = nI (tk t (nz t j)) ∧ s1.1 6 j = nI (tb t (nz t j))) → wX10_split_145 Q' s1 := by
    intro i s1 f hl hn hc
    unfold wX10_split_145
    refine k _ (((f.tr (fR_wi rfl)).tr (fR_wi rfl)).tr (fR_wi rfl)) ?_
    have n5 : ∀ v1 v2 v3, (wi (wi (wi s1 4 2 v1) 4 3 v2) 4 4 v3).1 5 = s1.1 5 := fun v1 v2 v3 => by rw [wi_na _ _ _ _ (by decide), wi_na _ _ _ _ (by decide), wi_na _ _ _ _ (by decide)]
    have n6 : ∀ v1 v2 v3, (wi (wi (wi s1 4 2 v1) 4 3 v2) 4 4 v3).1 6 = s1.1 6 := fun v1 v2 v3 => by rw [wi_na _ _ _ _ (by decide), wi_na _ _ _ _ (by decide), wi_na _ _ _ _ (by decide)]
    refine ⟨fun j hj => ?_, 0, rfl, fun j hj => by omega, ?_, ?_, ?_⟩
    · rw [n5, n6]
      refine hc j (Classical.byContradiction fun c => hn (hj i (by omega)))
    · rw [wi_ne _ _ _ _ (by decide), wi_ne _ _ _ _ (by decide), wi_at]
      rfl
    · rw [wi_ne _ _ _ _ (by decide), wi_at]
      show (wi s1 4 2 0).1 5 0 = _
      rw [wi_na _ _ _ _ (by decide)]
      exact (hc 0 (by omega)).1
    · rw [wi_at]
      show (wi (wi s1 4 2 0) 4 3 _).1 6 0 = _
      rw [wi_na _ _ _ _ (by decide), wi_na _ _ _ _ (by decide)]
      exact (hc 0 (by omega)).2
  have Lp : ∀ n i s1, fR w456 s s1 → t.length ≤ nz t i + n → (∀ j, j < i → lv t (nz t j)) → (∀ j, j < i → s1.1 5 j = nI (tk t (nz t j)) ∧ s1.1 6 j = nI (tb t (nz t j))) → wX10_split_8 Q' (n + 1) (nI (nz t i)) (nI i) s1 := by
    intro n
    induction n with
    | zero =>
      intro i s1 f hn hl hc
      have hi := nz_ge i hl
      have hz := nz_le (t := t) i
      have T1 : txC t s1 := T.fr f.fr rfl rfl
      refine c_split1 ht T1 (by omega) hz (fun h s2 f2 a b c => fin i s2 (f.tr f2) hl h (fun j hj => ?_)) (fun h => absurd (lvL h) (by omega))
      by_cases e : j = i
      · subst e; exact ⟨a, b⟩
      · rw [(c j e).1, (c j e).2]; exact hc j (by omega)
    | succ n ih =>
      intro i s1 f hn hl hc
      have hi := nz_ge i hl
      have hz := nz_le (t := t) i
      have T1 : txC t s1 := T.fr f.fr rfl rfl
      have hc2 : ∀ s2 : gS, s2.1 5 i = nI (tk t (nz t i)) → s2.1 6 i = nI (tb t (nz t i)) → (∀ j, j ≠ i → s2.1 5 j = s1.1 5 j ∧ s2.1 6 j = s1.1 6 j) → ∀ j, j ≤ i → s2.1 5 j = nI (tk t (nz t j)) ∧ s2.1 6 j = nI (tb t (nz t j)) := by
        intro s2 a b c j hj
        by_cases e : j = i
        · subst e; exact ⟨a, b⟩
        · rw [(c j e).1, (c j e).2]; exact hc j (by omega)
      refine c_split1 ht T1 (by omega) hz (fun h s2 f2 a b c => fin i s2 (f.tr f2) hl h (hc2 s2 a b c)) (fun h s2 f2 a b c => ?_)
      have := te1 h.1 h.2 hz
      refine ih (i + 1) s2 (f.tr f2) (by show t.length ≤ te t (nz t i) + n; omega) (fun j hj => ?_) (fun j hj => hc2 s2 a b c j (by omega))
      by_cases e : j = i
      · subst e; exact h
      · exact hl j (by omega)
  exact ⟨81, Lp 80 0 s fR.rf (by show t.length ≤ 0 + 80; omega) (fun j hj => by omega) (fun j hj => by omega)⟩
def w4 (a : Nat) : Bool := a == 4
theorem c_adv {Q' : gS → Prop} (ht : okT t) (W : WS t p s) (h : lv t p) (k : ∀ s', fR w4 s s' → WS t (te t p) s' → Q' s') : wpX10_advance s Q' := by
  have h80 := ht.1
  obtain ⟨a, i, b, c, d, e, f⟩ := W
  have hi := nz_ge i c
  have hl := lvL h
  have hk := tk_lt (t := t) p
  unfold wpX10_advance
  rw [show gi s 4 2 = nI i from d, show gi s 4 3 = nI (tk t p) from e, nI_1]
  have g1 : gi (wi s 4 2 (nI (i + 1))) 4 2 = nI (i + 1) := wi_at _ _ _ _
  have hj : ∀ j', j' < i + 1 → lv t (nz t j') := fun j' hj' => by
    by_cases e : j' = i
    · rw [e, ← b]; exact h
    · exact c j' (by omega)
  have g2 := a (i + 1) hj
  have g5 : gi (wi s 4 2 (nI (i + 1))) 5 (i + 1) = nI (tk t (nz t (i + 1))) := by
    show (wi s 4 2 (nI (i + 1))).1 5 (i + 1) = _
    rw [wi_na _ _ _ _ (by decide)]
    exact g2.1
  have vi : vp_in (nI (i + 1)) 81 := vp_in_nI (by omega) (by decide)
  have hn : nz t (i + 1) = te t p := by rw [b]; rfl
  rw [g1, ix_nI (by omega), g5, hn]
  have g3 : gi (wi (wi s 4 2 (nI (i + 1))) 4 3 (nI (tk t (te t p)))) 4 2 = nI (i + 1) := by
    show (wi (wi s 4 2 (nI (i + 1))) 4 3 _).1 4 2 = _
    rw [wi_ne _ _ _ _ (by decide), wi_at]
  rw [g3, ix_nI (by omega)]
  have g6 : gi (wi (wi s 4 2 (nI (i + 1))) 4 3 (nI (tk t (te t p)))) 6 (i + 1) = nI (tb t (te t p)) := by
    show (wi (wi s 4 2 (nI (i + 1))) 4 3 _).1 6 (i + 1) = _
    rw [wi_na _ _ _ _ (by decide), wi_na _ _ _ _ (by decide), ← hn]
    exact g2.2
  rw [g6]
  refine ⟨fun x => absurd x (nI_nn (by omega)), fun _ => ⟨fun x => absurd x (by rw [g80 (by omega)]; omega), fun _ => ⟨fun x => absurd x (by rw [show (41 : Int32) = nI 41 from rfl, nI_eq (by omega) (by decide)]; exact h.2), fun _ => ⟨fun x => absurd x (by rw [show (40 : Int32) = nI 40 from rfl, nI_eq (by omega) (by decide)]; exact h.1), fun _ => ⟨vi, vi, ?_⟩⟩⟩⟩⟩
  refine k _ ((fR_wi rfl).tr ((fR_wi rfl).tr (fR_wi rfl))) ⟨fun j hj => ?_, i + 1, hn.symm, hj, ?_, ?_, ?_⟩
  · rw [wi_na _ _ _ _ (by decide), wi_na _ _ _ _ (by decide), wi_na _ _ _ _ (by decide), wi_na _ _ _ _ (by decide), wi_na _ _ _ _ (by decide), wi_na _ _ _ _ (by decide)]
    exact a j hj
  · rw [wi_ne _ _ _ _ (by decide), wi_ne _ _ _ _ (by decide), wi_at]
  · rw [wi_ne _ _ _ _ (by decide), wi_at]
  · rw [wi_at]
theorem WS.w (W : WS t p s) : gi s 4 3 = nI (tk t p) := by
  obtain ⟨a, i, b, c, d, e, f⟩ := W
  exact e
theorem WS.b (W : WS t p s) : gi s 4 4 = nI (tb t p) := by
  obtain ⟨a, i, b, c, d, e, f⟩ := W
  exact f
theorem kI_lt (n : Nat) (hn : n < 100000) : (nI (tk t p) < nI n) = (tk t p < n) := by
  have := tk_lt (t := t) p
  rw [nI_ltI (by omega) (by omega)]
theorem kI_gt (n : Nat) (hn : n < 100000) : (nI n < nI (tk t p)) = (n < tk t p) := by
  have := tk_lt (t := t) p
  rw [nI_ltI (by omega) (by omega)]
theorem kI_ge (n : Nat) (hn : n < 100000) : (nI n ≤ nI (tk t p)) = (n ≤ tk t p) := by
  have := tk_lt (t := t) p
  rw [nI_leI (by omega) (by omega)]
theorem kI_eq (n : Nat) (hn : n < 100000) : (nI (tk t p) = nI n) = (tk t p = n) := by
  have := tk_lt (t := t) p
  rw [nI_eq (by omega) (by omega)]
theorem c_isNum (W : WS t p s) : wpX10_isNumber s Q = Q (bi (decide (100 ≤ tk t p))) s := by
  unfold wpX10_isNumber
  rw [W.w, show (100 : Int32) = nI 100 from rfl, kI_lt 100 (by decide)]
  by_cases h : tk t p < 100
  · simp [h, show ¬ 100 ≤ tk t p by omega, bi]
  · simp [h, show 100 ≤ tk t p by omega, bi]
theorem c_num (W : WS t p s) (h : 100 ≤ tk t p) : wpX10_number s Q = Q (nI (tk t p - 100)) s := by
  unfold wpX10_number
  rw [W.w, show (100 : Int32) = nI 100 from rfl, nI_subI, nI_i]
  congr 2
  omega
theorem c_isFrom {a b : Nat} (W : WS t p s) (ha : a < 5000) (hb : b < 5000) : wpX10_isFrom (nI a) (nI b) s Q = Q (bi (decide (100 + a ≤ tk t p ∧ tk t p ≤ 100 + b))) s := by
  unfold wpX10_isFrom
  have e : ∀ a : Nat, 100 + nI a = nI (100 + a) := fun a => by
    rw [show (100 : Int32) = nI 100 from rfl, nI_i, nI_i, iI_add, nI_i]
    rfl
  rw [W.w, e, e, kI_lt (100 + a) (by omega), kI_gt (100 + b) (by omega)]
  by_cases h : tk t p < 100 + a
  · simp [h, show ¬ 100 + a ≤ tk t p by omega, bi]
  · by_cases h2 : 100 + b < tk t p
    · simp [h, h2, show ¬ tk t p ≤ 100 + b by omega, bi]
    · simp [h, h2, show 100 + a ≤ tk t p by omega, show tk t p ≤ 100 + b by omega, bi]
theorem c_isUnit (W : WS t p s) : wpX10_isUnit s Q = Q (bi (decide (tk t p ≤ 3))) s := by
  unfold wpX10_isUnit
  have hk := tk_lt (t := t) p
  rw [W.w, show (3 : Int32) = nI 3 from rfl, kI_gt 3 (by decide), ltz (by omega)]
  by_cases h : 3 < tk t p
  · simp [h, show ¬ tk t p ≤ 3 by omega, bi]
  · simp [h, show tk t p ≤ 3 by omega, bi]
theorem c_isDayN (W : WS t p s) : wpX10_isDayName s Q = Q (bi (decide (4 ≤ tk t p ∧ tk t p < 11))) s := by
  unfold wpX10_isDayName
  rw [W.w, show (4 : Int32) = nI 4 from rfl, show (11 : Int32) = nI 11 from rfl, kI_lt 4 (by decide), kI_ge 11 (by decide)]
  by_cases h : tk t p < 4
  · simp [h, show ¬ 4 ≤ tk t p by omega, bi]
  · by_cases h2 : 11 ≤ tk t p
    · simp [h, h2, show ¬ tk t p < 11 by omega, bi]
    · simp [h, h2, show 4 ≤ tk t p by omega, show tk t p < 11 by omega, bi]
theorem c_isMonN (W : WS t p s) : wpX10_isMonthName s Q = Q (bi (decide (11 ≤ tk t p ∧ tk t p < 23))) s := by
  unfold wpX10_isMonthName
  rw [W.w, show (11 : Int32) = nI 11 from rfl, show (23 : Int32) = nI 23 from rfl, kI_lt 11 (by decide), kI_ge 23 (by decide)]
  by_cases h : tk t p < 11
  · simp [h, show ¬ 11 ≤ tk t p by omega, bi]
  · by_cases h2 : 23 ≤ tk t p
    · simp [h, h2, show ¬ tk t p < 23 by omega, bi]
    · simp [h, h2, show 11 ≤ tk t p by omega, show tk t p < 23 by omega, bi]
theorem c_begS (W : WS t p s) : wpX10_beginsSpan s Q = Q (bi (decide (23 ≤ tk t p ∧ tk t p ≤ 33))) s := by
  unfold wpX10_beginsSpan
  rw [W.w, show (23 : Int32) = nI 23 from rfl, show (33 : Int32) = nI 33 from rfl, kI_lt 23 (by decide), kI_gt 33 (by decide)]
  by_cases h : tk t p < 23
  · simp [h, show ¬ 23 ≤ tk t p by omega, bi]
  · by_cases h2 : 33 < tk t p
    · simp [h, h2, show ¬ tk t p ≤ 33 by omega, bi]
    · simp [h, h2, show 23 ≤ tk t p by omega, show tk t p ≤ 33 by omega, bi]
end WORDS
