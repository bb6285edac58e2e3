/-! phrases: the words of a text -/
section LEX
variable {t : List Nat} {s s' : gS} {Q : Int32 → gS → Prop} {f : Nat → Bool} {n m p q : Nat}
def isBl (c : Nat) : Bool := decide (c = 32)
def isLt (c : Nat) : Bool := decide (97 ≤ c) && decide (c ≤ 122)
/-- past the signs of a kind -/
def skp (f : Nat → Bool) (t : List Nat) : Nat → Nat → Nat
  | 0, p => p
  | n + 1, p => if p < t.length ∧ f (sg t p) = true then skp f t n (p + 1) else p
theorem skp_ge : ∀ n p, p ≤ skp f t n p := by
  intro n
  induction n with
  | zero => intro p; exact Nat.le_refl _
  | succ n ih =>
    intro p
    rw [skp]
    split
    · have := ih (p + 1)
      omega
    · exact Nat.le_refl _
theorem skp_le : ∀ n p, p ≤ t.length → skp f t n p ≤ t.length := by
  intro n
  induction n with
  | zero => intro p h; exact h
  | succ n ih =>
    intro p h
    rw [skp]
    split
    next h2 => exact ih (p + 1) (by omega)
    next => exact h
theorem skp_len : ∀ n p, skp f t n p ≤ p + n := by
  intro n
  induction n with
  | zero => intro p; exact Nat.le_refl _
  | succ n ih =>
    intro p
    rw [skp]
    split
    · have := ih (p + 1)
      omega
    · omega
theorem skp_fu : ∀ n m p, t.length ≤ p + n → t.length ≤ p + m → skp f t n p = skp f t m p := by
  intro n
  induction n with
  | zero =>
    intro m p h1 h2
    cases m with
    | zero => rfl
    | succ m => rw [skp, skp, if_neg (by omega)]
  | succ n ih =>
    intro m p h1 h2
    cases m with
    | zero => rw [skp, skp, if_neg (by omega)]
    | succ m =>
      rw [skp, skp]
      split
      · exact ih m (p + 1) (by omega) (by omega)
      · rfl
theorem skp_in : ∀ n p i, p ≤ i → i < skp f t n p → i < t.length ∧ f (sg t i) = true := by
  intro n
  induction n with
  | zero => intro p i h1 h2; have h2 : i < p := h2; omega
  | succ n ih =>
    intro p i h1 h2
    rw [skp] at h2
    split at h2
    next h =>
      by_cases e : i = p
      · subst e; exact h
      · exact ih (p + 1) i (by omega) h2
    next => omega
theorem skp_end : ∀ n p, t.length ≤ p + n → ¬ (skp f t n p < t.length ∧ f (sg t (skp f t n p)) = true) := by
  intro n
  induction n with
  | zero => intro p h h2; have h2 : p < t.length := h2.1; omega
  | succ n ih =>
    intro p h
    rw [skp]
    split
    next => exact ih (p + 1) (by omega)
    next h2 => exact h2
theorem skp_pos (hn : 0 < n) (hp : p < t.length) (h : f (sg t p) = true) : p + 1 ≤ skp f t n p := by
  cases n with
  | zero => omega
  | succ n =>
    rw [skp, if_pos ⟨hp, h⟩]
    exact skp_ge n (p + 1)
theorem skp_no (h : ¬ (p < t.length ∧ f (sg t p) = true)) : skp f t n p = p := by
  cases n with
  | zero => rfl
  | succ n => rw [skp, if_neg h]
def wdL : List (List Nat) := [[100, 97, 121], [119, 101, 101, 107], [109, 111, 110, 116, 104], [121, 101, 97, 114], [109, 111, 110], [116, 117, 101], [119, 101, 100], [116, 104, 117], [102, 114, 105], [115, 97, 116], [115, 117, 110], [106, 97, 110], [102, 101, 98], [109, 97, 114], [97, 112, 114], [109, 97, 121], [106, 117, 110], [106, 117, 108], [97, 117, 103], [115, 101, 112], [111, 99, 116], [110, 111, 118], [100, 101, 99], [101, 97, 114, 108, 121], [109, 105, 100], [108, 97, 116, 101], [102, 105, 114, 115, 116], [108, 97, 115, 116], [116, 111, 100, 97, 121], [116, 111, 109, 111, 114, 114, 111, 119], [121, 101, 115, 116, 101, 114, 100, 97, 121], [105, 110], [116, 104, 105, 115], [110, 101, 120, 116], [111, 102], [97, 102, 116, 101, 114], [98, 101, 102, 111, 114, 101], [97, 103, 111], [116, 111], [111, 114]]
def wd (k : Nat) : List Nat := wdL.getD k []
def slc (t : List Nat) (q e : Nat) : List Nat := (t.drop q).take (e - q)
def tq (t : List Nat) (p : Nat) : Nat := skp isBl t 80 p
def tN (t : List Nat) (q : Nat) : Nat := skp isDg t 4 q
def tL (t : List Nat) (q : Nat) : Nat := skp isLt t 80 q
def tkQ (t : List Nat) (q : Nat) : Nat := if t.length ≤ q then 41 else if isDg (sg t q) = true then (if tN t q < t.length ∧ isDg (sg t (tN t q)) = true then 40 else 100 + dfn t 0 (tN t q - q) q) else wdL.idxOf (slc t q (tL t q))
def tbQ (t : List Nat) (q : Nat) : Nat := if t.length ≤ q then q else if isDg (sg t q) = true then (if tN t q < t.length ∧ isDg (sg t (tN t q)) = true then tN t q else q) else q
def teQ (t : List Nat) (q : Nat) : Nat := if t.length ≤ q then q else if isDg (sg t q) = true then tN t q else tL t q
/-- the word from a place on: its kind, where a fault of it is told, where it ends -/
def tk (t : List Nat) (p : Nat) : Nat := tkQ t (tq t p)
def tb (t : List Nat) (p : Nat) : Nat := tbQ t (tq t p)
def te (t : List Nat) (p : Nat) : Nat := teQ t (tq t p)
/-- the word can't stand anywhere, by its signs -/
def bdQ (t : List Nat) (q : Nat) : Bool := if t.length ≤ q then false else if isDg (sg t q) = true then decide (tN t q < t.length ∧ isDg (sg t (tN t q)) = true) else !isLt (sg t q)
def bd (t : List Nat) (p : Nat) : Bool := bdQ t (tq t p)
theorem wdL_len : wdL.length = 40 := rfl
theorem wd_idx : ∀ k, k < 40 → wdL.idxOf (wd k) = k := by decide +kernel
theorem idx_wd {v : List Nat} {k : Nat} (hk : k < 40) : wdL.idxOf v = k ↔ v = wd k := by
  constructor
  · intro h
    have hl : wdL.idxOf v < wdL.length := by rw [h]; exact hk
    have h2 := List.getElem_idxOf hl
    unfold wd
    rw [← h, List.getD_eq_getElem?_getD, List.getElem?_eq_getElem hl, h2]
    rfl
  · intro h
    rw [h]
    exact wd_idx k hk
theorem idx_le (v : List Nat) : wdL.idxOf v ≤ 40 := List.idxOf_le_length
theorem slc_len {q e : Nat} (h1 : e ≤ t.length) : (slc t q e).length = e - q := by
  unfold slc
  rw [List.length_take, List.length_drop]
  omega
theorem slc_get {q e j : Nat} (h : q + j < e) : (slc t q e).getD j 0 = sg t (q + j) := by
  unfold slc sg
  rw [List.getD_eq_getElem?_getD, List.getD_eq_getElem?_getD, List.getElem?_take, if_pos (by omega), List.getElem?_drop]
theorem dfn_lt : ∀ k v q, dfn t v k q < (v + 1) * 10 ^ k := by
  intro k
  induction k with
  | zero => intro v q; show v < _; omega
  | succ k ih =>
    intro v q
    have h := ih (10 * v + dg t q) (q + 1)
    have h2 := dg_lt t q
    rw [dfn, Nat.pow_succ]
    calc dfn t (10 * v + dg t q) k (q + 1) < (10 * v + dg t q + 1) * 10 ^ k := h
      _ ≤ ((v + 1) * 10) * 10 ^ k := Nat.mul_le_mul_right _ (by omega)
      _ = (v + 1) * (10 ^ k * 10) := by rw [Nat.mul_assoc, Nat.mul_comm 10]
theorem tN_le (q : Nat) : tN t q - q ≤ 4 := by
  have := skp_len (f := isDg) (t := t) 4 q
  unfold tN
  omega
theorem tkQ_lt (q : Nat) : tkQ t q < 10100 := by
  unfold tkQ
  split
  · decide
  split
  · split
    · decide
    · have h := dfn_lt (t := t) (tN t q - q) 0 q
      have h4 : 10 ^ (tN t q - q) ≤ 10 ^ 4 := Nat.pow_le_pow_right (by decide) (tN_le q)
      omega
  · have := idx_le (slc t q (tL t q))
    omega
theorem tk_lt (p : Nat) : tk t p < 10100 := tkQ_lt _
theorem tq_ge (p : Nat) : p ≤ tq t p := skp_ge _ _
theorem tq_le {p : Nat} (h : p ≤ t.length) : tq t p ≤ t.length := skp_le _ _ h
theorem te_ge (p : Nat) : p ≤ te t p := by
  have h := tq_ge (t := t) p
  unfold te teQ
  split
  · exact h
  split
  · exact Nat.le_trans h (skp_ge _ _)
  · exact Nat.le_trans h (skp_ge _ _)
theorem te_le {p : Nat} (h : p ≤ t.length) : te t p ≤ t.length := by
  have h := tq_le h
  unfold te teQ
  split
  · exact h
  split
  · exact skp_le _ _ h
  · exact skp_le _ _ h
theorem tb_le {p : Nat} (h : p ≤ t.length) : tb t p ≤ t.length := by
  have h := tq_le h
  unfold tb tbQ
  split
  · exact h
  split
  · split
    · exact skp_le _ _ h
    · exact h
  · exact h
/-- a word of the list is as long as it is -/
theorem te_wd {p k : Nat} (hk : k < 40) (h : tk t p = k) (hp : p ≤ t.length) : p + (wd k).length ≤ te t p := by
  have hq := tq_ge (t := t) p
  have hq2 := tq_le hp
  unfold tk tkQ at h
  unfold te teQ
  split at h
  · omega
  next h1 =>
    rw [if_neg h1]
    split at h
    next h2 =>
      split at h <;> omega
    next h2 =>
      rw [if_neg h2]
      have hL : tL t (tq t p) ≤ t.length := skp_le _ _ hq2
      have hL2 : tq t p ≤ tL t (tq t p) := skp_ge _ _
      have := (idx_wd hk).mp h
      have h3 := slc_len (t := t) (q := tq t p) hL
      rw [this] at h3
      omega
theorem wd_len : ∀ k, k < 40 → 2 ≤ (wd k).length ∧ (k < 31 → 3 ≤ (wd k).length) := by decide +kernel
theorem te2 {p : Nat} (h : tk t p < 40) (hp : p ≤ t.length) : p + 2 ≤ te t p := by
  have := te_wd h rfl hp
  have := (wd_len _ h).1
  omega
theorem te3 {p : Nat} (h : tk t p < 31) (hp : p ≤ t.length) : p + 3 ≤ te t p := by
  have := te_wd (show tk t p < 40 by omega) rfl hp
  have := (wd_len _ (show tk t p < 40 by omega)).2 h
  omega
theorem te_num {p : Nat} (h : 100 ≤ tk t p) : p + 1 ≤ te t p ∧ (1100 ≤ tk t p → p + 3 ≤ te t p) := by
  have hq := tq_ge (t := t) p
  unfold tk tkQ at h ⊢
  unfold te teQ
  split at h
  · omega
  next h1 =>
    rw [if_neg h1, if_neg h1]
    split at h
    next h2 =>
      rw [if_pos h2, if_pos h2]
      have hp1 : tq t p + 1 ≤ tN t (tq t p) := skp_pos (by decide) (by omega) h2
      split at h
      · omega
      next h3 =>
        rw [if_neg h3]
        refine ⟨by omega, fun h4 => ?_⟩
        by_cases e : tN t (tq t p) - tq t p ≤ 2
        · have h5 := dfn_lt (t := t) (tN t (tq t p) - tq t p) 0 (tq t p)
          have h6 : 10 ^ (tN t (tq t p) - tq t p) ≤ 10 ^ 2 := Nat.pow_le_pow_right (by decide) e
          omega
        · omega
    next h2 =>
      have := idx_le (slc t (tq t p) (tL t (tq t p)))
      omega
theorem te1 {p : Nat} (h40 : tk t p ≠ 40) (h41 : tk t p ≠ 41) (hp : p ≤ t.length) : p + 1 ≤ te t p := by
  by_cases h : 100 ≤ tk t p
  · exact (te_num h).1
  · have h5 : tk t p < 40 := by
      have h6 : tk t p ≤ 41 ∨ 100 ≤ tk t p := by
        unfold tk tkQ
        split
        · omega
        split
        · split <;> omega
        · have := idx_le (slc t (tq t p) (tL t (tq t p)))
          omega
      omega
    have := te2 h5 hp
    omega
theorem tk_cases (p : Nat) : tk t p ≤ 41 ∨ 100 ≤ tk t p := by
  unfold tk tkQ
  split
  · omega
  split
  · split <;> omega
  · have := idx_le (slc t (tq t p) (tL t (tq t p)))
    omega
theorem tk_end {p : Nat} (h : t.length ≤ p) : tk t p = 41 := by
  have := tq_ge (t := t) p
  unfold tk tkQ
  rw [if_pos (by omega)]
theorem bd_40 {p : Nat} (h : bd t p = true) : tk t p = 40 := by
  unfold bd bdQ at h
  unfold tk tkQ
  split at h
  · cases h
  next h1 =>
    rw [if_neg h1]
    split at h
    next h2 =>
      rw [if_pos h2, if_pos (of_decide_eq_true h)]
    next h2 =>
      rw [if_neg h2]
      have hn : tL t (tq t p) = tq t p := skp_no (fun e => by rw [e.2] at h; cases h)
      rw [hn]
      show wdL.idxOf ((t.drop (tq t p)).take (tq t p - tq t p)) = 40
      rw [Nat.sub_self, List.take_zero]
      decide
end LEX
