/-! phrases: the reference's words -/
section MLEX
variable {t : List Nat} {s s' s0 : gS} {Q : Int32 → gS → Prop} {Q' : gS → Prop} {p q e k : Nat}
def LVQ (t : List Nat) (q : Nat) (s : gS) : Prop := s.1 177 7 = nI (teQ t q) ∧ s.1 177 8 = -1 ∧ s.1 177 9 = nI (tbQ t q) ∧ s.1 177 10 = nI (tkQ t q - 100) ∧ s.1 177 11 = bi (decide (100 ≤ tkQ t q)) ∧ s.1 177 12 = bi (decide (tkQ t q ≤ 40))
/-- the reference has passed the word from p on: it lives, or is wrong there -/
def AT (t : List Nat) (p : Nat) (s : gS) : Prop := if bd t p = true then s.1 177 8 = nI (tb t p) else LVQ t (tq t p) s
def gF : List Nat := [7, 8, 9, 10, 11, 12]
def dD (t : List Nat) (q : Nat) : Bool := decide (q < t.length) && isDg (sg t q)
def dL (t : List Nat) (q : Nat) : Bool := decide (q < t.length) && isLt (sg t q)
theorem m_inN {x a b : Nat} (hx : x < 100000) (ha : a < 100000) (hb : b < 100000) : wpX12_in (nI x) (nI a) (nI b) s Q = Q (bi (decide (a ≤ x) && decide (x ≤ b))) s := by
  rw [nI_i, nI_i, nI_i, m_in (by omega) (by omega) (by omega) (by omega) (by omega) (by omega)]
  congr 2
  rw [Bool.eq_iff_iff, Bool.and_eq_true, decide_eq_true_eq, decide_eq_true_eq, decide_eq_true_eq]
  omega
theorem m_in1 {a b : Nat} (ha : a < 100000) (hb : b < 100000) : wpX12_in (-1) (nI a) (nI b) s Q = Q 0 s := by
  rw [show (-1 : Int32) = iI (-1) from rfl, nI_i, nI_i, m_in (by omega) (by omega) (by omega) (by omega) (by omega) (by omega), decide_eq_false (by omega)]
  rfl
theorem m_hd (ht : okT t) (T : TX t s) (h7 : s.1 177 7 = nI q) (hq : q < 1000) : wpX12_here s (fun r s => wpX12_in r 48 57 s Q) = Q (bi (dD t q)) s := by
  unfold dD
  by_cases h : q < t.length
  · have hl := sg_lt ht q
    rw [m_here ht T h7 h, decide_eq_true h, Bool.true_and]
    exact m_inN (a := 48) (b := 57) (by omega) (by decide) (by decide)
  · rw [m_here0 T h7 (by omega) hq, decide_eq_false h, Bool.false_and]
    exact m_in1 (a := 48) (b := 57) (by decide) (by decide)
theorem m_hl (ht : okT t) (T : TX t s) (h7 : s.1 177 7 = nI q) (hq : q < 1000) : wpX12_here s (fun r s => wpX12_in r 97 122 s Q) = Q (bi (dL t q)) s := by
  unfold dL
  by_cases h : q < t.length
  · have hl := sg_lt ht q
    rw [m_here ht T h7 h, decide_eq_true h, Bool.true_and]
    exact m_inN (a := 97) (b := 122) (by omega) (by decide) (by decide)
  · rw [m_here0 T h7 (by omega) hq, decide_eq_false h, Bool.false_and]
    exact m_in1 (a := 97) (b := 122) (by decide) (by decide)
theorem dD_t : (dD t q = true) = (q < t.length ∧ isDg (sg t q) = true) := by
  unfold dD
  rw [Bool.and_eq_true, decide_eq_true_eq]
theorem dL_t : (dL t q = true) = (q < t.length ∧ isLt (sg t q) = true) := by
  unfold dL
  rw [Bool.and_eq_true, decide_eq_true_eq]
theorem m_lets (ht : okT t) : ∀ n p s, TX t s → s.1 177 7 = nI p → t.length ≤ p + n → p + n < 900 → (∀ s', fm [] [7] s s' → s'.1 177 7 = nI (skp isLt t n p) → Q' s') → wX12_goWord_174 Q' (n + 1) s := by
  intro n
  induction n with
  | zero =>
    intro p s T h7 hn hb kk
    rw [wX12_goWord_174, m_hl ht T h7 (by omega), bi_0]
    have : dL t p = false := by
      cases h : dL t p with
      | false => rfl
      | true => rw [dL_t] at h; omega
    rw [this]
    exact ⟨fun _ => kk s fm.rf h7, fun h => absurd rfl h⟩
  | succ n ih =>
    intro p s T h7 hn hb kk
    rw [wX12_goWord_174, m_hl ht T h7 (by omega), bi_0]
    cases h : dL t p with
    | false =>
      have : skp isLt t (n + 1) p = p := skp_no (by rw [← dL_t, h]; decide)
      rw [this] at kk
      exact ⟨fun _ => kk s fm.rf h7, fun h => absurd rfl h⟩
    | true =>
      refine ⟨fun h => (by cases h), fun _ => ?_⟩
      rw [dL_t] at h
      rw [skp, if_pos h] at kk
      rw [show gi s 177 7 = nI p from h7, nI_1]
      refine ih (p + 1) _ (T.cg (wi_ne _ _ _ _ (by decide)) (wi_na _ _ _ _ (by decide))) (wi_at _ _ _ _) (by omega) (by omega) (fun s' f h => kk s' ((fm_wf (by decide)).tr f) h)
theorem c4 {c : Nat} (hc : c < 1000) : (4 ≤ nI (q + c) - nI q) = (4 ≤ c) ∧ ((nI (q + c) - nI q = 4) = (c = 4)) := by
  have e : nI (q + c) - nI q = nI c := by rw [nI_subI, nI_i]; congr 1; omega
  rw [e]
  constructor
  · rw [show (4 : Int32) = nI 4 from rfl, nI_leI (by decide) (by omega)]
  · rw [show (4 : Int32) = nI 4 from rfl, nI_eq (by omega) (by decide)]
theorem m_digD {w : Nat} (ht : okT t) (hw : w < 1000) : ∀ n c s, TX t s → s.1 177 7 = nI (q + c) → s.1 177 9 = nI q → s.1 177 8 = nI w → 4 < c → t.length ≤ q + c + n → q + c + n < 900 → (∀ s', fm [] [7, 10] s s' → Q' s') → wX12_goWord_80 Q' (n + 1) s := by
  intro n
  induction n with
  | zero =>
    intro c s T h7 h9 h8 hc hn hb kk
    rw [wX12_goWord_80, m_hd ht T h7 (by omega), bi_0]
    have : dD t (q + c) = false := by
      cases h : dD t (q + c) with
      | false => rfl
      | true => rw [dD_t] at h; omega
    rw [this]
    exact ⟨fun _ => kk s fm.rf, fun h => absurd rfl h⟩
  | succ n ih =>
    intro c s T h7 h9 h8 hc hn hb kk
    rw [wX12_goWord_80, m_hd ht T h7 (by omega), bi_0]
    cases h : dD t (q + c) with
    | false => exact ⟨fun _ => kk s fm.rf, fun h => absurd rfl h⟩
    | true =>
      obtain ⟨x1, x2⟩ := c4 (q := q) (c := c) (by rw [dD_t] at h; omega)
      refine ⟨fun h => (by cases h), fun _ => ?_⟩
      unfold wX12_goWord_115 wX12_goWord_151
      rw [show gi s 177 7 = nI (q + c) from h7, show gi s 177 9 = nI q from h9, x1, x2]
      refine ⟨fun _ => ⟨fun _ => ?_, fun h => absurd (by omega) h⟩, fun h => absurd h (by omega)⟩
      have e7 : gi (wi s 177 10 (gi s 177 10)) 177 7 = nI (q + c) := by
        show (wi s 177 10 _).1 177 7 = _
        rw [wi_ne _ _ _ _ (by decide)]
        exact h7
      rw [e7, nI_1]
      refine ih (c + 1) _ (T.cg (by rw [wi_ne _ _ _ _ (by decide), wi_ne _ _ _ _ (by decide)]) (by rw [wi_na _ _ _ _ (by decide), wi_na _ _ _ _ (by decide)])) (wi_at _ _ _ _) (by rw [wi_ne _ _ _ _ (by decide), wi_ne _ _ _ _ (by decide)]; exact h9) (by rw [wi_ne _ _ _ _ (by decide), wi_ne _ _ _ _ (by decide)]; exact h8) (by omega) (by omega) (by omega) (fun s' f => kk s' ((fm_wf (by decide)).tr ((fm_wf (by decide)).tr f)))
theorem m_digs (ht : okT t) : ∀ d c v s n, TX t s → s.1 177 7 = nI (q + c) → s.1 177 9 = nI q → s.1 177 8 = -1 → s.1 177 10 = nI v → c + d = 4 → t.length ≤ q + c + n → q + c + n < 900 → (∀ s', ¬ (skp isDg t d (q + c) < t.length ∧ isDg (sg t (skp isDg t d (q + c))) = true) → fm [] [7, 10] s s' → s'.1 177 7 = nI (skp isDg t d (q + c)) → s'.1 177 10 = nI (dfn t v (skp isDg t d (q + c) - (q + c)) (q + c)) → Q' s') → (∀ s', skp isDg t d (q + c) < t.length ∧ isDg (sg t (skp isDg t d (q + c))) = true → fm [] [7, 8, 10] s s' → s'.1 177 8 = nI (skp isDg t d (q + c)) → Q' s') → wX12_goWord_80 Q' (n + 1) s := by
  intro d
  induction d with
  | zero =>
    intro c v s n T h7 h9 h8 h10 hc hn hb k1 k0
    rw [wX12_goWord_80, m_hd ht T h7 (by omega), bi_0]
    cases h : dD t (q + c) with
    | false =>
      refine ⟨fun _ => k1 s (by rw [skp, ← dD_t, h]; decide) fm.rf h7 ?_, fun h => absurd rfl h⟩
      rw [skp, Nat.sub_self]
      exact h10
    | true =>
      obtain ⟨x1, x2⟩ := c4 (q := q) (c := c) (by omega)
      rw [dD_t] at h
      refine ⟨fun h => (by cases h), fun _ => ?_⟩
      rw [show gi s 177 7 = nI (q + c) from h7, show gi s 177 9 = nI q from h9, x2]
      refine ⟨fun h => absurd (by omega) h, fun _ => ?_⟩
      rw [m_fault1 h8]
      unfold wX12_goWord_115 wX12_goWord_151
      have e7 : gi (wi s 177 8 (nI (q + c))) 177 7 = nI (q + c) := by
        show (wi s 177 8 _).1 177 7 = _
        rw [wi_ne _ _ _ _ (by decide)]
        exact h7
      have e9 : gi (wi s 177 8 (nI (q + c))) 177 9 = nI q := by
        show (wi s 177 8 _).1 177 9 = _
        rw [wi_ne _ _ _ _ (by decide)]
        exact h9
      rw [e7, e9, x1]
      refine ⟨fun _ => ?_, fun h => absurd (by omega) h⟩
      have e7 : gi (wi (wi s 177 8 (nI (q + c))) 177 10 (gi (wi s 177 8 (nI (q + c))) 177 10)) 177 7 = nI (q + c) := by
        show (wi (wi s 177 8 _) 177 10 _).1 177 7 = _
        rw [wi_ne _ _ _ _ (by decide), wi_ne _ _ _ _ (by decide)]
        exact h7
      rw [e7, nI_1]
      cases n with
      | zero => omega
      | succ n =>
        refine m_digD (w := q + c) ht (by omega) n (c + 1) _ (T.cg (by rw [wi_ne _ _ _ _ (by decide), wi_ne _ _ _ _ (by decide), wi_ne _ _ _ _ (by decide)]) (by rw [wi_na _ _ _ _ (by decide), wi_na _ _ _ _ (by decide), wi_na _ _ _ _ (by decide)])) (wi_at _ _ _ _) (by rw [wi_ne _ _ _ _ (by decide), wi_ne _ _ _ _ (by decide), wi_ne _ _ _ _ (by decide)]; exact h9) (by rw [wi_ne _ _ _ _ (by decide), wi_ne _ _ _ _ (by decide), wi_at]) (by omega) (by omega) (by omega) (fun s' f => k0 s' h ?_ ?_)
        · exact (fm_wf (by decide)).tr ((fm_wf (by decide)).tr ((fm_wf (by decide)).tr (f.mono (by decide) (by decide))))
        · rw [f.2.1 8 (by decide), wi_ne _ _ _ _ (by decide), wi_ne _ _ _ _ (by decide), wi_at]
          rfl
  | succ d ih =>
    intro c v s n T h7 h9 h8 h10 hc hn hb k1 k0
    rw [wX12_goWord_80, m_hd ht T h7 (by omega), bi_0]
    cases h : dD t (q + c) with
    | false =>
      have e : skp isDg t (d + 1) (q + c) = q + c := skp_no (by rw [← dD_t, h]; decide)
      rw [e] at k1
      refine ⟨fun _ => k1 s (by rw [← dD_t, h]; decide) fm.rf h7 ?_, fun h => absurd rfl h⟩
      rw [Nat.sub_self]
      exact h10
    | true =>
      obtain ⟨x1, x2⟩ := c4 (q := q) (c := c) (by omega)
      rw [dD_t] at h
      refine ⟨fun h => (by cases h), fun _ => ?_⟩
      rw [skp, if_pos h] at k1 k0
      have hge := skp_ge (f := isDg) (t := t) d (q + c + 1)
      rw [show gi s 177 7 = nI (q + c) from h7, show gi s 177 9 = nI q from h9, x2]
      refine ⟨fun _ => ?_, fun h => absurd h (by omega)⟩
      unfold wX12_goWord_115 wX12_goWord_151
      rw [show gi s 177 7 = nI (q + c) from h7, show gi s 177 9 = nI q from h9, x1]
      refine ⟨fun h => absurd h (by omega), fun _ => ?_⟩
      rw [m_here ht T h7 h.1, show gi s 177 10 = nI v from h10]
      have e10 : 10 * nI v + nI (sg t (q + c)) - 48 = nI (10 * v + dg t (q + c)) := by
        have : dg t (q + c) = sg t (q + c) - 48 := by unfold dg; rw [if_pos h]
        have h48 : 48 ≤ sg t (q + c) := by have := h.2; unfold isDg at this; simp at this; omega
        simp only [lit_i, nI_i, iI_add, iI_mul, iI_sub]
        congr 1
        omega
      rw [e10]
      have e7 : gi (wi s 177 10 (nI (10 * v + dg t (q + c)))) 177 7 = nI (q + c) := by
        show (wi s 177 10 _).1 177 7 = _
        rw [wi_ne _ _ _ _ (by decide)]
        exact h7
      rw [e7, nI_1]
      cases n with
      | zero => omega
      | succ n =>
        refine ih (c + 1) (10 * v + dg t (q + c)) _ n (T.cg (by rw [wi_ne _ _ _ _ (by decide), wi_ne _ _ _ _ (by decide)]) (by rw [wi_na _ _ _ _ (by decide), wi_na _ _ _ _ (by decide)])) (wi_at _ _ _ _) (by rw [wi_ne _ _ _ _ (by decide), wi_ne _ _ _ _ (by decide)]; exact h9) (by rw [wi_ne _ _ _ _ (by decide), wi_ne _ _ _ _ (by decide)]; exact h8) (by rw [wi_ne _ _ _ _ (by decide), wi_at]) (by omega) (by omega) (by omega) (fun s' h1 f a b => k1 s' h1 ((fm_wf (by decide)).tr ((fm_wf (by decide)).tr f)) a ?_) (fun s' h1 f a => k0 s' h1 ((fm_wf (by decide)).tr ((fm_wf (by decide)).tr f)) a)
        rw [b]
        have : skp isDg t d (q + c + 1) - (q + c) = (skp isDg t d (q + c + 1) - (q + c + 1)) + 1 := by omega
        rw [this, dfn]
        rfl
end MLEX
