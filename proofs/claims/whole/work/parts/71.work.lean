/-! work: the reference reads the acts -/
section WORK
variable {t : List Nat} {L : List Int32} {g g' : Sy} {us us' : List Sy} {ks : Nat → Option Sy} {s s' : gS} {K : gS → Prop}
def TX (t : List Nat) (s : gS) : Prop := s.1 177 6 = nI t.length ∧ ∀ i, i < t.length → s.1 179 i = sg8 (sg t i)
theorem TX.cg (T : TX t s) (h6 : s'.1 177 6 = s.1 177 6) (h : s'.1 179 = s.1 179) : TX t s' := ⟨by rw [h6]; exact T.1, fun i hi => by rw [h]; exact T.2 i hi⟩
theorem sg8_and : ∀ b, b < 256 → sg8 b &&& 255 = nI b := by decide +kernel
theorem m_here {p : Nat} {Q : Int32 → gS → Prop} (ht : okT t) (T : TX t s) (h7 : s.1 177 7 = nI p) (hp : p < t.length) : wpX12_here s Q = Q (nI (sg t p)) s := by
  have h80 := ht.1
  unfold wpX12_here
  have hle : (nI t.length ≤ nI p) = False := by
    rw [nI_leI (by omega) (by omega)]
    simp; omega
  rw [show gi s 177 6 = nI t.length from T.1, show gi s 177 7 = nI p from h7, ix_nI (by omega), show gi s 179 p = sg8 (sg t p) from T.2 p hp, sg8_and _ (sg_lt ht p)]
  simp only [hle, vp_in_nI (show p < 80 by omega) (show 80 < 2 ^ 31 by decide), false_implies, true_and, not_false_eq_true, true_implies]
theorem m_here0 {p : Nat} {Q : Int32 → gS → Prop} (T : TX t s) (h7 : s.1 177 7 = nI p) (hp : t.length ≤ p) (hp2 : p < 1000) : wpX12_here s Q = Q (-1) s := by
  unfold wpX12_here
  rw [show gi s 177 6 = nI t.length from T.1, show gi s 177 7 = nI p from h7]
  have hle : nI t.length ≤ nI p := nI_le hp (by omega)
  simp [hle]
theorem m_fine1 {Q : Int32 → gS → Prop} (h : s.1 177 8 = -1) : wpX12_fine s Q = Q 1 s := by
  unfold wpX12_fine
  rw [show gi s 177 8 = -1 from h]
  simp
theorem m_fine0 {r : Nat} {Q : Int32 → gS → Prop} (hr : r < 1000) (h : s.1 177 8 = nI r) : wpX12_fine s Q = Q 0 s := by
  unfold wpX12_fine
  rw [show gi s 177 8 = nI r from h]
  have : ¬ nI r = -1 := nI_ne (by omega)
  simp [this]
theorem m_fault1 {x : Int32} {Q : gS → Prop} (h : s.1 177 8 = -1) : wpX12_fault x s Q = Q (wi s 177 8 x) := by
  unfold wpX12_fault
  rw [m_fine1 h]
  simp
def isD (t : List Nat) (p : Nat) : Prop := p < t.length ∧ isDg (sg t p) = true
theorem sg8_dg {b : Nat} (h : isDg b = true) : sg8 b - 48 = nI (b - 48) := by
  unfold isDg at h
  simp at h
  have : ∀ b, b < 58 → 48 ≤ b → sg8 b - 48 = nI (b - 48) := by decide +kernel
  exact this b (by omega) h.1
theorem m_digit {p : Nat} {Q : Int32 → gS → Prop} (ht : okT t) (T : TX t s) (h7 : s.1 177 7 = nI p) (h8 : s.1 177 8 = -1) (hp2 : p < 1000) (k1 : isD t p → Q (nI (dg t p)) (wi s 177 7 (nI (p + 1)))) (k0 : ¬ isD t p → Q 0 (wi s 177 8 (nI p))) : wpX12_digit s Q := by
  have h80 := ht.1
  unfold wpX12_digit
  rw [m_fine1 h8]
  refine ⟨fun _ => ?_, fun h => absurd h (by decide)⟩
  by_cases hp : p < t.length
  · have hl := sg_lt ht p
    rw [m_here ht T h7 hp]
    show wpX12_in (nI (sg t p)) 48 57 s _
    rw [nI_i]
    show wpX12_in (iI (sg t p : Int)) (iI 48) (iI 57) s _
    rw [m_in (by omega) (by omega) (by decide) (by decide) (by decide) (by decide)]
    have hdd : decide ((48 : Int) ≤ (sg t p : Int) ∧ (sg t p : Int) ≤ 57) = isDg (sg t p) := by
      unfold isDg
      rw [Bool.eq_iff_iff, Bool.and_eq_true, decide_eq_true_eq, decide_eq_true_eq, decide_eq_true_eq]
      omega
    rw [hdd]
    cases hd : isDg (sg t p) with
    | true =>
      refine ⟨fun _ => ?_, fun h => absurd h (by decide)⟩
      have e1 : gi s 177 7 + 1 = nI (p + 1) := by
        show s.1 177 7 + 1 = _
        rw [h7]; exact nI_1 p
      have e2 : gi (wi s 177 7 (nI (p + 1))) 177 7 - 1 = nI p := by
        rw [show gi (wi s 177 7 (nI (p + 1))) 177 7 = nI (p + 1) from wi_at _ _ _ _]
        exact nI_pred p
      rw [e1, e2, ix_nI (by omega), show gi (wi s 177 7 (nI (p + 1))) 179 p = sg8 (sg t p) from by
        show (wi s 177 7 (nI (p + 1))).1 179 p = _
        rw [wi_na _ _ _ _ (by decide)]; exact T.2 p hp, sg8_dg hd]
      refine ⟨vp_in_nI (by omega) (by decide), ?_⟩
      have : dg t p = sg t p - 48 := by unfold dg; rw [if_pos ⟨hp, hd⟩]
      rw [← this]
      exact k1 ⟨hp, hd⟩
    | false =>
      refine ⟨fun h => absurd rfl h, fun _ => ?_⟩
      rw [m_fault1 h8, show gi s 177 7 = nI p from h7]
      exact k0 (fun h => by rw [h.2] at hd; cases hd)
  · rw [m_here0 T h7 (by omega) hp2]
    show wpX12_in (iI (-1)) (iI 48) (iI 57) s _
    rw [m_in (by decide) (by decide) (by decide) (by decide) (by decide) (by decide)]
    refine ⟨fun h => absurd h (by decide), fun _ => ?_⟩
    rw [m_fault1 h8, show gi s 177 7 = nI p from h7]
    exact k0 (fun h => hp h.1)
theorem m_digit0 {r : Nat} {Q : Int32 → gS → Prop} (hr : r < 1000) (h8 : s.1 177 8 = nI r) (k : Q 0 s) : wpX12_digit s Q := by
  unfold wpX12_digit
  rw [m_fine0 hr h8]
  exact ⟨fun h => absurd rfl h, fun _ => k⟩
/-- the first that is no digit of so many -/
def dfl (t : List Nat) : Nat → Nat → Option Nat
  | 0, _ => none
  | k + 1, q => if q < t.length ∧ isDg (sg t q) = true then dfl t k (q + 1) else some q
theorem dfl_flt : ∀ k n q, q + n = t.length → flt t n k q = match dfl t k q with | none => flt t (n - k) 0 (q + k) | some r => (r : Int) := by
  intro k
  induction k with
  | zero => intro n q _; rfl
  | succ k ih =>
    intro n q hq
    cases n with
    | zero =>
      rw [flt, if_neg (by omega), dfl, if_neg (by omega)]
    | succ n =>
      rw [flt, if_neg (by omega), dfl]
      by_cases hd : isDg (sg t q) = true
      case neg => rw [if_neg hd, if_neg (fun h => hd h.2)]
      case pos =>
        rw [if_pos hd, if_pos ⟨by omega, hd⟩, show k + 1 - 1 = k from rfl, ih n (q + 1) (by omega), show n + 1 - (k + 1) = n - k by omega, show q + (k + 1) = q + 1 + k by omega]
theorem dfl_lt : ∀ k q r, dfl t k q = some r → q ≤ r ∧ r < q + k := by
  intro k
  induction k with
  | zero => intro q r h; cases h
  | succ k ih =>
    intro q r h
    rw [dfl] at h
    split at h
    · have := ih _ _ h; omega
    · cases h; omega
/-- the cells of an act -/
def AD (t : List Nat) (x q : Nat) (s : gS) : Prop := s.1 189 x = nI (sg t q) ∧ (sg t q = 102 → s.1 189 (x + 1) = nI (dg t (q + 1) * 1000 + dg t (q + 2) * 100 + dg t (q + 3) * 10 + dg t (q + 4))) ∧ (sg t q ≠ 102 → ∀ k, dgN (sg t q) = some k → ∀ j, j < k → s.1 189 (x + 1 + j) = nI (dg t (q + 1 + j)))
/-- digits behind an act's sign -/
theorem m_r120 {x : Nat} {c : Int32} {Q : gS → Prop} (ht : okT t) (hx : x + 4 ≤ 320) (hc : ¬ c = 102) : ∀ k m j q, j + k = m + 1 → 1 ≤ j → m ≤ 3 → q + k < 500 → ∀ s : gS, TX t s → s.1 177 7 = nI q → s.1 177 8 = -1 → (dfl t k q = none → ∀ s', fm [189] [7] s s' → s'.1 177 7 = nI (q + k) → (∀ i, ¬ (x + j ≤ i ∧ i < x + j + k) → s'.1 189 i = s.1 189 i) → (∀ i, i < k → s'.1 189 (x + j + i) = nI (dg t (q + i))) → Q s') → (∀ r, dfl t k q = some r → ∀ s', fm [189] [7, 8] s s' → s'.1 177 8 = nI r → Q s') → ∃ n, wX12_readAct_120 (nI x) Q n c (nI m) (nI j) s := by
  -- after a fault
  have dead : ∀ k m j, j + k = m + 1 → 1 ≤ j → m ≤ 3 → ∀ (r : Nat) (s : gS), r < 1000 → s.1 177 8 = nI r → (∀ s', fm [189] [] s s' → Q s') → ∃ n, wX12_readAct_120 (nI x) Q n c (nI m) (nI j) s := by
    intro k
    induction k with
    | zero =>
      intro m j hj hj1 hm r s hr h8 kq
      refine ⟨1, ?_⟩
      rw [wX12_readAct_120]
      exact ⟨fun _ => ⟨fun h => absurd h hc, fun _ => kq s fm.rf⟩, fun h => absurd (nI_lt (by omega) (by omega)) h⟩
    | succ k ih =>
      intro m j hj hj1 hm r s hr h8 kq
      have e1 : nI x + nI j = nI (x + j) := nI_add x j
      obtain ⟨n, hn⟩ := ih m (j + 1) (by omega) (by omega) hm r (wi s 189 (x + j) 0) hr (by rw [wi_na _ _ _ _ (by decide)]; exact h8) (fun s' f => kq s' ((fm_wi (by decide) (by decide)).tr f))
      refine ⟨n + 1, ?_⟩
      rw [wX12_readAct_120]
      refine ⟨fun h => ?_, fun _ => m_digit0 hr h8 ?_⟩
      · rw [nI_ltI (by omega) (by omega)] at h; omega
      · rw [e1, ix_nI (by omega), nI_1]
        exact ⟨vp_in_nI (by omega) (by decide), hn⟩
  intro k
  induction k with
  | zero =>
    intro m j q hj hj1 hm hq s T h7 h8 k1 k0
    refine ⟨1, ?_⟩
    rw [wX12_readAct_120]
    exact ⟨fun _ => ⟨fun h => absurd h hc, fun _ => k1 rfl s fm.rf h7 (fun _ _ => rfl) (fun i hi => by omega)⟩, fun h => absurd (nI_lt (by omega) (by omega)) h⟩
  | succ k ih =>
    intro m j q hj hj1 hm hq s T h7 h8 k1 k0
    have e1 : nI x + nI j = nI (x + j) := nI_add x j
    by_cases hd : q < t.length ∧ isDg (sg t q) = true
    · have hdf : dfl t (k + 1) q = dfl t k (q + 1) := by rw [dfl, if_pos hd]
      rw [hdf] at k1 k0
      have ⟨n, hn⟩ : ∃ n, wX12_readAct_120 (nI x) Q n c (nI m) (nI (j + 1)) (wi (wi s 177 7 (nI (q + 1))) 189 (x + j) (nI (dg t q))) := by
        refine ih m (j + 1) (q + 1) (by omega) (by omega) hm (by omega) (wi (wi s 177 7 (nI (q + 1))) 189 (x + j) (nI (dg t q))) (T.cg (by rw [wi_na _ _ _ _ (by decide), wi_ne _ _ _ _ (by decide)]) (by rw [wi_na _ _ _ _ (by decide), wi_na _ _ _ _ (by decide)])) (by rw [wi_na _ _ _ _ (by decide), wi_at]) (by rw [wi_na _ _ _ _ (by decide), wi_ne _ _ _ _ (by decide)]; exact h8) (fun hn s' f a7 b c2 => k1 hn s' ((fm_wf (by decide)).tr ((fm_wi (by decide) (by decide)).tr f)) (by rw [a7]; congr 1; omega) (fun i hi => ?_) (fun i hi => ?_)) (fun r hr s' f a8 => k0 r hr s' ((fm_wf (by decide)).tr ((fm_wi (by decide) (by decide)).tr f)) a8)
        · rw [b i (by omega), wi_ne _ _ _ _ (by omega), wi_na _ _ _ _ (by decide)]
        · by_cases hi0 : i = 0
          · subst hi0
            rw [b _ (by omega), show x + j + 0 = x + j from rfl, wi_at]
            rfl
          · have := c2 (i - 1) (by omega)
            rw [show x + (j + 1) + (i - 1) = x + j + i by omega, show q + 1 + (i - 1) = q + i by omega] at this
            exact this
      refine ⟨n + 1, ?_⟩
      rw [wX12_readAct_120]
      refine ⟨fun h => ?_, fun _ => m_digit ht T h7 h8 (by omega) (fun _ => ?_) (fun h => absurd hd h)⟩
      · rw [nI_ltI (by omega) (by omega)] at h; omega
      · rw [e1, ix_nI (by omega), nI_1]
        exact ⟨vp_in_nI (by omega) (by decide), hn⟩
    · have hdf : dfl t (k + 1) q = some q := by rw [dfl, if_neg hd]
      obtain ⟨n, hn⟩ := dead k m (j + 1) (by omega) (by omega) hm q (wi (wi s 177 8 (nI q)) 189 (x + j) 0) (by omega) (by rw [wi_na _ _ _ _ (by decide), wi_at]) (fun s' f => k0 q hdf s' ((fm_wf (by decide)).tr ((fm_wi (by decide) (by decide)).tr (f.mono (by decide) (by decide)))) (by rw [f.2.1 8 (by decide), wi_na _ _ _ _ (by decide), wi_at]))
      refine ⟨n + 1, ?_⟩
      rw [wX12_readAct_120]
      refine ⟨fun h => ?_, fun _ => m_digit ht T h7 h8 (by omega) (fun h => absurd h hd) (fun _ => ?_)⟩
      · rw [nI_ltI (by omega) (by omega)] at h; omega
      · rw [e1, ix_nI (by omega), nI_1]
        exact ⟨vp_in_nI (by omega) (by decide), hn⟩
end WORK
