/-! work: acts in a text, and the class -/
section WORK
variable {t : List Nat} {L : List Int32} {g g' : Sy} {us us' : List Sy} {ks : Nat → Option Sy} {s s' : gS} {K : gS → Prop} {Q : Int32 → gS → Prop}
def sg (t : List Nat) (p : Nat) : Nat := t.getD p 0
def isDg (c : Nat) : Bool := decide (48 ≤ c) && decide (c ≤ 57)
def dgN (c : Nat) : Option Nat := if c = 100 then some 1 else if c = 102 then some 4 else if c = 103 then some 1 else if c = 105 then some 2 else if c = 110 then some 0 else if c = 111 then some 3 else if c = 114 then some 2 else none
def dgI : Option Nat → Int32
  | none => -1
  | some k => nI k
theorem dgN_le {c k : Nat} (h : dgN c = some k) : k ≤ 4 := by
  unfold dgN at h
  (repeat' split at h) <;> cases h <;> decide
theorem sg_lt (ht : okT t) (p : Nat) : sg t p < 256 := by
  unfold sg
  rw [List.getD_eq_getElem?_getD]
  by_cases h : p < t.length
  · rw [List.getElem?_eq_getElem h]
    exact ht.2 _ (List.getElem_mem h)
  · rw [List.getElem?_eq_none (by omega)]
    decide
theorem c_signAt {p : Nat} (ht : okT t) (T : txC t s) (hp : p < t.length) : wpX9_signAt (nI p) s Q = Q (nI (sg t p)) s := by
  have h80 := ht.1
  unfold wpX9_signAt
  have e1 : gi s 1 1 = nI t.length := T.1
  have e2 : gi s 2 p = nI (sg t p) := T.2 p hp
  have hle : (nI t.length ≤ nI p) = False := by
    rw [nI_leI (by omega) (by omega)]
    simp; omega
  have h8 : (80 ≤ nI p) = False := by
    rw [show (80 : Int32) = nI 80 from rfl, nI_leI (by decide) (by omega)]
    simp; omega
  simp only [ltz (show p < 2 ^ 31 by omega), e1, hle, h8, ix_nI (show p < 2 ^ 31 by omega), e2, vp_in_nI (show p < 80 by omega) (show 80 < 2 ^ 31 by decide), false_implies, true_and, not_false_eq_true, true_implies]
theorem c_signAt0 {p : Nat} (T : txC t s) (hp : t.length ≤ p) (hp2 : p < 1000) : wpX9_signAt (nI p) s Q = Q (-1) s := by
  unfold wpX9_signAt
  have e1 : gi s 1 1 = nI t.length := T.1
  have hle : nI t.length ≤ nI p := nI_le hp (by omega)
  simp only [ltz (show p < 2 ^ 31 by omega), e1, hle, false_implies, true_and, not_false_eq_true, true_implies, not_true_eq_false, and_true]
theorem c_isDigit {p : Nat} (ht : okT t) (T : txC t s) (hp : p < t.length) : wpX9_isDigit (nI p) s Q = Q (bi (isDg (sg t p))) s := by
  have hl := sg_lt ht p
  unfold wpX9_isDigit isDg
  rw [c_signAt ht T hp, show (48 : Int32) = nI 48 from rfl, show (57 : Int32) = nI 57 from rfl, nI_ltI (by omega) (by decide), nI_ltI (by decide) (by omega)]
  by_cases h1 : sg t p < 48
  · simp [h1, show ¬ 48 ≤ sg t p by omega, bi]
  · by_cases h2 : 57 < sg t p
    · simp [h1, h2, show ¬ sg t p ≤ 57 by omega, bi]
    · simp [h1, h2, show 48 ≤ sg t p by omega, show sg t p ≤ 57 by omega, bi]
theorem c_isDigit0 {p : Nat} (T : txC t s) (hp : t.length ≤ p) (hp2 : p < 1000) : wpX9_isDigit (nI p) s Q = Q 0 s := by
  unfold wpX9_isDigit
  rw [c_signAt0 T hp hp2]
  simp [show (-1 : Int32) < 48 by decide]
/-- a digit that stands there, else 0 -/
def dg (t : List Nat) (p : Nat) : Nat := if p < t.length ∧ isDg (sg t p) = true then sg t p - 48 else 0
theorem dg_lt (t : List Nat) (p : Nat) : dg t p < 10 := by
  unfold dg
  split
  next h =>
    have := h.2
    unfold isDg at this
    simp at this
    omega
  next => decide
theorem c_digitAt {p : Nat} (ht : okT t) (T : txC t s) (hp2 : p < 1000) : wpX9_digitAt (nI p) s Q = Q (nI (dg t p)) s := by
  unfold wpX9_digitAt dg
  by_cases hp : p < t.length
  · rw [c_isDigit ht T hp, c_signAt ht T hp]
    simp only [bi_0]
    cases hd : isDg (sg t p) with
    | false => simp; exact Iff.rfl
    | true =>
      have h48 : 48 ≤ sg t p := by unfold isDg at hd; simp at hd; omega
      have e : nI (sg t p) - 48 = nI (sg t p - 48) := by
        have hl := sg_lt ht p
        rw [nI_i, show (48 : Int32) = iI 48 from rfl, iI_sub, nI_i]
        congr 1
        omega
      rw [e]
      simp [hp]
  · rw [c_isDigit0 T (by omega) hp2]
    simp [hp]
    exact Iff.rfl
theorem c_dgAct {c : Nat} (hc : c < 256) : wpX11_digitsOfAct (nI c) s Q = Q (dgI (dgN c)) s := by
  unfold wpX11_digitsOfAct dgN
  have z : ∀ k : Nat, k < 256 → (nI c = nI k) = (c = k) := fun k hk => by rw [nI_eq (by omega) (by omega)]
  rw [show (100 : Int32) = nI 100 from rfl, show (102 : Int32) = nI 102 from rfl, show (103 : Int32) = nI 103 from rfl, show (105 : Int32) = nI 105 from rfl, show (110 : Int32) = nI 110 from rfl, show (111 : Int32) = nI 111 from rfl, show (114 : Int32) = nI 114 from rfl, z 100 (by decide), z 102 (by decide), z 103 (by decide), z 105 (by decide), z 110 (by decide), z 111 (by decide), z 114 (by decide)]
  by_cases h1 : c = 100
  · subst h1; simp; exact Iff.rfl
  · by_cases h2 : c = 102
    · subst h2; simp; exact Iff.rfl
    · by_cases h3 : c = 103
      · subst h3; simp; exact Iff.rfl
      · by_cases h4 : c = 105
        · subst h4; simp; exact Iff.rfl
        · by_cases h5 : c = 110
          · subst h5; simp; exact Iff.rfl
          · by_cases h6 : c = 111
            · subst h6; simp; exact Iff.rfl
            · by_cases h7 : c = 114
              · subst h7; simp; exact Iff.rfl
              · simp [h1, h2, h3, h4, h5, h6, h7]; exact Iff.rfl
/-- where the text is wrong; -1: nowhere -/
def flt (t : List Nat) : Nat → Nat → Nat → Int
  | 0, k, p => if k = 0 then -1 else (p : Int)
  | n + 1, k, p => if k = 0 then (match dgN (sg t p) with | none => (p : Int) | some k' => flt t n k' (p + 1)) else (if isDg (sg t p) then flt t n (k - 1) (p + 1) else (p : Int))
theorem c_fault (ht : okT t) (T : txC t s) (k : Q (iI (flt t t.length 0 0)) s) : wpX11_faultOfWork s Q := by
  have h80 := ht.1
  have e1 : gi s 1 1 = nI t.length := T.1
  have Lp : ∀ n p c, p + n = t.length → c ≤ 4 → flt t n c p = flt t t.length 0 0 → wX11_faultOfWork_4 Q (n + 1) (nI c) (nI p) s := by
    intro n
    induction n with
    | zero =>
      intro p c hp hc hf
      have : p = t.length := by omega
      have hz : (nI c ≤ 0) = (c ≤ 0) := by rw [show (0 : Int32) = nI 0 from rfl, nI_leI (by omega) (by decide)]
      rw [wX11_faultOfWork_4, e1, hz]
      refine ⟨fun _ => ⟨fun h => ?_, fun h => ?_⟩, fun h => absurd (nI_le (by omega) (by omega)) h⟩
      · have hc0 : c = 0 := by omega
        rw [flt, if_pos hc0] at hf
        rw [← hf] at k
        exact k
      · rw [flt, if_neg (by omega)] at hf
        rw [← hf, this, ← nI_i] at k
        exact k
    | succ n ih =>
      intro p c hp hc hf
      have hle : ¬ nI t.length ≤ nI p := by
        rw [nI_leI (by omega) (by omega)]
        omega
      rw [wX11_faultOfWork_4, e1]
      refine ⟨fun h => absurd h hle, fun _ => ?_⟩
      have hz : (nI c ≤ 0) = (c ≤ 0) := by rw [show (0 : Int32) = nI 0 from rfl, nI_leI (by omega) (by decide)]
      rw [hz]
      refine ⟨fun h => ?_, fun h => ?_⟩
      · have hc0 : c = 0 := by omega
        rw [flt, if_pos hc0] at hf
        rw [c_signAt ht T (by omega), c_dgAct (sg_lt ht p), nI_1]
        cases hd : dgN (sg t p) with
        | none =>
          rw [hd] at hf
          refine ⟨fun h => absurd rfl h, fun _ => ?_⟩
          rw [← hf, ← nI_i] at k
          exact k
        | some k' =>
          rw [hd] at hf
          have := dgN_le hd
          exact ⟨fun _ => ih (p + 1) k' (by omega) this hf, fun h => absurd h (nI_ne (by omega))⟩
      · rw [flt, if_neg (by omega)] at hf
        rw [c_isDigit ht T (by omega), nI_1]
        simp only [bi_0]
        cases hd : isDg (sg t p) with
        | false =>
          rw [hd] at hf
          refine ⟨fun h => absurd rfl h, fun _ => ?_⟩
          have hf' : (p : Int) = flt t t.length 0 0 := hf
          rw [← hf', ← nI_i] at k
          exact k
        | true =>
          rw [hd] at hf
          refine ⟨fun _ => ?_, fun h => (by cases h)⟩
          have e2 : nI c + (-1) = nI (c - 1) := by
            rw [nI_i, show (-1 : Int32) = iI (-1) from rfl, iI_add, nI_i]
            congr 1
            omega
          rw [e2]
          exact ih (p + 1) (c - 1) (by omega) (by omega) hf
  exact ⟨t.length + 1, Lp t.length 0 0 (by omega) (by decide) rfl⟩
theorem flt_dig : ∀ k n p, flt t n k p = -1 → k ≤ n ∧ (∀ j, j < k → isDg (sg t (p + j)) = true) ∧ flt t (n - k) 0 (p + k) = -1 := by
  intro k
  induction k with
  | zero => intro n p h; exact ⟨Nat.zero_le _, fun j hj => by omega, h⟩
  | succ k ih =>
    intro n p h
    cases n with
    | zero => rw [flt, if_neg (by omega)] at h; omega
    | succ n =>
      rw [flt, if_neg (by omega)] at h
      cases hd : isDg (sg t p) with
      | false =>
        rw [hd] at h
        have h' : (p : Int) = -1 := h
        omega
      | true =>
        rw [hd] at h
        obtain ⟨a1, a2, a3⟩ := ih n (p + 1) h
        refine ⟨by omega, fun j hj => ?_, ?_⟩
        · by_cases hj0 : j = 0
          · subst hj0; exact hd
          · have := a2 (j - 1) (by omega)
            rw [show p + 1 + (j - 1) = p + j by omega] at this
            exact this
        · rw [show n + 1 - (k + 1) = n - k by omega, show p + (k + 1) = p + 1 + k by omega]
          exact a3
theorem flt_act {n p : Nat} (h : flt t (n + 1) 0 p = -1) : ∃ k, dgN (sg t p) = some k ∧ k ≤ n ∧ (∀ j, j < k → isDg (sg t (p + 1 + j)) = true) ∧ flt t (n - k) 0 (p + 1 + k) = -1 := by
  rw [flt, if_pos rfl] at h
  cases hd : dgN (sg t p) with
  | none =>
    rw [hd] at h
    have h' : (p : Int) = -1 := h
    omega
  | some k =>
    rw [hd] at h
    obtain ⟨a1, a2, a3⟩ := flt_dig k n (p + 1) h
    exact ⟨k, rfl, a1, a2, a3⟩
/-- one act: what it makes of the story, or that it fails -/
def ac1 (g : Sy) (c a b d e : Nat) : Option Sy := if c = 100 then (if a < 6 ∧ tl g a = true then some (drG g a) else none) else if c = 102 then (if g 0 = nI (a * 1000 + b * 100 + d * 10 + e) then none else some (up g 0 (nI (a * 1000 + b * 100 + d * 10 + e)))) else if c = 103 then (if a < no g then some (rmO g a) else none) else if c = 105 then (if a < 6 ∧ b < mn g a ∧ inn g a b = false then some (ruG g a b true) else none) else if c = 110 then (if chs g = [] ∨ nOut g 6 = 0 then none else some (naG g)) else if c = 111 then (if a < 5 ∧ b < 6 ∧ d < 6 ∧ b ≠ d ∧ exB g a b d = false ∧ no g < 10 then some (adO g a b d) else none) else if c = 114 then (if a < 6 ∧ b < mn g a ∧ inn g a b = true then some (ruG g a b false) else none) else none
theorem ok_ac1 {c a b d e : Nat} (U : okU g) (ha : a < 10) (hb : b < 10) (hd : d < 10) (he : e < 10) (h : ac1 g c a b d e = some g') : okU g' := by
  unfold ac1 at h
  split at h
  · split at h
    next hc => cases h; exact ok_dr U hc.1
    next => cases h
  · split at h
    · split at h
      · cases h
      · cases h
        rw [nI_i]
        exact ok_ref U (by omega)
    · split at h
      · split at h
        next hc => cases h; exact ok_rm U hc
        next => cases h
      · split at h
        · split at h
          next hc => cases h; exact ok_ru U hc.1 hc.2.1
          next => cases h
        · split at h
          · split at h
            · cases h
            · cases h; exact ok_na U
          · split at h
            · split at h
              next hc => cases h; exact ok_adU U hc.2.2.2.2.2 hc.1 hc.2.1 hc.2.2.1 hc.2.2.2.1
              next => cases h
            · split at h
              · split at h
                next hc => cases h; exact ok_ru U hc.1 hc.2.1
                next => cases h
              · cases h
def acP (t : List Nat) (g : Sy) (p : Nat) : Option Sy := ac1 g (sg t p) (dg t (p + 1)) (dg t (p + 2)) (dg t (p + 3)) (dg t (p + 4))
end WORK
