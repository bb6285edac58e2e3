/-! phrases: the class splits a text into words -/
section SPLIT
variable {t : List Nat} {s s' : gS} {Q : Int32 → gS → Prop} {p q e : Nat}
theorem c_isLetter (ht : okT t) (T : txC t s) (hp : p < t.length) : wpX9_isLetter (nI p) s Q = Q (bi (isLt (sg t p))) s := by
  have hl := sg_lt ht p
  unfold wpX9_isLetter isLt
  rw [c_signAt ht T hp, show (97 : Int32) = nI 97 from rfl, show (122 : Int32) = nI 122 from rfl, nI_ltI (by omega) (by decide), nI_ltI (by decide) (by omega)]
  by_cases h1 : sg t p < 97
  · simp [h1, show ¬ 97 ≤ sg t p by omega, bi]
  · by_cases h2 : 122 < sg t p
    · simp [h1, h2, show ¬ sg t p ≤ 122 by omega, bi]
    · simp [h1, h2, show 97 ≤ sg t p by omega, show sg t p ≤ 122 by omega, bi]
theorem c_isLetter0 (T : txC t s) (hp : t.length ≤ p) (hp2 : p < 1000) : wpX9_isLetter (nI p) s Q = Q 0 s := by
  unfold wpX9_isLetter
  rw [c_signAt0 T hp hp2]
  simp [show (-1 : Int32) < 97 by decide]
theorem g80 {i : Nat} (hi : i < 1000) : (80 ≤ nI i) = (80 ≤ i) := by rw [show (80 : Int32) = nI 80 from rfl, nI_leI (by decide) (by omega)]
theorem c_blanks (ht : okT t) (T : txC t s) (hp : p < 500) (k : Q (nI (tq t p)) s) : wpX10_endOfBlanks (nI p) s Q := by
  have Lp : ∀ n i p, i + n = 80 → p + n < 1000 → Q (nI (skp isBl t n p)) s → ∀ x, wX10_endOfBlanks_4 x Q (n + 1) (nI p) (nI i) s := by
    intro n
    induction n with
    | zero =>
      intro i p hi hp k x
      rw [wX10_endOfBlanks_4, g80 (by omega)]
      exact ⟨fun _ => k, fun h => absurd (by omega) h⟩
    | succ n ih =>
      intro i p hi hp k x
      rw [wX10_endOfBlanks_4, g80 (by omega), nI_1, nI_1]
      refine ⟨fun h => absurd h (by omega), fun _ => ?_⟩
      by_cases h : p < t.length
      · have hl := sg_lt ht p
        have e : (nI (sg t p) = 32) = (isBl (sg t p) = true) := by
          rw [show (32 : Int32) = nI 32 from rfl, nI_eq (by omega) (by decide)]
          unfold isBl
          simp
        rw [c_signAt ht T h, e]
        refine ⟨fun h2 => ?_, fun h2 => ih (i + 1) (p + 1) (by omega) (by omega) ?_ x⟩
        · rw [skp, if_neg (fun c => h2 c.2)] at k
          exact k
        · rw [skp, if_pos ⟨h, h2⟩] at k
          exact k
      · rw [c_signAt0 T (by omega) (by omega)]
        refine ⟨fun _ => ?_, fun h2 => absurd h2 (by decide)⟩
        rw [skp, if_neg (fun c => h c.1)] at k
        exact k
  exact ⟨81, Lp 80 0 p rfl (by omega) k _⟩
theorem c_digits (ht : okT t) (T : txC t s) (hp : p < 500) (k : Q (nI (tN t p)) s) : wpX10_endOfDigits (nI p) s Q := by
  have Lp : ∀ n i p, i + n = 4 → p + n < 1000 → Q (nI (skp isDg t n p)) s → ∀ x, wX10_endOfDigits_4 x Q (n + 1) (nI p) (nI i) s := by
    intro n
    induction n with
    | zero =>
      intro i p hi hp k x
      rw [wX10_endOfDigits_4, show (4 : Int32) = nI 4 from rfl, nI_leI (by decide) (by omega)]
      exact ⟨fun _ => k, fun h => absurd (by omega) h⟩
    | succ n ih =>
      intro i p hi hp k x
      rw [wX10_endOfDigits_4, show (4 : Int32) = nI 4 from rfl, nI_leI (by decide) (by omega), nI_1, nI_1]
      refine ⟨fun h => absurd h (by omega), fun _ => ?_⟩
      by_cases h : p < t.length
      · rw [c_isDigit ht T h, bi_0]
        refine ⟨fun h2 => ?_, fun h2 => ih (i + 1) (p + 1) (by omega) (by omega) ?_ x⟩
        · rw [skp, if_neg (fun c => by rw [h2] at c; cases c.2)] at k
          exact k
        · rw [skp, if_pos ⟨h, by simpa using h2⟩] at k
          exact k
      · rw [c_isDigit0 T (by omega) (by omega)]
        refine ⟨fun _ => ?_, fun h2 => absurd rfl h2⟩
        rw [skp, if_neg (fun c => h c.1)] at k
        exact k
  exact ⟨5, Lp 4 0 p rfl (by omega) k _⟩
theorem c_letters (ht : okT t) (T : txC t s) (hp : p < 500) (k : Q (nI (tL t p)) s) : wpX10_endOfLetters (nI p) s Q := by
  have Lp : ∀ n i p, i + n = 80 → p + n < 1000 → Q (nI (skp isLt t n p)) s → ∀ x, wX10_endOfLetters_4 x Q (n + 1) (nI p) (nI i) s := by
    intro n
    induction n with
    | zero =>
      intro i p hi hp k x
      rw [wX10_endOfLetters_4, g80 (by omega)]
      exact ⟨fun _ => k, fun h => absurd (by omega) h⟩
    | succ n ih =>
      intro i p hi hp k x
      rw [wX10_endOfLetters_4, g80 (by omega), nI_1, nI_1]
      refine ⟨fun h => absurd h (by omega), fun _ => ?_⟩
      by_cases h : p < t.length
      · rw [c_isLetter ht T h, bi_0]
        refine ⟨fun h2 => ?_, fun h2 => ih (i + 1) (p + 1) (by omega) (by omega) ?_ x⟩
        · rw [skp, if_neg (fun c => by rw [h2] at c; cases c.2)] at k
          exact k
        · rw [skp, if_pos ⟨h, by simpa using h2⟩] at k
          exact k
      · rw [c_isLetter0 T (by omega) (by omega)]
        refine ⟨fun _ => ?_, fun h2 => absurd rfl h2⟩
        rw [skp, if_neg (fun c => h c.1)] at k
        exact k
  exact ⟨81, Lp 80 0 p rfl (by omega) k _⟩
theorem c_numK (ht : okT t) (T : txC t s) (hq : q ≤ e) (he : e < 500) (k1 : e < t.length ∧ isDg (sg t e) = true → Q 40 s) (k0 : ¬ (e < t.length ∧ isDg (sg t e) = true) → Q (nI (100 + dfn t 0 (e - q) q)) s) : wpX10_numberKind (nI q) (nI e) s Q := by
  unfold wpX10_numberKind
  have Lp : ∀ n v p, p + n = e → Q (nI (100 + dfn t v n p)) s → wX10_numberKind_16 (nI q) (nI e) Q (n + 1) (nI v) (nI p) s := by
    intro n
    induction n with
    | zero =>
      intro v p hp k
      rw [wX10_numberKind_16, nI_leI (by omega) (by omega)]
      refine ⟨fun _ => ?_, fun h => absurd (by omega) h⟩
      rw [show (100 : Int32) = nI 100 from rfl, nI_i, nI_i, iI_add]
      rw [nI_i] at k
      exact k
    | succ n ih =>
      intro v p hp k
      rw [wX10_numberKind_16, nI_leI (by omega) (by omega), c_digitAt ht T (by omega), nI_1]
      refine ⟨fun h => absurd h (by omega), fun _ => ?_⟩
      have e2 : nI v * 10 + nI (dg t p) = nI (10 * v + dg t p) := by
        rw [← nI_ten]
        simp only [lit_i, nI_i, iI_add, iI_mul]
        congr 1
        omega
      rw [e2]
      exact ih _ (p + 1) (by omega) k
  have K0 : ¬ (e < t.length ∧ isDg (sg t e) = true) → ∃ n16, wX10_numberKind_16 (nI q) (nI e) Q n16 0 (nI q) s := fun h => ⟨_, Lp (e - q) 0 q (by omega) (k0 h)⟩
  by_cases h : e < t.length
  · rw [c_isDigit ht T h, bi_0]
    refine ⟨fun h2 => K0 (fun c => ?_), fun h2 => k1 ⟨h, by simpa using h2⟩⟩
    rw [h2] at c
    cases c.2
  · rw [c_isDigit0 T (by omega) (by omega)]
    exact ⟨fun _ => K0 (fun c => h c.1), fun h2 => absurd rfl h2⟩
def lkN (r : Option (List Nat)) (c : Nat) : Option (List Nat) := match r with
  | some (x :: u) => if x = c then some u else none
  | some [] => none
  | none => none
def lkL (v : List Nat) : List Nat → Nat → Option (List Nat) → Nat
  | [], _, _ => 40
  | c :: cs, k, r => if c = 32 then (if r = some [] then k else lkL v cs (k + 1) (some v)) else lkL v cs k (lkN r c)
theorem lk_none {v : List Nat} : ∀ (w : List Nat) (k : Nat) (cs : List Nat), (∀ c, c ∈ w → c ≠ 32) → lkL v (w ++ 32 :: cs) k none = lkL v cs (k + 1) (some v) := by
  intro w
  induction w with
  | nil => intro k cs _; simp [lkL]
  | cons c w ih =>
    intro k cs h
    rw [List.cons_append, lkL, if_neg (h c (List.mem_cons_self ..))]
    exact ih k cs (fun x hx => h x (List.mem_cons_of_mem _ hx))
theorem lk_some {v : List Nat} : ∀ (w u : List Nat) (k : Nat) (cs : List Nat), (∀ c, c ∈ w → c ≠ 32) → lkL v (w ++ 32 :: cs) k (some u) = if u = w then k else lkL v cs (k + 1) (some v) := by
  intro w
  induction w with
  | nil => intro u k cs _; simp [lkL]
  | cons c w ih =>
    intro u k cs h
    have hw : ∀ x, x ∈ w → x ≠ 32 := fun x hx => h x (List.mem_cons_of_mem _ hx)
    rw [List.cons_append, lkL, if_neg (h c (List.mem_cons_self ..))]
    cases u with
    | nil =>
      rw [if_neg (by simp)]
      exact lk_none w k cs hw
    | cons x u =>
      by_cases hx : x = c
      · subst hx
        show lkL v (w ++ 32 :: cs) k (if x = x then some u else none) = _
        rw [if_pos rfl, ih u k cs hw]
        simp
      · show lkL v (w ++ 32 :: cs) k (if x = c then some u else none) = _
        rw [if_neg hx, lk_none w k cs hw, if_neg (fun e => hx (List.cons.inj e).1)]
theorem lk_all {v : List Nat} : ∀ (ws : List (List Nat)) (k : Nat), (∀ w, w ∈ ws → ∀ c, c ∈ w → c ≠ 32) → lkL v (ws.flatMap (fun w => w ++ [32])) k (some v) = if ws.idxOf v < ws.length then k + ws.idxOf v else 40 := by
  intro ws
  induction ws with
  | nil => intro k _; rfl
  | cons w ws ih =>
    intro k h
    rw [List.flatMap_cons, List.append_assoc]
    show lkL v (w ++ 32 :: ws.flatMap (fun w => w ++ [32])) k (some v) = _
    rw [lk_some w v k _ (h w (List.mem_cons_self ..)), ih (k + 1) (fun x hx => h x (List.mem_cons_of_mem _ hx)), List.idxOf_cons]
    by_cases hv : v = w
    · subst hv
      simp
    · have hv2 : (w == v) = false := by simp; exact fun e => hv e.symm
      rw [if_neg hv, hv2]
      simp only [cond_false, List.length_cons]
      by_cases h2 : ws.idxOf v < ws.length
      · rw [if_pos h2, if_pos (by omega)]
        omega
      · rw [if_neg h2, if_neg (by omega)]
def LSc : List Nat := wdL.flatMap (fun w => w ++ [32])
theorem LS_len : LSc.length = (g_sb 1000).length ∧ sl 1000 = nI LSc.length ∧ LSc.length < 200 := by decide +kernel
theorem LS_ch : ∀ j, j < LSc.length → sch 1000 j = nI (LSc.getD j 0) ∧ LSc.getD j 0 < 128 := by decide +kernel
theorem lk_idx (v : List Nat) : lkL v LSc 0 (some v) = wdL.idxOf v := by
  unfold LSc
  rw [lk_all wdL 0 (by decide +kernel)]
  have := idx_le v
  rw [wdL_len]
  split <;> omega
theorem slc_cons {q e : Nat} (h : q < e) (he : e ≤ t.length) : slc t q e = sg t q :: slc t (q + 1) e := by
  unfold slc sg
  rw [List.drop_eq_getElem_cons (show q < t.length by omega), show e - q = (e - (q + 1)) + 1 by omega, List.take_succ_cons, List.getD_eq_getElem?_getD, List.getElem?_eq_getElem (show q < t.length by omega)]
  rfl
theorem slc_nil {q e : Nat} (h : e ≤ q) : slc t q e = [] := by
  unfold slc
  rw [show e - q = 0 by omega, List.take_zero]
theorem c_letK (ht : okT t) (T : txC t s) (hq : q ≤ e) (he : e ≤ t.length) (k : Q (nI (wdL.idxOf (slc t q e))) s) : wpX10_letterKind (nI q) (nI e) s Q := by
  have h80 := ht.1
  obtain ⟨l1, l2, l3⟩ := LS_len
  obtain ⟨Ln, hLn⟩ : ∃ n, n = LSc.length := ⟨_, rfl⟩
  have Lp : ∀ n i k y (r : Option (List Nat)), i + n = Ln → k ≤ i → y ≤ i + 100 → (∀ u, r = some u → y ≤ e ∧ u = slc t y e) → Q (nI (lkL (slc t q e) (LSc.drop i) k r)) s → wX10_letterKind_11 (nI q) (nI e) Q (n + 1) (nI k) (nI y) (bi r.isSome) (nI i) s := by
    intro n
    induction n with
    | zero =>
      intro i k y r hi hk hy hr K
      have hi0 : i = LSc.length := by omega
      rw [wX10_letterKind_11, l2]
      refine ⟨fun _ => ?_, fun h => absurd (nI_le (by omega) (by omega)) h⟩
      rw [hi0, List.drop_length] at K
      exact K
    | succ n ih =>
      intro i k y r hi hk hy hr K
      have hil : i < LSc.length := by omega
      obtain ⟨c1, c2⟩ := LS_ch i hil
      have hc : LSc[i] = LSc.getD i 0 := by rw [List.getD_eq_getElem?_getD, List.getElem?_eq_getElem hil]; rfl
      rw [List.drop_eq_getElem_cons hil, hc, lkL] at K
      have e32 : (nI (LSc.getD i 0) = 32) = (LSc.getD i 0 = 32) := by rw [show (32 : Int32) = nI 32 from rfl, nI_eq (by omega) (by decide)]
      rw [wX10_letterKind_11, l2, ix_nI (by omega), c1, e32, bi_0]
      refine ⟨fun h => absurd ((nI_leI (by omega) (by omega)).mp h) (by omega), fun _ => ⟨vp_in_nI (by omega) (by omega), fun h => ?_, fun h => ?_⟩⟩
      · rw [if_pos h] at K
        have nx : r ≠ some [] → wX10_letterKind_85 (nI q) (nI e) Q (fun y3 y4 y5 y6 s => wX10_letterKind_11 (nI q) (nI e) Q (n + 1) y3 y4 y5 y6 s) (nI k) (nI i) s := by
          intro hne
          rw [if_neg hne] at K
          unfold wX10_letterKind_85
          rw [nI_1, nI_1]
          exact ih (i + 1) (k + 1) q (some (slc t q e)) (by omega) (by omega) (by omega) (fun u hu => ⟨hq, by cases hu; rfl⟩) K
        refine ⟨fun h2 => nx (fun c => by rw [c] at h2; cases h2), fun h2 => ⟨fun h3 => nx (fun c => ?_), fun h3 => ?_⟩⟩
        · obtain ⟨a1, a2⟩ := hr _ c
          have : e ≤ y := by
            by_cases hh : e ≤ y
            · exact hh
            · rw [slc_cons (by omega) he] at a2
              cases a2
          exact h3 (by rw [show y = e by omega])
        · have hy2 : y = e := by rwa [nI_eq (by omega) (by omega)] at h3
          cases r with
          | none => exact absurd rfl h2
          | some u =>
            obtain ⟨a1, a2⟩ := hr _ rfl
            rw [slc_nil (by omega)] at a2
            rw [a2, if_pos rfl] at K
            exact K
      · rw [if_neg h] at K
        have dead : lkN r (LSc.getD i 0) = none → wX10_letterKind_63 (nI q) (nI e) Q (wX10_letterKind_64 (nI q) (nI e) Q (fun y3 y4 y5 y6 s => wX10_letterKind_11 (nI q) (nI e) Q (n + 1) y3 y4 y5 y6 s)) (nI k) (nI y) (nI i) s := by
          intro hn
          rw [hn] at K
          unfold wX10_letterKind_63 wX10_letterKind_64
          rw [nI_1, nI_1]
          exact ih (i + 1) k (y + 1) none (by omega) (by omega) (by omega) (fun u hu => by cases hu) K
        refine ⟨fun h2 => dead ?_, fun h2 => ⟨fun h3 => dead ?_, fun h3 => ?_⟩⟩
        · cases r with
          | none => rfl
          | some u => cases h2
        · cases r with
          | none => rfl
          | some u =>
            obtain ⟨a1, a2⟩ := hr _ rfl
            rw [nI_leI (by omega) (by omega)] at h3
            rw [slc_nil (by omega)] at a2
            subst a2
            rfl
        · rw [nI_leI (by omega) (by omega)] at h3
          rw [c_signAt ht T (by omega)]
          have hl := sg_lt ht y
          rw [nI_eq (by omega) (by omega)]
          cases r with
          | none => exact absurd rfl h2
          | some u =>
            obtain ⟨a1, a2⟩ := hr _ rfl
            rw [slc_cons (by omega) he] at a2
            subst a2
            refine ⟨fun h4 => dead ?_, fun h4 => ?_⟩
            · show (if sg t y = LSc.getD i 0 then _ else _) = none
              rw [if_neg h4]
            · have K : Q (nI (lkL (slc t q e) (LSc.drop (i + 1)) k (if sg t y = LSc.getD i 0 then some (slc t (y + 1) e) else none))) s := K
              rw [if_pos h4] at K
              unfold wX10_letterKind_64
              rw [nI_1, nI_1]
              exact ih (i + 1) k (y + 1) (some (slc t (y + 1) e)) (by omega) (by omega) (by omega) (fun u hu => ⟨by omega, by cases hu; rfl⟩) K
  refine ⟨Ln + 1, Lp Ln 0 0 q (some (slc t q e)) (by omega) (by omega) (by omega) (fun u hu => ⟨hq, by cases hu; rfl⟩) ?_⟩
  rw [List.drop_zero, lk_idx]
  exact k
end SPLIT
