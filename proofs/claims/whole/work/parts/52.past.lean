/-! the past: what is undone -/
section PAST
variable {t : List Nat} {L : List Int32} {g g' : Sy} {us us' : List Sy} {ks : Nat → Option Sy} {s s' : gS} {K : gS → Prop}
def pushU (us : List Sy) (g : Sy) : List Sy := if us.length = 8 then us.tail ++ [g] else us ++ [g]
theorem pushU_len (h : us.length ≤ 8) : (pushU us g).length = if us.length = 8 then 8 else us.length + 1 := by
  unfold pushU
  split
  · simp; omega
  · simp
theorem getD_last (l : List Sy) (x d : Sy) : (l ++ [x]).getD l.length d = x := by simp
theorem getD_app (l : List Sy) (x d : Sy) {k : Nat} (h : k < l.length) : (l ++ [x]).getD k d = l.getD k d := by
  simp [List.getD_eq_getElem?_getD, List.getElem?_append_left h]
theorem getD_tail (l : List Sy) (d : Sy) (k : Nat) : l.tail.getD k d = l.getD (k + 1) d := by
  cases l <;> simp
theorem repC_f {N : Nat} {f f' : Sy} (O : okS N g) (hN : N ≤ 11) (R : repC f g) (h : ∀ k, k < 170 → f' k = f k) : repC f' g := by
  have hn := O.2.1.2
  refine ⟨?_, ?_, ?_, fun o ho => ?_, fun e he => ⟨?_, ?_⟩, fun e he i hi w hw => ?_⟩
  · rw [h 0 (by decide)]; exact R.1
  · rw [h 2 (by decide)]; exact R.2.1
  · rw [h 1 (by decide)]; exact R.2.2.1
  · rw [h _ (by omega)]; exact R.2.2.2.1 o ho
  · rw [h _ (by omega)]; exact (R.2.2.2.2.1 e he).1
  · rw [h _ (by omega)]; exact (R.2.2.2.2.1 e he).2
  · have hm := (O.2.2.2.1 e he).2
    rw [h _ (by omega)]; exact R.2.2.2.2.2 e he i hi w hw
theorem c_save {Q : gS → Prop} (O : okS 10 g) (R : repC (s.1 21) g) (k : ∀ s', fR (fun a => a == 24) s s' → repC (s'.1 24) g → Q s') : wpX11_saveBefore s Q := by
  unfold wpX11_saveBefore wpX8_save
  refine ⟨fun h => absurd rfl h, fun _ => k _ (fR_cp rfl) ?_⟩
  rw [show ix (170 : Int32) = 170 from by decide]
  exact repC_f O (by decide) R (fun k hk => cp_at _ _ _ _ hk)
theorem and7 : ∀ n, n < 9 → nI n &&& 7 = nI (n % 8) := by decide +kernel
def pD (a : Nat) : Bool := a == 0 || a == 25 || (decide (27 ≤ a) && decide (a < 35))
theorem c_recorded {Q : Int32 → gS → Prop} {r : Int32} (hr : ¬ r < 0) (O : okS 10 g) (hl : us.length ≤ 8) (OU : ∀ u, u ∈ us → okU u) (P : PC us s) (R : repC (s.1 24) g) (k : ∀ s', fR pD s s' → (∀ j, j ≠ 13 → s'.1 0 j = s.1 0 j) → s'.1 0 13 = 0 → PC (pushU us g) s' → Q r s') : wpX11_recorded r s Q := by
  obtain ⟨p1, nx, hnx, p2, p3⟩ := P
  unfold wpX11_recorded wpX3_push
  refine ⟨fun h => absurd h hr, fun _ => ⟨fun _ => ?_, fun h => absurd rfl h⟩⟩
  have e1 : gi s 25 1 &&& 7 = nI nx := by
    show s.1 25 1 &&& 7 = _
    rw [p2, and7 nx (by omega)]
    congr 1
    omega
  have n170 : ix (170 : Int32) = 170 := by decide
  rw [e1, ix_nI (by omega), n170]
  refine ⟨vp_in_nI hnx (by decide), ?_⟩
  have e2 : gi (cpI s 24 (ix 0) (26 + 1 + nx) (ix 0) 170) 25 1 + 1 &&& 7 = nI ((nx + 1) % 8) := by
    show (cpI s 24 (ix 0) (26 + 1 + nx) (ix 0) 170).1 25 1 + 1 &&& 7 = _
    rw [cp_na _ _ _ _ _ _ (by omega), p2, nI_1, and7 _ (by omega)]
  rw [e2]
  have e3 : jmin (gi (wi (cpI s 24 (ix 0) (26 + 1 + nx) (ix 0) 170) 25 1 (nI ((nx + 1) % 8))) 25 2 + 1) 8 = nI (pushU us g).length := by
    show jmin ((wi (cpI s 24 (ix 0) (26 + 1 + nx) (ix 0) 170) 25 1 (nI ((nx + 1) % 8))).1 25 2 + 1) 8 = _
    rw [wi_ne _ _ _ _ (by decide), cp_na _ _ _ _ _ _ (by omega), p1, nI_1, pushU_len hl, nI_i, show (8 : Int32) = iI 8 from rfl, iI_min (by omega) (by omega) (by decide) (by decide), nI_i]
    congr 1
    split <;> omega
  rw [e3]
  refine k _ ⟨fun a ha => ?_, rfl⟩ (fun j hj => ?_) (wi_at _ _ _ _) ⟨?_, (nx + 1) % 8, by omega, ?_, fun i hi => ?_⟩
  · unfold pD at ha
    simp at ha
    rw [wi_na _ _ _ _ (by omega), wi_na _ _ _ _ (by omega), wi_na _ _ _ _ (by omega), cp_na _ _ _ _ _ _ (by omega)]
  · rw [wi_ne _ _ _ _ hj, wi_na _ _ _ _ (by decide), wi_na _ _ _ _ (by decide), cp_na _ _ _ _ _ _ (by omega)]
  · rw [wi_na _ _ _ _ (by decide), wi_at]
  · rw [wi_na _ _ _ _ (by decide), wi_ne _ _ _ _ (by decide), wi_at]
  · rw [pushU_len hl] at hi
    have hrow : ∀ b, b ≠ 26 + 1 + nx → 27 ≤ b → (wi (wi (wi (cpI s 24 (ix 0) (26 + 1 + nx) (ix 0) 170) 25 1 (nI ((nx + 1) % 8))) 25 2 (nI (pushU us g).length)) 0 13 0).1 b = s.1 b := fun b h1 h2 => by
      rw [wi_na _ _ _ _ (by omega), wi_na _ _ _ _ (by omega), wi_na _ _ _ _ (by omega), cp_na _ _ _ _ _ _ h1]
    have hnew : repC ((wi (wi (wi (cpI s 24 (ix 0) (26 + 1 + nx) (ix 0) 170) 25 1 (nI ((nx + 1) % 8))) 25 2 (nI (pushU us g).length)) 0 13 0).1 (26 + 1 + nx)) g := by
      rw [wi_na _ _ _ _ (by omega), wi_na _ _ _ _ (by omega), wi_na _ _ _ _ (by omega)]
      exact repC_f O (by decide) R (fun k hk => cp_at _ _ _ _ hk)
    generalize wi (wi (wi (cpI s 24 (ix 0) (26 + 1 + nx) (ix 0) 170) 25 1 (nI ((nx + 1) % 8))) 25 2 (nI (pushU us g).length)) 0 13 0 = Z at hrow hnew ⊢
    rw [pushU_len hl]
    by_cases h8 : us.length = 8
    · rw [if_pos h8] at hi ⊢
      have ht : us.tail.length = 7 := by simp; omega
      have hp : pushU us g = us.tail ++ [g] := by unfold pushU; rw [if_pos h8]
      rw [hp]
      by_cases hi7 : i = 7
      · subst hi7
        have : (us.tail ++ [g]).getD 7 (fun _ => 0) = g := by rw [← ht]; exact getD_last _ _ _
        rw [this, show 27 + ((nx + 1) % 8 + 8 - 8 + 7) % 8 = 26 + 1 + nx by omega]
        exact hnew
      · rw [getD_app _ _ _ (by omega), getD_tail]
        have := p3 (i + 1) (by omega)
        rw [h8] at this
        rw [hrow (27 + ((nx + 1) % 8 + 8 - 8 + i) % 8) (by omega) (by omega), show 27 + ((nx + 1) % 8 + 8 - 8 + i) % 8 = 27 + (nx + 8 - 8 + (i + 1)) % 8 by omega]
        exact this
    · rw [if_neg h8] at hi ⊢
      have hp : pushU us g = us ++ [g] := by unfold pushU; rw [if_neg h8]
      rw [hp]
      by_cases hil : i = us.length
      · subst hil
        rw [getD_last, show 27 + ((nx + 1) % 8 + 8 - (us.length + 1) + us.length) % 8 = 26 + 1 + nx by omega]
        exact hnew
      · rw [getD_app _ _ _ (by omega)]
        have := p3 i (by omega)
        rw [hrow (27 + ((nx + 1) % 8 + 8 - (us.length + 1) + i) % 8) (by omega) (by omega), show 27 + ((nx + 1) % 8 + 8 - (us.length + 1) + i) % 8 = 27 + (nx + 8 - us.length + i) % 8 by omega]
        exact this
theorem c_rec0 {Q : Int32 → gS → Prop} {r : Int32} (hr : r < 0) (k : Q r s) : wpX11_recorded r s Q := ⟨fun _ => k, fun h => absurd hr h⟩
def uD (a : Nat) : Bool := a == 0 || a == 21 || a == 24 || a == 25 || (decide (27 ≤ a) && decide (a < 35)) || (decide (38 ≤ a) && decide (a < 88))
theorem CI.mut (C : CI t L g us ks s) (f : fR uD s s') (f0 : ∀ j, j ≠ 13 → s'.1 0 j = s.1 0 j) (R : repC (s'.1 21) g') (V : CV g' s') (P : PC us' s') : CI t L g' us' ks s' := by
  obtain ⟨h1, h2, h3, h4, h5, h6, h7⟩ := C
  refine ⟨⟨?_, fun i hi => ?_⟩, ⟨?_, h2.2.1, fun i hi => ?_⟩, R, V, P, ⟨?_, fun i hi u hu => ?_⟩, ?_⟩
  · show s'.1 1 1 = _; rw [f.1 1 rfl]; exact h1.1
  · show s'.1 2 i = _; rw [f.1 2 rfl]; exact h1.2 i hi
  · rw [f.1 18 rfl]; exact h2.1
  · rw [f.1 19 rfl]; exact h2.2.2 i hi
  · rw [f0 9 (by decide)]; exact h6.1
  · rw [f.1 (36 + i) (by
      have hz : ∀ z, z < 2 → uD (36 + z) = false := by decide
      exact hz i hi)]
    exact h6.2 i hi u hu
  · unfold gP gt1 gt2 gt3
    rw [f.2]
    exact h7
theorem uD_cl : ∀ a, 177 ≤ a → uD a = false := by
  intro a ha
  unfold uD
  simp
  omega
theorem pD_u : ∀ a, uD a = false → pD a = false := by
  intro a ha
  unfold uD at ha
  unfold pD
  simp at ha ⊢
  omega
theorem sD_u : ∀ a, uD a = false → sD a = false := by
  intro a ha
  unfold uD at ha
  unfold sD
  simp at ha ⊢
  omega
theorem e24_u : ∀ a, uD a = false → (a == 24) = false := by
  intro a ha
  unfold uD at ha
  simp at ha ⊢
  omega
theorem e21_u : ∀ a, uD a = false → (a == 21) = false := by
  intro a ha
  unfold uD at ha
  simp at ha ⊢
  omega
theorem PC.cg (P : PC us s) (h : s'.1 25 = s.1 25) (h2 : ∀ a, 27 ≤ a → a < 35 → s'.1 a = s.1 a) : PC us s' := by
  obtain ⟨p1, nx, hnx, p2, p3⟩ := P
  refine ⟨by rw [h]; exact p1, nx, hnx, by rw [h]; exact p2, fun k hk => ?_⟩
  rw [h2 _ (by omega) (by omega)]
  exact p3 k hk
theorem CV.cg (V : CV g s) (h : s'.1 0 = s.1 0) (h2 : ∀ a, 38 ≤ a → a < 88 → s'.1 a = s.1 a) : CV g s' := by
  unfold CV
  rw [h]
  exact V.imp id (fun v => ⟨v.1, v.2.cg (fun a h3 h4 => h2 a h3 (by omega))⟩)
/-- a call that changes the story, and one that is refused -/
theorem C_mut {WO : gS → (Int32 → gS → Prop) → Prop} {Q : Int32 → gS → Prop} {r : Int32} (A : okA t L g us ks) (C : CI t L g us ks s) (hr : ¬ r < 0) (hop : ∀ s1, repC (s1.1 21) g → ∀ Q, (∀ s', fR (fun a => a == 21) s1 s' → repC (s'.1 21) g' → Q r s') → WO s1 Q) (k : ∀ s', clF s s' → CI t L g' (pushU us g) ks s' → Q r s') : wpX11_saveBefore s (fun s1 => WO s1 (fun r2 s2 => wpX11_recorded r2 s2 Q)) := by
  have O := A.2.2.1.1
  refine c_save O C.2.2.1 (fun s1 f1 R1 => ?_)
  refine hop s1 (by rw [f1.1 21 rfl]; exact C.2.2.1) _ (fun s2 f2 R2 => ?_)
  have P2 : PC us s2 := C.2.2.2.2.1.cg (by rw [f2.1 25 rfl, f1.1 25 rfl]) (fun a h1 h2 => by rw [f2.1 a (by simp; omega), f1.1 a (by simp; omega)])
  refine c_recorded hr O A.2.2.2.1 A.2.2.2.2.1 P2 (by rw [f2.1 24 rfl]; exact R1) (fun s3 f3 g3 v3 P3 => ?_)
  have f4 : fR uD s s3 := (f1.mono e24_u).tr ((f2.mono e21_u).tr (f3.mono pD_u))
  exact k s3 (f4.cl uD_cl) (C.mut f4 (fun j hj => by rw [g3 j hj, f2.1 0 rfl, f1.1 0 rfl]) (by rw [f3.1 21 rfl]; exact R2) (Or.inl v3) P3)
theorem C_mut0 {WO : gS → (Int32 → gS → Prop) → Prop} {Q : Int32 → gS → Prop} {r : Int32} (A : okA t L g us ks) (C : CI t L g us ks s) (hr : r < 0) (hop : ∀ s1, repC (s1.1 21) g → ∀ Q, Q r s1 → WO s1 Q) (k : ∀ s', clF s s' → CI t L g us ks s' → Q r s') : wpX11_saveBefore s (fun s1 => WO s1 (fun r2 s2 => wpX11_recorded r2 s2 Q)) := by
  have O := A.2.2.1.1
  refine c_save O C.2.2.1 (fun s1 f1 R1 => ?_)
  refine hop s1 (by rw [f1.1 21 rfl]; exact C.2.2.1) _ (c_rec0 hr ?_)
  have P1 : PC us s1 := C.2.2.2.2.1.cg (by rw [f1.1 25 rfl]) (fun a h1 h2 => by rw [f1.1 a (by simp; omega)])
  have f4 : fR uD s s1 := f1.mono e24_u
  exact k s1 (f4.cl uD_cl) (C.mut f4 (fun j hj => by rw [f1.1 0 rfl]) (by rw [f1.1 21 rfl]; exact C.2.2.1) (C.2.2.2.1.cg (by rw [f1.1 0 rfl]) (fun a h1 h2 => by rw [f1.1 a (by simp; omega)])) P1)
/-- the reference -/
theorem ge218 {i : Nat} (h : i < 218) : (218 ≤ nI i) = False := by
  rw [show (218 : Int32) = nI 218 from rfl, nI_leI (by decide) (by omega)]
  simp; omega
theorem m_lay {Q : gS → Prop} (k : ∀ s', fm [188] [] s s' → (∀ j, j < 218 → s'.1 188 j = s.1 178 j) → Q s') : wpX12_lay s Q := by
  have Lp : ∀ n i, i + n = 218 → ∀ s1, fm [188] [] s s1 → (∀ j, j < i → s1.1 188 j = s.1 178 j) → wX12_lay_2 Q (n + 1) (nI i) s1 := by
    intro n
    induction n with
    | zero =>
      intro i hi s1 f h
      have : i = 218 := by omega
      subst this
      rw [wX12_lay_2]
      exact ⟨fun _ => k s1 f h, fun h => absurd (by decide) h⟩
    | succ n ih =>
      intro i hi s1 f h
      have hi2 : i < 218 := by omega
      rw [wX12_lay_2, nI_1]
      simp only [ge218 hi2, vp_in_nI hi2 (show 218 < 2 ^ 31 by decide), ix_nI (show i < 2 ^ 31 by omega), false_implies, true_and, not_false_eq_true, true_implies]
      refine ih (i + 1) (by omega) _ (f.tr (fm_wi (by decide) (by decide))) (fun j hj => ?_)
      by_cases hji : j = i
      · subst hji
        rw [wi_at]
        show s1.1 178 j = _
        rw [f.1 178 (by decide) (by decide)]
      · rw [wi_ne _ _ _ _ hji]
        exact h j (by omega)
  exact ⟨219, Lp 218 0 rfl s fm.rf (fun j hj => by omega)⟩
theorem m_note52 {Q : gS → Prop} (hl : us.length < 8) (P : PM us s) (W : ∀ j, j < 218 → s.1 188 j = g j) (k : ∀ s', fm [187] [26] s s' → PM (us ++ [g]) s' → Q s') : ∃ n, wX12_note_52 Q n 0 s := by
  have Lp : ∀ n i, i + n = 218 → ∀ s1, fm [187] [] s s1 → (∀ j, j < i → s1.1 187 (218 * us.length + j) = g j) → (∀ j, j < 218 * us.length → s1.1 187 j = s.1 187 j) → wX12_note_52 Q (n + 1) (nI i) s1 := by
    intro n
    induction n with
    | zero =>
      intro i hi s1 f h1 h2
      have : i = 218 := by omega
      subst this
      rw [wX12_note_52]
      refine ⟨fun _ => k _ ((f.mono (by decide) (by decide)).tr (fm_wf (by decide))) ⟨?_, fun m hm j hj => ?_⟩, fun h => absurd (by decide) h⟩
      · rw [wi_at, show gi s1 177 26 = nI us.length from by
          show s1.1 177 26 = _
          rw [f.2.1 26 (by decide)]; exact P.1, nI_1]
        simp
      · rw [wi_na _ _ _ _ (by decide)]
        simp at hm
        by_cases hml : m = us.length
        · subst hml
          rw [getD_last]
          exact h1 j hj
        · rw [getD_app _ _ _ (by omega), h2 _ (by omega)]
          exact P.2 m (by omega) j hj
    | succ n ih =>
      intro i hi s1 f h1 h2
      have hi2 : i < 218 := by omega
      have e1 : 218 * gi s1 177 26 + nI i = nI (218 * us.length + i) := by
        rw [show gi s1 177 26 = nI us.length from by
          show s1.1 177 26 = _
          rw [f.2.1 26 (by decide)]; exact P.1]
        simp only [lit_i, nI_i, iI_add, iI_mul]
        congr 1
      rw [wX12_note_52, nI_1, e1]
      simp only [ge218 hi2, vp_in_nI hi2 (show 218 < 2 ^ 31 by decide), vp_in_nI (show 218 * us.length + i < 1744 by omega) (show 1744 < 2 ^ 31 by decide), ix_nI (show i < 2 ^ 31 by omega), ix_nI (show 218 * us.length + i < 2 ^ 31 by omega), false_implies, true_and, not_false_eq_true, true_implies]
      refine ih (i + 1) (by omega) _ (f.tr (fm_wi (by decide) (by decide))) (fun j hj => ?_) (fun j hj => ?_)
      · by_cases hji : j = i
        · subst hji
          rw [wi_at]
          show s1.1 188 j = _
          rw [f.1 188 (by decide) (by decide)]
          exact W j hi2
        · rw [wi_ne _ _ _ _ (by omega)]
          exact h1 j (by omega)
      · rw [wi_ne _ _ _ _ (by omega)]
        exact h2 j hj
  exact ⟨219, Lp 218 0 rfl s fm.rf (fun j hj => by omega) (fun j hj => rfl)⟩
theorem m_note {Q : gS → Prop} (hl : us.length ≤ 8) (P : PM us s) (W : ∀ j, j < 218 → s.1 188 j = g j) (k : ∀ s', fm [187] [26] s s' → PM (pushU us g) s' → Q s') : wpX12_note s Q := by
  unfold wpX12_note
  rw [show gi s 177 26 = nI us.length from P.1, show (8 : Int32) = nI 8 from rfl, nI_eq (by omega) (by decide)]
  refine ⟨fun h => m_note52 (by omega) P W (fun s' f h2 => k s' f (by unfold pushU; rw [if_neg h]; exact h2)), fun h => ⟨1527, ?_⟩⟩
  have Lp : ∀ n i, i + n = 1526 → ∀ s1, fm [187] [] s s1 → (∀ j, j < i → s1.1 187 j = s.1 187 (j + 218)) → (∀ j, i ≤ j → s1.1 187 j = s.1 187 j) → wX12_note_11 Q (fun y1 s => ∃ n52, wX12_note_52 Q n52 y1 s) (n + 1) (nI i) s1 := by
    intro n
    induction n with
    | zero =>
      intro i hi s1 f h1 h2
      have : i = 1526 := by omega
      subst this
      rw [wX12_note_11]
      refine ⟨fun _ => ?_, fun h => absurd (by decide) h⟩
      have e1 : gi s1 177 26 - 1 = nI us.tail.length := by
        rw [show gi s1 177 26 = nI 8 from by
          show s1.1 177 26 = _
          rw [f.2.1 26 (by decide), P.1, h]]
        simp [h]
        decide
      rw [e1]
      refine m_note52 (us := us.tail) (g := g) (by simp; omega) ⟨wi_at _ _ _ _, fun m hm j hj => ?_⟩ (fun j hj => ?_) (fun s' f2 P2 => k s' ((f.mono (by decide) (by decide)).tr ((fm_wf (by decide)).tr f2)) ?_)
      · simp at hm
        rw [wi_na _ _ _ _ (by decide), h1 _ (by omega), getD_tail, show 218 * m + j + 218 = 218 * (m + 1) + j by omega]
        exact P.2 (m + 1) (by omega) j hj
      · rw [wi_na _ _ _ _ (by decide), f.1 188 (by decide) (by decide)]
        exact W j hj
      · unfold pushU
        rw [if_pos h]
        exact P2
    | succ n ih =>
      intro i hi s1 f h1 h2
      have hle : (1526 ≤ nI i) = False := by
        rw [show (1526 : Int32) = nI 1526 from rfl, nI_leI (by decide) (by omega)]
        simp; omega
      have e1 : nI i + 218 = nI (i + 218) := nI_add i 218
      rw [wX12_note_11, nI_1, e1]
      simp only [hle, vp_in_nI (show i + 218 < 1744 by omega) (show 1744 < 2 ^ 31 by decide), vp_in_nI (show i < 1744 by omega) (show 1744 < 2 ^ 31 by decide), ix_nI (show i < 2 ^ 31 by omega), ix_nI (show i + 218 < 2 ^ 31 by omega), false_implies, true_and, not_false_eq_true, true_implies]
      refine ih (i + 1) (by omega) _ (f.tr (fm_wi (by decide) (by decide))) (fun j hj => ?_) (fun j hj => ?_)
      · by_cases hji : j = i
        · subst hji
          rw [wi_at]
          exact h2 _ (by omega)
        · rw [wi_ne _ _ _ _ hji]
          exact h1 j (by omega)
      · rw [wi_ne _ _ _ _ (by omega)]
        exact h2 j (by omega)
  exact Lp 1526 0 rfl s fm.rf (fun j hj => by omega) (fun j _ => rfl)
theorem m_change {Q : gS → Prop} (hl : us.length ≤ 8) (P : PM us s) (M : s.1 178 = g) (k : ∀ s', fm [187, 188] [26] s s' → PM (pushU us g) s' → Q s') : wpX12_change s Q := by
  unfold wpX12_change
  refine m_lay (fun s1 f1 h1 => ?_)
  refine m_note (us := us) (g := g) hl ⟨?_, fun m hm j hj => ?_⟩ (fun j hj => ?_) (fun s2 f2 P2 => k s2 ((f1.mono (by decide) (by decide)).tr (f2.mono (by decide) (by decide))) P2)
  · rw [f1.2.1 26 (by decide)]; exact P.1
  · rw [f1.1 187 (by decide) (by decide)]; exact P.2 m hm j hj
  · rw [h1 j hj, M]
theorem MI.mut (M : MI t L g us ks s) (f : fm (178 :: 187 :: mD) (26 :: mF) s s') (hg : s'.1 178 = g') (P : PM us' s') (R : RM L s') : MI t L g' us' ks s' := by
  obtain ⟨h1, h2, h3, h4, h5⟩ := M
  refine ⟨⟨?_, fun i hi => ?_⟩, R, hg, P, fun i hi => ⟨?_, fun u hu j hj => ?_⟩⟩
  · show s'.1 177 2 = _; rw [f.2.1 2 (by decide)]; exact h1.1
  · show s'.1 179 i = _; rw [f.1 179 (by decide) (by decide)]; exact h1.2 i hi
  · rw [f.1 191 (by decide) (by decide)]; exact (h5 i hi).1
  · rw [f.1 190 (by decide) (by decide)]; exact (h5 i hi).2 u hu j hj
theorem okA.mut (A : okA t L g us ks) (h : okU g') : okA t L g' (pushU us g) ks := by
  obtain ⟨a1, a2, a3, a4, a5, a6⟩ := A
  refine ⟨a1, a2, h, ?_, fun u hu => ?_, a6⟩
  · rw [pushU_len a4]; split <;> omega
  · unfold pushU at hu
    split at hu
    · rcases List.mem_append.mp hu with h2 | h2
      · exact a5 u (List.mem_of_mem_tail h2)
      · simp at h2; rw [h2]; exact a3
    · rcases List.mem_append.mp hu with h2 | h2
      · exact a5 u h2
      · simp at h2; rw [h2]; exact a3
end PAST
