/-! what holds between two calls: A = (text, row, story, past, kept) as the class holds it, and as the reference does -/
abbrev Sy : Type := Nat → Int32
def zr (g : Sy) : Prop := ∀ k, 218 ≤ k → g k = 0
def RC (L : List Int32) (s : gS) : Prop := s.1 18 1 = nI L.length ∧ L.length ≤ 24 ∧ ∀ i, i < L.length → s.1 19 i = L.getD i 0
def RM (L : List Int32) (s : gS) : Prop := s.1 177 4 = nI L.length ∧ ∀ i, i < L.length → s.2.1 180 i = (L.getD i 0).toInt64
def CV (g : Sy) (s : gS) : Prop := s.1 0 13 = 0 ∨ s.1 0 13 = 1 ∧ SC 38 g s
def PC (us : List Sy) (s : gS) : Prop := s.1 25 2 = nI us.length ∧ ∃ nx, nx < 8 ∧ s.1 25 1 = nI nx ∧ ∀ k, k < us.length → repC (s.1 (27 + (nx + 8 - us.length + k) % 8)) (us.getD k (fun _ => 0))
def KC (ks : Nat → Option Sy) (s : gS) : Prop := s.1 0 9 = nI (bts 6 (fun i => decide (i < 2) && (ks i).isSome)) ∧ ∀ i, i < 2 → ∀ u, ks i = some u → repC (s.1 (36 + i)) u
def PM (us : List Sy) (s : gS) : Prop := s.1 177 26 = nI us.length ∧ ∀ k, k < us.length → ∀ j, j < 218 → s.1 187 (218 * k + j) = (us.getD k (fun _ => 0)) j
def KM (ks : Nat → Option Sy) (s : gS) : Prop := ∀ i, i < 2 → s.1 191 i = bi (ks i).isSome ∧ ∀ u, ks i = some u → ∀ j, j < 218 → s.1 190 (218 * i + j) = u j
def gP (s : gS) : Prop := isRd (gt1 s) ∧ isRd (gt2 s) ∧ isRd (gt3 s) ∧ gt1 s ≠ 10 ∧ gt2 s ≠ 10 ∧ gt3 s ≠ 10 ∧ gt1 s ≠ gt2 s ∧ gt1 s ≠ gt3 s ∧ gt2 s ≠ gt3 s
def okU (g : Sy) : Prop := okS 10 g ∧ zr g
def okA (t : List Nat) (L : List Int32) (g : Sy) (us : List Sy) (ks : Nat → Option Sy) : Prop := okT t ∧ L.length ≤ 24 ∧ okU g ∧ us.length ≤ 8 ∧ (∀ u, u ∈ us → okU u) ∧ (∀ i u, ks i = some u → okU u)
def CI (t : List Nat) (L : List Int32) (g : Sy) (us : List Sy) (ks : Nat → Option Sy) (s : gS) : Prop := txC t s ∧ RC L s ∧ repC (s.1 21) g ∧ CV g s ∧ PC us s ∧ KC ks s ∧ gP s
def MI (t : List Nat) (L : List Int32) (g : Sy) (us : List Sy) (ks : Nat → Option Sy) (s : gS) : Prop := txM t s ∧ RM L s ∧ s.1 178 = g ∧ PM us s ∧ KM ks s
def clF (s s' : gS) : Prop := (∀ a, 177 ≤ a → s'.1 a = s.1 a) ∧ (∀ a, 177 ≤ a → s'.2.1 a = s.2.1 a)
def moF (s s' : gS) : Prop := (∀ a, a < 177 → s'.1 a = s.1 a) ∧ s'.2.2 = s.2.2 ∧ s'.2.1 192 = s.2.1 192
section INV
variable {t : List Nat} {L L' : List Int32} {g : Sy} {us : List Sy} {ks : Nat → Option Sy} {s s' : gS}
theorem MI.cl (h : MI t L g us ks s) (f : clF s s') : MI t L g us ks s' := by
  obtain ⟨h1, h2, h3, h4, h5⟩ := h
  have f7 := f.1 177 (by decide)
  refine ⟨⟨?_, fun i hi => ?_⟩, ⟨?_, fun i hi => ?_⟩, ?_, ⟨?_, fun k hk j hj => ?_⟩, fun i hi => ⟨?_, fun u hu j hj => ?_⟩⟩
  · show s'.1 177 2 = _; rw [f7]; exact h1.1
  · show s'.1 179 i = _; rw [f.1 179 (by decide)]; exact h1.2 i hi
  · rw [f7]; exact h2.1
  · rw [f.2 180 (by decide)]; exact h2.2 i hi
  · rw [f.1 178 (by decide)]; exact h3
  · rw [f7]; exact h4.1
  · rw [f.1 187 (by decide)]; exact h4.2 k hk j hj
  · rw [f.1 191 (by decide)]; exact (h5 i hi).1
  · rw [f.1 190 (by decide)]; exact (h5 i hi).2 u hu j hj
theorem SC.cg {so : Nat} (h : SC so g s) (f : ∀ a, so ≤ a → a < so + 50 → s'.1 a = s.1 a) : SC so g s' := by
  obtain ⟨h1, h2, h3, h4⟩ := h
  refine ⟨?_, ?_, fun e he => ?_, fun e i he hi => ?_⟩
  · rw [f so (by omega) (by omega)]; exact h1
  · rw [f so (by omega) (by omega)]; exact h2
  · rw [f (so + 48) (by omega) (by omega)]; exact h3 e he
  · rw [f (so + 49) (by omega) (by omega)]; exact h4 e i he hi
theorem CI.mo (h : CI t L g us ks s) (f : moF s s') : CI t L g us ks s' := by
  obtain ⟨h1, h2, h3, h4, h5, h6, h7⟩ := h
  refine ⟨⟨?_, fun i hi => ?_⟩, ⟨?_, h2.2.1, fun i hi => ?_⟩, ?_, ?_, ⟨?_, ?_⟩, ⟨?_, fun i hi u hu => ?_⟩, ?_⟩
  · show s'.1 1 1 = _; rw [f.1 1 (by decide)]; exact h1.1
  · show s'.1 2 i = _; rw [f.1 2 (by decide)]; exact h1.2 i hi
  · rw [f.1 18 (by decide)]; exact h2.1
  · rw [f.1 19 (by decide)]; exact h2.2.2 i hi
  · rw [f.1 21 (by decide)]; exact h3
  · unfold CV
    rw [f.1 0 (by decide)]
    exact h4.imp id (fun h => ⟨h.1, h.2.cg (fun a _ ha => f.1 a (by omega))⟩)
  · rw [f.1 25 (by decide)]; exact h5.1
  · obtain ⟨nx, n1, n2, n3⟩ := h5.2
    refine ⟨nx, n1, ?_, fun k hk => ?_⟩
    · rw [f.1 25 (by decide)]; exact n2
    · rw [f.1 _ (by omega)]; exact n3 k hk
  · rw [f.1 0 (by decide)]; exact h6.1
  · rw [f.1 _ (by omega)]; exact h6.2 i hi u hu
  · unfold gP gt1 gt2 gt3
    rw [f.2.1]
    exact h7
def qD (a : Nat) : Bool := a == 0 || a == 18 || a == 19 || (decide (22 ≤ a) && decide (a < 24)) || (decide (38 ≤ a) && decide (a < 177))
theorem CI.q (h : CI t L g us ks s) (f : fr qD s s') (f0 : ∀ j, j ≠ 13 → s'.1 0 j = s.1 0 j) (r : RC L' s') (v : CV g s') : CI t L' g us ks s' := by
  obtain ⟨h1, h2, h3, h4, h5, h6, h7⟩ := h
  refine ⟨⟨?_, fun i hi => ?_⟩, r, ?_, v, ⟨?_, ?_⟩, ⟨?_, fun i hi u hu => ?_⟩, ?_⟩
  · show s'.1 1 1 = _; rw [f.1 1 rfl]; exact h1.1
  · show s'.1 2 i = _; rw [f.1 2 rfl]; exact h1.2 i hi
  · rw [f.1 21 rfl]; exact h3
  · rw [f.1 25 rfl]; exact h5.1
  · obtain ⟨nx, n1, n2, n3⟩ := h5.2
    refine ⟨nx, n1, ?_, fun k hk => ?_⟩
    · rw [f.1 25 rfl]; exact n2
    · rw [f.1 _ (by
        have : (nx + 8 - us.length + k) % 8 < 8 := Nat.mod_lt _ (by decide)
        generalize (nx + 8 - us.length + k) % 8 = z at *
        have hz : ∀ z, z < 8 → qD (27 + z) = false := by decide
        exact hz z this)]
      exact n3 k hk
  · rw [f0 9 (by decide)]; exact h6.1
  · rw [f.1 (36 + i) (by
      have hz : ∀ z, z < 2 → qD (36 + z) = false := by decide
      exact hz i hi)]
    exact h6.2 i hi u hu
  · unfold gP gt1 gt2 gt3
    rw [f.2.2]
    exact h7
def mD : List Nat := [180, 181, 182, 183, 184, 185, 186, 188, 189]
def mF : List Nat := [4, 5, 6, 7, 8, 9, 10, 11, 12, 13, 14, 15, 16, 17, 18, 19, 20, 21, 22, 23, 24, 25, 27, 28, 29, 30]
theorem MI.q (h : MI t L g us ks s) (f : fm mD mF s s') (r : RM L' s') : MI t L' g us ks s' := by
  obtain ⟨h1, h2, h3, h4, h5⟩ := h
  refine ⟨⟨?_, fun i hi => ?_⟩, r, ?_, ⟨?_, fun k hk j hj => ?_⟩, fun i hi => ⟨?_, fun u hu j hj => ?_⟩⟩
  · show s'.1 177 2 = _; rw [f.2.1 2 (by decide)]; exact h1.1
  · show s'.1 179 i = _; rw [f.1 179 (by decide) (by decide)]; exact h1.2 i hi
  · rw [f.1 178 (by decide) (by decide)]; exact h3
  · rw [f.2.1 26 (by decide)]; exact h4.1
  · rw [f.1 187 (by decide) (by decide)]; exact h4.2 k hk j hj
  · rw [f.1 191 (by decide) (by decide)]; exact (h5 i hi).1
  · rw [f.1 190 (by decide) (by decide)]; exact (h5 i hi).2 u hu j hj
theorem fm.mo {D F : List Nat} (f : fm D F s s') (hd : ∀ a, a ∈ D → 177 ≤ a ∧ a ≠ 192) : moF s s' := ⟨fun a ha => f.1 a (fun h => absurd (hd a h).1 (by omega)) (by omega), f.2.2.2, f.2.2.1 192 (fun h => (hd 192 h).2 rfl)⟩
theorem fr.cl {D : Nat → Bool} (f : fr D s s') (hd : ∀ a, 177 ≤ a → D a = false) (hl : s'.2 = s.2) : clF s s' := ⟨fun a ha => f.1 a (hd a ha), fun _ _ => by rw [hl]⟩
end INV
section ROWS
variable {L : List Int32} {s : gS} {Q : gS → Prop}
def rD (a : Nat) : Bool := a == 18 || a == 19
def fR (D : Nat → Bool) (s s' : gS) : Prop := (∀ a, D a = false → s'.1 a = s.1 a) ∧ s'.2 = s.2
theorem fR.rf {D : Nat → Bool} {s : gS} : fR D s s := ⟨fun _ _ => rfl, rfl⟩
theorem fR.tr {D : Nat → Bool} {s s1 s2 : gS} (h : fR D s s1) (h2 : fR D s1 s2) : fR D s s2 := ⟨fun a d => (h2.1 a d).trans (h.1 a d), h2.2.trans h.2⟩
theorem fR.mono {D D2 : Nat → Bool} {s s' : gS} (h : fR D s s') (hd : ∀ a, D2 a = false → D a = false) : fR D2 s s' := ⟨fun a ha => h.1 a (hd a ha), h.2⟩
theorem fR_wi {D : Nat → Bool} {s : gS} {a i : Nat} {v : Int32} (h : D a = true) : fR D s (wi s a i v) := ⟨fun b hb => wi_na _ _ _ _ (fun e => by rw [e, h] at hb; cases hb), rfl⟩
theorem fR_cp {D : Nat → Bool} {s : gS} {src sp dst dp n : Nat} (h : D dst = true) : fR D s (cpI s src sp dst dp n) := ⟨fun b hb => cp_na _ _ _ _ _ _ (fun e => by rw [e, h] at hb; cases hb), rfl⟩
theorem fR.fr {D : Nat → Bool} {s s' : gS} (h : fR D s s') : fr D s s' := ⟨h.1, fun _ _ => by rw [h.2], by rw [h.2]⟩
theorem fR.cl {D : Nat → Bool} {s s' : gS} (h : fR D s s') (hd : ∀ a, 177 ≤ a → D a = false) : clF s s' := ⟨fun a ha => h.1 a (hd a ha), fun _ _ => by rw [h.2]⟩
theorem c_clear (k : ∀ s', fR rD s s' → RC [] s' → Q s') : wpX6_clear s Q := k _ (fR_wi rfl) ⟨wi_at _ _ _ _, by decide, fun i hi => by cases hi⟩
theorem c_add {v : Int32} (h : RC L s) (hl : L.length < 24) (k : ∀ s', fR rD s s' → RC (L ++ [v]) s' → Q s') : wpX6_add v s Q := by
  unfold wpX6_add
  have e1 : gi s 18 1 = nI L.length := h.1
  have e2 : gi (wi s 19 L.length v) 18 1 = nI L.length := by
    show (wi s 19 L.length v).1 18 1 = _
    rw [wi_na _ _ _ _ (by decide)]; exact h.1
  have hle : ¬ 24 ≤ nI L.length := by
    rw [show (24 : Int32) = nI 24 from rfl, nI_leI (by decide) (by omega)]
    omega
  rw [e1]
  refine ⟨fun c => absurd c (nI_pos (by omega)), fun _ => ⟨fun c => absurd c hle, fun _ => ⟨vp_in_nI hl (by decide), ?_⟩⟩⟩
  rw [ix_nI (by omega), e2, nI_1]
  refine k _ (fR.tr (fR_wi rfl) (fR_wi rfl)) ⟨?_, ?_, fun i hi => ?_⟩
  · rw [wi_at]; simp
  · simp; omega
  · rw [wi_na _ _ _ _ (by decide)]
    simp at hi
    by_cases h2 : i = L.length
    · subst h2
      rw [wi_at]
      simp
    · rw [wi_ne _ _ _ _ h2, h.2.2 i (by omega)]
      simp [List.getD_eq_getElem?_getD, List.getElem?_append_left (show i < L.length by omega)]
theorem m_tell {v : Int32} (h : RM L s) (hl : L.length < 64) (k : ∀ s', fm [180] [4] s s' → RM (L ++ [v]) s' → Q s') : wpX12_tell v.toInt64 s Q := by
  unfold wpX12_tell
  have e1 : gi s 177 4 = nI L.length := h.1
  have e2 : ∀ x : Int64, gi (wl s 180 L.length x) 177 4 = nI L.length := fun x => h.1
  rw [e1]
  refine ⟨vp_in_nI hl (by decide), ?_⟩
  rw [ix_nI (by omega), e2, nI_1]
  refine k _ (fm.tr (fm_wl (by decide)) (fm_wf (by decide))) ⟨?_, fun i hi => ?_⟩
  · rw [wi_at]; simp
  · simp at hi
    show gl (wl s 180 L.length v.toInt64) 180 i = _
    rw [gl_wl]
    by_cases h2 : i = L.length
    · subst h2
      simp
    · rw [if_neg (fun e => h2 e.2)]
      show s.2.1 180 i = _
      rw [h.2 i (by omega)]
      simp [List.getD_eq_getElem?_getD, List.getElem?_append_left (show i < L.length by omega)]
theorem m_new : RM [] (wi s 177 4 0) := ⟨wi_at _ _ _ _, fun i hi => by cases hi⟩
end ROWS
section SOLVED
variable {g : Sy} {s : gS} {Q : gS → Prop}
def sD (a : Nat) : Bool := a == 0 || (decide (38 ≤ a) && decide (a < 88))
theorem c_solved (O : okS 10 g) (R : repC (s.1 21) g) (V : CV g s) (k : ∀ s', fR sD s s' → (∀ j, j ≠ 13 → s'.1 0 j = s.1 0 j) → s'.1 0 13 = 1 → SC 38 g s' → Q s') : wpX11_solved s Q := by
  unfold wpX11_solved
  refine ⟨fun h => ?_, fun h => ?_⟩
  · rcases V with V | V
    · exact absurd V h
    · exact k s fR.rf (fun _ _ => rfl) V.1 V.2
  · refine c_solve (by decide) (by decide) O R (fun s1 f S => k _ ⟨fun a ha => ?_, f.2⟩ (fun j hj => ?_) (wi_at _ _ _ _) (S.cg (fun a h1 h2 => wi_na _ _ _ _ (by omega))))
    · have h0 : a ≠ 0 := fun e => by rw [e] at ha; cases ha
      have h1 : ¬ (38 ≤ a ∧ a < 38 + 50) := fun e => by
        unfold sD at ha
        simp [show 38 ≤ a by omega, show a < 88 by omega] at ha
      rw [wi_na _ _ _ _ h0, f.1 a h1]
    · rw [wi_ne _ _ _ _ hj, f.1 0 (by omega)]
theorem CV1 {s : gS} (h : s.1 0 13 = 1) (S : SC 38 g s) : CV g s := Or.inr ⟨h, S⟩
end SOLVED
