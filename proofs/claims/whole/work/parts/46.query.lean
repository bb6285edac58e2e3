/-! calls that ask -/
section QUERY
variable {t : List Nat} {L : List Int32} {g : Sy} {us : List Sy} {ks : Nat → Option Sy} {s : gS} {Q : Int32 → gS → Prop}
def KK (t : List Nat) (K : gS → Prop) : Prop := ∀ t' L g us ks s, t'.length ≤ t.length + 4 → okA t' L g us ks → CI t' L g us ks s → MI t' L g us ks s → K s
def eqK (K : gS → Prop) (r : Int32) : Int32 → gS → Prop := fun r' s2 => (r = r' → K s2) ∧ (¬ (r = r') → False)
/-- what a call that asks may do -/
def qC (g : Sy) (L' : List Int32) (r : Int32) (s : gS) (Q : Int32 → gS → Prop) : Prop := ∀ s', fR qD s s' → (∀ j, j ≠ 13 → s'.1 0 j = s.1 0 j) → RC L' s' → CV g s' → Q r s'
def qM (L' : List Int32) (r : Int32) (s : gS) (Q : Int32 → gS → Prop) : Prop := ∀ s', fm mD mF s s' → RM L' s' → Q r s'
theorem qD_cl : ∀ a, 177 ≤ a → qD a = false := by
  intro a ha
  unfold qD
  simp
  omega
theorem S_q {L' : List Int32} {r : Int32} {WC : (Int32 → gS → Prop) → Prop} {WM : gS → (Int32 → gS → Prop) → Prop} {K : gS → Prop} (A : okA t L g us ks) (C : CI t L g us ks s) (M : MI t L g us ks s) (hL : L'.length ≤ 24) (kk : KK t K) (hc : ∀ Q, qC g L' r s Q → WC Q) (hm : ∀ s1, MI t L g us ks s1 → ∀ Q, qM L' r s1 Q → WM s1 Q) : WC (fun r s1 => WM s1 (eqK K r)) := by
  refine hc _ (fun s1 f f0 R V => hm s1 (M.cl (f.cl qD_cl)) _ (fun s2 f2 R2 => ⟨fun _ => ?_, fun h => h rfl⟩))
  refine kk t L' g us ks s2 (by omega) ⟨A.1, hL, A.2.2⟩ ((C.q f.fr f0 R V).mo (f2.mo (by decide))) ((M.cl (f.cl qD_cl)).q f2 R2)
theorem sD_q : ∀ a, qD a = false → sD a = false := by
  intro a ha
  unfold qD at ha
  unfold sD
  simp at ha ⊢
  omega
theorem rD_q : ∀ a, qD a = false → rD a = false := by
  intro a ha
  unfold qD at ha
  unfold rD
  simp at ha ⊢
  omega
theorem rD_s {s s' : gS} (f : fR rD s s') (h : SC 38 g s) : SC 38 g s' := h.cg (fun a h1 h2 => f.1 a (by unfold rD; simp; omega))
theorem rD_so {so : Nat} {s s' : gS} (hso : 20 ≤ so) (f : fR rD s s') (h : SC so g s) : SC so g s' := h.cg (fun a h1 h2 => f.1 a (by unfold rD; simp; omega))
theorem rD_v {s s' : gS} (f : fR rD s s') (h : CV g s) : CV g s' := by
  unfold CV
  rw [f.1 0 rfl]
  exact h.imp id (fun h => ⟨h.1, rD_s f h.2⟩)
theorem sD_r {s s' : gS} {L : List Int32} (f : fR sD s s') (h : RC L s) : RC L s' := ⟨by rw [f.1 18 rfl]; exact h.1, h.2.1, fun i hi => by rw [f.1 19 rfl]; exact h.2.2 i hi⟩
theorem c_isEvent {e : Nat} (h : e < 6) : wpX11_isEvent (nI e) s Q = Q 1 s := by
  unfold wpX11_isEvent
  simp only [ltz (show e < 2 ^ 31 by omega), ge6 h, false_implies, true_and, not_false_eq_true, true_implies]
theorem c_isEvent0 {x : Int32} (h : x < 0 ∨ 6 ≤ x) : wpX11_isEvent x s Q = Q 0 s := by
  unfold wpX11_isEvent
  by_cases h1 : x < 0
  · simp [h1]
  · have h2 : 6 ≤ x := h.resolve_left h1
    simp [h1, h2]
/-- choices -/
theorem c_cwo (O : okS 10 g) (R : repC (s.1 21) g) (k : Q (nI (allP g).length) s) : wpX8_choicesWithoutOrders 20 s Q := by
  have hz : (nI (bts 6 (tl g)) = 0) = (any g = false) := by
    rw [bz6]
    apply propext
    constructor
    · intro h
      cases ha : any g with
      | false => rfl
      | true =>
        obtain ⟨e, he, ht⟩ := any_iff.mp ha
        rw [h e he] at ht
        cases ht
    · intro h e he
      cases ht : tl g e with
      | false => rfl
      | true =>
        rw [any_iff.mpr ⟨e, he, ht⟩] at h
        cases h
  have L : ∀ (b : Bool), (b = true → any g = true) → (b = false → any g = false) → ∀ n e, e + n = 6 → wX8_choicesWithoutOrders_15 20 Q (n + 1) (nI (if b then prd g e else 0)) (nI e) s := by
    intro b hb hb2 n
    induction n with
    | zero =>
      intro e he
      have : e = 6 := by omega
      subst this
      rw [wX8_choicesWithoutOrders_15]
      refine ⟨fun _ => ?_, fun h => absurd (by decide) h⟩
      rw [allP_len O] at k
      cases b with
      | true => rw [hb rfl] at k; exact k
      | false => rw [hb2 rfl] at k; exact k
    | succ n ih =>
      intro e he
      have he6 : e < 6 := by omega
      have := ih (e + 1) (by omega)
      rw [wX8_choicesWithoutOrders_15, c_isTold R he6, nI_1]
      simp only [ge6 he6, bi_0, false_implies, true_and, not_false_eq_true, true_implies]
      cases ht : tl g e with
      | false =>
        refine ⟨fun _ => ?_, fun h => absurd rfl h⟩
        rw [show prd g (e + 1) = prd g e by rw [prd, ht]; rfl] at this
        exact this
      | true =>
        refine ⟨fun h => (by cases h), fun _ => ?_⟩
        rw [c_inBits R he6, pop_6]
        have hb3 : b = true := by
          cases b with
          | true => rfl
          | false =>
            have := hb2 rfl
            rw [any_iff.mpr ⟨e, he6, ht⟩] at this
            cases this
        rw [hb3] at this ⊢
        rw [show prd g (e + 1) = prd g e * cnt 6 (inn g e) by rw [prd, ht]; rfl] at this
        rw [if_pos rfl] at this ⊢
        rw [show nI (prd g e) * nI (cnt 6 (inn g e)) = nI (prd g e * cnt 6 (inn g e)) from by
          rw [nI_i, nI_i, iI_mul, nI_i]
          congr 1]
        exact this
  unfold wpX8_choicesWithoutOrders wpX8_toldBits
  rw [show gi s (20 + 1) 1 = nI (bts 6 (tl g)) from R.2.2.1]
  dsimp only
  rw [hz]
  refine ⟨fun h => ⟨7, L true (fun _ => by simpa using h) (fun h => by cases h) 6 0 rfl⟩, fun h => ⟨7, L false (fun h => by cases h) (fun _ => h) 6 0 rfl⟩⟩
theorem C_choices (A : okA t L g us ks) (C : CI t L g us ks s) (k : qC g [nI (allP g).length] (nI (chs g).length) s Q) : wpX11_choices s Q := by
  obtain ⟨h1, h2, h3, h4, h5, h6, h7⟩ := C
  have O := A.2.2.1.1
  refine c_clear (fun s1 f1 R1 => ?_)
  have r1 : repC (s1.1 21) g := by rw [f1.1 21 rfl]; exact h3
  refine c_cwo O r1 ?_
  refine c_add R1 (by decide) (fun s2 f2 R2 => ?_)
  have r2 : repC (s2.1 21) g := by rw [f2.1 21 rfl]; exact r1
  refine c_solved O r2 (rD_v f2 (rD_v f1 h4)) (fun s3 f3 g3 v3 S3 => ?_)
  rw [show gi s3 38 8 = nI (chs g).length from S3.1]
  exact k s3 ((f1.mono rD_q).tr ((f2.mono rD_q).tr (f3.mono sD_q))) (fun j hj => by rw [g3 j hj, f2.1 0 rfl, f1.1 0 rfl]) (sD_r f3 R2) (CV1 v3 S3)
theorem m_th {s : gS} : fm mD mF s (wi s 177 5 0) := fm_wf (by decide)
theorem m_rw {s : gS} : fm mD mF s (wi s 177 4 0) := fm_wf (by decide)
theorem M_choices (A : okA t L g us ks) (M : MI t L g us ks s) (k : qM [nI (allP g).length] (nI (chs g).length) s Q) : wpX12_choices s Q := by
  obtain ⟨h1, h2, h3, h4, h5⟩ := M
  have O := A.2.2.1.1
  refine m_survey (by rw [wi_na _ _ _ _ (by decide)]; exact h3) O (by decide) (fun s1 f1 S1 => ?_)
  rw [show gi (wi s1 177 4 0) 177 18 = nI (allP g).length from by
    show (wi s1 177 4 0).1 177 18 = _
    rw [wi_ne _ _ _ _ (by decide)]; exact S1.2.1]
  refine m_tell m_new (by decide) (fun s2 f2 R2 => ?_)
  have e : gi s2 177 17 = nI (chs g).length := by
    show s2.1 177 17 = _
    rw [f2.2.1 17 (by decide), wi_ne _ _ _ _ (by decide)]
    exact S1.1
  rw [e]
  exact k s2 (m_th.tr ((f1.mono (by decide) (by decide)).tr (m_rw.tr (f2.mono (by decide) (by decide))))) R2
/-- best -/
def six (b : Nat → Int32) : List Int32 := [b 0, b 1, b 2, b 3, b 4, b 5]
theorem six_i (b : Nat → Int32) : ∀ n, n ≤ 6 → (six b).take n = (List.range n).map b := by
  intro n hn
  have : n = 0 ∨ n = 1 ∨ n = 2 ∨ n = 3 ∨ n = 4 ∨ n = 5 ∨ n = 6 := by omega
  rcases this with rfl | rfl | rfl | rfl | rfl | rfl | rfl <;> rfl
theorem c_tellBest {so : Nat} {Q : gS → Prop} (hso : 20 ≤ so) (S : SC so g s) (k : ∀ s', fR rD s s' → RC (six (bst g).2) s' → Q s') : wpX11_tellBest so s Q := by
  refine c_clear (fun s1 f1 R1 => ⟨7, ?_⟩)
  have L : ∀ n e, e + n = 6 → ∀ s2, fR rD s s2 → RC ((List.range e).map (bst g).2) s2 → wX11_tellBest_9 so Q (n + 1) (nI e) s2 := by
    intro n
    induction n with
    | zero =>
      intro e he s2 f2 R2
      have : e = 6 := by omega
      subst this
      rw [wX11_tellBest_9]
      exact ⟨fun _ => k s2 f2 R2, fun h => absurd (by decide) h⟩
    | succ n ih =>
      intro e he s2 f2 R2
      have he6 : e < 6 := by omega
      rw [wX11_tellBest_9]
      refine ⟨fun h => absurd h (by rw [ge6 he6]; exact id), fun _ => ?_⟩
      rw [c_best (rD_so hso f2 S) he6]
      refine c_add R2 (by simp; omega) (fun s3 f3 R3 => ?_)
      rw [nI_1]
      refine ih (e + 1) (by omega) s3 (f2.tr f3) ?_
      rw [List.range_succ, List.map_append]
      exact R3
  exact L 6 0 rfl s1 f1 R1
theorem C_best (A : okA t L g us ks) (C : CI t L g us ks s) (k : qC g (if chs g = [] then L else six (bst g).2) (if chs g = [] then -2 else iI (bst g).1) s Q) : wpX11_best s Q := by
  obtain ⟨h1, h2, h3, h4, h5, h6, h7⟩ := C
  have O := A.2.2.1.1
  have hl := chs_le O
  refine c_solved O h3 h4 (fun s1 f1 g1 v1 S1 => ?_)
  rw [show gi s1 38 8 = nI (chs g).length from S1.1, show (0 : Int32) = nI 0 from rfl, nI_eq (by omega) (by decide), List.length_eq_zero_iff]
  refine ⟨fun h => ?_, fun h => ?_⟩
  · rw [if_neg h, if_neg h] at k
    refine c_tellBest (by decide) S1 (fun s2 f2 R2 => ?_)
    have S2 := rD_s f2 S1
    rw [show gi s2 38 9 = iI (bst g).1 from S2.2.1]
    exact k s2 ((f1.mono sD_q).tr (f2.mono rD_q)) (fun j hj => by rw [f2.1 0 rfl, g1 j hj]) R2 (CV1 (by rw [f2.1 0 rfl]; exact v1) S2)
  · rw [if_pos h, if_pos h] at k
    exact k s1 (f1.mono sD_q) g1 (sD_r f1 h2) (CV1 v1 S1)
theorem m_tellPicks {a : Nat} {b : Nat → Int32} {Q : gS → Prop} (ha : a ≠ 177) (ha2 : a ≠ 180) (hb : ∀ e, e < 6 → s.1 a e = b e) (k : ∀ s', fm [180] [4] s s' → RM (six b) s' → Q s') : wpX12_tellPicks a s Q := by
  have L : ∀ n e, e + n = 6 → ∀ s2, fm [180] [4] s s2 → RM ((List.range e).map b) s2 → wX12_tellPicks_7 a Q (n + 1) (nI e) s2 := by
    intro n
    induction n with
    | zero =>
      intro e he s2 f2 R2
      have : e = 6 := by omega
      subst this
      rw [wX12_tellPicks_7]
      exact ⟨fun _ => k s2 f2 R2, fun h => absurd (by decide) h⟩
    | succ n ih =>
      intro e he s2 f2 R2
      have he6 : e < 6 := by omega
      rw [wX12_tellPicks_7]
      refine ⟨fun h => absurd h (by rw [ge6 he6]; exact id), fun _ => ⟨vp_in_nI he6 (by decide), ?_⟩⟩
      rw [ix_nI (by omega), show gi s2 a e = b e from by
        show s2.1 a e = b e
        rw [f2.1 a (by simp [ha2]) ha]
        exact hb e he6]
      refine m_tell R2 (by simp; omega) (fun s3 f3 R3 => ?_)
      rw [nI_1]
      refine ih (e + 1) (by omega) s3 (f2.tr f3) ?_
      rw [List.range_succ, List.map_append]
      exact R3
  exact ⟨7, L 6 0 rfl _ (fm_wf (by decide)) m_new⟩
theorem M_best (A : okA t L g us ks) (M : MI t L g us ks s) (k : qM (if chs g = [] then L else six (bst g).2) (if chs g = [] then -2 else iI (bst g).1) s Q) : wpX12_best s Q := by
  obtain ⟨h1, h2, h3, h4, h5⟩ := M
  have O := A.2.2.1.1
  have hl := chs_le O
  refine m_survey (by rw [wi_na _ _ _ _ (by decide)]; exact h3) O (by decide) (fun s1 f1 S1 => ?_)
  rw [show gi s1 177 17 = nI (chs g).length from S1.1, show (0 : Int32) = nI 0 from rfl, nI_eq (by omega) (by decide), List.length_eq_zero_iff]
  have f0 : fm mD mF s s1 := m_th.tr (f1.mono (by decide) (by decide))
  refine ⟨fun h => ?_, fun h => ?_⟩
  · rw [if_neg h, if_neg h] at k
    obtain ⟨b1, b2⟩ := S1.2.2.2 h
    refine m_tellPicks (by decide) (by decide) b2 (fun s2 f2 R2 => ?_)
    rw [show gi s2 177 21 = iI (bst g).1 from by
      show s2.1 177 21 = _
      rw [f2.2.1 21 (by decide)]; exact b1]
    exact k s2 (f0.tr (f2.mono (by decide) (by decide))) R2
  · rw [if_pos h, if_pos h] at k
    refine k s1 f0 ⟨?_, fun i hi => ?_⟩
    · rw [f1.2.1 4 (by decide), wi_ne _ _ _ _ (by decide)]; exact h2.1
    · rw [f1.2.2.1 180 (by decide)]; exact h2.2 i hi
end QUERY
