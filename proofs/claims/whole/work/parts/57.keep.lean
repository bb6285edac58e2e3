/-! keep, again, sign, end -/
section MUT
variable {t : List Nat} {L : List Int32} {g g' : Sy} {us us' : List Sy} {ks : Nat → Option Sy} {s s' : gS} {K : gS → Prop} {N : Nat}
theorem m_in01 {x : Int32} {Q : Int32 → gS → Prop} : wpX12_in x 0 1 s Q = Q (bi (decide (0 ≤ x) && decide (x < nI 2))) s := by
  have := m_in0 (s := s) (Q := Q) (x := x) (n := 2) (by decide)
  rwa [show nI 2 - 1 = (1 : Int32) from by decide] at this
def kpU (ks : Nat → Option Sy) (i : Nat) (g : Sy) : Nat → Option Sy := fun k => if k = i then some g else ks k
theorem S_no {r : Int32} {WM : gS → (Int32 → gS → Prop) → Prop} (A : okA t L g us ks) (C : CI t L g us ks s) (M : MI t L g us ks s) (kk : KK t K) (hm : ∀ Q, Q r (wi s 177 5 0) → WM s Q) : WM s (eqK K r) := hm _ ⟨fun _ => kk t L g us ks _ (by omega) A (C.mo (m_th.mo (by decide))) (M.q m_th M.2.1.th), fun h => h rfl⟩
theorem S_keep {x : Int32} (A : okA t L g us ks) (C : CI t L g us ks s) (M : MI t L g us ks s) (kk : KK t K) : wpX11_keep x s (fun r s1 => wpX12_keep x s1 (eqK K r)) := by
  have O := A.2.2.1.1
  have n170 : ix (170 : Int32) = 170 := by decide
  rcases ev_or x 2 (by decide) with ⟨i, hi, rfl⟩ | hx
  · unfold wpX11_keep wpX8_save
    refine ⟨fun h => absurd h (nI_pos (by omega)), fun _ => ⟨fun _ => ⟨vp_in_nI hi (by decide), fun h => absurd rfl h, fun _ => ?_⟩, fun h => absurd (show nI i < 2 from nI_lt (b := 2) hi (by decide)) h⟩⟩
    rw [ix_nI (by omega), n170]
    have hkb : gi (cpI s (20 + 1) (ix 0) (35 + 1 + i) (ix 0) 170) 0 9 ||| jshl 1 (nI i) = nI (bts 6 (fun k => decide (k < 2) && (kpU ks i g k).isSome)) := by
      rw [show gi (cpI s (20 + 1) (ix 0) (35 + 1 + i) (ix 0) 170) 0 9 = nI (bts 6 (fun i => decide (i < 2) && (ks i).isSome)) from by
        show (cpI s (20 + 1) (ix 0) (35 + 1 + i) (ix 0) 170).1 0 9 = _
        rw [cp_na _ _ _ _ _ _ (by omega)]; exact C.2.2.2.2.2.1.1, bor6 (by omega)]
      refine congrArg nI (bts_cg (fun k hk => ?_))
      unfold kpU
      by_cases h : k = i
      · subst h; simp [hi]
      · have h2 : (k == i) = false := by simpa using h
        simp [h, h2]
    show wpX12_keep (nI i) (wi (cpI s (20 + 1) (ix 0) (35 + 1 + i) (ix 0) 170) 0 9 (gi (cpI s (20 + 1) (ix 0) (35 + 1 + i) (ix 0) 170) 0 9 ||| jshl 1 (nI i))) (eqK K 1)
    rw [hkb]
    generalize hS : wi (cpI s (20 + 1) (ix 0) (35 + 1 + i) (ix 0) 170) 0 9 (nI (bts 6 (fun k => decide (k < 2) && (kpU ks i g k).isSome))) = S1
    have gne : ∀ b, b ≠ 0 → b ≠ 36 + i → S1.1 b = s.1 b := fun b h1 h2 => by rw [← hS, wi_na _ _ _ _ h1, cp_na _ _ _ _ _ _ (by omega)]
    have g0 : ∀ j, j ≠ 9 → S1.1 0 j = s.1 0 j := fun j hj => by rw [← hS, wi_ne _ _ _ _ hj, cp_na _ _ _ _ _ _ (by omega)]
    have g2 : S1.2 = s.2 := by rw [← hS]; rfl
    have C1 : CI t L g us (kpU ks i g) S1 := by
      obtain ⟨h1, h2, h3, h4, h5, h6, h7⟩ := C
      refine ⟨⟨?_, fun k hk => ?_⟩, ⟨?_, h2.2.1, fun k hk => ?_⟩, ?_, ?_, h5.cg (gne 25 (by omega) (by omega)) (fun a ha hb => gne a (by omega) (by omega)), ⟨?_, fun k hk u hu => ?_⟩, ?_⟩
      · show S1.1 1 1 = _; rw [gne 1 (by omega) (by omega)]; exact h1.1
      · show S1.1 2 k = _; rw [gne 2 (by omega) (by omega)]; exact h1.2 k hk
      · rw [gne 18 (by omega) (by omega)]; exact h2.1
      · rw [gne 19 (by omega) (by omega)]; exact h2.2.2 k hk
      · rw [gne 21 (by omega) (by omega)]; exact h3
      · unfold CV
        rw [g0 13 (by decide)]
        exact h4.imp id (fun v => ⟨v.1, v.2.cg (fun a ha hb => gne a (by omega) (by omega))⟩)
      · rw [← hS, wi_at]
      · unfold kpU at hu
        by_cases hki : k = i
        · rw [if_pos hki] at hu
          cases hu
          subst hki
          refine repC_f O (by decide) h3 (fun j hj => ?_)
          rw [← hS, wi_na _ _ _ _ (by omega)]
          exact cp_at _ _ _ _ hj
        · rw [if_neg hki] at hu
          rw [gne _ (by omega) (by omega)]
          exact h6.2 k hk u hu
      · unfold gP gt1 gt2 gt3; rw [g2]; exact h7
    have f1 : clF s S1 := ⟨fun a ha => gne a (by omega) (by omega), fun _ _ => by rw [g2]⟩
    have M1 := M.cl f1
    unfold wpX12_keep
    rw [m_in01, or_in hi (by decide)]
    refine ⟨fun _ => ⟨vp_in_nI hi (by decide), 219, ?_⟩, fun h => absurd h (by decide)⟩
    rw [ix_nI (by omega)]
    have Lp : ∀ n j, j + n = 218 → ∀ s1, fm [190, 191] [5] S1 s1 → (∀ k, k < 2 → s1.1 191 k = bi (kpU ks i g k).isSome) → (∀ k, k < j → s1.1 190 (218 * i + k) = g k) → (∀ k, ¬ (218 * i ≤ k ∧ k < 218 * i + 218) → s1.1 190 k = S1.1 190 k) → wX12_keep_25 (nI i) (eqK K 1) (n + 1) (nI j) s1 := by
      intro n
      induction n with
      | zero =>
        intro j hj s1 f hk h1 h2
        have : j = 218 := by omega
        subst this
        rw [wX12_keep_25]
        refine ⟨fun _ => ⟨fun _ => kk t L g us (kpU ks i g) s1 (by omega) ⟨A.1, A.2.1, A.2.2.1, A.2.2.2.1, A.2.2.2.2.1, fun k u hu => ?_⟩ (C1.mo (f.mo (by decide))) ?_, fun h => h rfl⟩, fun h => absurd (by decide) h⟩
        · unfold kpU at hu
          by_cases hki : k = i
          · rw [if_pos hki] at hu; cases hu; exact A.2.2.1
          · rw [if_neg hki] at hu; exact A.2.2.2.2.2 k u hu
        · obtain ⟨m1, m2, m3, m4, m5⟩ := M1
          refine ⟨⟨?_, fun k hk => ?_⟩, m2.cg (f.2.1 4 (by decide)) (f.2.2.1 180 (by decide)), ?_, m4.cg (f.2.1 26 (by decide)) (f.1 187 (by decide) (by decide)), fun k hk2 => ⟨hk k hk2, fun u hu j hj => ?_⟩⟩
          · show s1.1 177 2 = _; rw [f.2.1 2 (by decide)]; exact m1.1
          · show s1.1 179 k = _; rw [f.1 179 (by decide) (by decide)]; exact m1.2 k hk
          · rw [f.1 178 (by decide) (by decide)]; exact m3
          · unfold kpU at hu
            by_cases hki : k = i
            · rw [if_pos hki] at hu; cases hu; rw [hki]; exact h1 j hj
            · rw [if_neg hki] at hu
              rw [h2 _ (by omega)]
              exact (m5 k hk2).2 u hu j hj
      | succ n ih =>
        intro j hj s1 f hk h1 h2
        have hj2 : j < 218 := by omega
        have e5 : 218 * nI i + nI j = nI (218 * i + j) := by
          simp only [lit_i, nI_i, iI_add, iI_mul]
          congr 1
        rw [wX12_keep_25, nI_1, e5]
        simp only [ge218 hj2, vp_in_nI hj2 (show 218 < 2 ^ 31 by decide), vp_in_nI (show 218 * i + j < 436 by omega) (show 436 < 2 ^ 31 by decide), ix_nI (show j < 2 ^ 31 by omega), ix_nI (show 218 * i + j < 2 ^ 31 by omega), false_implies, true_and, not_false_eq_true, true_implies]
        refine ih (j + 1) (by omega) _ (f.tr (fm_wi (by decide) (by decide))) (fun k hk2 => by rw [wi_na _ _ _ _ (by decide)]; exact hk k hk2) (fun k hk2 => ?_) (fun k hk2 => ?_)
        · by_cases hkj : k = j
          · subst hkj
            rw [wi_at]
            show s1.1 178 k = _
            rw [f.1 178 (by decide) (by decide), M1.2.2.1]
          · rw [wi_ne _ _ _ _ (by omega)]; exact h1 k (by omega)
        · rw [wi_ne _ _ _ _ (by omega)]; exact h2 k hk2
    refine Lp 218 0 rfl _ (fm.tr (fm_wf (by decide)) (fm_wi (by decide) (by decide))) (fun k hk => ?_) (fun k hk => by omega) (fun k hk => by rw [wi_na _ _ _ _ (by decide), wi_na _ _ _ _ (by decide)])
    unfold kpU
    by_cases hki : k = i
    · subst hki
      rw [wi_at, if_pos rfl]
      exact (by decide : vp_nar .boolean 1 = (1 : Int32))
    · rw [wi_ne _ _ _ _ hki, wi_na _ _ _ _ (by decide), if_neg hki]
      exact (M1.2.2.2.2 k hk).1
  · have go : wpX12_keep x s (eqK K 0) := S_no A C M kk (fun Q k => by
      unfold wpX12_keep
      rw [m_in01, or_out hx]
      exact ⟨fun h => absurd rfl h, fun _ => k⟩)
    unfold wpX11_keep
    refine ⟨fun _ => go, fun h => ⟨fun h2 => ?_, fun _ => go⟩⟩
    rcases hx with hx | hx
    · exact absurd hx h
    · exact absurd h2 (Int32.not_lt.mpr hx)
theorem S_again {x : Int32} (A : okA t L g us ks) (C : CI t L g us ks s) (M : MI t L g us ks s) (kk : KK t K) : wpX11_again x s (fun r s1 => wpX12_again x s1 (eqK K r)) := by
  have n170 : ix (170 : Int32) = 170 := by decide
  rcases ev_or x 2 (by decide) with ⟨i, hi, rfl⟩ | hx
  · unfold wpX11_again
    have hb : gi s 0 9 = nI (bts 6 (fun i => decide (i < 2) && (ks i).isSome)) := C.2.2.2.2.2.1.1
    rw [hb, c_hasBit (by omega)]
    have hle : ¬ (2 : Int32) ≤ nI i := by
      rw [show (2 : Int32) = nI 2 from rfl, nI_leI (by decide) (by omega)]
      omega
    refine ⟨fun h => absurd h (nI_pos (by omega)), fun _ => ⟨fun h => absurd h hle, fun _ => ?_⟩⟩
    simp only [hi, decide_true, Bool.true_and]
    have hme : ∀ s1, MI t L g us ks s1 → gi (wi s1 177 5 0) 191 i = bi (ks i).isSome := fun s1 M1 => by
      show (wi s1 177 5 0).1 191 i = _
      rw [wi_na _ _ _ _ (by decide)]
      exact (M1.2.2.2.2 i hi).1
    cases hk : ks i with
    | none =>
      refine ⟨fun h => absurd rfl h, fun _ => ?_⟩
      refine S_no A C M kk (WM := wpX12_again (nI i)) (fun Q k => ?_)
      unfold wpX12_again
      rw [m_in01, or_in hi (by decide)]
      refine ⟨fun h => absurd h (by decide), fun _ => ⟨vp_in_nI hi (by decide), ?_⟩⟩
      rw [ix_nI (by omega), hme s M, hk]
      exact ⟨fun h => absurd rfl h, fun _ => k⟩
    | some u =>
      obtain ⟨O, Z⟩ := A.2.2.2.2.2 i u hk
      refine ⟨fun _ => ⟨vp_in_nI hi (by decide), ?_⟩, fun h => absurd h (show ¬ (1 : Int32) = 0 by decide)⟩
      unfold wpX8_load wpX3_clear
      refine ⟨fun h => absurd rfl h, fun _ => ?_⟩
      rw [ix_nI (by omega), n170]
      show wpX12_again (nI i) (wi (wi (cpI s (35 + 1 + i) (ix 0) (20 + 1) (ix 0) 170) 0 13 0) 25 2 0) (eqK K 1)
      generalize hS : wi (wi (cpI s (35 + 1 + i) (ix 0) (20 + 1) (ix 0) 170) 0 13 0) 25 2 0 = S1
      have gne : ∀ b, b ≠ 0 → b ≠ 21 → b ≠ 25 → S1.1 b = s.1 b := fun b h1 h2 h3 => by rw [← hS, wi_na _ _ _ _ h3, wi_na _ _ _ _ h1, cp_na _ _ _ _ _ _ h2]
      have g0 : ∀ j, j ≠ 13 → S1.1 0 j = s.1 0 j := fun j hj => by rw [← hS, wi_na _ _ _ _ (by decide), wi_ne _ _ _ _ hj, cp_na _ _ _ _ _ _ (by decide)]
      have g2 : S1.2 = s.2 := by rw [← hS]; rfl
      obtain ⟨p1, nx, hnx, p2, p3⟩ := C.2.2.2.2.1
      have C1 : CI t L u [] ks S1 := by
        refine C.mut (f := ⟨fun a ha => ?_, g2⟩) g0 ?_ (Or.inl ?_) ⟨?_, nx, hnx, ?_, fun k hk => by cases hk⟩
        · unfold uD at ha
          simp at ha
          exact gne a (by omega) (by omega) (by omega)
        · refine repC_f O (by decide) (C.2.2.2.2.2.1.2 i hi u hk) (fun j hj => ?_)
          rw [← hS, wi_na _ _ _ _ (by decide), wi_na _ _ _ _ (by decide)]
          exact cp_at _ _ _ _ hj
        · rw [← hS, wi_na _ _ _ _ (by decide), wi_at]
        · rw [← hS, wi_at]; rfl
        · rw [← hS, wi_ne _ _ _ _ (by decide), wi_na _ _ _ _ (by decide), cp_na _ _ _ _ _ _ (by decide)]; exact p2
      have f1 : clF s S1 := ⟨fun a ha => gne a (by omega) (by omega) (by omega), fun _ _ => by rw [g2]⟩
      have M1 := M.cl f1
      unfold wpX12_again
      rw [m_in01, or_in hi (by decide)]
      refine ⟨fun h => absurd h (by decide), fun _ => ⟨vp_in_nI hi (by decide), ?_⟩⟩
      rw [ix_nI (by omega), hme S1 M1, hk]
      refine ⟨fun _ => ⟨219, ?_⟩, fun h => absurd h (show ¬ (1 : Int32) = 0 by decide)⟩
      have Lp : ∀ n j, j + n = 218 → ∀ s1, fm [178] [5] S1 s1 → (∀ k, k < j → s1.1 178 k = u k) → (∀ k, j ≤ k → s1.1 178 k = S1.1 178 k) → wX12_again_27 (nI i) (eqK K 1) (n + 1) (nI j) s1 := by
        intro n
        induction n with
        | zero =>
          intro j hj s1 f h1 h2
          have : j = 218 := by omega
          subst this
          rw [wX12_again_27]
          have hg : (wi s1 177 26 0).1 178 = u := by
            funext j
            rw [wi_na _ _ _ _ (by decide)]
            by_cases hj : j < 218
            · exact h1 j hj
            · rw [h2 j (by omega), M1.2.2.1, A.2.2.1.2 j (by omega), Z j (by omega)]
          have f9 : fm (178 :: 187 :: mD) (26 :: mF) S1 (wi s1 177 26 0) := (f.mono (by decide) (by decide)).tr (fm_wf (by decide))
          refine ⟨fun _ => ⟨fun _ => kk t L u [] ks _ (by omega) ⟨A.1, A.2.1, ⟨O, Z⟩, by simp, fun v hv => by simp at hv, A.2.2.2.2.2⟩ (C1.mo (f9.mo (by decide))) ?_, fun h => h rfl⟩, fun h => absurd (by decide) h⟩
          exact M1.mut f9 hg ⟨wi_at _ _ _ _, fun k hk => by cases hk⟩ (M1.2.1.cg (by rw [wi_ne _ _ _ _ (by decide)]; exact f.2.1 4 (by decide)) (f.2.2.1 180 (by decide)))
        | succ n ih =>
          intro j hj s1 f h1 h2
          have hj2 : j < 218 := by omega
          have e5 : 218 * nI i + nI j = nI (218 * i + j) := by
            simp only [lit_i, nI_i, iI_add, iI_mul]
            congr 1
          rw [wX12_again_27, nI_1, e5]
          simp only [ge218 hj2, vp_in_nI hj2 (show 218 < 2 ^ 31 by decide), vp_in_nI (show 218 * i + j < 436 by omega) (show 436 < 2 ^ 31 by decide), ix_nI (show j < 2 ^ 31 by omega), ix_nI (show 218 * i + j < 2 ^ 31 by omega), false_implies, true_and, not_false_eq_true, true_implies]
          refine ih (j + 1) (by omega) _ (f.tr (fm_wi (by decide) (by decide))) (fun k hk2 => ?_) (fun k hk2 => ?_)
          · by_cases hkj : k = j
            · subst hkj
              rw [wi_at]
              show s1.1 190 _ = _
              rw [f.1 190 (by decide) (by decide)]
              exact (M1.2.2.2.2 i hi).2 u hk k hj2
            · rw [wi_ne _ _ _ _ hkj]; exact h1 k (by omega)
          · rw [wi_ne _ _ _ _ (by omega)]; exact h2 k (by omega)
      exact Lp 218 0 rfl _ (fm_wf (by decide)) (fun k hk => by omega) (fun k _ => by rw [wi_na _ _ _ _ (by decide)])
  · have go : wpX12_again x s (eqK K 0) := S_no A C M kk (fun Q k => by
      unfold wpX12_again
      rw [m_in01, or_out hx]
      exact ⟨fun _ => k, fun h => absurd rfl h⟩)
    unfold wpX11_again
    refine ⟨fun _ => go, fun h => ⟨fun _ => go, fun h2 => ?_⟩⟩
    rcases hx with hx | hx
    · exact absurd hx h
    · exact absurd hx h2
/-- texts -/
theorem CI.tx {t' : List Nat} {D : Nat → Bool} (C : CI t L g us ks s) (f : fr D s s') (hD : ∀ a, D a = true → a = 1 ∨ a = 2) (h : txC t' s') : CI t' L g us ks s' := by
  have hf : ∀ a, a ≠ 1 → a ≠ 2 → s'.1 a = s.1 a := fun a h1 h2 => f.1 a (by
    cases hd : D a with
    | false => rfl
    | true => rcases hD a hd with h | h <;> omega)
  obtain ⟨h1, h2, h3, h4, h5, h6, h7⟩ := C
  refine ⟨h, ⟨?_, h2.2.1, fun k hk => ?_⟩, ?_, ?_, h5.cg (hf 25 (by omega) (by omega)) (fun a ha hb => hf a (by omega) (by omega)), ⟨?_, fun k hk u hu => ?_⟩, ?_⟩
  · rw [hf 18 (by omega) (by omega)]; exact h2.1
  · rw [hf 19 (by omega) (by omega)]; exact h2.2.2 k hk
  · rw [hf 21 (by omega) (by omega)]; exact h3
  · exact h4.cg (hf 0 (by omega) (by omega)) (fun a ha hb => hf a (by omega) (by omega))
  · rw [hf 0 (by omega) (by omega)]; exact h6.1
  · rw [hf _ (by omega) (by omega)]; exact h6.2 k hk u hu
  · unfold gP gt1 gt2 gt3; rw [f.2.2]; exact h7
theorem MI.tx {t' : List Nat} {D : Nat → Bool} (M : MI t L g us ks s) (f : fr D s s') (hD : ∀ a, D a = true → a = 177 ∨ a = 179) (hj : ∀ j, j ≠ 5 → j ≠ 2 → gi s' 177 j = gi s 177 j) (h : txM t' s') : MI t' L g us ks s' := by
  have hd : ∀ a, a ≠ 177 → a ≠ 179 → D a = false := fun a h1 h2 => by
    cases hd : D a with
    | false => rfl
    | true => rcases hD a hd with h | h <;> omega
  obtain ⟨m1, m2, m3, m4, m5⟩ := M
  refine ⟨h, m2.cg (hj 4 (by decide) (by decide)) (f.2.1 180 (hd 180 (by omega) (by omega))), ?_, m4.cg (hj 26 (by decide) (by decide)) (f.1 187 (hd 187 (by omega) (by omega))), fun k hk => ⟨?_, fun u hu j hj => ?_⟩⟩
  · rw [f.1 178 (hd 178 (by omega) (by omega))]; exact m3
  · rw [f.1 191 (hd 191 (by omega) (by omega))]; exact (m5 k hk).1
  · rw [f.1 190 (hd 190 (by omega) (by omega))]; exact (m5 k hk).2 u hu j hj
theorem okA.tx {t' : List Nat} (A : okA t L g us ks) (h : okT t') : okA t' L g us ks := ⟨h, A.2⟩
theorem S_sign {x : Int32} (A : okA t L g us ks) (C : CI t L g us ks s) (M : MI t L g us ks s) (kk : KK t K) : wpX11_sign x s (fun r s1 => wpX12_sign x s1 (eqK K r)) := by
  refine C_sign A.1 C.1 (fun h => ?_) (fun h s1 f1 h1 => ?_)
  · refine M_sign A.1 M.1 (fun _ s2 f2 g2 => ⟨fun _ => ?_, fun h => h rfl⟩) (fun h2 => by omega)
    refine kk t L g us ks s2 (by omega) A (C.mo ⟨fun a ha => f2.1 a (by simp; omega), f2.2.2, f2.2.1 192 rfl⟩) (M.tx f2 (fun a ha => Or.inl (by simpa using ha)) (fun j h5 _ => g2 j h5) ⟨?_, fun i hi => ?_⟩)
    · rw [g2 2 (by decide)]; exact M.1.1
    · rw [f2.gi rfl]; exact M.1.2 i hi
  · have hD1 : ∀ a, (fun a => a == 1 || a == 2) a = true → a = 1 ∨ a = 2 := fun a ha => by simpa using ha
    have hc : clF s s1 := ⟨fun a ha => f1.1 a (by simp; omega), fun a ha => f1.2.1 a (by simp; omega)⟩
    have M1 := M.cl hc
    have A1 : okA (t ++ bytes4 x) L g us ks := A.tx (okT_app A.1 h)
    have C1 := C.tx f1 hD1 h1
    refine M_sign A.1 M1.1 (fun h2 => by omega) (fun _ s2 f2 g2 h2 => ⟨fun _ => ?_, fun h => h rfl⟩)
    exact kk (t ++ bytes4 x) L g us ks s2 (by simp [bytes4]) A1 (C1.mo ⟨fun a ha => f2.1 a (by simp; omega), f2.2.2, f2.2.1 192 rfl⟩) (M1.tx f2 (fun a ha => by simpa using ha) g2 h2)
theorem S_end {x : Int32} (A : okA t L g us ks) (C : CI t L g us ks s) (M : MI t L g us ks s) (kk : KK t K) : wpX11_end x s (fun r s1 => wpX12_end x s1 (eqK K r)) := by
  refine C_end A.1 C.1 (fun h => ?_) (fun h s1 f1 h1 => ?_)
  · refine M_end A.1 M.1 (fun _ s2 f2 g2 => ⟨fun _ => ?_, fun h => h rfl⟩) (fun h2 => absurd h h2)
    refine kk t L g us ks s2 (by omega) A (C.mo ⟨fun a ha => f2.1 a (by simp; omega), f2.2.2, f2.2.1 192 rfl⟩) (M.tx f2 (fun a ha => Or.inl (by simpa using ha)) (fun j h5 _ => g2 j h5) ⟨?_, fun i hi => ?_⟩)
    · rw [g2 2 (by decide)]; exact M.1.1
    · rw [f2.gi rfl]; exact M.1.2 i hi
  · have hc : clF s s1 := ⟨fun a ha => f1.1 a (by simp; omega), fun a ha => f1.2.1 a (by simp; omega)⟩
    have M1 := M.cl hc
    have A1 : okA (t.take (ix x)) L g us ks := A.tx (A.1.take _)
    have C1 := C.tx f1 (fun a ha => Or.inl (by simpa using ha)) h1
    refine M_end A.1 M1.1 (fun h2 => absurd h2 h) (fun _ s2 f2 g2 h2 => ⟨fun _ => ?_, fun h => h rfl⟩)
    exact kk (t.take (ix x)) L g us ks s2 (by have := List.length_take_le' (ix x) t; omega) A1 (C1.mo ⟨fun a ha => f2.1 a (by simp; omega), f2.2.2, f2.2.1 192 rfl⟩) (M1.tx f2 (fun a ha => Or.inl (by simpa using ha)) g2 h2)
end MUT
