/-! phrases: the reference passes a word -/
section MWORD
variable {t : List Nat} {s s' s0 : gS} {Q : Int32 → gS → Prop} {Q' : gS → Prop} {p q e k : Nat}
def ATQ (t : List Nat) (q : Nat) (s : gS) : Prop := if bdQ t q = true then s.1 177 8 = nI (tbQ t q) else LVQ t q s
theorem m_hb {A B : gS → Prop} (ht : okT t) (T : TX t s) (h7 : s.1 177 7 = nI q) (hq : q < 1000) (nb : ¬ (q < t.length ∧ isBl (sg t q) = true)) (a : A s) : wpX12_here s (fun r s => (¬ r = 32 → A s) ∧ (r = 32 → B s)) := by
  by_cases h : q < t.length
  · have hl := sg_lt ht q
    rw [m_here ht T h7 h]
    refine ⟨fun _ => a, fun c => absurd ⟨h, ?_⟩ nb⟩
    rw [show (32 : Int32) = nI 32 from rfl, nI_eq (by omega) (by decide)] at c
    rw [c]
    rfl
  · rw [m_here0 T h7 (by omega) hq]
    exact ⟨fun _ => a, fun c => absurd c (by decide)⟩
theorem m_go1 {n : Nat} (ht : okT t) (T : TX t s) (h7 : s.1 177 7 = nI q) (h8 : s.1 177 8 = -1) (hq : q ≤ t.length) (nb : ¬ (q < t.length ∧ isBl (sg t q) = true)) (kk : ∀ s', fm [] gF s s' → ATQ t q s' → Q' s') : wX12_goWord_8 Q' (n + 1) s := by
  have h80 := ht.1
  rw [wX12_goWord_8]
  refine m_hb ht T h7 (by omega) nb ?_
  rw [show gi s 177 7 = nI q from h7]
  have T1 : TX t (wi s 177 9 (nI q)) := T.cg (wi_ne _ _ _ _ (by decide)) (wi_na _ _ _ _ (by decide))
  rw [m_hd ht T1 (q := q) (by rw [wi_ne _ _ _ _ (by decide)]; exact h7) (by omega)]
  refine ⟨bi_01 _, ?_⟩
  have T2 : TX t (wi (wi s 177 9 (nI q)) 177 11 (bi (dD t q))) := T1.cg (wi_ne _ _ _ _ (by decide)) (wi_na _ _ _ _ (by decide))
  rw [m_hl ht T2 (q := q) (by rw [wi_ne _ _ _ _ (by decide), wi_ne _ _ _ _ (by decide)]; exact h7) (by omega)]
  refine ⟨bi_01 _, ?_⟩
  obtain ⟨x, hx⟩ : ∃ x, x = wi (wi (wi (wi s 177 9 (nI q)) 177 11 (bi (dD t q))) 177 12 (bi (dL t q))) 177 10 0 := ⟨_, rfl⟩
  rw [← hx]
  have e6 : x.1 177 6 = nI t.length := by rw [hx, wi_ne _ _ _ _ (by decide), wi_ne _ _ _ _ (by decide), wi_ne _ _ _ _ (by decide), wi_ne _ _ _ _ (by decide)]; exact T.1
  have e7 : x.1 177 7 = nI q := by rw [hx, wi_ne _ _ _ _ (by decide), wi_ne _ _ _ _ (by decide), wi_ne _ _ _ _ (by decide), wi_ne _ _ _ _ (by decide)]; exact h7
  have e8 : x.1 177 8 = -1 := by rw [hx, wi_ne _ _ _ _ (by decide), wi_ne _ _ _ _ (by decide), wi_ne _ _ _ _ (by decide), wi_ne _ _ _ _ (by decide)]; exact h8
  have e9 : x.1 177 9 = nI q := by rw [hx, wi_ne _ _ _ _ (by decide), wi_ne _ _ _ _ (by decide), wi_ne _ _ _ _ (by decide), wi_at]
  have e11 : x.1 177 11 = bi (dD t q) := by rw [hx, wi_ne _ _ _ _ (by decide), wi_ne _ _ _ _ (by decide), wi_at]
  have e12 : x.1 177 12 = bi (dL t q) := by rw [hx, wi_ne _ _ _ _ (by decide), wi_at]
  have e10 : x.1 177 10 = nI 0 := by rw [hx, wi_at]; rfl
  have fx : fm [] gF s x := by
    rw [hx]
    exact (fm_wf (by decide)).tr ((fm_wf (by decide)).tr ((fm_wf (by decide)).tr (fm_wf (by decide))))
  have TX3 : TX t x := T.cg (fx.2.1 6 (by decide)) (fx.1 179 (by decide) (by decide))
  rw [show gi x 177 11 = bi (dD t q) from e11, show gi x 177 12 = bi (dL t q) from e12, show gi x 177 6 = nI t.length from e6, show gi x 177 7 = nI q from e7, bi_0, bi_0]
  cases hd : dD t q with
  | true =>
    rw [hd] at e11
    refine ⟨fun h => (by cases h), fun _ => ⟨t.length - q + 1, ?_⟩⟩
    rw [dD_t] at hd
    have hl : dL t q = false := by
      cases h : dL t q with
      | false => rfl
      | true =>
        rw [dL_t] at h
        have a1 := h.2
        have a2 := hd.2
        unfold isLt at a1
        unfold isDg at a2
        simp at a1 a2
        omega
    rw [hl] at e12
    refine m_digs (q := q) ht 4 0 0 x (t.length - q) TX3 e7 e9 e8 e10 rfl (by omega) (by omega) (fun s' hn f a b => kk s' (fx.tr (f.mono (by decide) (by decide))) ?_) (fun s' hn f a => kk s' (fx.tr (f.mono (by decide) (by decide))) ?_)
    · have hn : ¬ (tN t q < t.length ∧ isDg (sg t (tN t q)) = true) := hn
      have i1 : tkQ t q = 100 + dfn t 0 (tN t q - q) q := by unfold tkQ; rw [if_neg (by omega), if_pos hd.2, if_neg hn]
      have i2 : bdQ t q = false := by unfold bdQ; rw [if_neg (by omega), if_pos hd.2]; exact decide_eq_false hn
      have i3 : teQ t q = tN t q := by unfold teQ; rw [if_neg (by omega), if_pos hd.2]
      have i4 : tbQ t q = q := by unfold tbQ; rw [if_neg (by omega), if_pos hd.2, if_neg hn]
      unfold ATQ
      rw [if_neg (by rw [i2]; decide)]
      refine ⟨by rw [i3]; exact a, by rw [f.2.1 8 (by decide)]; exact e8, by rw [f.2.1 9 (by decide), i4]; exact e9, ?_, ?_, ?_⟩
      · rw [b, i1]
        congr 1
        show dfn t 0 (tN t q - q) q = _
        omega
      · rw [f.2.1 11 (by decide), e11, i1, decide_eq_true (by omega)]
      · rw [f.2.1 12 (by decide), e12, i1, decide_eq_false (by omega)]
    · have hn : tN t q < t.length ∧ isDg (sg t (tN t q)) = true := hn
      have i2 : bdQ t q = true := by unfold bdQ; rw [if_neg (by omega), if_pos hd.2]; exact decide_eq_true hn
      have i4 : tbQ t q = tN t q := by unfold tbQ; rw [if_neg (by omega), if_pos hd.2, if_pos hn]
      unfold ATQ
      rw [if_pos i2, i4]
      exact a
  | false =>
    rw [hd] at e11
    refine ⟨fun _ => ?_, fun h => absurd rfl h⟩
    have hd' : ¬ (q < t.length ∧ isDg (sg t q) = true) := by rw [← dD_t, hd]; decide
    cases hl : dL t q with
    | true =>
      rw [hl] at e12
      refine ⟨fun h => (by cases h), fun _ => ⟨t.length - q + 1, ?_⟩⟩
      rw [dL_t] at hl
      have hdg : ¬ isDg (sg t q) = true := fun c => hd' ⟨hl.1, c⟩
      refine m_lets ht (t.length - q) q x TX3 e7 (by omega) (by omega) (fun s' f a => kk s' (fx.tr (f.mono (by decide) (by decide))) ?_)
      have i1 : tkQ t q = wdL.idxOf (slc t q (tL t q)) := by unfold tkQ; rw [if_neg (by omega), if_neg hdg]
      have i2 : bdQ t q = false := by unfold bdQ; rw [if_neg (by omega), if_neg hdg, hl.2]; rfl
      have i3 : teQ t q = tL t q := by unfold teQ; rw [if_neg (by omega), if_neg hdg]
      have i4 : tbQ t q = q := by unfold tbQ; rw [if_neg (by omega), if_neg hdg]
      have i5 : tL t q = skp isLt t (t.length - q) q := skp_fu _ _ _ (by omega) (by omega)
      have i6 := idx_le (slc t q (tL t q))
      unfold ATQ
      rw [if_neg (by rw [i2]; decide)]
      refine ⟨by rw [i3, i5]; exact a, by rw [f.2.1 8 (by decide)]; exact e8, by rw [f.2.1 9 (by decide), i4]; exact e9, ?_, ?_, ?_⟩
      · rw [f.2.1 10 (by decide), e10, i1]
        congr 1
        omega
      · rw [f.2.1 11 (by decide), e11, i1, decide_eq_false (by omega)]
      · rw [f.2.1 12 (by decide), e12, i1, decide_eq_true (by omega)]
    | false =>
      rw [hl] at e12
      refine ⟨fun _ => ?_, fun h => absurd rfl h⟩
      have hl' : ¬ (q < t.length ∧ isLt (sg t q) = true) := by rw [← dL_t, hl]; decide
      rw [nI_leI (by omega) (by omega)]
      refine ⟨fun h => kk x fx ?_, fun h => ?_⟩
      · have i1 : tkQ t q = 41 := by unfold tkQ; rw [if_pos h]
        have i2 : bdQ t q = false := by unfold bdQ; rw [if_pos h]
        have i3 : teQ t q = q := by unfold teQ; rw [if_pos h]
        have i4 : tbQ t q = q := by unfold tbQ; rw [if_pos h]
        unfold ATQ
        rw [if_neg (by rw [i2]; decide)]
        exact ⟨by rw [i3]; exact e7, e8, by rw [i4]; exact e9, by rw [i1]; exact e10, by rw [i1]; exact e11, by rw [i1]; exact e12⟩
      · have hdg : ¬ isDg (sg t q) = true := fun c => hd' ⟨by omega, c⟩
        have hlt : isLt (sg t q) = false := by
          cases c : isLt (sg t q) with
          | false => rfl
          | true => exact absurd ⟨by omega, c⟩ hl'
        have i2 : bdQ t q = true := by unfold bdQ; rw [if_neg h, if_neg hdg, hlt]; rfl
        have i4 : tbQ t q = q := by unfold tbQ; rw [if_neg h, if_neg hdg]
        rw [m_fault1 e8]
        refine kk _ (fx.tr (fm_wf (by decide))) ?_
        unfold ATQ
        rw [if_pos i2, i4]
        exact wi_at _ _ _ _
theorem m_go (ht : okT t) (T : TX t s) (h7 : s.1 177 7 = nI p) (h8 : s.1 177 8 = -1) (hp : p ≤ t.length) (kk : ∀ s', fm [] gF s s' → AT t p s' → Q' s') : wpX12_goWord s Q' := by
  have h80 := ht.1
  unfold wpX12_goWord
  rw [m_fine1 h8]
  have Lp : ∀ n p s, TX t s → s.1 177 7 = nI p → s.1 177 8 = -1 → p ≤ t.length → t.length ≤ p + n → (∀ s', fm [] gF s s' → ATQ t (skp isBl t n p) s' → Q' s') → wX12_goWord_8 Q' (n + 1) s := by
    intro n
    induction n with
    | zero =>
      intro p s T h7 h8 hp hn kk
      exact m_go1 ht T h7 h8 hp (by omega) kk
    | succ n ih =>
      intro p s T h7 h8 hp hn kk
      by_cases h : p < t.length ∧ isBl (sg t p) = true
      · rw [skp, if_pos h] at kk
        rw [wX12_goWord_8, m_here ht T h7 h.1]
        have e : nI (sg t p) = 32 := by
          have := h.2
          unfold isBl at this
          rw [of_decide_eq_true this]
          rfl
        refine ⟨fun c => absurd e c, fun _ => ?_⟩
        rw [show gi s 177 7 = nI p from h7, nI_1]
        exact ih (p + 1) _ (T.cg (wi_ne _ _ _ _ (by decide)) (wi_na _ _ _ _ (by decide))) (wi_at _ _ _ _) (by rw [wi_ne _ _ _ _ (by decide)]; exact h8) (by omega) (by omega) (fun s' f a => kk s' ((fm_wf (by decide)).tr f) a)
      · rw [skp_no h] at kk
        exact m_go1 ht T h7 h8 hp h kk
  exact j1 ⟨81, Lp 80 p s T h7 h8 hp (by omega) kk⟩
theorem AT.live (A : AT t p s) (h : bd t p = false) : LVQ t (tq t p) s := by
  unfold AT at A
  rw [h] at A
  exact A
theorem AT.bad (A : AT t p s) (h : bd t p = true) : s.1 177 8 = nI (tb t p) := by
  unfold AT at A
  rw [if_pos h] at A
  exact A
/-- a word of letters -/
theorem let_q (h : bd t p = false) (hk : tk t p ≤ 40) : te t p = tL t (tq t p) ∧ tb t p = tq t p ∧ tk t p = wdL.idxOf (slc t (tq t p) (te t p)) ∧ tq t p < t.length := by
  unfold bd bdQ at h
  unfold tk tkQ at hk ⊢
  unfold te tb teQ tbQ
  split at hk
  · omega
  next h1 =>
    rw [if_neg h1] at h
    split at hk
    next h2 =>
      rw [if_pos h2] at h
      rw [if_neg (of_decide_eq_false h)] at hk
      omega
    next h2 =>
      rw [if_neg h1, if_neg h2, if_neg h1, if_neg h2, if_neg h1, if_neg h2]
      exact ⟨rfl, rfl, rfl, by omega⟩
/-- the string a is the word k -/
def okW (a k : Nat) : Prop := (g_sb a).length = (wd k).length ∧ k < 40 ∧ ∀ j, j < (wd k).length → sch a j = nI ((wd k).getD j 0) ∧ (wd k).getD j 0 < 128
theorem sg8_lt {c : Nat} (h : c < 128) : sg8 c = nI c := by
  unfold sg8
  rw [if_pos h]
theorem m_is {a : Nat} (ht : okT t) (T : TX t s) (A : AT t p s) (hp : p ≤ t.length) (W : okW a k) (k1 : tk t p = k → Q 1 s) (k0 : tk t p ≠ k → Q 0 s) : wpX12_is a s Q := by
  have h80 := ht.1
  obtain ⟨w1, w2, w3⟩ := W
  unfold wpX12_is
  cases hb : bd t p with
  | true =>
    have h40 := bd_40 hb
    have := tb_le hp
    rw [m_fine0 (by omega) (A.bad hb)]
    exact i0 (k0 (by omega))
  | false =>
    obtain ⟨a7, a8, a9, a10, a11, a12⟩ := A.live hb
    rw [m_fine1 a8]
    refine i1 ?_
    rw [show gi s 177 12 = _ from a12, bi_0]
    by_cases hk : tk t p ≤ 40
    · obtain ⟨b1, b2, b3, b4⟩ := let_q hb hk
      have hk' : tkQ t (tq t p) ≤ 40 := hk
      rw [decide_eq_true hk']
      refine ⟨fun h => (by cases h), fun _ => ?_⟩
      have e1 : teQ t (tq t p) = te t p := rfl
      have e2 : tbQ t (tq t p) = tq t p := b2
      have l1 := te_le hp
      have l2 : tq t p ≤ te t p := by rw [b1]; exact skp_ge _ _
      have hlen : (wd k).length < 20 := by
        have : ∀ k, k < 40 → (wd k).length < 20 := by decide +kernel
        exact this k w2
      have e3 : nI (te t p) - nI (tq t p) = nI (te t p - tq t p) := by rw [nI_subI, nI_i]; congr 1; omega
      have e4 : sl a = nI (wd k).length := by show nI (g_sb a).length = _; rw [w1]
      rw [show gi s 177 7 = _ from a7, show gi s 177 9 = _ from a9, e1, e2, e3, e4, nI_eq (by omega) (by omega)]
      have hv := slc_len (t := t) (q := tq t p) l1
      refine ⟨fun hl => ?_, fun hl => k0 (fun c => hl ?_)⟩
      · have Lp : ∀ m j, j + m = (wd k).length → (∀ i, i < j → sg t (tq t p + i) = (wd k).getD i 0) → wX12_is_34 a Q (m + 1) (nI j) s := by
          intro m
          induction m with
          | zero =>
            intro j hj hi
            rw [wX12_is_34, e4]
            refine ⟨fun _ => k1 ?_, fun h => absurd (nI_le (by omega) (by omega)) h⟩
            rw [b3, idx_wd w2]
            apply List.ext_getElem?
            intro i
            by_cases hi2 : i < (wd k).length
            · have h3 := slc_get (t := t) (q := tq t p) (e := te t p) (j := i) (by omega)
              rw [hi i (by omega), List.getD_eq_getElem?_getD, List.getD_eq_getElem?_getD, List.getElem?_eq_getElem (by omega), List.getElem?_eq_getElem hi2] at h3
              rw [List.getElem?_eq_getElem (by omega), List.getElem?_eq_getElem hi2]
              exact congrArg some h3
            · rw [List.getElem?_eq_none (by omega), List.getElem?_eq_none (by omega)]
          | succ m ih =>
            intro j hj hi
            obtain ⟨c1, c2⟩ := w3 j (by omega)
            have hin := skp_in (f := isLt) (t := t) 80 (tq t p) (tq t p + j) (by omega) (by show tq t p + j < tL t (tq t p); omega)
            have hs := hin.2
            unfold isLt at hs
            simp at hs
            have e5 : nI (tq t p) + nI j = nI (tq t p + j) := n4a _ _
            have e6 : gi s 179 (tq t p + j) = nI (sg t (tq t p + j)) := by
              rw [← sg8_lt (by omega)]
              exact T.2 _ hin.1
            rw [wX12_is_34, e4, show gi s 177 9 = _ from a9, e2, e5, ix_nI (by omega), ix_nI (by omega), e6, c1, nI_eq (by omega) (by omega), nI_1]
            refine ⟨fun h => absurd ((nI_leI (by omega) (by omega)).mp h) (by omega), fun _ => ⟨vp_in_nI (by omega) (by decide), vp_in_nI (by rw [w1]; omega) (by rw [w1]; omega), fun h => ih (j + 1) (by omega) (fun i hi2 => ?_), fun h => k0 (fun c => h ?_)⟩⟩
            · by_cases e : i = j
              · rw [e]; exact h
              · exact hi i (by omega)
            · rw [b3, idx_wd w2] at c
              rw [← c, slc_get (by omega)]
        exact ⟨(wd k).length + 1, Lp _ 0 (by omega) (fun i hi => by omega)⟩
      · rw [b3, idx_wd w2] at c
        rw [← c, hv]
    · have hk' : ¬ tkQ t (tq t p) ≤ 40 := hk
      rw [decide_eq_false hk']
      exact ⟨fun _ => k0 (by omega), fun h => absurd rfl h⟩
end MWORD
