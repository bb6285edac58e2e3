/-! with -/
section LEFTC
variable {so N : Nat} {s : gS} {g : Nat → Int32} {Q : Int32 → gS → Prop}
theorem m_isLeftC {e i : Nat} (O : okS N g) (S : ∀ e i, e < 6 → i < 6 → s.1 183 (6 * e + i) = nI (cw g e i)) (he : e < 6) (hi : i < 6) : wpX12_isLeft (nI e) (nI i) s Q = Q (bi (lf g e i)) s := by
  unfold wpX12_isLeft
  have e1 : 6 * nI e + nI i = nI (6 * e + i) := by
    simp only [lit_i, nI_i, iI_add, iI_mul]
    congr 1
  have e2 : gi s 183 (6 * e + i) = nI (cw g e i) := S e i he hi
  simp only [e1, ix_nI (show 6 * e + i < 2 ^ 31 by omega), e2, cw_z O, vp_in_nI (show 6 * e + i < 36 by omega) (show 36 < 2 ^ 31 by decide), true_and]
  cases lf g e i <;> simp [bi]
theorem m_leftManyC {e : Nat} (O : okS N g) (S : ∀ e i, e < 6 → i < 6 → s.1 183 (6 * e + i) = nI (cw g e i)) (he : e < 6) (k : Q (nI (cnt 6 (lf g e))) s) : wpX12_leftMany (nI e) s Q := by
  have L : ∀ n i, i + n = 6 → wX12_leftMany_4 (nI e) Q (n + 1) (nI (cnt i (lf g e))) (nI i) s := by
    intro n
    induction n with
    | zero =>
      intro i hi
      have : i = 6 := by omega
      subst this
      rw [wX12_leftMany_4]
      exact ⟨fun _ => k, fun h => absurd (by decide) h⟩
    | succ n ih =>
      intro i hi
      have hi6 : i < 6 := by omega
      have := ih (i + 1) (by omega)
      rw [cnt_s] at this
      rw [wX12_leftMany_4, m_isLeftC O S he hi6, nI_1 i, nI_1, show ∀ z, nI z + 0 = nI z from fun z => Int32.add_zero _]
      simp only [ge6 hi6, bi_0, false_implies, true_and, not_false_eq_true, true_implies]
      cases hl : lf g e i with
      | false =>
        rw [hl] at this
        exact ⟨fun _ => by simpa using this, fun h => absurd rfl h⟩
      | true =>
        rw [hl] at this
        exact ⟨fun h => (by cases h), fun _ => by simpa using this⟩
  exact ⟨7, L 6 0 rfl⟩
theorem m_leftAllC (O : okS N g) (S : ∀ e i, e < 6 → i < 6 → s.1 183 (6 * e + i) = nI (cw g e i)) (k : Q (nI (lal g 6)) s) : wpX12_leftAll s Q := by
  have L : ∀ n e, e + n = 6 → wX12_leftAll_4 Q (n + 1) (nI (lal g e)) (nI e) s := by
    intro n
    induction n with
    | zero =>
      intro e he
      have : e = 6 := by omega
      subst this
      rw [wX12_leftAll_4]
      exact ⟨fun _ => k, fun h => absurd (by decide) h⟩
    | succ n ih =>
      intro e he
      have he6 : e < 6 := by omega
      rw [wX12_leftAll_4]
      refine ⟨fun h => absurd h (by rw [ge6 he6]; exact id), fun _ => m_leftManyC O S he6 ?_⟩
      rw [nI_1, nI_add]
      exact ih (e + 1) (by omega)
  exact ⟨7, L 6 0 rfl⟩
end LEFTC
section WITH
variable {t : List Nat} {L : List Int32} {g g' : Sy} {us us' : List Sy} {ks : Nat → Option Sy} {s s' : gS} {K : gS → Prop} {N : Nat}
theorem insF_cg {e : Nat} (h : ∀ i, i < 6 → inn g' e i = inn g e i) : ∀ n i, i + n ≤ 6 → insF g' e n i = insF g e n i := by
  intro n
  induction n with
  | zero => intro i _; rfl
  | succ n ih =>
    intro i hi
    unfold insF
    rw [h i (by omega), ih (i + 1) (by omega)]
theorem ins_cg {e : Nat} (O : okS N g) (he : e < 6) (hm : mn g' e = mn g e) (h : ∀ i, i < 6 → inn g' e i = inn g e i) : ins g' e = ins g e := by
  unfold ins
  rw [hm]
  exact insF_cg h _ _ (by have := (O.2.2.2.1 e he).2; omega)
theorem PN_cg : ∀ n, n ≤ 6 → (∀ e, e < 6 → tl g' e = tl g e ∧ ins g' e = ins g e) → PN g' n = PN g n := by
  intro n
  induction n with
  | zero => intro _ _; rfl
  | succ n ih =>
    intro hn h
    unfold PN
    rw [(h n (by omega)).1, (h n (by omega)).2, ih (by omega) h]
theorem any_cg (h : ∀ e, e < 6 → tl g' e = tl g e) : any g' = any g := by
  cases ha : any g with
  | true =>
    obtain ⟨e, he, ht⟩ := any_iff.mp ha
    exact any_iff.mpr ⟨e, he, by rw [h e he]; exact ht⟩
  | false =>
    cases hb : any g' with
    | false => rfl
    | true =>
      obtain ⟨e, he, ht⟩ := any_iff.mp hb
      rw [h e he] at ht
      rw [any_iff.mpr ⟨e, he, ht⟩] at ha
      cases ha
/-- what a new order breaks -/
def nb (g : Sy) (k x y : Nat) (q : Nat → Int32) : Bool := tl g x && tl g y && !hld k (vl g x (ix (q x)) 0) (vl g x (ix (q x)) 1) (vl g y (ix (q y)) 0) (vl g y (ix (q y)) 1)
theorem vq_lt {q : Nat → Int32} {e : Nat} (O : okS N g) (V : vq g 6 q) (he : e < 6) (ht : tl g e = true) : ix (q e) < mn g e ∧ q e = nI (ix (q e)) ∧ ix (q e) < 6 := by
  obtain ⟨i, hi, hq⟩ := (V e).1 ⟨he, ht⟩
  have hm := (O.2.2.2.1 e he).2
  have := inn_lt hi
  rw [hq, ix_nI (by omega)]
  exact ⟨by omega, rfl, by omega⟩
theorem ad_allP {k x y : Nat} (O : okS N g) : allP (adO g k x y) = allP g := by
  have ht : ∀ e, e < 6 → tl (adO g k x y) e = tl g e := fun e he => v_tl (ad_h (by omega) (by omega))
  unfold allP
  rw [any_cg ht, PN_cg 6 (Nat.le_refl _) (fun e he => ⟨ht e he, ins_cg O he (v_mn (ad_h (by omega) (by omega))) (fun i hi => v_inn (ad_h (by omega) (by omega)) (ad_h (by omega) (by omega)))⟩)]
theorem ad_gd {k x y : Nat} {q : Nat → Int32} (O : okS 10 g) (V : vq g 6 q) (hk : k < 5) (hx : x < 6) (hy : y < 6) : gd (adO g k x y) q = (gd g q && !nb g k x y q) := by
  have hn := O.2.1.2
  obtain ⟨v1, v2, v3, -, -, -⟩ := ad_v (g := g) hk hx hy
  have ht : ∀ e, e < 6 → tl (adO g k x y) e = tl g e := fun e he => v_tl (ad_h (by omega) (by omega))
  have hv : ∀ e w, e < 6 → w < 2 → tl g e = true → vl (adO g k x y) e (ix (q e)) w = vl g e (ix (q e)) w := fun e w he hw ht => by
    have := (vq_lt O V he ht).2.2
    exact v_vl (ad_h (by omega) (by omega))
  have hnew : brk (adO g k x y) q (no g) = nb g k x y q := by
    unfold brk nb
    rw [v1, v2, v3, ht x hx, ht y hy]
    cases h1 : tl g x with
    | false => simp
    | true =>
      cases h2 : tl g y with
      | false => simp
      | true => rw [hv x 0 hx (by decide) h1, hv x 1 hx (by decide) h1, hv y 0 hy (by decide) h2, hv y 1 hy (by decide) h2]
  have hold : ∀ o, o < no g → brk (adO g k x y) q o = brk g q o := by
    intro o ho
    obtain ⟨w1, w2, w3⟩ := ad_o (g := g) (k := k) (x := x) (y := y) ho
    obtain ⟨-, -, -, -, c5, c6, -⟩ := O.2.2.1 o ho
    unfold brk
    rw [w1, w2, w3, ht _ c5, ht _ c6]
    cases h1 : tl g (ox g o) with
    | false => simp
    | true =>
      cases h2 : tl g (oy g o) with
      | false => simp
      | true => rw [hv _ 0 c5 (by decide) h1, hv _ 1 c5 (by decide) h1, hv _ 0 c6 (by decide) h2, hv _ 1 c6 (by decide) h2]
  unfold gd bb
  rw [ad_no (by omega), bts_s, hnew, bts_cg hold]
  cases nb g k x y q with
  | false => simp
  | true =>
    have : 0 < 2 ^ no g := Nat.two_pow_pos _
    simp
def gw (g : Sy) (k x y : Nat) (q : Nat → Int32) : Bool := gd g q && !nb g k x y q
theorem ad_chs {k x y : Nat} (O : okS 10 g) (hk : k < 5) (hx : x < 6) (hy : y < 6) : chs (adO g k x y) = (allP g).filter (gw g k x y) := by
  unfold chs
  rw [ad_allP O]
  exact fil_cg (fun q hq => ad_gd O (allP_ne hq).2.1 hk hx hy)
theorem m_w149 {x1 x2 x3 : Int32} {k193 : Int32 → Int32 → gS → Prop} {Q : Int32 → gS → Prop} {y4 y5 : Int32} {q : Nat → Int32} (O : okS N g) (V : vq g 6 q) : ∀ n e, e + n = 6 → ∀ s : gS, s.1 178 = g → pk s q → (∀ s', fm [183] [] s s' → (∀ e' i, e' < 6 → i < 6 → s'.1 183 (6 * e' + i) = s.1 183 (6 * e' + i) + (if e ≤ e' ∧ tl g e' = true ∧ q e' = nI i then 1 else 0)) → k193 y4 y5 s') → wX12_with_149 x1 x2 x3 Q k193 (n + 1) y4 y5 (nI e) s := by
  intro n
  induction n with
  | zero =>
    intro e he s M P k
    have : e = 6 := by omega
    subst this
    rw [wX12_with_149]
    refine ⟨fun _ => k s fm.rf (fun e' i h1 h2 => ?_), fun h => absurd (by decide) h⟩
    rw [if_neg (by omega)]
    exact (Int32.add_zero _).symm
  | succ n ih =>
    intro e he s M P k
    have he6 : e < 6 := by omega
    rw [wX12_with_149, m_isTold M he6, nI_1]
    simp only [ge6 he6, bi_0, false_implies, true_and, not_false_eq_true, true_implies]
    cases ht : tl g e with
    | false =>
      refine ⟨fun _ => ih (e + 1) (by omega) s M P (fun s' hs h1 => k s' hs (fun e' i a b => ?_)), fun h => absurd rfl h⟩
      rw [h1 e' i a b]
      congr 1
      by_cases h : e' = e
      · subst h
        simp [ht]
      · have : (e + 1 ≤ e') = (e ≤ e') := by simp; omega
        simp only [this]
    | true =>
      refine ⟨fun h => (by cases h), fun _ => ⟨vp_in_nI he6 (by decide), ?_⟩⟩
      obtain ⟨i0, hi, hq⟩ := (V e).1 ⟨he6, ht⟩
      have hi2 := inn_lt hi
      have hm := (O.2.2.2.1 e he6).2
      have e1 : 6 * nI e + gi s 182 (ix (nI e)) = nI (6 * e + i0) := by
        rw [ix_nI (by omega), show gi s 182 e = nI i0 by rw [← hq, ← P e he6]; rfl]
        simp only [lit_i, nI_i, iI_add, iI_mul]
        congr 1
      rw [e1]
      refine ⟨vp_in_nI (by omega) (by decide), vp_in_nI (by omega) (by decide), ?_⟩
      rw [ix_nI (by omega)]
      refine ih (e + 1) (by omega) _ (by rw [wi_na _ _ _ _ (by decide)]; exact M) (fun k hk => by rw [wi_na _ _ _ _ (by decide)]; exact P k hk) (fun s' hs h1 => k s' (fm.tr (fm_wi (by decide) (by decide)) hs) (fun e' i a b => ?_))
      rw [h1 e' i a b]
      by_cases h : e' = e
      · subst h
        by_cases h3 : i = i0
        · subst h3
          rw [wi_at, if_neg (by omega), if_pos ⟨Nat.le_refl _, ht, hq⟩]
          exact Int32.add_zero _
        · rw [wi_ne _ _ _ _ (by omega)]
          have : ¬ nI i0 = nI i := by
            rw [nI_eq (by omega) (by omega)]
            omega
          simp [ht, hq, this]
      · rw [wi_ne _ _ _ _ (by omega)]
        congr 1
        have : (e + 1 ≤ e') = (e ≤ e') := by simp; omega
        simp only [this]
theorem m_w51 {x1 x2 x3 y4 y5 : Int32} {Q : Int32 → gS → Prop} : ∀ n i, i + n = 36 → ∀ s : gS, (∀ k, k < i → s.1 183 k = 0) → (∀ s', fm [183] [] s s' → (∀ k, k < 36 → s'.1 183 k = 0) → wpX12_startPicks s' (fun r14 s14 => ∃ n81, wX12_with_81 x1 x2 x3 Q n81 y4 y5 r14 s14)) → wX12_with_51 x1 x2 x3 Q (n + 1) y4 y5 (nI i) s := by
  intro n
  induction n with
  | zero =>
    intro i hi s Z k
    have : i = 36 := by omega
    subst this
    rw [wX12_with_51]
    exact ⟨fun _ => k s fm.rf Z, fun h => absurd (by decide) h⟩
  | succ n ih =>
    intro i hi s Z k
    have hle : (36 ≤ nI i) = False := by
      rw [show (36 : Int32) = nI 36 from rfl, nI_leI (by decide) (by omega)]
      simp; omega
    rw [wX12_with_51, nI_1]
    simp only [hle, vp_in_nI (show i < 36 by omega) (show 36 < 2 ^ 31 by decide), false_implies, true_and, not_false_eq_true, true_implies, ix_nI (show i < 2 ^ 31 by omega)]
    refine ih (i + 1) (by omega) _ (fun k hk => ?_) (fun s' hs => k s' (fm.tr (fm_wi (by decide) (by decide)) hs))
    by_cases h : k = i
    · subst h; rw [wi_at]
    · rw [wi_ne _ _ _ _ h]; exact Z k (by omega)
def AW (g : Sy) (k x y : Nat) (d : List (Nat → Int32)) (s : gS) : Prop := ∀ e i, e < 6 → i < 6 → s.1 183 (6 * e + i) = nI ((d.filter (gw g k x y)).countP fun q => tl g e && q e == nI i)
theorem m_w81 {k x y : Nat} {y4 : Int32} {Q : Int32 → gS → Prop} (O : okS 10 g) (hk : k < 5) (hx : x < 6) (hy : y < 6) : ∀ (l : List (Nat → Int32)) (q : Nat → Int32) (d : List (Nat → Int32)), allP g = d ++ q :: l → chn (nxN g 6) (q :: l) → ∀ s : gS, s.1 178 = g → pk s q → AW g k x y d s → (∀ s', fm [182, 183] [] s s' → AW g k x y (allP g) s' → wX12_with_81 (nI k) (nI x) (nI y) Q 1 y4 (nI ((allP g).filter (gw g k x y)).length) 0 s') → wX12_with_81 (nI k) (nI x) (nI y) Q (l.length + 2) y4 (nI (d.filter (gw g k x y)).length) 1 s := by
  have step : ∀ (q : Nat → Int32) (d : List (Nat → Int32)) (s : gS) (k81 : Int32 → Int32 → Int32 → gS → Prop), q ∈ allP g → s.1 178 = g → pk s q → AW g k x y d s → (∀ s', fm [182, 183] [] s s' → s'.1 178 = g → pk s' q → AW g k x y (d ++ [q]) s' → wX12_with_193 (nI k) (nI x) (nI y) Q k81 y4 (nI ((d ++ [q]).filter (gw g k x y)).length) s') → wpX12_isTold (nI x) s (fun r9 s9 => (r9 = 0 → wX12_with_124 (nI k) (nI x) (nI y) Q (wX12_with_129 (nI k) (nI x) (nI y) Q k81) y4 (nI (d.filter (gw g k x y)).length) s9) ∧ (¬ (r9 = 0) → wpX12_isTold (nI y) s9 (fun r10 s10 => (r10 = 0 → wX12_with_124 (nI k) (nI x) (nI y) Q (wX12_with_129 (nI k) (nI x) (nI y) Q k81) y4 (nI (d.filter (gw g k x y)).length) s10) ∧ (¬ (r10 = 0) → vp_in (nI x) 6 ∧ (vp_in (nI y) 6 ∧ (wpX12_holdsBy (nI k) (nI x) (gi s10 182 (ix (nI x))) (nI y) (gi s10 182 (ix (nI y))) s10 (fun r13 s13 => (r13 = 0 → wX12_with_129 (nI k) (nI x) (nI y) Q k81 y4 (nI (d.filter (gw g k x y)).length) 0 s13) ∧ (¬ (r13 = 0) → wX12_with_124 (nI k) (nI x) (nI y) Q (wX12_with_129 (nI k) (nI x) (nI y) Q k81) y4 (nI (d.filter (gw g k x y)).length) s13)))))))) := by
    intro q d s k81 hq M P W K
    obtain ⟨-, V, -⟩ := allP_ne hq
    -- not one of those that are counted
    have skip : gw g k x y q = false → wX12_with_193 (nI k) (nI x) (nI y) Q k81 y4 (nI (d.filter (gw g k x y)).length) s := by
      intro hg
      have hf : (d ++ [q]).filter (gw g k x y) = d.filter (gw g k x y) := by simp [List.filter_append, hg]
      have := K s fm.rf M P (by unfold AW; rw [hf]; exact W)
      rw [hf] at this
      exact this
    -- the new order holds
    have go : nb g k x y q = false → wX12_with_129 (nI k) (nI x) (nI y) Q k81 y4 (nI (d.filter (gw g k x y)).length) 1 s := by
      intro hnb
      unfold wX12_with_129
      refine ⟨fun h => absurd h (by decide), fun _ => ?_⟩
      refine m_brokenNow M O (by decide) P V ?_
      have hb : bb g q < 2 ^ 31 := by
        have h1 := bts_lt (no g) (brk g q)
        have hno := O.2.1.2
        have h2 : 2 ^ no g ≤ 2 ^ 10 := Nat.pow_le_pow_right (by decide) (by omega)
        unfold bb
        omega
      have hz : (nI (bb g q) = 0) = (bb g q = 0) := by rw [show (0 : Int32) = nI 0 from rfl, nI_eq hb (by decide)]
      rw [hz]
      refine ⟨fun h => skip (by simp [gw, gd, h]), fun h => ⟨7, ?_⟩⟩
      have hg : gw g k x y q = true := by simp [gw, gd, h, hnb]
      have hf : (d ++ [q]).filter (gw g k x y) = d.filter (gw g k x y) ++ [q] := by simp [List.filter_append, hg]
      rw [nI_1]
      refine m_w149 (q := q) O V 6 0 rfl s M P (fun s' hs h1 => ?_)
      have := K s' (hs.mono (by decide) (by decide)) (by rw [hs.1 178 (by decide) (by decide)]; exact M) (fun e he => by rw [hs.1 182 (by decide) (by decide)]; exact P e he) (fun e i he hi => ?_)
      · rw [hf] at this
        simpa using this
      · rw [h1 e i he hi, W e i he hi, hf, List.countP_append]
        by_cases hc : tl g e = true ∧ q e = nI i
        · simp [hc, nI_1]
        · have : (tl g e && q e == nI i) = false := by
            cases ht : tl g e <;> simp [ht] at hc ⊢
            exact hc
          rw [if_neg (fun h => hc h.2)]
          simp [this]
    rw [m_isTold M hx]
    cases h1 : tl g x with
    | false => exact ⟨fun _ => go (by simp [nb, h1]), fun h => absurd rfl h⟩
    | true =>
      refine ⟨fun h => absurd h (by decide), fun _ => ?_⟩
      rw [m_isTold M hy]
      cases h2 : tl g y with
      | false => exact ⟨fun _ => go (by simp [nb, h2]), fun h => absurd rfl h⟩
      | true =>
        refine ⟨fun h => absurd h (by decide), fun _ => ⟨vp_in_nI hx (by decide), vp_in_nI hy (by decide), ?_⟩⟩
        obtain ⟨a1, a2, a3⟩ := vq_lt O V hx h1
        obtain ⟨b1, b2, b3⟩ := vq_lt O V hy h2
        rw [ix_nI (by omega), ix_nI (by omega), show gi s 182 x = nI (ix (q x)) from by rw [← a2, ← P x hx]; rfl, show gi s 182 y = nI (ix (q y)) from by rw [← b2, ← P y hy]; rfl, m_holdsBy M O hk hx hy a1 b1]
        cases h3 : hld k (vl g x (ix (q x)) 0) (vl g x (ix (q x)) 1) (vl g y (ix (q y)) 0) (vl g y (ix (q y)) 1) with
        | true => exact ⟨fun h => absurd h (by decide), fun _ => go (by simp [nb, h3])⟩
        | false =>
          refine ⟨fun _ => ?_, fun h => absurd rfl h⟩
          unfold wX12_with_129
          exact ⟨fun _ => skip (by simp [gw, nb, h1, h2, h3]), fun h => absurd rfl h⟩
  intro l
  induction l with
  | nil =>
    intro q d hd C s M P W K
    have hq : q ∈ allP g := by rw [hd]; simp
    show wX12_with_81 (nI k) (nI x) (nI y) Q (1 + 1) y4 (nI (d.filter (gw g k x y)).length) 1 s
    rw [wX12_with_81]
    refine ⟨fun h => absurd h (by decide), fun _ => step q d s _ hq M P W (fun s2 f2 M2 P2 W2 => ?_)⟩
    unfold wX12_with_193
    refine m_next M2 O hq P2 C (fun _ s3 f3 => ?_) (fun q' t' h => by cases h)
    rw [show d ++ [q] = allP g from hd.symm]
    refine K s3 (f2.tr (f3.mono (by decide) (by decide))) (fun e i he hi => ?_)
    rw [f3.1 183 (by decide) (by decide), hd]
    exact W2 e i he hi
  | cons q' l ih =>
    intro q d hd C s M P W K
    have hq : q ∈ allP g := by rw [hd]; simp
    show wX12_with_81 (nI k) (nI x) (nI y) Q ((l.length + 2) + 1) y4 (nI (d.filter (gw g k x y)).length) 1 s
    rw [wX12_with_81]
    refine ⟨fun h => absurd h (by decide), fun _ => step q d s _ hq M P W (fun s2 f2 M2 P2 W2 => ?_)⟩
    unfold wX12_with_193
    refine m_next M2 O hq P2 C (fun h => by cases h) (fun q'' t' h C2 s3 f3 P3 => ?_)
    cases h
    refine ih q' (d ++ [q]) (by rw [hd]; simp) C2 s3 (by rw [f3.1 178 (by decide) (by decide)]; exact M2) P3 (fun e i he hi => ?_) (fun s' hs hA => K s' (f2.tr ((f3.mono (by decide) (by decide)).tr hs)) hA)
    rw [f3.1 183 (by decide) (by decide)]
    exact W2 e i he hi
theorem S_with {x1 x2 x3 : Int32} (A : okA t L g us ks) (C : CI t L g us ks s) (M : MI t L g us ks s) (kk : KK t K) : wpX11_with x1 x2 x3 s (fun r s1 => wpX12_with x1 x2 x3 s1 (eqK K r)) := by
  have O := A.2.2.1.1
  have hn := O.2.1.2
  have M0 : ∀ s1, MI t L g us ks s1 → (wi s1 177 5 0).1 178 = g := fun s1 h => by rw [wi_na _ _ _ _ (by decide)]; exact h.2.2.1
  have ld : ∀ (Q : Int32 → gS → Prop) (r : Int32) (y1 y2 y3 : Int32), r < 0 → qC g L r s Q → (∀ s1, repC (s1.1 (22 + 1)) g → ∀ Q', Q' r s1 → wpX8_addOrder 22 y1 y2 y3 11 s1 Q') → wpX11_with y1 y2 y3 s Q := by
    intro Q r y1 y2 y3 hr k ha
    refine c_load O C.2.2.1 (fun s1 f1 R1 => ha s1 R1 _ ⟨fun h => absurd hr (Int32.not_lt.mpr h), fun _ => ?_⟩)
    have ft := f1.mono e23_t
    exact k s1 (ft.mono tD_q) (fun j hj => by rw [f1.1 0 rfl]) ⟨by rw [f1.1 18 rfl]; exact C.2.1.1, C.2.1.2.1, fun i hi => by rw [f1.1 19 rfl]; exact C.2.1.2.2 i hi⟩ (tD_v ft C.2.2.2.1)
  rcases o_or x1 x2 x3 with ⟨k, x, y, hk, hx, hy, hxy, rfl, rfl, rfl⟩ | hb
  · by_cases hex : oEx g k x y
    · refine S_q (L' := L) (r := -2) (WC := wpX11_with (nI k) (nI x) (nI y) s) (WM := wpX12_with (nI k) (nI x) (nI y)) A C M A.2.1 kk (fun Q kq => ld Q (-2) _ _ _ (by decide) kq (fun s1 R1 Q' k' => c_addOrder (m := 11) O (by decide) (by decide) R1 hk hx hy hxy (fun _ => k') (fun h => absurd hex h) (fun h => absurd hex h))) (fun s1 M1 Q kq => ?_)
      unfold wpX12_with
      refine m_isOrder hk hx hy hxy ⟨fun _ => ?_, fun h => absurd h (by decide)⟩
      refine m_refO (M0 s1 M1) O hk hx hy hxy (fun _ => ⟨fun h => absurd rfl h, fun _ => qM_th M1 kq⟩) (fun h => absurd hex h) (fun h => absurd hex h)
    · have O' : okS 11 (adO g k x y) := ok_ad O (by decide) (by omega) hk hx hy hxy
      refine S_q (L' := [iI ((lal g 6 : Int) - lal (adO g k x y) 6)]) (r := nI (chs (adO g k x y)).length) (WC := wpX11_with (nI k) (nI x) (nI y) s) (WM := wpX12_with (nI k) (nI x) (nI y)) A C M (by simp) kk (fun Q kq => ?_) (fun s1 M1 Q kq => ?_)
      · refine c_load O C.2.2.1 (fun s1 f1 R1 => ?_)
        refine c_addOrder (m := 11) O (by decide) (by decide) R1 hk hx hy hxy (fun h => absurd h hex) (fun _ h => by omega) (fun _ _ s2 f2 R2 => ⟨fun _ => ?_, fun h => absurd (nI_pos' (by omega)) h⟩)
        refine c_solve (by decide) (by decide) O' R2 (fun s3 f3 S3 => ?_)
        have ft : fR tD s s3 := (f1.mono e23_t).tr ((f2.mono e23_t).tr (fo_t f3))
        refine c_clear (fun s4 f4 R4 => ?_)
        have S4 := rD_so (so := 88) (by decide) f4 S3
        refine c_solved O (by rw [f4.1 21 rfl, ft.1 21 rfl]; exact C.2.2.1) (rD_v f4 (tD_v ft C.2.2.2.1)) (fun s5 f5 g5 v5 S5 => ?_)
        refine c_leftOfAll O S5 ?_
        have S5' := sD_88 f5 S4
        refine c_leftOfAll O' S5' ?_
        rw [nI_subI]
        refine c_add (sD_r f5 R4) (by simp) (fun s6 f6 R6 => ?_)
        have S6 := rD_so (so := 88) (by decide) f6 S5'
        rw [show gi s6 88 8 = nI (chs (adO g k x y)).length from S6.1]
        exact kq s6 ((ft.mono tD_q).tr ((f4.mono rD_q).tr ((f5.mono sD_q).tr (f6.mono rD_q)))) (fun j hj => by rw [f6.1 0 rfl, g5 j hj, f4.1 0 rfl, ft.1 0 rfl]) R6 (CV1 (by rw [f6.1 0 rfl]; exact v5) (rD_s f6 S5))
      · unfold wpX12_with
        refine m_isOrder hk hx hy hxy ⟨fun _ => ?_, fun h => absurd h (by decide)⟩
        have main : wpX12_survey (wi s1 177 5 0) (fun s3 => wpX12_leftAll s3 (fun r4 s4 => ∃ n51, wX12_with_51 (nI k) (nI x) (nI y) Q n51 r4 0 0 s4)) := by
          refine m_survey (M0 s1 M1) O (by decide) (fun s2 f2 S2 => m_leftAll O S2 ⟨37, ?_⟩)
          have M2 : s2.1 178 = g := by rw [f2.1 178 (by decide) (by decide)]; exact M0 s1 M1
          have fin : ∀ s4, fm [182, 183] [] s2 s4 → AW g k x y (allP g) s4 → wX12_with_81 (nI k) (nI x) (nI y) Q 1 (nI (lal g 6)) (nI ((allP g).filter (gw g k x y)).length) 0 s4 := by
            intro s4 f4 W4
            show wX12_with_81 (nI k) (nI x) (nI y) Q (0 + 1) (nI (lal g 6)) (nI ((allP g).filter (gw g k x y)).length) 0 s4
            rw [wX12_with_81]
            refine ⟨fun _ => ?_, fun h => absurd rfl h⟩
            have hcw : ∀ e i, e < 6 → i < 6 → s4.1 183 (6 * e + i) = nI (cw (adO g k x y) e i) := by
              intro e i he hi
              rw [W4 e i he hi]
              unfold cw
              rw [ad_chs O hk hx hy, v_tl (show adO g k x y (2 + e) = g (2 + e) from ad_h (by omega) (by omega))]
            refine m_leftAllC O' hcw ?_
            rw [nI_subI]
            refine m_tell m_new (by simp) (fun s5 f5 R5 => ?_)
            rw [← ad_chs O hk hx hy]
            exact kq s5 (m_th.tr ((f2.mono (by decide) (by decide)).tr ((f4.mono (by decide) (by decide)).tr (m_rw.tr (f5.mono (by decide) (by decide)))))) R5
          refine m_w51 36 0 rfl s2 (fun k hk => by omega) (fun s3 f3 Z => ?_)
          have M3 : s3.1 178 = g := by rw [f3.1 178 (by decide) (by decide)]; exact M2
          have Z0 : AW g k x y [] s3 := fun e i he hi => by rw [Z _ (by omega)]; rfl
          refine m_start M3 O (fun h s4 f4 => ⟨1, ?_⟩) (fun q l h Cq s4 f4 P4 => ⟨l.length + 2, ?_⟩)
          · have := fin s4 ((f3.mono (by decide) (by decide)).tr (f4.mono (by decide) (by decide))) (by rw [h]; intro e i he hi; rw [f4.1 183 (by decide) (by decide)]; exact Z0 e i he hi)
            rw [h] at this
            exact this
          · refine m_w81 O hk hx hy l q [] h Cq s4 (by rw [f4.1 178 (by decide) (by decide)]; exact M3) P4 (fun e i he hi => by rw [f4.1 183 (by decide) (by decide)]; exact Z0 e i he hi) (fun s5 f5 W5 => fin s5 ((f3.mono (by decide) (by decide)).tr ((f4.mono (by decide) (by decide)).tr f5)) W5)
        refine m_refO (M0 s1 M1) O hk hx hy hxy (fun h => absurd h hex) (fun _ _ => ⟨fun _ => main, fun h => absurd h (by decide)⟩) (fun _ _ => ⟨fun _ => main, fun h => absurd h (by decide)⟩)
  · refine S_q (L' := L) (r := -1) (WC := wpX11_with x1 x2 x3 s) (WM := wpX12_with x1 x2 x3) A C M A.2.1 kk (fun Q kq => ld Q (-1) _ _ _ (by decide) kq (fun s1 R1 Q' k' => c_addOrder0 hb k')) (fun s1 M1 Q kq => ?_)
    unfold wpX12_with
    exact m_isOrder0 hb ⟨fun h => absurd rfl h, fun _ => qM_th M1 kq⟩
end WITH
