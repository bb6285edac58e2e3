/-! other -/
section OTHER
variable {t : List Nat} {L : List Int32} {g g' : Sy} {us us' : List Sy} {ks : Nat → Option Sy} {s s' : gS} {K : gS → Prop} {N : Nat}
theorem fold_mem (Lq : List (Nat → Int32)) : ∀ b : Int × (Nat → Int32), (Lq.foldl (bstep g) b) = b ∨ ((Lq.foldl (bstep g) b).2 ∈ Lq ∧ (Lq.foldl (bstep g) b).1 = wth g (Lq.foldl (bstep g) b).2 6) := by
  induction Lq with
  | nil => intro b; exact Or.inl rfl
  | cons q Lq ih =>
    intro b
    rw [List.foldl_cons]
    rcases ih (bstep g b q) with h | ⟨h1, h2⟩
    · rw [h]
      unfold bstep
      split
      · exact Or.inr ⟨List.mem_cons_self, rfl⟩
      · exact Or.inl rfl
    · exact Or.inr ⟨List.mem_cons_of_mem _ h1, h2⟩
theorem fold_ge (Lq : List (Nat → Int32)) : ∀ b : Int × (Nat → Int32), b.1 ≤ (Lq.foldl (bstep g) b).1 ∧ ∀ q, q ∈ Lq → wth g q 6 ≤ (Lq.foldl (bstep g) b).1 := by
  induction Lq with
  | nil => intro b; exact ⟨Int.le_refl _, fun q h => by cases h⟩
  | cons q Lq ih =>
    intro b
    rw [List.foldl_cons]
    obtain ⟨h1, h2⟩ := ih (bstep g b q)
    have h3 : b.1 ≤ (bstep g b q).1 ∧ wth g q 6 ≤ (bstep g b q).1 := by
      unfold bstep
      split
      next h => exact ⟨by show b.1 ≤ wth g q 6; omega, Int.le_refl _⟩
      next h => exact ⟨Int.le_refl _, by omega⟩
    refine ⟨by omega, fun q' hq' => ?_⟩
    rcases List.mem_cons.mp hq' with rfl | h4
    · omega
    · exact h2 q' h4
theorem bst_mem (O : okS N g) (h : chs g ≠ []) : (bst g).2 ∈ chs g := by
  rcases fold_mem (g := g) (chs g) (0, fun _ => -1) with h1 | h1
  · exfalso
    cases hc : chs g with
    | nil => exact h hc
    | cons q Lq =>
      have h2 := (fold_ge (g := g) (chs g) (0, fun _ => -1)).2 q (by rw [hc]; exact List.mem_cons_self)
      rw [h1] at h2
      have h3 := (wth_1 O (List.mem_filter.mp (show q ∈ chs g by rw [hc]; exact List.mem_cons_self)).1).1
      have h4 : wth g q 6 ≤ 0 := h2
      omega
  · exact h1.1
theorem q_lf {q : Nat → Int32} {e : Nat} (h : q ∈ chs g) (he : e < 6) (ht : tl g e = true) : ∃ i, inn g e i = true ∧ q e = nI i ∧ lf g e i = true := by
  obtain ⟨-, V, -⟩ := allP_ne (List.mem_filter.mp h).1
  obtain ⟨i, h1, h2⟩ := (V e).1 ⟨he, ht⟩
  refine ⟨i, h1, h2, ?_⟩
  unfold lf cw
  rw [decide_eq_true_eq]
  exact List.countP_pos_iff.mpr ⟨q, h, by simp [ht, h2]⟩
theorem opq_ch {e : Nat} (he : e < 6) (h : opq g e = true) : chs g ≠ [] ∧ tl g e = true := by
  have h1 : 1 < cnt 6 (lf g e) := by unfold opq at h; simpa using h
  have h2 : ∃ i, i < 6 ∧ lf g e i = true := by
    apply Classical.byContradiction
    intro hn
    have : cnt 6 (lf g e) = 0 := by
      have h3 : ∀ n, n ≤ 6 → cnt n (lf g e) = 0 := by
        intro n
        induction n with
        | zero => intro _; rfl
        | succ n ih =>
          intro hn2
          rw [cnt_s, ih (by omega)]
          cases hl : lf g e n with
          | false => simp
          | true => exact absurd ⟨n, by omega, hl⟩ hn
      exact h3 6 (Nat.le_refl _)
    omega
  obtain ⟨i, hi, hl⟩ := h2
  unfold lf cw at hl
  rw [decide_eq_true_eq] at hl
  obtain ⟨q, hq, h3⟩ := List.countP_pos_iff.mp hl
  refine ⟨fun hc => (by rw [hc] at hq; cases hq), ?_⟩
  rw [Bool.and_eq_true] at h3
  exact h3.1
/-- the best reading of an event -/
def bi6 (g : Sy) (e : Nat) : Nat := ix ((bst g).2 e)
theorem bi6_ok {e : Nat} (O : okS N g) (he : e < 6) (h : opq g e = true) : bi6 g e < mn g e ∧ inn g e (bi6 g e) = true ∧ (bst g).2 e = nI (bi6 g e) ∧ bi6 g e < 6 := by
  obtain ⟨h1, h2⟩ := opq_ch he h
  obtain ⟨i, h3, h4, h5⟩ := q_lf (bst_mem O h1) he h2
  have hm := (O.2.2.2.1 e he).2
  have hl := inn_lt h3
  have e1 : bi6 g e = i := by unfold bi6; rw [h4]; exact ix_nI (by omega)
  rw [e1]
  exact ⟨hl, h3, h4, by omega⟩
def otG (g : Sy) : Nat → Sy
  | 0 => g
  | n + 1 => if opq g n then ruG (otG g n) n (bi6 g n) false else otG g n
theorem ot_h {n j : Nat} (h : ¬ (8 ≤ j ∧ j < 188 ∧ (j - 8) % 5 = 4)) (O : okS 10 g) (hn : n ≤ 6) : otG g n j = g j := by
  induction n with
  | zero => rfl
  | succ n ih =>
    unfold otG
    split
    next ho =>
      have := (bi6_ok O (show n < 6 by omega) ho).2.2.2
      rw [ru_h (by omega)]
      exact ih (by omega)
    next => exact ih (by omega)
theorem ot_ok (U : okU g) : ∀ n, n ≤ 6 → okU (otG g n) ∧ (∀ e i, e < 6 → i < 6 → inn (otG g n) e i = (inn g e i && !(decide (e < n) && opq g e && i == bi6 g e))) := by
  intro n
  induction n with
  | zero => intro _; exact ⟨U, fun e i _ _ => by simp [otG]⟩
  | succ n ih =>
    intro hn
    obtain ⟨h1, h2⟩ := ih (by omega)
    cases ho : opq g n with
    | false =>
      have e1 : otG g (n + 1) = otG g n := by
        show (if opq g n then ruG (otG g n) n (bi6 g n) false else otG g n) = _
        rw [ho]; rfl
      rw [e1]
      refine ⟨h1, fun e i he hi => ?_⟩
      rw [h2 e i he hi]
      by_cases hen : e = n
      · subst hen; simp [ho]
      · have : (e < n + 1) = (e < n) := by simp; omega
        simp [this]
    | true =>
      obtain ⟨b1, b2, b3, b4⟩ := bi6_ok U.1 (show n < 6 by omega) ho
      have e1 : otG g (n + 1) = ruG (otG g n) n (bi6 g n) false := by
        show (if opq g n then ruG (otG g n) n (bi6 g n) false else otG g n) = _
        rw [ho]; rfl
      have hm : mn (otG g n) n = mn g n := v_mn (ot_h (by omega) U.1 (by omega))
      rw [e1]
      refine ⟨ok_ru h1 (by omega) (by rw [hm]; exact b1), fun e i he hi => ?_⟩
      rw [ru_inn (by rw [hm]; exact b1) b4 he hi, h2 e i he hi]
      by_cases hen : e = n
      · subst hen
        by_cases hib : i = bi6 g e
        · subst hib; simp [ho]
        · have : (i == bi6 g e) = false := by simpa using hib
          simp [hib, this]
      · have : (e < n + 1) = (e < n) := by simp; omega
        simp [hen, this]
/-- whether picks differ from the best ones wherever they can -/
def isOt (g : Sy) (q : Nat → Int32) : Bool := (List.range 6).all fun e => !(opq g e && q e == (bst g).2 e)
theorem prC_cg {c c' : Nat → Nat → Bool} : ∀ (r : List Nat) (p : Nat → Int32), (∀ e, e ∈ r → ∀ i, i < 6 → c e i = c' e i) → prC r c p = prC r c' p := by
  intro r
  induction r with
  | nil => intro p _; rfl
  | cons e r ih =>
    intro p h
    unfold prC
    refine fm_cg (fun i hi => ?_)
    have hi6 : i < 6 := by
      have := (List.mem_range'_1.mp hi).2
      omega
    rw [h e List.mem_cons_self i hi6, ih _ (fun e he => h e (List.mem_cons_of_mem _ he))]
theorem ot_chs (U : okU g) : chs (otG g 6) = (chs g).filter (isOt g) := by
  have O := U.1
  obtain ⟨h1, h2⟩ := ot_ok U 6 (Nat.le_refl _)
  have ht : ∀ e, e < 6 → tl (otG g 6) e = tl g e := fun e he => v_tl (ot_h (by omega) O (Nat.le_refl _))
  have hel : el (otG g 6) 6 = el g 6 := by
    unfold el
    exact List.filter_congr (fun e he => ht e (List.mem_range.mp he))
  have hP : PN (otG g 6) 6 = (PN g 6).filter (isOt g) := by
    rw [PN_pr h1.1 6 (Nat.le_refl _), hel, PN_pr O 6 (Nat.le_refl _)]
    rw [prC_cg (c' := fun e k => inn g e k && !(opq g e && k == bi6 g e)) _ _ (fun e he i hi => by
      have he6 := el6 he
      rw [h2 e i he6 hi]
      simp [he6]), prC_and _ _ _ _ (el_nd g 6)]
    refine fil_cg (fun q hq => ?_)
    rw [← PN_pr O 6 (Nat.le_refl _)] at hq
    have V := PN_vq 6 q hq
    unfold isOt
    rw [Bool.eq_iff_iff, List.all_eq_true, List.all_eq_true]
    constructor
    · intro h e he
      have he6 := List.mem_range.mp he
      cases ho : opq g e with
      | false => simp
      | true =>
        have hte := (opq_ch he6 ho).2
        have := h e (el_mem.mpr ⟨he6, hte⟩)
        rw [ho] at this
        obtain ⟨b1, b2, b3, b4⟩ := bi6_ok O he6 ho
        obtain ⟨c1, c2, c3⟩ := vq_lt O V he6 hte
        have hne : ix (q e) ≠ bi6 g e := by simpa using this
        have : ¬ q e = (bst g).2 e := fun h => hne (by unfold bi6; rw [h])
        simpa using this
    · intro h e he
      have he6 := el6 he
      have := h e (List.mem_range.mpr he6)
      cases ho : opq g e with
      | false => simp
      | true =>
        rw [ho] at this
        have hte := (opq_ch he6 ho).2
        obtain ⟨b1, b2, b3, b4⟩ := bi6_ok O he6 ho
        obtain ⟨c1, c2, c3⟩ := vq_lt O V he6 hte
        have hne : ¬ q e = (bst g).2 e := by simpa using this
        have : ix (q e) ≠ bi6 g e := fun h => hne (by rw [c2, b3, h])
        simpa using this
  unfold chs allP
  rw [any_cg ht]
  split
  · rw [hP, List.filter_filter, List.filter_filter]
    refine fil_cg (fun q hq => ?_)
    have V := PN_vq 6 q hq
    have hv : ∀ e w, e < 6 → w < 4 → tl g e = true → vl (otG g 6) e (ix (q e)) w = vl g e (ix (q e)) w := fun e w he hw ht => by
      have := (vq_lt O V he ht).2.2
      exact v_vl (ot_h (by omega) O (Nat.le_refl _))
    have hno : no (otG g 6) = no g := v_no (ot_h (by omega) O (Nat.le_refl _))
    have hbb : bb (otG g 6) q = bb g q := by
      unfold bb
      rw [hno]
      refine bts_cg (fun o ho => ?_)
      obtain ⟨-, -, -, -, c5, c6, -⟩ := O.2.2.1 o ho
      have k1 : kd (otG g 6) o = kd g o := v_kd (ot_h (by omega) O (Nat.le_refl _))
      have k2 : ox (otG g 6) o = ox g o := v_ox (ot_h (by omega) O (Nat.le_refl _))
      have k3 : oy (otG g 6) o = oy g o := v_oy (ot_h (by omega) O (Nat.le_refl _))
      unfold brk
      rw [k1, k2, k3, ht _ c5, ht _ c6]
      cases h1 : tl g (ox g o) with
      | false => simp
      | true =>
        cases h2 : tl g (oy g o) with
        | false => simp
        | true => rw [hv _ 0 c5 (by decide) h1, hv _ 1 c5 (by decide) h1, hv _ 0 c6 (by decide) h2, hv _ 1 c6 (by decide) h2]
    rw [hbb]
    exact Bool.and_comm _ _
  · rfl
theorem wth_cg {q : Nat → Int32} (h1 : ∀ e, e < 6 → tl g' e = tl g e) (h2 : ∀ e, e < 6 → tl g e = true → vl g' e (ix (q e)) 3 = vl g e (ix (q e)) 3) : ∀ n, n ≤ 6 → wth g' q n = wth g q n := by
  intro n
  induction n with
  | zero => intro _; rw [wth, wth]
  | succ n ih =>
    intro hn
    rw [wth, wth, ih (by omega), h1 n (by omega)]
    cases ht : tl g n with
    | false => simp only [Bool.false_eq_true, if_false]
    | true => simp only [if_true, h2 n (by omega) ht]
theorem ot_wth (U : okU g) {q : Nat → Int32} (hq : q ∈ chs g) : wth (otG g 6) q 6 = wth g q 6 := by
  have O := U.1
  obtain ⟨-, V, -⟩ := allP_ne (List.mem_filter.mp hq).1
  refine wth_cg (fun e he => v_tl (ot_h (by omega) O (Nat.le_refl _))) (fun e he ht => ?_) 6 (Nat.le_refl _)
  have := (vq_lt O V he ht).2.2
  exact v_vl (ot_h (by omega) O (Nat.le_refl _))
theorem fold_cg {g' : Sy} (Lq : List (Nat → Int32)) : ∀ b, (∀ q, q ∈ Lq → wth g' q 6 = wth g q 6) → Lq.foldl (bstep g') b = Lq.foldl (bstep g) b := by
  induction Lq with
  | nil => intro b _; rw [List.foldl_nil, List.foldl_nil]
  | cons q Lq ih =>
    intro b h
    rw [List.foldl_cons, List.foldl_cons]
    have : bstep g' b q = bstep g b q := by simp only [bstep, h q List.mem_cons_self]
    rw [this]
    exact ih _ (fun q hq => h q (List.mem_cons_of_mem _ hq))
/-- any event with an open question -/
def anyO (g : Sy) : Nat → Bool
  | 0 => false
  | n + 1 => anyO g n || opq g n
theorem anyO_iff : ∀ n, anyO g n = true ↔ ∃ e, e < n ∧ opq g e = true := by
  intro n
  induction n with
  | zero => simp [anyO]
  | succ n ih =>
    unfold anyO
    rw [Bool.or_eq_true, ih]
    constructor
    · rintro (⟨e, h1, h2⟩ | h)
      · exact ⟨e, by omega, h2⟩
      · exact ⟨n, by omega, h⟩
    · rintro ⟨e, h1, h2⟩
      by_cases h : e = n
      · exact Or.inr (h ▸ h2)
      · exact Or.inl ⟨e, by omega, h2⟩
theorem cnt_un {n : Nat} {p : Nat → Bool} (h : cnt n p ≤ 1) {i j : Nat} (hi : i < n) (hj : j < n) (h1 : p i = true) (h2 : p j = true) : i = j := by
  induction n with
  | zero => omega
  | succ n ih =>
    rw [cnt_s] at h
    by_cases hp : p n = true
    · rw [if_pos hp] at h
      have hz : cnt n p = 0 := by omega
      have hn : ∀ k, k < n → p k = true → False := fun k hk h3 => by
        have := cnt_pos hk h3
        omega
      have a1 : i = n := Classical.byContradiction fun hne => hn i (by omega) h1
      have a2 : j = n := Classical.byContradiction fun hne => hn j (by omega) h2
      omega
    · rw [if_neg hp] at h
      have a1 : i ≠ n := fun e => hp (e ▸ h1)
      have a2 : j ≠ n := fun e => hp (e ▸ h2)
      exact ih (by omega) (by omega) (by omega)
def isBs (g : Sy) (q : Nat → Int32) : Bool := (List.range 6).all fun e => q e == (bst g).2 e
/-- where nothing is open there is the best choice alone -/
theorem one_ch (O : okS 10 g) (h : anyO g 6 = false) {q : Nat → Int32} (hq : q ∈ chs g) : isBs g q = true := by
  have hne : chs g ≠ [] := fun h => by rw [h] at hq; cases hq
  have hb := bst_mem O hne
  unfold isBs
  rw [List.all_eq_true]
  intro e he
  have he6 := List.mem_range.mp he
  cases ht : tl g e with
  | true =>
    obtain ⟨i, a1, a2, a3⟩ := q_lf hq he6 ht
    obtain ⟨j, b1, b2, b3⟩ := q_lf hb he6 ht
    have hm := (O.2.2.2.1 e he6).2
    have hi := inn_lt a1
    have hj := inn_lt b1
    have ho : opq g e = false := by
      cases ho : opq g e with
      | false => rfl
      | true =>
        rw [(anyO_iff 6).mpr ⟨e, he6, ho⟩] at h
        cases h
    have hc : cnt 6 (lf g e) ≤ 1 := by
      unfold opq at ho
      simp at ho
      omega
    have := cnt_un hc (show i < 6 by omega) (show j < 6 by omega) a3 b3
    rw [a2, b2, this]
    simp
  | false =>
    have v1 := ((allP_ne (List.mem_filter.mp hq).1).2.1 e).2 (fun h => by rw [ht] at h; cases h.2)
    have v2 := ((allP_ne (List.mem_filter.mp hb).1).2.1 e).2 (fun h => by rw [ht] at h; cases h.2)
    rw [v1, v2]
    simp
/-- those that the reference counts -/
def gO (g : Sy) (q : Nat → Int32) : Bool := gd g q && (!isBs g q && isOt g q)
theorem gO_eq (U : okU g) : (allP g).filter (gO g) = if anyO g 6 then chs (otG g 6) else [] := by
  have O := U.1
  cases ha : anyO g 6 with
  | true =>
    rw [ot_chs U]
    show _ = ((allP g).filter (gd g)).filter (isOt g)
    rw [List.filter_filter]
    refine fil_cg (fun q hq => ?_)
    unfold gO
    cases hg : gd g q with
    | false => simp
    | true =>
      cases ho : isOt g q with
      | false => simp
      | true =>
        obtain ⟨e, he, hoe⟩ := (anyO_iff 6).mp ha
        have h1 : ¬ q e = (bst g).2 e := by
          have := List.all_eq_true.mp ho e (List.mem_range.mpr he)
          rw [hoe] at this
          simpa using this
        have : isBs g q = false := by
          cases hb : isBs g q with
          | false => rfl
          | true =>
            have := List.all_eq_true.mp hb e (List.mem_range.mpr he)
            exact absurd (by simpa using this) h1
        simp [this]
  | false =>
    apply List.filter_eq_nil_iff.mpr
    intro q hq h
    unfold gO at h
    rw [Bool.and_eq_true, Bool.and_eq_true] at h
    have := one_ch O ha (List.mem_filter.mpr ⟨hq, h.1⟩)
    rw [this] at h
    cases h.2.1
end OTHER
