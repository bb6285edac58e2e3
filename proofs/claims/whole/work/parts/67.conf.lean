/-! conflict: the class's search -/
section CONF
variable {t : List Nat} {L : List Int32} {g g' : Sy} {us us' : List Sy} {ks : Nat → Option Sy} {s s' : gS} {K : gS → Prop} {Q : gS → Prop}
def fX (s s' : gS) : Prop := (∀ a, a ≠ 138 → a ≠ 176 → s'.1 a = s.1 a) ∧ s'.2 = s.2
theorem fX.rf {s : gS} : fX s s := ⟨fun _ _ _ => rfl, rfl⟩
theorem fX.tr {s1 s2 : gS} (h : fX s s1) (h2 : fX s1 s2) : fX s s2 := ⟨fun a d e => (h2.1 a d e).trans (h.1 a d e), h2.2.trans h.2⟩
theorem fX_wi {a i : Nat} {v : Int32} (h1 : a = 138 ∨ a = 176) : fX s (wi s a i v) := ⟨fun b hb hb2 => wi_na _ _ _ _ (by omega), rfl⟩
theorem BK.fX {o : Nat} {D : Nat → Nat → Bool} (h : BK g o D s) (f : fX s s') : BK g o D s' := by
  intro e i e' k he he' hi hk
  obtain ⟨p, q1, q2⟩ := h e i e' k he he' hi hk
  exact ⟨p, by rw [f.1 _ (by omega) (by omega)]; exact q1, q2⟩
def elF (g : Sy) : Nat → Nat → List Nat
  | 0, _ => []
  | n + 1, e => if tl g e then e :: elF g n (e + 1) else elF g n (e + 1)
theorem elF_mem : ∀ n e k, k ∈ elF g n e → e ≤ k ∧ k < e + n ∧ tl g k = true := by
  intro n
  induction n with
  | zero => intro e k h; cases h
  | succ n ih =>
    intro e k h
    unfold elF at h
    split at h
    next ht =>
      rcases List.mem_cons.mp h with rfl | h
      · exact ⟨Nat.le_refl _, by omega, ht⟩
      · have := ih _ _ h; exact ⟨by omega, by omega, this.2.2⟩
    next => have := ih _ _ h; exact ⟨by omega, by omega, this.2.2⟩
theorem elF_el : elF g 6 0 = el g 6 := by
  unfold el
  have : ∀ n e, elF g n e = (List.range' e n).filter (tl g) := by
    intro n
    induction n with
    | zero => intro e; rfl
    | succ n ih =>
      intro e
      rw [List.range'_succ, List.filter_cons, ← ih (e + 1)]
      rfl
  rw [this, List.range_eq_range']
def pl (g : Sy) (p : Nat → Int32) (e : Nat) : Nat := if tl g e then ix (p e) else 0
def CH (g : Sy) (e : Nat) (p : Nat → Int32) (s : gS) : Prop := ∀ e', e' < e → s.1 176 e' = nI (6 * e' + pl g p e')
def VP (g : Sy) (e : Nat) (p : Nat → Int32) : Prop := ∀ e', e' < e → tl g e' = true → ix (p e') < mn g e'
/-- orders among the first events that are broken -/
def BE (g : Sy) (e : Nat) (p : Nat → Int32) : Nat := bts 10 (fun o => decide (o < no g) && (decide (ox g o < e) && decide (oy g o < e) && brk g p o))
theorem BE_lt (e : Nat) (p : Nat → Int32) : BE g e p < 1024 := bts_lt 10 _
theorem BE_6 {p : Nat → Int32} (O : okS 10 g) : BE g 6 p = bb g p := by
  have hno := O.2.1.2
  unfold BE bb
  rw [← bts_hi (m := no g) (n := 10) hno (fun i h1 _ => by simp; omega)]
  refine bts_cg (fun o ho => ?_)
  obtain ⟨-, -, -, -, c5, c6, -⟩ := O.2.2.1 o ho
  simp [ho, c5, c6]
theorem brk_cg {p q : Nat → Int32} {o : Nat} (h1 : p (ox g o) = q (ox g o)) (h2 : p (oy g o) = q (oy g o)) : brk g p o = brk g q o := by
  unfold brk
  rw [h1, h2]
theorem BE_sub {e n : Nat} {p q : Nat → Int32} (O : okS 10 g) (hq : q ∈ prC (elF g n e) (inn g) p) : sub (BE g e p) (bb g q) := by
  intro o ho h
  rw [← BE_6 O]
  unfold BE at h ⊢
  rw [bts_tb] at h ⊢
  simp only [Bool.and_eq_true, decide_eq_true_eq] at h ⊢
  obtain ⟨h1, h2, h3, h4⟩ := h
  obtain ⟨-, -, -, -, c5, c6, -⟩ := O.2.2.1 o h2
  refine ⟨h1, h2, ⟨c5, c6⟩, ?_⟩
  have ag : ∀ k, k < e → p k = q k := fun k hk => (prC_out _ _ _ _ hq k (fun hm => by have := elF_mem _ _ _ hm; omega)).symm
  rw [← brk_cg (ag _ h3.1) (ag _ h3.2)]
  exact h4
theorem c_isWorse {Q : Int32 → gS → Prop} {b F : Nat} (hb : b < 1024) (hF : F < 1024) (h : s.1 138 2 = nI F) (k : Q (bi (decide (ky F < ky b))) s) : wpX1_isWorse (nI b) s Q := by
  unfold wpX1_isWorse
  rw [c_pop hb, show gi s 138 2 = nI F from h, c_pop hF]
  have p1 : pc b ≤ 10 := cnt_le 10 _
  have p2 : pc F ≤ 10 := cnt_le 10 _
  rw [show gi s 138 2 = nI F from h, nI_ltI (by omega) (by omega), nI_eq (by omega) (by omega), nI_leI (by omega) (by omega)]
  unfold ky at k
  refine ⟨fun h1 => ?_, fun h1 => ⟨fun h2 => ?_, fun h2 => ⟨fun h3 => ?_, fun h3 => ?_⟩⟩⟩
  · rw [show decide (pc F * 1024 + F < pc b * 1024 + b) = true by simp; omega] at k; exact k
  · rw [show decide (pc F * 1024 + F < pc b * 1024 + b) = false by simp; omega] at k; exact k
  · rw [show decide (pc F * 1024 + F < pc b * 1024 + b) = false by simp; omega] at k; exact k
  · rw [show decide (pc F * 1024 + F < pc b * 1024 + b) = true by simp; omega] at k; exact k
/-- what an event's reading breaks with those ahead -/
theorem c_bwa {e : Nat} {p : Nat → Int32} {Q : Int32 → gS → Prop} (O : okS 10 g) (he : e < 6) (ht : tl g e = true) (V : VP g (e + 1) p) (I : BK g (no g) (fun _ _ => false) s) (H : CH g (e + 1) p s) (k : Q (nI (bts 10 (fun o => decide (o < no g) && (decide (ox g o = e ∧ oy g o < e ∨ oy g o = e ∧ ox g o < e) && brk g p o)))) s) : wpX1_brokenWithThoseAhead (nI e) s Q := by
  have hno := O.2.1.2
  have hcb : ∀ e', e' < e + 1 → pl g p e' < 6 := fun e' h => by
    unfold pl
    split
    next h2 =>
      have := V e' h h2
      have := (O.2.2.2.1 e' (by omega)).2
      omega
    next => decide
  have Lp : ∀ n a, a + n = e → wX1_brokenWithThoseAhead_4 (nI e) Q (n + 1) (nI (bts 10 (fun o => decide (o < no g) && (decide (ox g o = e ∧ oy g o < a ∨ oy g o = e ∧ ox g o < a) && brk g p o)))) (nI a) s := by
    intro n
    induction n with
    | zero =>
      intro a ha
      have : a = e := by omega
      subst this
      rw [wX1_brokenWithThoseAhead_4]
      exact ⟨fun _ => k, fun h => absurd (nI_le (Nat.le_refl _) (by omega)) h⟩
    | succ n ih =>
      intro a ha
      have h1 := hcb a (by omega)
      have h2 := hcb e (by omega)
      have c1 : gi s 176 a = nI (6 * a + pl g p a) := H a (by omega)
      have c2 : gi s 176 e = nI (6 * e + pl g p e) := H e (by omega)
      rw [wX1_brokenWithThoseAhead_4]
      refine ⟨fun h => ?_, fun _ => ?_⟩
      · rw [nI_leI (by omega) (by omega)] at h; omega
      · rw [ix_nI (by omega), ix_nI (by omega), c1, c2, ix_nI (by omega), ix_nI (by omega), nI_1]
        refine ⟨vp_in_nI (by omega) (by decide), vp_in_nI (by omega) (by decide), vp_in_nI he (by decide), vp_in_nI (by omega) (by decide), ?_⟩
        obtain ⟨pb, q1, q2, q3⟩ := I a (pl g p a) e (pl g p e) (by omega) he h1 h2
        rw [show gi s (139 + 1 + (6 * a + pl g p a)) (6 * e + pl g p e) = nI (bts 10 pb) from q1]
        have b1 : bts 10 pb < 1024 := bts_lt 10 pb
        have b2 : bts 10 (fun o => decide (o < no g) && (decide (ox g o = e ∧ oy g o < a ∨ oy g o = e ∧ ox g o < a) && brk g p o)) < 1024 := bts_lt 10 _
        rw [nI_or (by omega) (by omega), bts_or]
        have := ih (a + 1) (by omega)
        rw [bts_cg (q := fun o => (decide (o < no g) && (decide (ox g o = e ∧ oy g o < a ∨ oy g o = e ∧ ox g o < a) && brk g p o)) || pb o) (fun o ho => ?_)] at this
        · exact this
        · by_cases hon : o < no g
          · obtain ⟨-, -, -, -, c5, c6, c7⟩ := O.2.2.1 o hon
            have hsplit : decide (ox g o = e ∧ oy g o < a + 1 ∨ oy g o = e ∧ ox g o < a + 1) = (decide (ox g o = e ∧ oy g o < a ∨ oy g o = e ∧ ox g o < a) || decide (ox g o = e ∧ oy g o = a ∨ oy g o = e ∧ ox g o = a)) := by
              rw [Bool.eq_iff_iff, Bool.or_eq_true, decide_eq_true_eq, decide_eq_true_eq, decide_eq_true_eq]
              omega
            have hpb : pb o = (decide (ox g o = e ∧ oy g o = a ∨ oy g o = e ∧ ox g o = a) && brk g p o) := by
              by_cases hta : tl g a = true
              · have hva := V a (by omega) hta
                have hve := V e (by omega) ht
                have pa : pl g p a = ix (p a) := by unfold pl; rw [hta]; rfl
                have pe : pl g p e = ix (p e) := by unfold pl; rw [ht]; rfl
                rw [q2 hta ht (by rw [pa]; exact hva) (by rw [pe]; exact hve) o ho, pa, pe]
                have hx0 : xtr g (no g) (fun _ _ => false) a (ix (p a)) e (ix (p e)) = false := by
                  unfold xtr
                  split
                  · rfl
                  · split <;> rfl
                rw [hx0, Bool.and_false, Bool.or_false]
                unfold okp brk
                by_cases d1 : ox g o = a ∧ oy g o = e
                · rw [if_pos d1, d1.1, d1.2, hta, ht]
                  have : decide (a = e ∧ e = a ∨ e = e ∧ a = a) = true := by simp
                  rw [this]
                  simp [hon]
                · rw [if_neg d1]
                  by_cases d2 : ox g o = e ∧ oy g o = a
                  · rw [if_pos d2, d2.1, d2.2, hta, ht]
                    have : decide (e = e ∧ a = a ∨ a = e ∧ e = a) = true := by simp
                    rw [this]
                    simp [hon]
                  · rw [if_neg d2]
                    have : decide (ox g o = e ∧ oy g o = a ∨ oy g o = e ∧ ox g o = a) = false := by simp; omega
                    rw [this]
                    simp
              · rw [q3 (fun h => hta h.1) o ho]
                have hta2 : tl g a = false := by simpa using hta
                by_cases d1 : ox g o = e ∧ oy g o = a ∨ oy g o = e ∧ ox g o = a
                · have : brk g p o = false := by
                    unfold brk
                    rcases d1 with d1 | d1
                    · rw [d1.2, hta2]; simp
                    · rw [d1.2, hta2]; simp
                  rw [this]; simp
                · simp [d1]
            rw [hsplit, hpb]
            simp only [hon, decide_true, Bool.true_and]
            cases decide (ox g o = e ∧ oy g o < a ∨ oy g o = e ∧ ox g o < a) <;> cases decide (ox g o = e ∧ oy g o = a ∨ oy g o = e ∧ ox g o = a) <;> cases brk g p o <;> rfl
          · have hpb : pb o = false := by
              by_cases hb : tl g a = true ∧ tl g e = true
              · have pa : pl g p a = ix (p a) := by unfold pl; rw [hb.1]; rfl
                have pe : pl g p e = ix (p e) := by unfold pl; rw [hb.2]; rfl
                rw [q2 hb.1 hb.2 (by rw [pa]; exact V a (by omega) hb.1) (by rw [pe]; exact V e (by omega) hb.2) o ho]
                have hx0 : xtr g (no g) (fun _ _ => false) a (pl g p a) e (pl g p e) = false := by
                  unfold xtr
                  split
                  · rfl
                  · split <;> rfl
                rw [hx0]
                simp [hon]
              · exact q3 hb o ho
            simp [hon, hpb]
  have h0 : (0 : Int32) = nI (bts 10 (fun o => decide (o < no g) && (decide (ox g o = e ∧ oy g o < 0 ∨ oy g o = e ∧ ox g o < 0) && brk g p o))) := by
    rw [bts_cg (q := fun _ => false) (fun o _ => by simp)]
    decide +kernel
  refine ⟨e + 1, ?_⟩
  have := Lp e 0 (by omega)
  rw [← h0] at this
  exact this
theorem BE_nt {e : Nat} {p : Nat → Int32} (ht : tl g e = false) : BE g (e + 1) p = BE g e p := by
  unfold BE
  refine bts_cg (fun o _ => ?_)
  by_cases h1 : ox g o = e
  · have : brk g p o = false := by unfold brk; rw [h1, ht]; simp
    simp [this]
  · by_cases h2 : oy g o = e
    · have : brk g p o = false := by unfold brk; rw [h2, ht]; simp
      simp [this]
    · have e1 : (ox g o < e + 1) = (ox g o < e) := by simp; omega
      have e2 : (oy g o < e + 1) = (oy g o < e) := by simp; omega
      simp only [e1, e2]
theorem BE_s {e : Nat} {p q : Nat → Int32} (O : okS 10 g) (ag : ∀ k, k < e → p k = q k) : BE g e p ||| bts 10 (fun o => decide (o < no g) && (decide (ox g o = e ∧ oy g o < e ∨ oy g o = e ∧ ox g o < e) && brk g q o)) = BE g (e + 1) q := by
  unfold BE
  rw [bts_or]
  refine bts_cg (fun o _ => ?_)
  by_cases hon : o < no g
  · have hne := (O.2.2.1 o hon).2.2.2.2.2.2
    simp only [hon, decide_true, Bool.true_and]
    by_cases h1 : ox g o < e ∧ oy g o < e
    · rw [brk_cg (ag _ h1.1) (ag _ h1.2)]
      have d1 : decide (ox g o = e ∧ oy g o < e ∨ oy g o = e ∧ ox g o < e) = false := by simp; omega
      simp [h1.1, h1.2, d1, show ox g o < e + 1 by omega, show oy g o < e + 1 by omega]
    · have d0 : (decide (ox g o < e) && decide (oy g o < e)) = false := by simp; omega
      rw [d0]
      by_cases h2 : ox g o = e ∧ oy g o < e ∨ oy g o = e ∧ ox g o < e
      · simp [h2, show ox g o < e + 1 by omega, show oy g o < e + 1 by omega]
      · have d1 : (decide (ox g o < e + 1) && decide (oy g o < e + 1)) = false := by simp; omega
        simp [h2, d1]
  · simp [hon]
theorem c_csr (O : okS 10 g) : ∀ n e, e + n = 6 → ∀ (m : Nat) (p : Nat → Int32) (s : gS) (F W : Nat) (Q : gS → Prop), BK g (no g) (fun _ _ => false) s → repC (s.1 (20 + 1)) g → CH g e p s → VP g e p → F < 1024 → s.1 138 2 = nI F → s.1 138 3 = nI W → (∀ s', fX s s' → CH g e p s' → s'.1 138 2 = nI (((prC (elF g n e) (inn g) p).map (bb g)).foldl stC (F, W)).1 → s'.1 138 3 = nI (((prC (elF g n e) (inn g) p).map (bb g)).foldl stC (F, W)).2 → Q s') → wpX1_search (n + 1 + m) 20 (nI e) (nI (BE g e p)) s Q := by
  intro n
  induction n with
  | zero =>
    intro e he m p s F W Q I R H V hF h2 h3 k
    have : e = 6 := by omega
    subst this
    have hb := BE_lt (g := g) 6 p
    rw [show 0 + 1 + m = m + 1 by omega, wpX1_search]
    unfold wfX1_search
    refine c_isWorse hb hF h2 ?_
    have hk : ((prC (elF g 0 6) (inn g) p).map (bb g)).foldl stC (F, W) = stC (F, W) (BE g 6 p) := by rw [BE_6 O]; rfl
    rw [hk] at k
    unfold stC at k
    by_cases hw : ky F < ky (BE g 6 p)
    · rw [if_pos hw] at k
      rw [show decide (ky F < ky (BE g 6 p)) = true by simpa using hw]
      exact ⟨fun h => absurd h (by decide), fun _ => k s fX.rf H h2 h3⟩
    · rw [if_neg hw] at k
      rw [show decide (ky F < ky (BE g 6 p)) = false by simpa using hw]
      refine ⟨fun _ => ⟨fun h => absurd h (by decide), fun _ => ⟨fun h => absurd h (by decide), fun _ => ?_⟩⟩, fun h => absurd rfl h⟩
      unfold wX1_search_19 wpX1_arrive wX1_arrive_19
      rw [show gi s 138 2 = nI F from h2, show gi s 138 3 = nI W from h3, nI_eq (by omega) (by omega), nI_1]
      refine ⟨fun hne => ?_, fun heq => ?_⟩
      · rw [if_neg hne] at k
        refine k _ (fX.tr (fX_wi (Or.inl rfl)) (fX_wi (Or.inl rfl))) (fun e' he' => ?_) (wi_at _ _ _ _) ?_
        · rw [wi_na _ _ _ _ (by decide), wi_na _ _ _ _ (by decide)]; exact H e' he'
        · rw [wi_ne _ _ _ _ (by decide), wi_at]; rfl
      · rw [if_pos heq] at k
        refine k _ (fX.tr (fX_wi (Or.inl rfl)) (fX_wi (Or.inl rfl))) (fun e' he' => ?_) ?_ ?_
        · rw [wi_na _ _ _ _ (by decide), wi_na _ _ _ _ (by decide)]; exact H e' he'
        · rw [wi_at, heq]
        · rw [wi_ne _ _ _ _ (by decide), wi_at]
  | succ n ih =>
    intro e he m p s F W Q I R H V hF h2 h3 k
    have he6 : e < 6 := by omega
    have hb := BE_lt (g := g) e p
    rw [show n + 1 + 1 + m = (n + 1 + m) + 1 by omega, wpX1_search]
    unfold wfX1_search
    refine c_isWorse hb hF h2 ?_
    by_cases hw : ky F < ky (BE g e p)
    · rw [show decide (ky F < ky (BE g e p)) = true by simpa using hw]
      refine ⟨fun h => absurd h (by decide), fun _ => ?_⟩
      rw [stC_skip _ (F, W) (fun b hbm => by
        obtain ⟨q, hq, rfl⟩ := List.mem_map.mp hbm
        have := sub_ky hb (bb_lt O (Nat.le_refl _)) (BE_sub O hq)
        show ky F < _
        omega)] at k
      exact k s fX.rf H h2 h3
    · rw [show decide (ky F < ky (BE g e p)) = false by simpa using hw]
      refine ⟨fun _ => ⟨fun h => absurd h (nI_pos (by omega)), fun _ => ⟨fun _ => ⟨vp_in_nI he6 (by decide), ?_⟩, fun h => absurd (show nI e < 6 from nI_lt (b := 6) he6 (by decide)) h⟩⟩, fun h => absurd rfl h⟩
      have e1 : nI e * 6 = nI (6 * e) := by rw [show (6 : Int32) = nI 6 from rfl, nI_mul, Nat.mul_comm]
      rw [e1, ix_nI (by omega)]
      have f1 : fX s (wi s 176 e (nI (6 * e))) := fX_wi (Or.inr rfl)
      have R1 : repC ((wi s 176 e (nI (6 * e))).1 (20 + 1)) g := by rw [wi_na _ _ _ _ (by decide)]; exact R
      rw [c_isTold R1 he6]
      cases ht : tl g e with
      | false =>
        refine ⟨fun h => absurd rfl h, fun _ => ?_⟩
        have hel : elF g (n + 1) e = elF g n (e + 1) := by
          show (if tl g e then e :: elF g n (e + 1) else elF g n (e + 1)) = _
          rw [ht]; rfl
        rw [hel] at k
        rw [nI_1, ← BE_nt (p := p) ht]
        refine ih (e + 1) (by omega) m p _ F W _ (I.fX f1) R1 (fun e' he' => ?_) (fun e' he' ht' => ?_) hF (by rw [wi_na _ _ _ _ (by decide)]; exact h2) (by rw [wi_na _ _ _ _ (by decide)]; exact h3) (fun s' f' H' => k s' (f1.tr f') (fun e' he' => H' e' (by omega)))
        · by_cases hee : e' = e
          · subst hee
            rw [wi_at]
            unfold pl
            rw [ht]; rfl
          · rw [wi_ne _ _ _ _ hee]; exact H e' (by omega)
        · by_cases hee : e' = e
          · subst hee; rw [ht] at ht'; cases ht'
          · exact V e' (by omega) ht'
      | true =>
        refine ⟨fun _ => ⟨7, ?_⟩, fun h => absurd h (by decide)⟩
        have hel : elF g (n + 1) e = e :: elF g n (e + 1) := by
          show (if tl g e then e :: elF g n (e + 1) else elF g n (e + 1)) = _
          rw [ht]; rfl
        rw [hel, prC] at k
        have hm6 := (O.2.2.2.1 e he6).2
        have Lp : ∀ r i, i + r = 6 → ∀ (s1 : gS) (F1 W1 : Nat), fX s s1 → CH g e p s1 → F1 < 1024 → s1.1 138 2 = nI F1 → s1.1 138 3 = nI W1 → (∀ s', fX s s' → CH g e p s' → s'.1 138 2 = nI ((((List.range' i r).flatMap fun i => if inn g e i then prC (elF g n (e + 1)) (inn g) (up p e (nI i)) else []).map (bb g)).foldl stC (F1, W1)).1 → s'.1 138 3 = nI ((((List.range' i r).flatMap fun i => if inn g e i then prC (elF g n (e + 1)) (inn g) (up p e (nI i)) else []).map (bb g)).foldl stC (F1, W1)).2 → Q s') → wX1_search_56 (fun a1 x2 x3 s Q => wpX1_search (n + 1 + m) a1 x2 x3 s Q) 20 (nI e) (nI (BE g e p)) Q (r + 1) (nI i) s1 := by
          intro r
          induction r with
          | zero =>
            intro i hi s1 F1 W1 f H1 hF1 a2 a3 k1
            have : i = 6 := by omega
            subst this
            rw [wX1_search_56]
            exact ⟨fun _ => k1 s1 f H1 a2 a3, fun h => absurd (by decide) h⟩
          | succ r ihr =>
            intro i hi s1 F1 W1 f H1 hF1 a2 a3 k1
            have hi6 : i < 6 := by omega
            have R2 : repC (s1.1 (20 + 1)) g := by rw [f.1 (20 + 1) (by decide) (by decide)]; exact R
            rw [List.range'_succ, List.flatMap_cons, List.map_append, List.foldl_append] at k1
            rw [wX1_search_56, c_isIn O R2 he6 hi6, nI_1 i]
            simp only [ge6 hi6, bi_0, false_implies, true_and, not_false_eq_true, true_implies]
            cases hin : inn g e i with
            | false =>
              rw [hin] at k1
              exact ⟨fun _ => ihr (i + 1) (by omega) s1 F1 W1 f H1 hF1 a2 a3 k1, fun h => absurd rfl h⟩
            | true =>
              rw [hin] at k1
              refine ⟨fun h => (by cases h), fun _ => ⟨vp_in_nI he6 (by decide), ?_⟩⟩
              have him := inn_lt hin
              rw [e1, nI_add, ix_nI (by omega)]
              have f2 : fX s (wi s1 176 e (nI (6 * e + i))) := f.tr (fX_wi (Or.inr rfl))
              have hup : ix (up p e (nI i) e) = i := by rw [up_at]; exact ix_nI (by omega)
              have V2 : VP g (e + 1) (up p e (nI i)) := fun e' he' ht' => by
                by_cases hee : e' = e
                · subst hee; rw [hup]; exact him
                · rw [up_ne _ _ hee]; exact V e' (by omega) ht'
              have H2 : CH g (e + 1) (up p e (nI i)) (wi s1 176 e (nI (6 * e + i))) := fun e' he' => by
                by_cases hee : e' = e
                · subst hee
                  rw [wi_at]
                  unfold pl
                  rw [ht, if_pos rfl, hup]
                · rw [wi_ne _ _ _ _ hee, H1 e' (by omega)]
                  unfold pl
                  rw [up_ne _ _ hee]
              have I2 := I.fX f2
              refine c_bwa O he6 ht V2 I2 H2 ?_
              have b1 : bts 10 (fun o => decide (o < no g) && (decide (ox g o = e ∧ oy g o < e ∨ oy g o = e ∧ ox g o < e) && brk g (up p e (nI i)) o)) < 1024 := bts_lt 10 _
              rw [nI_or (by omega) (by omega), BE_s O (fun k hk => (up_ne p (nI i) (show k ≠ e by omega)).symm), nI_1]
              refine ih (e + 1) (by omega) m (up p e (nI i)) _ F1 W1 _ I2 (by rw [wi_na _ _ _ _ (by decide)]; exact R2) H2 V2 hF1 (by rw [wi_na _ _ _ _ (by decide)]; exact a2) (by rw [wi_na _ _ _ _ (by decide)]; exact a3) (fun s' f' H' b2 b3 => ?_)
              have hst := stC_ok ((prC (elF g n (e + 1)) (inn g) (up p e (nI i))).map (bb g)) (fun b hb => by
                obtain ⟨q, -, rfl⟩ := List.mem_map.mp hb
                exact bb_lt O (Nat.le_refl _)) (F1, W1) hF1
              refine ihr (i + 1) (by omega) s' _ _ (f2.tr f') (fun e' he' => ?_) hst.1 b2 b3 k1
              rw [H' e' (by omega)]
              unfold pl
              rw [up_ne _ _ (by omega)]
        exact Lp 6 0 rfl _ F W f1 (fun e' he' => by rw [wi_ne _ _ _ _ (by omega)]; exact H e' he') hF (by rw [wi_na _ _ _ _ (by decide)]; exact h2) (by rw [wi_na _ _ _ _ (by decide)]; exact h3) k
end CONF
