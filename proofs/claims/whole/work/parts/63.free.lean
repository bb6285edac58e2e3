/-! free -/
section FREE
variable {t : List Nat} {L : List Int32} {g g' : Sy} {us us' : List Sy} {ks : Nat → Option Sy} {s s' : gS} {K : gS → Prop}
/-- what solved may have done -/
def sv (g : Sy) (s s' : gS) : Prop := fR sD s s' ∧ (∀ j, j ≠ 13 → s'.1 0 j = s.1 0 j) ∧ CV g s'
theorem sv.tr {s1 s2 : gS} (h : sv g s s1) (h2 : fR sD s1 s2) (h3 : ∀ j, j ≠ 13 → s2.1 0 j = s1.1 0 j) (h4 : CV g s2) : sv g s s2 := ⟨h.1.tr h2, fun j hj => (h3 j hj).trans (h.2.1 j hj), h4⟩
def lR (g : Sy) (a b : Int) (n : Nat) (m : Int) : Prop := (m = -1 ∧ ∀ e, e < n → ∀ i, i < 6 → hv g e a b i = false) ∨ ∃ e i, e < 6 ∧ i < 6 ∧ hv g e a b i = true ∧ m = vl g e i 1
theorem hv_v {e i : Nat} {a b : Int} (O : okS 10 g) (he : e < 6) (hi : i < 6) (h : hv g e a b i = true) : lf g e i = true ∧ vl g e i 0 ≤ b ∧ a ≤ vl g e i 1 ∧ (0 ≤ vl g e i 0 ∧ vl g e i 0 ≤ 9999) ∧ (0 ≤ vl g e i 1 ∧ vl g e i 1 ≤ 9999) ∧ i < mn g e := by
  unfold hv at h
  rw [Bool.and_eq_true, Bool.and_eq_true] at h
  have him := inn_lt (lf_inn he hi h.1 O)
  obtain ⟨r1, r2⟩ := okS_r O he him
  exact ⟨h.1, by simpa using h.2.1, by simpa using h.2.2, r1, r2, him⟩
theorem c_last {a b : Int} {Q : Int32 → gS → Prop} (O : okS 10 g) (R : repC (s.1 21) g) (V : CV g s) (ha : 0 ≤ a ∧ a ≤ 20000) (hb : 0 ≤ b ∧ b ≤ 20000) (k : ∀ s' m, sv g s s' → lR g a b 6 m → Q (iI m) s') : wpX11_lastDayOfThoseThatMeet (iI a) (iI b) s Q := by
  have Lp : ∀ n e, e + n = 6 → ∀ (m : Int) (s1 : gS), sv g s s1 → lR g a b e m → -1 ≤ m ∧ m ≤ 9999 → wX11_lastDayOfThoseThatMeet_5 (iI a) (iI b) Q (n + 1) (iI m) (nI e) s1 := by
    intro n
    induction n with
    | zero =>
      intro e he m s1 f h hm
      have : e = 6 := by omega
      subst this
      rw [wX11_lastDayOfThoseThatMeet_5]
      exact ⟨fun _ => k s1 m f h, fun h => absurd (by decide) h⟩
    | succ n ih =>
      intro e he m s1 f h hm
      have he6 : e < 6 := by omega
      rw [wX11_lastDayOfThoseThatMeet_5]
      refine ⟨fun h => absurd h (by rw [ge6 he6]; exact id), fun _ => ?_⟩
      refine c_solved O (by rw [f.1.1 21 rfl]; exact R) f.2.2 (fun s2 f2 g2 v2 S2 => ?_)
      have R2 : repC (s2.1 (20 + 1)) g := by rw [f2.1 (20 + 1) rfl, f.1.1 (20 + 1) rfl]; exact R
      have F2 := f.tr f2 g2 (CV1 v2 S2)
      refine c_leftBits O S2 he6 (c_meet O R2 he6 (by omega) (by omega) ⟨7, ?_⟩)
      -- the readings of one event
      have inner : ∀ r i, i + r = 6 → ∀ m : Int, -1 ≤ m ∧ m ≤ 9999 → ((m = -1 ∧ (∀ e', e' < e → ∀ j, j < 6 → hv g e' a b j = false) ∧ ∀ j, j < i → hv g e a b j = false) ∨ ∃ e i, e < 6 ∧ i < 6 ∧ hv g e a b i = true ∧ m = vl g e i 1) → wX11_lastDayOfThoseThatMeet_37 (iI a) (iI b) Q (fun y3 y4 s => wX11_lastDayOfThoseThatMeet_5 (iI a) (iI b) Q (n + 1) y3 y4 s) (r + 1) (iI m) (nI e) (nI (bts 6 (hv g e a b))) (nI i) s2 := by
        intro r
        induction r with
        | zero =>
          intro i hi m hm h
          have : i = 6 := by omega
          subst this
          rw [wX11_lastDayOfThoseThatMeet_37]
          refine ⟨fun _ => ?_, fun h => absurd (by decide) h⟩
          rw [nI_1]
          refine ih (e + 1) (by omega) m s2 F2 ?_ hm
          rcases h with ⟨h1, h2, h3⟩ | h
          · refine Or.inl ⟨h1, fun e' he' j hj => ?_⟩
            by_cases hee : e' = e
            · subst hee; exact h3 j hj
            · exact h2 e' (by omega) j hj
          · exact Or.inr h
        | succ r ih2 =>
          intro i hi m hm h
          have hi6 : i < 6 := by omega
          rw [wX11_lastDayOfThoseThatMeet_37, c_hasBit hi6, nI_1 i]
          simp only [ge6 hi6, bi_0, false_implies, true_and, not_false_eq_true, true_implies]
          cases hh : hv g e a b i with
          | false =>
            refine ⟨fun _ => ih2 (i + 1) (by omega) m hm ?_, fun h => absurd rfl h⟩
            rcases h with ⟨h1, h2, h3⟩ | h
            · refine Or.inl ⟨h1, h2, fun j hj => ?_⟩
              by_cases hji : j = i
              · subst hji; exact hh
              · exact h3 j (by omega)
            · exact Or.inr h
          | true =>
            obtain ⟨q1, q2, q3, q4, q5, q6⟩ := hv_v O he6 hi6 hh
            refine ⟨fun h => (by cases h), fun _ => ?_⟩
            rw [c_vA1 he6 hi6, c_v1 R2 he6 q6, iI_max (by omega) (by omega) (by omega) (by omega)]
            refine ih2 (i + 1) (by omega) _ (by omega) (Or.inr ?_)
            by_cases hmx : m ≤ vl g e i 1
            · exact ⟨e, i, he6, hi6, hh, by omega⟩
            · rcases h with ⟨h1, -⟩ | ⟨e', i', a1, a2, a3, a4⟩
              · omega
              · exact ⟨e', i', a1, a2, a3, by omega⟩
      refine inner 6 0 rfl m hm ?_
      rcases h with ⟨h1, h2⟩ | h
      · exact Or.inl ⟨h1, h2, fun j hj => by omega⟩
      · exact Or.inr h
  exact ⟨7, Lp 6 0 rfl (-1) s ⟨fR.rf, fun _ _ => rfl, V⟩ (Or.inl ⟨rfl, fun e he => by omega⟩) (by omega)⟩
def bsy (g : Sy) (d : Int) : Prop := ∃ e i, e < 6 ∧ i < 6 ∧ hv g e d d i = true
/-- from a day on so many are free -/
def fre (g : Sy) (n f : Int) : Prop := ∀ d, f ≤ d → d ≤ f + n - 1 → ¬ bsy g d
theorem fre_hv {n f : Int} (O : okS 10 g) (hn : 1 ≤ n) : fre g n f ↔ ∀ e i, e < 6 → i < 6 → hv g e f (f + n - 1) i = false := by
  constructor
  · intro h e i he hi
    cases hh : hv g e f (f + n - 1) i with
    | false => rfl
    | true =>
      exfalso
      unfold hv at hh
      rw [Bool.and_eq_true, Bool.and_eq_true] at hh
      have h1 : vl g e i 0 ≤ f + n - 1 := by simpa using hh.2.1
      have h2 : f ≤ vl g e i 1 := by simpa using hh.2.2
      by_cases hc : vl g e i 0 ≤ f
      · exact h f (by omega) (by omega) ⟨e, i, he, hi, by simp [hv, hh.1, hc, h2]⟩
      · by_cases hd : vl g e i 0 ≤ vl g e i 1
        · exact h (vl g e i 0) (by omega) (by omega) ⟨e, i, he, hi, by simp [hv, hh.1, hd]⟩
        · exact hd (O.2.2.2.2 e he i (inn_lt (lf_inn he hi hh.1 O))).2.1
  · rintro h d h1 h2 ⟨e, i, he, hi, hh⟩
    have hz := h e i he hi
    unfold hv at hh hz
    rw [Bool.and_eq_true, Bool.and_eq_true] at hh
    have q1 : vl g e i 0 ≤ d := by simpa using hh.2.1
    have q2 : d ≤ vl g e i 1 := by simpa using hh.2.2
    have : (lf g e i && (decide (vl g e i 0 ≤ f + n - 1) && decide (f ≤ vl g e i 1))) = true := by
      rw [hh.1]
      simp
      omega
    rw [this] at hz
    cases hz
theorem fre_end {n : Int} (O : okS 10 g) {f : Int} (h : 10000 ≤ f) : fre g n f := by
  rintro d h1 h2 ⟨e, i, he, hi, hh⟩
  have := hv_v O he hi hh
  omega
theorem lst_ex {P : Int → Prop} (day : Int) : ∀ k : Nat, P (day + k) → ∃ f, day ≤ f ∧ P f ∧ ∀ f', day ≤ f' → f' < f → ¬ P f' := by
  intro k
  induction k using Nat.strongRecOn with
  | ind k ih =>
    intro h
    by_cases hs : ∃ j : Nat, j < k ∧ P (day + j)
    · obtain ⟨j, h1, h2⟩ := hs
      exact ih j h1 h2
    · refine ⟨day + k, by omega, h, fun f' h1 h2 h3 => hs ⟨(f' - day).toNat, by omega, ?_⟩⟩
      rw [show day + ((f' - day).toNat : Int) = f' by omega]
      exact h3
/-- readings that are left and end from a day on -/
def nE (g : Sy) (f : Int) : Nat := sE (fun e => cnt 6 (fun i => lf g e i && decide (f ≤ vl g e i 1))) 6
theorem cnt_mo {p q : Nat → Bool} (n : Nat) (h : ∀ i, i < n → p i = true → q i = true) : cnt n p ≤ cnt n q := by
  induction n with
  | zero => exact Nat.le_refl _
  | succ n ih =>
    have := ih (fun i hi => h i (by omega))
    rw [cnt_s, cnt_s]
    cases hp : p n with
    | false => simp; omega
    | true => rw [h n (by omega) hp]; simp; omega
theorem cnt_st {p q : Nat → Bool} (n : Nat) (h : ∀ i, i < n → p i = true → q i = true) {k : Nat} (hk : k < n) (h1 : p k = false) (h2 : q k = true) : cnt n p + 1 ≤ cnt n q := by
  induction n with
  | zero => omega
  | succ n ih =>
    rw [cnt_s, cnt_s]
    by_cases hkn : k = n
    · subst hkn
      have := cnt_mo k (fun i hi => h i (by omega))
      rw [h1, h2]; simp; omega
    · have := ih (fun i hi => h i (by omega)) (by omega)
      cases hp : p n with
      | false => simp; omega
      | true => rw [h n (by omega) hp]; simp; omega
theorem nE_le (f : Int) : nE g f ≤ 36 := by
  unfold nE
  have : ∀ n, sE (fun e => cnt 6 (fun i => lf g e i && decide (f ≤ vl g e i 1))) n ≤ 6 * n := by
    intro n
    induction n with
    | zero => exact Nat.le_refl _
    | succ n ih =>
      rw [sE]
      have := cnt_le 6 (fun i => lf g n i && decide (f ≤ vl g n i 1))
      omega
  exact this 6
theorem nE_dn {e i : Nat} {f f' : Int} (he : e < 6) (hi : i < 6) (h : lf g e i = true) (h1 : f ≤ vl g e i 1) (h2 : f' = vl g e i 1 + 1) (hff : f ≤ f') : nE g f' + 1 ≤ nE g f := by
  have hmo : ∀ e' i', (lf g e' i' && decide (f' ≤ vl g e' i' 1)) = true → (lf g e' i' && decide (f ≤ vl g e' i' 1)) = true := by
    intro e' i' hh
    rw [Bool.and_eq_true, decide_eq_true_eq] at hh ⊢
    exact ⟨hh.1, by omega⟩
  have hlt : cnt 6 (fun i => lf g e i && decide (f' ≤ vl g e i 1)) + 1 ≤ cnt 6 (fun i => lf g e i && decide (f ≤ vl g e i 1)) := cnt_st 6 (fun i' _ => hmo e i') hi (by simp [h]; omega) (by simp [h, h1])
  unfold nE
  have hle : ∀ n, sE (fun e => cnt 6 (fun i => lf g e i && decide (f' ≤ vl g e i 1))) n ≤ sE (fun e => cnt 6 (fun i => lf g e i && decide (f ≤ vl g e i 1))) n ∧ (e < n → sE (fun e => cnt 6 (fun i => lf g e i && decide (f' ≤ vl g e i 1))) n + 1 ≤ sE (fun e => cnt 6 (fun i => lf g e i && decide (f ≤ vl g e i 1))) n) := by
    intro n
    induction n with
    | zero => exact ⟨Nat.le_refl _, fun h => by omega⟩
    | succ n ih =>
      rw [sE, sE]
      have := cnt_mo 6 (fun i' _ => hmo n i')
      refine ⟨by omega, fun hen => ?_⟩
      by_cases hee : e = n
      · subst hee; omega
      · have := ih.2 (by omega); omega
  exact (hle 6).2 he
theorem may_bsy {d : Int} : cnt 6 (may g d) ≤ 0 ↔ ¬ bsy g d := by
  constructor
  · rintro h ⟨e, i, he, hi, hh⟩
    have := cnt_pos (p := may g d) he (may_iff.mpr ⟨i, hi, hh⟩)
    omega
  · intro h
    have : ∀ n, n ≤ 6 → cnt n (may g d) = 0 := by
      intro n
      induction n with
      | zero => intro _; rfl
      | succ n ih =>
        intro hn
        rw [cnt_s, ih (by omega)]
        cases hm : may g d n with
        | false => simp
        | true =>
          obtain ⟨i, h1, h2⟩ := may_iff.mp hm
          exact absurd ⟨n, i, by omega, h1, h2⟩ h
    rw [this 6 (Nat.le_refl _)]
    exact Nat.le_refl _
theorem S_free {x y : Int32} (A : okA t L g us ks) (C : CI t L g us ks s) (M : MI t L g us ks s) (kk : KK t K) : wpX11_free x y s (fun r s1 => wpX12_free x y s1 (eqK K r)) := by
  have O := A.2.2.1.1
  obtain ⟨d, d1, d2, rfl⟩ := i_ex x
  obtain ⟨n, n1, n2, rfl⟩ := i_ex y
  by_cases hd : 0 ≤ d ∧ d ≤ 9999
  · by_cases hn : 1 ≤ n ∧ n ≤ 99
    · obtain ⟨f0, z1, z2, z3⟩ := lst_ex (P := fre g n) d (10000 - d).toNat (fre_end O (by omega))
      refine S_q (L' := L) (r := if f0 + n - 1 ≤ 9999 then iI f0 else -2) (WC := wpX11_free (iI d) (iI n) s) (WM := wpX12_free (iI d) (iI n)) A C M A.2.1 kk (fun Q k => ?_) (fun s1 M1 Q k => ?_)
      · unfold wpX11_free
        rw [c_isDay d1 d2]
        simp only [hd, and_self, decide_true]
        refine ⟨fun h => absurd h (by decide), fun _ => ?_⟩
        rw [show (1 : Int32) = iI 1 from rfl, show (99 : Int32) = iI 99 from rfl, iI_lt n1 n2 (by decide) (by decide), iI_le n1 n2 (by decide) (by decide)]
        refine ⟨fun h => by omega, fun _ => ⟨fun _ => ⟨38, ?_⟩, fun h => by omega⟩⟩
        have Lp : ∀ r turn, turn + r = 37 → ∀ (f : Int) (s1 : gS), sv g s s1 → d ≤ f ∧ f ≤ 10000 → (∀ f', d ≤ f' → f' < f → ¬ fre g n f') → turn + nE g f ≤ 36 → wX11_free_25 (iI d) (iI n) Q (r + 1) (iI f) (nI turn) s1 := by
          intro r
          induction r with
          | zero => intro turn ht f s1 _ _ _ hlt; omega
          | succ r ih =>
            intro turn ht f s1 F hf hmin hlt
            rw [wX11_free_25]
            have h36 : ¬ 36 < nI turn := by
              rw [show (36 : Int32) = nI 36 from rfl, nI_ltI (by decide) (by omega)]
              omega
            refine ⟨fun h => absurd h h36, fun _ => ?_⟩
            have e1 : iI f + iI n - 1 = iI (f + n - 1) := by rw [show (1 : Int32) = iI 1 from rfl, iI_add, iI_sub]
            rw [e1]
            refine c_last O (by rw [F.1.1 21 rfl]; exact C.2.2.1) F.2.2 (by omega) (by omega) (fun s2 m F2 hm => ?_)
            have F3 : sv g s s2 := ⟨F.1.tr F2.1, fun j hj => (F2.2.1 j hj).trans (F.2.1 j hj), F2.2.2⟩
            rcases hm with ⟨hm1, hm2⟩ | ⟨e, i, he, hi, hh, hm⟩
            · subst hm1
              have hfre : fre g n f := (fre_hv O hn.1).mpr (fun e i he hi => hm2 e he i hi)
              have hff : f = f0 := by
                have a1 : ¬ f0 < f := fun h => hmin f0 z1 h z2
                have a2 : ¬ f < f0 := fun h => z3 f hf.1 h hfre
                omega
              subst hff
              have k0 := k s2 (F3.1.mono sD_q) F3.2.1 (sD_r F3.1 C.2.1) F3.2.2
              refine ⟨fun h => absurd rfl h, fun _ => ?_⟩
              rw [show (9999 : Int32) = iI 9999 from rfl, iI_lt (by decide) (by decide) (by omega) (by omega)]
              refine ⟨fun h => ?_, fun h => ?_⟩
              · rw [if_neg (by omega)] at k0; exact k0
              · rw [if_pos (by omega)] at k0; exact k0
            · obtain ⟨q1, q2, q3, q4, q5, q6⟩ := hv_v O he hi hh
              refine ⟨fun _ => ?_, fun h => absurd h (iI_m1 (by omega) (by omega))⟩
              rw [show (1 : Int32) = iI 1 from rfl, iI_add, ← show (1 : Int32) = iI 1 from rfl, nI_1]
              have := nE_dn (f' := m + 1) he hi q1 q3 (by omega) (by omega)
              refine ih (turn + 1) (by omega) (m + 1) s2 F3 (by omega) (fun f' h1 h2 h3 => ?_) (by omega)
              by_cases hlt2 : f' < f
              · exact hmin f' h1 hlt2 h3
              · have hz := (fre_hv O hn.1).mp h3 e i he hi
                unfold hv at hz
                have hz2 : (lf g e i && (decide (vl g e i 0 ≤ f' + n - 1) && decide (f' ≤ vl g e i 1))) = true := by
                  rw [q1]
                  simp
                  omega
                rw [hz2] at hz
                cases hz
        have hnE := nE_le (g := g) d
        exact Lp 37 0 rfl d s ⟨fR.rf, fun _ _ => rfl, C.2.2.2.1⟩ (by omega) (fun f' h1 h2 => by omega) (by omega)
      · unfold wpX12_free
        rw [m_isDay d1 d2]
        simp only [hd, and_self, decide_true]
        refine ⟨fun h => absurd h (by decide), fun _ => ?_⟩
        show wpX12_in (iI n) (iI 1) (iI 99) _ _
        rw [m_in n1 n2 (by decide) (by decide) (by decide) (by decide)]
        simp only [hn, and_self, decide_true]
        refine ⟨fun _ => ?_, fun h => absurd h (by decide)⟩
        have M2 : (wi s1 177 5 0).1 178 = g := by rw [wi_na _ _ _ _ (by decide)]; exact M1.2.2.1
        refine m_survey M2 O (by decide) (fun s2 f2 S2 => ⟨(10000 - d).toNat + 1, ?_⟩)
        have M3 : s2.1 178 = g := by rw [f2.1 178 (by decide) (by decide)]; exact M2
        have k0 := k s2 (m_th.tr (f2.mono (by decide) (by decide))) (M1.2.1.th.cg (f2.2.1 4 (by decide)) (f2.2.2.1 180 (by decide)))
        have Lp : ∀ (r : Nat) (f e : Int), e + r = 10000 → d ≤ f → f ≤ e → 0 ≤ e → (∀ f', d ≤ f' → f' < f → ¬ fre g n f') → (∀ c, f ≤ c → c < e → ¬ bsy g c) → e - f < n → wX12_free_33 (iI d) (iI n) Q (r + 1) (iI f) (iI e) s2 := by
          intro r
          induction r with
          | zero =>
            intro f e he h1 h2 h0 h3 h4 h5
            have : e = 10000 := by omega
            subst this
            rw [wX12_free_33]
            refine ⟨fun _ => ?_, fun h => absurd (by decide) h⟩
            rw [if_neg ?_] at k0
            · exact k0
            · have : ¬ f0 < f := fun h => h3 f0 z1 h z2
              omega
          | succ r ih =>
            intro f e he h1 h2 h0 h3 h4 h5
            rw [wX12_free_33]
            rw [show (9999 : Int32) = iI 9999 from rfl, iI_lt (by decide) (by decide) (by omega) (by omega)]
            refine ⟨fun h => by omega, fun _ => m_mayMany O M3 S2 (by omega) ?_⟩
            have hc := cnt_le 6 (may g e)
            have hz : (nI (cnt 6 (may g e)) ≤ 0) = (cnt 6 (may g e) ≤ 0) := by rw [show (0 : Int32) = nI 0 from rfl, nI_leI (by omega) (by decide)]
            rw [hz, may_bsy]
            unfold wX12_free_55
            have e1 : iI e + 1 = iI (e + 1) := by rw [show (1 : Int32) = iI 1 from rfl, iI_add]
            have e2 : iI e - iI f + 1 = iI (e - f + 1) := by rw [show (1 : Int32) = iI 1 from rfl, iI_sub, iI_add]
            have e3 : iI e - iI (e + 1) + 1 = iI 0 := by
              rw [show (1 : Int32) = iI 1 from rfl, iI_sub, iI_add]
              congr 1
              omega
            rw [e1, e2, e3, iI_eq (by omega) (by omega) (by omega) (by omega), iI_eq (by decide) (by decide) (by omega) (by omega)]
            refine ⟨fun hb => ⟨fun h => ?_, fun h => ?_⟩, fun hb => ⟨fun _ => ?_, fun h => by omega⟩⟩
            · refine ih f (e + 1) (by omega) h1 (by omega) (by omega) h3 (fun c hc1 hc2 => ?_) (by omega)
              by_cases hce : c = e
              · subst hce; exact hb
              · exact h4 c hc1 (by omega)
            · have hfre : fre g n f := fun c hc1 hc2 => by
                by_cases hce : c = e
                · subst hce; exact hb
                · exact h4 c hc1 (by omega)
              have hff : f = f0 := by
                have a1 : ¬ f0 < f := fun h => h3 f0 z1 h z2
                have a2 : ¬ f < f0 := fun h => z3 f h1 h hfre
                omega
              subst hff
              rw [if_pos (by omega)] at k0
              exact k0
            · have hbb : bsy g e := Classical.byContradiction hb
              refine ih (e + 1) (e + 1) (by omega) (by omega) (by omega) (by omega) (fun f' hf1 hf2 hf3 => ?_) (fun c hc1 hc2 => by omega) (by omega)
              by_cases hlt : f' < f
              · exact h3 f' hf1 hlt hf3
              · exact hf3 e (by omega) (by omega) hbb
        exact Lp (10000 - d).toNat d d (by omega) (by omega) (by omega) (by omega) (fun f' h1 h2 => by omega) (fun c h1 h2 => by omega) (by omega)
    · refine S_q (L' := L) (r := -1) (WC := wpX11_free (iI d) (iI n) s) (WM := wpX12_free (iI d) (iI n)) A C M A.2.1 kk (fun Q k => ?_) (fun s1 M1 Q k => ?_)
      · have k0 := qC_self C k
        unfold wpX11_free
        rw [c_isDay d1 d2]
        simp only [hd, and_self, decide_true]
        refine ⟨fun h => absurd h (by decide), fun _ => ?_⟩
        rw [show (1 : Int32) = iI 1 from rfl, show (99 : Int32) = iI 99 from rfl, iI_lt n1 n2 (by decide) (by decide), iI_le n1 n2 (by decide) (by decide)]
        exact ⟨fun _ => k0, fun _ => ⟨fun h => by omega, fun _ => k0⟩⟩
      · unfold wpX12_free
        rw [m_isDay d1 d2]
        simp only [hd, and_self, decide_true]
        refine ⟨fun h => absurd h (by decide), fun _ => ?_⟩
        show wpX12_in (iI n) (iI 1) (iI 99) _ _
        rw [m_in n1 n2 (by decide) (by decide) (by decide) (by decide)]
        simp only [hn, decide_false]
        exact ⟨fun h => absurd rfl h, fun _ => qM_th M1 k⟩
  · refine S_q (L' := L) (r := -1) (WC := wpX11_free (iI d) (iI n) s) (WM := wpX12_free (iI d) (iI n)) A C M A.2.1 kk (fun Q k => ?_) (fun s1 M1 Q k => ?_)
    · unfold wpX11_free
      rw [c_isDay d1 d2]
      simp only [hd, decide_false]
      exact ⟨fun _ => qC_self C k, fun h => absurd rfl h⟩
    · unfold wpX12_free
      rw [m_isDay d1 d2]
      simp only [hd, decide_false]
      exact ⟨fun _ => qM_th M1 k, fun h => absurd rfl h⟩
end FREE
