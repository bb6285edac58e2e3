/-! told, asks -/
section QUERY
variable {t : List Nat} {L : List Int32} {g : Sy} {us : List Sy} {ks : Nat → Option Sy} {s : gS} {Q : Int32 → gS → Prop} {K : gS → Prop}
theorem m_inFromA {N e i : Nat} (M : s.1 178 = g) (O : okS N g) (h : e < 6) (hi : i ≤ mn g e) (k : Q (fst_in g e (mn g e - i) i) s) : wpX12_inFrom (nI e) (nI i) s Q := by
  cases ht : tl g e with
  | true => exact m_inFrom M O ht h hi k
  | false =>
    have hm := mn_nt ht
    rw [hm] at hi k
    have : i = 0 := by omega
    subst this
    refine ⟨1, ?_⟩
    rw [wX12_inFrom_2]
    have e1 : 2 + nI e = nI (2 + e) := nI_add 2 e
    have e2 : gi s 178 (2 + e) = -1 := by
      unfold tl at ht
      rw [← M] at ht
      have h2 : s.1 178 (2 + e) = -1 := by simpa using ht
      exact h2
    rw [e1, ix_nI (by omega), e2]
    exact ⟨vp_in_nI (by omega) (by decide), fun _ => k, fun h => absurd (by decide) h⟩
/-- in pairs -/
def prs (g : Sy) (o : Nat) : Nat → Nat
  | 0 => 0
  | n + 1 => prs g o n + (if inn g (ox g o) n then cnt 6 (fun k => inn g (oy g o) k && hh g o n k) else 0)
theorem c_pairs {a o : Nat} (O : okS 10 g) (R : repC (s.1 (a + 1)) g) (ho : o < no g) (k : Q (nI (prs g o 6)) s) : wpX8_pairsThatHold a (nI o) s Q := by
  obtain ⟨-, -, -, h1, h2, h3, -⟩ := O.2.2.1 o ho
  obtain ⟨e1, e2, e3⟩ := cd_y h1 h2 h3
  unfold wpX8_pairsThatHold
  rw [c_code (by decide) O R ho]
  have Lp : ∀ n i, i + n = 6 → wX8_pairsThatHold_11 a (nI o) Q (n + 1) (nI (cd g o)) (nI (prs g o i)) (nI i) s := by
    intro n
    induction n with
    | zero =>
      intro i hi
      have : i = 6 := by omega
      subst this
      rw [wX8_pairsThatHold_11]
      exact ⟨fun _ => k, fun h => absurd (by decide) h⟩
    | succ n ih =>
      intro i hi
      have hi6 : i < 6 := by omega
      have := ih (i + 1) (by omega)
      have d1 : jrem (nI (cd g o)) 10 = nI (oy g o) := e1
      have d2 : jrem (nI (cd g o) / 10) 10 = nI (ox g o) := e2
      rw [wX8_pairsThatHold_11, d1, d2, c_isIn O R h2 hi6, nI_1]
      simp only [ge6 hi6, bi_0, false_implies, true_and, not_false_eq_true, true_implies]
      cases hl : inn g (ox g o) i with
      | false =>
        rw [prs, hl] at this
        exact ⟨fun _ => by simpa using this, fun h => absurd rfl h⟩
      | true =>
        rw [prs, hl] at this
        refine ⟨fun h => (by cases h), fun _ => ?_⟩
        refine c_bth O R ho hi6 (fun p hp => ?_)
        rw [c_inBits R h3, band6, pop_6, nI_add]
        rw [cnt_cg (q := fun k => inn g (oy g o) k && hh g o i k) (fun k _ => by
          cases hk : inn g (oy g o) k with
          | false => simp
          | true => simp [hp (inn_lt hl) k (inn_lt hk)])]
        simpa using this
  exact ⟨7, Lp 6 0 rfl⟩
/-- the reference's pairs -/
def cF (g : Sy) (o i : Nat) : Nat → Nat → Nat
  | 0, _ => 0
  | n + 1, k => (if inn g (oy g o) k then (if hh g o i k then 1 else 0) else 0) + cF g o i n (k + 1)
theorem cF_cnt {o i : Nat} : ∀ n k, cnt k (fun k => inn g (oy g o) k && hh g o i k) + cF g o i n k = cnt (k + n) (fun k => inn g (oy g o) k && hh g o i k) := by
  intro n
  induction n with
  | zero => intro k; rfl
  | succ n ih =>
    intro k
    rw [show k + (n + 1) = k + 1 + n by omega, ← ih (k + 1), cnt_s, cF]
    cases inn g (oy g o) k <;> cases hh g o i k <;> simp <;> omega
def pF (g : Sy) (o : Nat) : Nat → Nat → Nat
  | 0, _ => 0
  | n + 1, i => (if inn g (ox g o) i then cF g o i (mn g (oy g o)) 0 else 0) + pF g o n (i + 1)
theorem pF_prs {o : Nat} (O : okS 10 g) (ho : o < no g) : pF g o (mn g (ox g o)) 0 = prs g o 6 := by
  obtain ⟨-, -, -, h1, h2, h3, -⟩ := O.2.2.1 o ho
  have hmx := (O.2.2.2.1 _ h2).2
  have hmy := (O.2.2.2.1 _ h3).2
  have hc : ∀ i, cF g o i (mn g (oy g o)) 0 = cnt 6 (fun k => inn g (oy g o) k && hh g o i k) := by
    intro i
    have := cF_cnt (g := g) (o := o) (i := i) (mn g (oy g o)) 0
    rw [show cnt 0 (fun k => inn g (oy g o) k && hh g o i k) = 0 from rfl, Nat.zero_add, Nat.zero_add] at this
    rw [this]
    have hl : ∀ m, mn g (oy g o) ≤ m → cnt m (fun k => inn g (oy g o) k && hh g o i k) = cnt (mn g (oy g o)) (fun k => inn g (oy g o) k && hh g o i k) := fun m hm => cnt_lt hm (fun k hk => by simp [inn_mn hk])
    exact (hl 6 hmy).symm
  have h4 : ∀ n i, prs g o i + pF g o n i = prs g o (i + n) := by
    intro n
    induction n with
    | zero => intro i; rfl
    | succ n ih =>
      intro i
      rw [show i + (n + 1) = i + 1 + n by omega, ← ih (i + 1), prs, pF, hc]
      omega
  have h5 := h4 (mn g (ox g o)) 0
  rw [show prs g o 0 = 0 from rfl, Nat.zero_add, Nat.zero_add] at h5
  rw [h5]
  have h6 : ∀ m, mn g (ox g o) ≤ m → prs g o m = prs g o (mn g (ox g o)) := by
    intro m
    induction m with
    | zero => intro h; rw [show mn g (ox g o) = 0 by omega]
    | succ m ih =>
      intro h
      by_cases h7 : mn g (ox g o) = m + 1
      · rw [h7]
      · rw [prs, ih (by omega), inn_mn (show mn g (ox g o) ≤ m by omega)]
        simp
  exact (h6 6 hmx).symm
theorem fst_or (e : Nat) : ∀ n i, i + n < 2 ^ 31 → (fst_in g e n i = -1 ∧ ∀ k, i ≤ k → k < i + n → inn g e k = false) ∨ ∃ k, i ≤ k ∧ k < i + n ∧ fst_in g e n i = nI k ∧ inn g e k = true ∧ ∀ j, i ≤ j → j < k → inn g e j = false := by
  intro n
  induction n with
  | zero => intro i _; exact Or.inl ⟨rfl, fun k h1 h2 => by omega⟩
  | succ n ih =>
    intro i hi
    unfold fst_in
    cases h : inn g e i with
    | true => exact Or.inr ⟨i, by omega, by omega, rfl, h, fun j h1 h2 => by omega⟩
    | false =>
      rcases ih (i + 1) (by omega) with ⟨h1, h2⟩ | ⟨k, h1, h2, h3, h4, h5⟩
      · refine Or.inl ⟨h1, fun k h3 h4 => ?_⟩
        by_cases hk : k = i
        · subst hk; exact h
        · exact h2 k (by omega) (by omega)
      · refine Or.inr ⟨k, by omega, by omega, h3, h4, fun j h6 h7 => ?_⟩
        by_cases hj : j = i
        · subst hj; exact h
        · exact h5 j (by omega) h7
theorem m_told97 {o i : Nat} {x1 : Int32} {k82 : Int32 → Int32 → Int32 → Int32 → Int32 → gS → Prop} (M : s.1 178 = g) (O : okS 10 g) (ho : o < no g) (hi : inn g (ox g o) i = true) (hk82 : ∀ c, wpX12_inFrom (nI (ox g o)) (nI (i + 1)) s (fun r7 s7 => k82 (nI (kd g o)) (nI (ox g o)) (nI (oy g o)) (nI c) r7 s7) → True) : ∀ n k acc, k + n = mn g (oy g o) → (wpX12_inFrom (nI (ox g o)) (nI (i + 1)) s (fun r7 s7 => k82 (nI (kd g o)) (nI (ox g o)) (nI (oy g o)) (nI (acc + cF g o i n k)) r7 s7)) → ∃ m, wX12_told_97 x1 Q k82 m (nI (kd g o)) (nI (ox g o)) (nI (oy g o)) (nI acc) (nI i) (fst_in g (oy g o) n k) s := by
  obtain ⟨-, -, -, h1, h2, h3, -⟩ := O.2.2.1 o ho
  have hmx := (O.2.2.2.1 _ h2).2
  have hmy := (O.2.2.2.1 _ h3).2
  have him := inn_lt hi
  intro n
  induction n with
  | zero =>
    intro k acc hk H
    refine ⟨1, ?_⟩
    rw [wX12_told_97, nI_1 i]
    exact ⟨fun _ => H, fun h => absurd rfl h⟩
  | succ n ih =>
    intro k acc hk H
    unfold fst_in
    cases hl : inn g (oy g o) k with
    | false =>
      rw [cF, hl] at H
      simp only [Bool.false_eq_true, if_false, Nat.zero_add] at H ⊢
      exact ih (k + 1) acc (by omega) H
    | true =>
      rw [cF, hl] at H
      have hkm := inn_lt hl
      simp only [if_true] at H ⊢
      have hstep : ∀ z : Nat, z = (if hh g o i k then 1 else 0) → ∃ m, wX12_told_125 x1 Q (fun y2 y3 y4 y5 y6 y7 s => wX12_told_97 x1 Q k82 m y2 y3 y4 y5 y6 y7 s) (nI (kd g o)) (nI (ox g o)) (nI (oy g o)) (nI i) (nI k) (nI z) (nI acc) s := by
        intro z hz
        obtain ⟨m, hm⟩ := ih (k + 1) (acc + z) (by omega) (by rw [hz, Nat.add_assoc]; exact H)
        refine ⟨m, ?_⟩
        unfold wX12_told_125
        rw [nI_1 k, nI_add]
        refine m_inFromA M O h3 (by omega) ?_
        rw [show mn g (oy g o) - (k + 1) = n by omega]
        exact hm
      cases hb : hh g o i k with
      | false =>
        obtain ⟨m, hm⟩ := hstep 0 (by rw [hb]; rfl)
        refine ⟨m + 1, ?_⟩
        rw [wX12_told_97]
        refine ⟨fun h => absurd h (nI_ne (by omega)), fun _ => ?_⟩
        rw [m_holdsBy M O h1 h2 h3 him hkm]
        rw [show hld (kd g o) (vl g (ox g o) i 0) (vl g (ox g o) i 1) (vl g (oy g o) k 0) (vl g (oy g o) k 1) = false from hb]
        exact ⟨fun _ => hm, fun h => absurd rfl h⟩
      | true =>
        obtain ⟨m, hm⟩ := hstep 1 (by rw [hb]; rfl)
        refine ⟨m + 1, ?_⟩
        rw [wX12_told_97]
        refine ⟨fun h => absurd h (nI_ne (by omega)), fun _ => ?_⟩
        rw [m_holdsBy M O h1 h2 h3 him hkm]
        rw [show hld (kd g o) (vl g (ox g o) i 0) (vl g (ox g o) i 1) (vl g (oy g o) k 0) (vl g (oy g o) k 1) = true from hb]
        exact ⟨fun h => absurd h (by decide), fun _ => hm⟩
theorem m_told82 {o : Nat} {x1 : Int32} (M : s.1 178 = g) (O : okS 10 g) (ho : o < no g) (H : wX12_told_82 x1 Q 1 (nI (kd g o)) (nI (ox g o)) (nI (oy g o)) (nI (pF g o (mn g (ox g o)) 0)) (-1) s) : ∃ m, wX12_told_82 x1 Q m (nI (kd g o)) (nI (ox g o)) (nI (oy g o)) 0 (fst_in g (ox g o) (mn g (ox g o)) 0) s := by
  obtain ⟨-, -, -, h1, h2, h3, -⟩ := O.2.2.1 o ho
  have hmx := (O.2.2.2.1 _ h2).2
  have hmy := (O.2.2.2.1 _ h3).2
  have Lp : ∀ n i acc, i + n = mn g (ox g o) → acc + pF g o n i = pF g o (mn g (ox g o)) 0 → ∃ m, wX12_told_82 x1 Q m (nI (kd g o)) (nI (ox g o)) (nI (oy g o)) (nI acc) (fst_in g (ox g o) n i) s := by
    intro n
    induction n with
    | zero =>
      intro i acc hi ha
      rw [← ha] at H
      exact ⟨1, H⟩
    | succ n ih =>
      intro i acc hi ha
      unfold fst_in
      cases hl : inn g (ox g o) i with
      | false =>
        rw [pF, hl] at ha
        simp only [Bool.false_eq_true, if_false, Nat.zero_add] at ha ⊢
        exact ih (i + 1) acc (by omega) ha
      | true =>
        rw [pF, hl] at ha
        simp only [if_true] at ha ⊢
        obtain ⟨m, hm⟩ := ih (i + 1) (acc + cF g o i (mn g (oy g o)) 0) (by omega) (by omega)
        refine ⟨m + 1, ?_⟩
        rw [wX12_told_82]
        refine ⟨fun h => absurd h (nI_ne (by omega)), fun _ => ?_⟩
        refine m_inFromA (i := 0) M O h3 (by omega) ?_
        refine m_told97 M O ho hl (fun _ _ => trivial) (mn g (oy g o)) 0 acc (by omega) ?_
        refine m_inFromA M O h2 (by omega) ?_
        rw [show mn g (ox g o) - (i + 1) = n by omega]
        exact hm
  exact Lp (mn g (ox g o)) 0 0 (by omega) (by omega)
theorem m_in0 {x : Int32} {n : Nat} (hn : n < 2 ^ 31) : wpX12_in x 0 (nI n - 1) s Q = Q (bi (decide (0 ≤ x) && decide (x < nI n))) s := by
  obtain ⟨z, h1, h2, rfl⟩ := i_ex x
  have e : nI n - 1 = iI ((n : Int) - 1) := by
    rw [nI_i, show (1 : Int32) = iI 1 from rfl, iI_sub]
  rw [e]
  show wpX12_in (iI z) (iI 0) (iI ((n : Int) - 1)) s Q = _
  rw [m_in h1 h2 (by decide) (by decide) (by omega) (by omega)]
  congr 2
  rw [show (0 : Int32) = iI 0 from rfl, nI_i]
  simp only [iI_le (show -2147483648 ≤ (0 : Int) by decide) (show (0 : Int) ≤ 2147483647 by decide) h1 h2, iI_lt h1 h2 (show -2147483648 ≤ (n : Int) by omega) (show (n : Int) ≤ 2147483647 by omega)]
  by_cases a : 0 ≤ z
  · by_cases b : z < n
    · simp [a, b]; omega
    · simp [a, b]; omega
  · simp [a]
theorem or_out {x : Int32} {n : Nat} (h : x < 0 ∨ nI n ≤ x) : (decide (0 ≤ x) && decide (x < nI n)) = false := by
  rcases h with h | h
  · have : ¬ 0 ≤ x := by simpa using h
    simp [this]
  · have : ¬ x < nI n := by simpa using h
    simp [this]
theorem or_in {k n : Nat} (h : k < n) (hn : n < 2 ^ 31) : (decide (0 ≤ nI k) && decide (nI k < nI n)) = true := by
  simp [nI_pos' (show k < 2 ^ 31 by omega), nI_ltI (show k < 2 ^ 31 by omega) hn, h]
theorem S_told {x : Int32} (A : okA t L g us ks) (C : CI t L g us ks s) (M : MI t L g us ks s) (kk : KK t K) : wpX11_told x s (fun r s1 => wpX12_told x s1 (eqK K r)) := by
  have O := A.2.2.1.1
  have hn := O.2.1.2
  have hcl := chs_le O
  rcases ev_or x (no g) (by omega) with ⟨o, ho, rfl⟩ | hx
  · obtain ⟨c1, c2, c3, h1, h2, h3, -⟩ := O.2.2.1 o ho
    refine S_q (L' := [if chs g = [] then 2 else 1, nI (prs g o 6)]) (r := nI (cd g o)) (WC := wpX11_told (nI o) s) (WM := wpX12_told (nI o)) A C M (by simp) kk (fun Q k => ?_) (fun s1 M1 Q k => ?_)
    · unfold wpX11_told
      rw [c_hasOrder O C.2.2.1, or_in ho (by omega)]
      refine ⟨fun _ => ?_, fun h => absurd h (by decide)⟩
      refine c_clear (fun s1 f1 R1 => ?_)
      have r1 : repC (s1.1 21) g := by rw [f1.1 21 rfl]; exact C.2.2.1
      refine c_solved O r1 (rD_v f1 C.2.2.2.1) (fun s2 f2 g2 v2 S2 => ?_)
      have r2 : repC (s2.1 (20 + 1)) g := by rw [f2.1 (20 + 1) rfl]; exact r1
      have fin : ∀ z : Int32, z = (if chs g = [] then 2 else 1) → wX11_told_39 (nI o) Q z s2 := by
        intro z hz
        unfold wX11_told_39
        refine c_add (sD_r f2 R1) (by simp) (fun s3 f3 R3 => ?_)
        have r3 : repC (s3.1 (20 + 1)) g := by rw [f3.1 (20 + 1) rfl]; exact r2
        refine c_pairs O r3 ho ?_
        refine c_add R3 (by simp) (fun s4 f4 R4 => ?_)
        have r4 : repC (s4.1 (20 + 1)) g := by rw [f4.1 (20 + 1) rfl]; exact r3
        rw [c_code (by decide) O r4 ho]
        have f5 := f3.tr f4
        rw [hz] at R4
        exact k s4 ((f1.mono rD_q).tr ((f2.mono sD_q).tr (f5.mono rD_q))) (fun j hj => by rw [f5.1 0 rfl, g2 j hj, f1.1 0 rfl]) R4 (CV1 (by rw [f5.1 0 rfl]; exact v2) (rD_s f5 S2))
      rw [show gi s2 38 8 = nI (chs g).length from S2.1, show (0 : Int32) = nI 0 from rfl, nI_leI (by omega) (by decide)]
      refine ⟨fun h => fin 2 ?_, fun h => fin 1 ?_⟩
      · rw [if_pos (List.length_eq_zero_iff.mp (by omega))]
      · rw [if_neg (fun e => h (by rw [e]; exact Nat.le_refl _))]
    · unfold wpX12_told
      have M2 : (wi s1 177 5 0).1 178 = g := by rw [wi_na _ _ _ _ (by decide)]; exact M1.2.2.1
      have en : gi (wi s1 177 5 0) 178 1 = nI (no g) := by rw [← O.2.1.1, ← M2]; rfl
      rw [en, m_in0 (by omega), or_in ho (by omega)]
      have a0 : 188 + 3 * nI o = nI (188 + 3 * o) := by
        simp only [lit_i, nI_i, iI_add, iI_mul]
        congr 1
      have a1 : nI (188 + 3 * o) + 1 = nI (188 + 3 * o + 1) := nI_1 _
      have a2 : nI (188 + 3 * o) + 2 = nI (188 + 3 * o + 2) := nI_add _ 2
      have b0 : gi (wi s1 177 5 0) 178 (188 + 3 * o) = nI (kd g o) := by rw [← c1, ← M2]; rfl
      have b1 : gi (wi s1 177 5 0) 178 (188 + 3 * o + 1) = nI (ox g o) := by rw [← c2, ← M2]; rfl
      have b2 : gi (wi s1 177 5 0) 178 (188 + 3 * o + 2) = nI (oy g o) := by rw [← c3, ← M2]; rfl
      refine ⟨fun _ => ?_, fun h => absurd h (by decide)⟩
      simp only [a0, a1, a2, ix_nI (show 188 + 3 * o < 2 ^ 31 by omega), ix_nI (show 188 + 3 * o + 1 < 2 ^ 31 by omega), ix_nI (show 188 + 3 * o + 2 < 2 ^ 31 by omega), b0, b1, b2, vp_in_nI (show 188 + 3 * o < 218 by omega) (show 218 < 2 ^ 31 by decide), vp_in_nI (show 188 + 3 * o + 1 < 218 by omega) (show 218 < 2 ^ 31 by decide), vp_in_nI (show 188 + 3 * o + 2 < 218 by omega) (show 218 < 2 ^ 31 by decide), true_and]
      refine m_survey M2 O (by decide) (fun s2 f2 S2 => ?_)
      have M3 : s2.1 178 = g := by rw [f2.1 178 (by decide) (by decide)]; exact M2
      refine m_inFromA (i := 0) M3 O h2 (by omega) ?_
      refine m_told82 M3 O ho ?_
      show wX12_told_82 (nI o) Q (0 + 1) (nI (kd g o)) (nI (ox g o)) (nI (oy g o)) (nI (pF g o (mn g (ox g o)) 0)) (-1) s2
      rw [wX12_told_82]
      refine ⟨fun _ => ?_, fun h => absurd rfl h⟩
      have fin : ∀ z : Int32, z = (if chs g = [] then 2 else 1) → wX12_told_177 (nI o) Q (nI (kd g o)) (nI (ox g o)) (nI (oy g o)) (nI (pF g o (mn g (ox g o)) 0)) z.toInt64 (wi s2 177 4 0) := by
        intro z hz
        unfold wX12_told_177
        refine m_tell m_new (by simp) (fun s3 f3 R3 => m_tell R3 (by simp) (fun s4 f4 R4 => ?_))
        rw [pF_prs O ho, hz] at R4
        have e9 : 100 * nI (kd g o) + 10 * nI (ox g o) + nI (oy g o) = nI (cd g o) := by
          simp only [lit_i, nI_i, iI_add, iI_mul]
          congr 1
        rw [e9]
        exact k s4 (m_th.tr ((f2.mono (by decide) (by decide)).tr (m_rw.tr ((f3.tr f4).mono (by decide) (by decide))))) R4
      rw [show gi (wi s2 177 4 0) 177 17 = nI (chs g).length from by
        show (wi s2 177 4 0).1 177 17 = _
        rw [wi_ne _ _ _ _ (by decide)]; exact S2.1, show (0 : Int32) = nI 0 from rfl, nI_eq (by omega) (by decide), List.length_eq_zero_iff]
      refine ⟨fun h => fin 1 ?_, fun h => fin 2 ?_⟩
      · rw [if_neg h]
      · rw [if_pos h]
  · refine S_q (L' := L) (r := -1) (WC := wpX11_told x s) (WM := wpX12_told x) A C M A.2.1 kk (fun Q k => ?_) (fun s1 M1 Q k => ?_)
    · unfold wpX11_told
      rw [c_hasOrder O C.2.2.1, or_out hx]
      exact ⟨fun h => absurd rfl h, fun _ => qC_self C k⟩
    · unfold wpX12_told
      have M2 : (wi s1 177 5 0).1 178 = g := by rw [wi_na _ _ _ _ (by decide)]; exact M1.2.2.1
      have en : gi (wi s1 177 5 0) 178 1 = nI (no g) := by rw [← O.2.1.1, ← M2]; rfl
      rw [en, m_in0 (by omega), or_out hx]
      exact ⟨fun h => absurd rfl h, fun _ => qM_th M1 k⟩
end QUERY
