/-! work: the reference -/
section WORK
variable {t : List Nat} {L : List Int32} {g g' : Sy} {us us' : List Sy} {ks : Nat → Option Sy} {s s' : gS} {K : gS → Prop} {Q : Int32 → gS → Prop}
/-- where the acts begin -/
def psA (t : List Nat) : Nat → Nat → List Nat
  | 0, _ => []
  | n + 1, p => if t.length ≤ p then [] else p :: psA t n (p + 1 + (dgN (sg t p)).getD 0)
theorem psA_le : ∀ n p, (psA t n p).length ≤ n := by
  intro n
  induction n with
  | zero => intro p; exact Nat.le_refl _
  | succ n ih =>
    intro p
    rw [psA]
    split
    · simp
    · simp; exact ih _
theorem dfl_none : ∀ k q, dfl t k q = none → q ≤ t.length → q + k ≤ t.length := by
  intro k
  induction k with
  | zero => intro q _ h; exact h
  | succ k ih =>
    intro q h hq
    rw [dfl] at h
    split at h
    next hc => have := ih (q + 1) h (by omega); omega
    next => cases h
def AL (t l : List Nat) (s : gS) : Prop := ∀ i, i < l.length → AD t (4 * i) (l.getD i 0) s
theorem AD.cg {x q : Nat} (h : AD t x q s) (e : ∀ i, x ≤ i → i < x + 4 → s'.1 189 i = s.1 189 i) : AD t x q s' := by
  refine ⟨by rw [e x (by omega) (by omega)]; exact h.1, fun hc => by rw [e _ (by omega) (by omega)]; exact h.2.1 hc, fun hc k hk j hj => ?_⟩
  have : k ≤ 3 := by
    unfold dgN at hk
    by_cases h1 : sg t q = 100
    · rw [if_pos h1] at hk; cases hk; decide
    · rw [if_neg h1, if_neg hc] at hk
      split at hk
      · cases hk; decide
      · split at hk
        · cases hk; decide
        · split at hk
          · cases hk; decide
          · split at hk
            · cases hk; decide
            · split at hk
              · cases hk; decide
              · cases hk
  rw [e _ (by omega) (by omega)]
  exact h.2.2 hc k hk j hj
theorem four_nI (d : Nat) : 4 * nI d = nI (4 * d) := by
  simp only [lit_i, nI_i, iI_mul]
  congr 1
theorem m_w11 (ht : okT t) : ∀ n p (d : List Nat) (s : gS), t.length ≤ p + n → d.length ≤ p → p ≤ t.length → TX t s → s.1 177 7 = nI p → s.1 177 8 = -1 → AL t d s → (flt t (t.length - p) 0 p = -1 → ∀ s', fm [189] [7, 8] s s' → s'.1 177 7 = nI t.length → s'.1 177 8 = -1 → AL t (d ++ psA t n p) s' → wX12_work_42 Q (nI (d ++ psA t n p).length) s') → (∀ r : Nat, r < 1000 → flt t (t.length - p) 0 p = (r : Int) → ∀ y s', fm [189] [7, 8] s s' → s'.1 177 8 = nI r → wX12_work_42 Q y s') → wX12_work_11 Q (n + 2) (nI d.length) s := by
  have h80 := ht.1
  have stop : ∀ p f (d : List Nat) (s : gS), p = t.length → TX t s → s.1 177 7 = nI p → s.1 177 8 = -1 → wX12_work_42 Q (nI d.length) s → wX12_work_11 Q (f + 1) (nI d.length) s := by
    intro p f d s hp T h7 h8 k
    rw [wX12_work_11, m_fine1 h8, show gi s 177 6 = nI t.length from T.1, show gi s 177 7 = nI p from h7]
    refine ⟨fun h => absurd h (by decide), fun _ => ⟨fun _ => k, fun h => absurd (nI_le (by omega) (by omega)) h⟩⟩
  intro n
  induction n with
  | zero =>
    intro p d s hp hd hpl T h7 h8 D k1 k0
    have : p = t.length := by omega
    refine stop p 1 d s this T h7 h8 ?_
    have e : psA t 0 p = [] := rfl
    rw [e, List.append_nil] at k1
    refine k1 ?_ s fm.rf (by rw [h7, this]) h8 D
    rw [show t.length - p = 0 by omega]
    rfl
  | succ n ih =>
    intro p d s hp hd hpl T h7 h8 D k1 k0
    by_cases hpt : t.length ≤ p
    · have : p = t.length := by omega
      refine stop p (n + 2) d s this T h7 h8 ?_
      have e : psA t (n + 1) p = [] := by rw [psA, if_pos hpt]
      rw [e, List.append_nil] at k1
      refine k1 ?_ s fm.rf (by rw [h7, this]) h8 D
      rw [show t.length - p = 0 by omega]
      rfl
    · rw [wX12_work_11, m_fine1 h8, show gi s 177 6 = nI t.length from T.1, show gi s 177 7 = nI p from h7, nI_leI (by omega) (by omega)]
      refine ⟨fun h => absurd h (by decide), fun _ => ⟨fun h => absurd h hpt, fun _ => ?_⟩⟩
      rw [four_nI, nI_1]
      refine m_readAct ht (by omega) T h7 h8 (by omega) (fun k hk hdn s' f b7 bl ad => ?_) (fun r hr hfl s' f b8 => ?_)
      · have hkl := dfl_none k (p + 1) hdn (by omega)
        have hps : psA t (n + 1) p = p :: psA t n (p + 1 + k) := by rw [psA, if_neg hpt, hk]; rfl
        have hfl : flt t (t.length - p) 0 p = flt t (t.length - (p + 1 + k)) 0 (p + 1 + k) := by
          rw [show t.length - p = (t.length - p - 1) + 1 by omega, flt, if_pos rfl, hk]
          show flt t (t.length - p - 1) k (p + 1) = _
          rw [dfl_flt k (t.length - p - 1) (p + 1) (by omega), hdn, show t.length - p - 1 - k = t.length - (p + 1 + k) by omega]
        rw [hps, hfl] at k1
        rw [hfl] at k0
        have hle : nI (d.length + 1) = nI (d ++ [p]).length := by simp
        have eap : d ++ p :: psA t n (p + 1 + k) = (d ++ [p]) ++ psA t n (p + 1 + k) := by simp
        rw [eap] at k1
        rw [hle]
        refine ih (p + 1 + k) (d ++ [p]) s' (by omega) (by simp; omega) (by omega) (T.cg (f.2.1 6 (by decide)) (f.1 179 (by decide) (by decide))) b7 (by rw [f.2.1 8 (by decide)]; exact h8) (fun i hi => ?_) (fun hf s2 f2 => k1 hf s2 ((f.mono (by decide) (by decide)).tr f2)) (fun r hr hf y s2 f2 => k0 r hr hf y s2 ((f.mono (by decide) (by decide)).tr f2))
        simp at hi
        by_cases hi2 : i = d.length
        · subst hi2
          have : (d ++ [p]).getD d.length 0 = p := by simp
          rw [this]
          exact ad
        · have : (d ++ [p]).getD i 0 = d.getD i 0 := by
            simp [List.getD_eq_getElem?_getD, List.getElem?_append_left (show i < d.length by omega)]
          rw [this]
          exact (D i (by omega)).cg (fun j h1 h2 => bl j (by omega))
      · rw [wX12_work_11, m_fine0 hr b8]
        exact ⟨fun _ => k0 r hr hfl _ s' f b8, fun h => absurd rfl h⟩
theorem m_w62 {D : List Nat} (ht : okT t) (hD : D.length ≤ 80) : ∀ n i p (g : Sy) (s : gS), t.length ≤ p + n → p ≤ t.length → i ≤ D.length → D.drop i = psA t n p → flt t (t.length - p) 0 p = -1 → AL t D s → okU g → s.1 178 = g → ∀ h d f, wex t n p g i = (h, d, f) → (∀ s', fm [178, 182, 183, 184] [17, 18, 21] s s' → s'.1 178 = h → okU h → d ≤ D.length → f ≤ 1 → (D.length ≤ d ↔ f = 0) → wX12_work_83 Q (nI D.length) (nI d) s') → wX12_work_62 Q (n + 1) (nI D.length) (nI i) s := by
  have h80 := ht.1
  intro n
  induction n with
  | zero =>
    intro i p g s hp hpl hi hdr hfl A U M h d f hw k
    have hiD : D.length ≤ i := by
      have : (D.drop i).length = 0 := by rw [hdr]; rfl
      simp at this
      omega
    cases hw
    rw [wX12_work_62, nI_leI (by omega) (by omega)]
    exact ⟨fun _ => k s fm.rf M U hi (by decide) ⟨fun _ => rfl, fun _ => hiD⟩, fun h => absurd hiD h⟩
  | succ n ih =>
    intro i p g s hp hpl hi hdr hfl A U M h d f hw k
    rw [wX12_work_62, nI_leI (by omega) (by omega)]
    by_cases hpt : t.length ≤ p
    · rw [wex_len hpt] at hw
      have hiD : D.length ≤ i := by
        have : (D.drop i).length = 0 := by rw [hdr, psA, if_pos hpt]; rfl
        simp at this
        omega
      cases hw
      exact ⟨fun _ => k s fm.rf M U hi (by decide) ⟨fun _ => rfl, fun _ => hiD⟩, fun h => absurd hiD h⟩
    · rw [psA, if_neg hpt] at hdr
      rw [wex, if_neg hpt] at hw
      rw [show t.length - p = (t.length - p - 1) + 1 by omega] at hfl
      obtain ⟨kk, q1, q2, q3, q4⟩ := flt_act hfl
      rw [q1] at hdr hw
      have hiD : i < D.length := by
        have : (D.drop i).length = ((p :: psA t n (p + 1 + (some kk).getD 0)) : List Nat).length := by rw [hdr]
        simp at this
        omega
      have hgi : D.getD i 0 = p := by
        have : (D.drop i).getD 0 0 = p := by rw [hdr]; rfl
        simpa [List.getD_eq_getElem?_getD, List.getElem?_drop] using this
      have hd1 : D.drop (i + 1) = psA t n (p + 1 + kk) := by
        rw [← List.tail_drop, hdr]
        rfl
      refine ⟨fun h => by omega, fun _ => ?_⟩
      rw [four_nI, nI_1]
      have Ai := A i hiD
      rw [hgi] at Ai
      refine m_act ht (by omega) U M Ai ⟨kk, q1⟩ (fun hn s' f0 M' => ?_) (fun g' hs s' f0 M' => ?_)
      · rw [hn] at hw
        cases hw
        refine ⟨fun _ => k s' f0 M' U hi (by decide) ⟨fun h => by omega, fun h => by cases h⟩, fun h => absurd rfl h⟩
      · rw [hs] at hw
        refine ⟨fun h => absurd h (by decide), fun _ => ?_⟩
        refine ih (i + 1) (p + 1 + kk) g' s' (by omega) (by omega) (by omega) hd1 (by rw [show t.length - (p + 1 + kk) = t.length - p - 1 - kk by omega]; exact q4) (fun j hj => (A j hj).cg (fun _ _ _ => by rw [f0.1 189 (by decide) (by decide)])) (ok_ac1 U (dg_lt t _) (dg_lt t _) (dg_lt t _) (dg_lt t _) hs) M' h d f hw (fun s2 f2 => k s2 (f0.tr f2))
theorem m_wasR (h8 : s.1 177 8 = -1) (h67 : s.1 177 6 = s.1 177 7) (k : Q 1 s) : wpX12_wasRight s Q := by
  unfold wpX12_wasRight wX12_wasRight_19
  rw [m_fine1 h8, show gi s 177 6 = gi s 177 7 from h67]
  exact ⟨fun _ => ⟨Or.inr rfl, k⟩, fun h => absurd (Int32.le_refl _) h⟩
theorem m_fault0 {x : Int32} {r : Nat} {Q : gS → Prop} (hr : r < 1000) (h : s.1 177 8 = nI r) : wpX12_fault x s Q = Q s := by
  unfold wpX12_fault
  rw [m_fine0 hr h]
  simp
theorem m_wasR0 {r : Nat} (hr : r < 1000) (h8 : s.1 177 8 = nI r) (k : Q 0 s) : wpX12_wasRight s Q := by
  unfold wpX12_wasRight wX12_wasRight_19
  rw [m_fault0 hr h8, m_fine0 hr h8]
  exact ⟨fun _ => ⟨Or.inl rfl, k⟩, fun _ => ⟨Or.inl rfl, k⟩⟩
theorem M_work (A : okA t L g us ks) (M : MI t L g us ks s) (k0 : flt t t.length 0 0 ≠ -1 → ∀ s', moF s s' → MI [] L g us ks s' → Q (iI (-1 - flt t t.length 0 0)) s') (k1 : flt t t.length 0 0 = -1 → ∀ h d f s', wex t 80 0 g 0 = (h, d, f) → okU h → moF s s' → MI [] [nI f, nI (chs h).length] h (wU us g d) ks s' → Q (nI d) s') : wpX12_work s Q := by
  have ht := A.1
  have h80 := ht.1
  have U := A.2.2.1
  unfold wpX12_work wpX12_begin
  have hs1 : ∀ s1, s1 = wi (wi (wi (wi (wi s 177 5 0) 177 6 (gi (wi s 177 5 0) 177 2)) 177 7 0) 177 8 (-1)) 177 2 0 → fm [] [5, 6, 7, 8, 2] s s1 ∧ TX t s1 ∧ s1.1 177 7 = nI 0 ∧ s1.1 177 8 = -1 ∧ s1.1 177 2 = 0 := by
    intro s1 h1
    subst h1
    refine ⟨(fm_wf (by decide)).tr ((fm_wf (by decide)).tr ((fm_wf (by decide)).tr ((fm_wf (by decide)).tr (fm_wf (by decide))))), ⟨?_, fun i hi => ?_⟩, ?_, ?_, wi_at _ _ _ _⟩
    · rw [wi_ne _ _ _ _ (by decide), wi_ne _ _ _ _ (by decide), wi_ne _ _ _ _ (by decide), wi_at]
      show (wi s 177 5 0).1 177 2 = _
      rw [wi_ne _ _ _ _ (by decide)]
      exact M.1.1
    · rw [wi_na _ _ _ _ (by decide), wi_na _ _ _ _ (by decide), wi_na _ _ _ _ (by decide), wi_na _ _ _ _ (by decide), wi_na _ _ _ _ (by decide)]
      exact M.1.2 i hi
    · rw [wi_ne _ _ _ _ (by decide), wi_ne _ _ _ _ (by decide), wi_at]; rfl
    · rw [wi_ne _ _ _ _ (by decide), wi_at]
  obtain ⟨f1, T1, b7, b8, b2⟩ := hs1 _ rfl
  generalize wi (wi (wi (wi (wi s 177 5 0) 177 6 (gi (wi s 177 5 0) 177 2)) 177 7 0) 177 8 (-1)) 177 2 0 = s1 at *
  refine ⟨82, ?_⟩
  refine m_w11 ht 80 0 [] s1 (by omega) (by simp) (by omega) T1 b7 b8 (fun i hi => by cases hi) (fun hf s2 f2 c7 c8 al => ?_) (fun r hr hf y s2 f2 c8 => ?_)
  · rw [Nat.sub_zero] at hf
    rw [List.nil_append] at al ⊢
    unfold wX12_work_42
    refine m_wasR c8 (by rw [c7, f2.2.1 6 (by decide)]; exact T1.1) ⟨fun _ => ?_, fun h => absurd h (by decide)⟩
    refine m_lay (fun s3 f3 w3 => ⟨81, ?_⟩)
    have hD : (psA t 80 0).length ≤ 80 := psA_le 80 0
    have M2 : s2.1 178 = g := by rw [f2.1 178 (by decide) (by decide), f1.1 178 (by decide) (by decide)]; exact M.2.2.1
    have M3 : s3.1 178 = g := by rw [f3.1 178 (by decide) (by decide)]; exact M2
    obtain ⟨h, d, f, hw⟩ : ∃ h d f, wex t 80 0 g 0 = (h, d, f) := ⟨_, _, _, rfl⟩
    refine m_w62 ht hD 80 0 0 g s3 (by omega) (by omega) (by omega) rfl (by rw [Nat.sub_zero]; exact hf) (fun i hi => (al i hi).cg (fun _ _ _ => by rw [f3.1 189 (by decide) (by decide)])) U M3 h d f hw (fun s4 f4 M4 Uh hd hf1 hdf => ?_)
    have F4 : fm [178, 182, 183, 184, 188, 189] [2, 5, 6, 7, 8, 17, 18, 21] s s4 := (f1.mono (by decide) (by decide)).tr ((f2.mono (by decide) (by decide)).tr ((f3.mono (by decide) (by decide)).tr (f4.mono (by decide) (by decide))))
    have P4 : PM us s4 := M.2.2.2.1.cg (F4.2.1 26 (by decide)) (F4.1 187 (by decide) (by decide))
    have z4 : s4.1 177 2 = 0 := by rw [f4.2.1 2 (by decide), f3.2.1 2 (by decide), f2.2.1 2 (by decide)]; exact b2
    have w4 : ∀ j, j < 218 → s4.1 188 j = g j := fun j hj => by rw [f4.1 188 (by decide) (by decide), w3 j hj, M2]
    -- the end
    have last : ∀ s5, fm [187] [26] s4 s5 → PM (wU us g d) s5 → wX12_work_91 Q (nI (psA t 80 0).length) (nI d) s5 := by
      intro s5 f5 P5
      unfold wX12_work_91
      have M5 : s5.1 178 = h := by rw [f5.1 178 (by decide) (by decide)]; exact M4
      refine m_survey M5 Uh.1 (Nat.le_refl _) (fun s6 f6 S6 => ?_)
      have fin : wX12_work_111 Q (nI d) (nI f).toInt64 (wi s6 177 4 0) := by
        unfold wX12_work_111
        refine m_tell (m_new (s := s6)) (by decide) (fun s7 f7 R7 => ?_)
        have e17 : gi s7 177 17 = nI (chs h).length := by
          show s7.1 177 17 = _
          rw [f7.2.1 17 (by decide), wi_ne _ _ _ _ (by decide)]
          exact S6.1
        rw [e17]
        refine m_tell R7 (by simp) (fun s8 f8 R8 => ?_)
        have F8 : fm [180, 182, 183, 184] [4, 17, 18, 21] s5 s8 := (f6.mono (by decide) (by decide)).tr ((fm_wf (by decide)).tr ((f7.mono (by decide) (by decide)).tr (f8.mono (by decide) (by decide))))
        have F9 : fm [178, 180, 182, 183, 184, 187, 188, 189] [2, 4, 5, 6, 7, 8, 17, 18, 21, 26] s s8 := (F4.mono (by decide) (by decide)).tr ((f5.mono (by decide) (by decide)).tr (F8.mono (by decide) (by decide)))
        refine k1 hf h d f s8 hw Uh (F9.mo (by decide)) ⟨⟨?_, fun i hi => by cases hi⟩, R8, ?_, P5.cg (F8.2.1 26 (by decide)) (F8.1 187 (by decide) (by decide)), fun i hi => ⟨?_, fun u hu j hj => ?_⟩⟩
        · show s8.1 177 2 = _
          rw [F8.2.1 2 (by decide), f5.2.1 2 (by decide), z4]; rfl
        · rw [F8.1 178 (by decide) (by decide)]; exact M5
        · rw [F9.1 191 (by decide) (by decide)]; exact (M.2.2.2.2 i hi).1
        · rw [F9.1 190 (by decide) (by decide)]; exact (M.2.2.2.2 i hi).2 u hu j hj
      rw [nI_leI (by omega) (by omega)]
      refine ⟨fun hle => ?_, fun hle => ?_⟩
      · have hf0 : f = 0 := hdf.mp hle
        rw [hf0] at fin
        exact fin
      · have hf0 : f = 1 := by
          have : ¬ f = 0 := fun h => hle (hdf.mpr h)
          omega
        rw [hf0] at fin
        exact fin
    unfold wX12_work_83
    have hd0 : (nI d ≤ 0) = (d ≤ 0) := by rw [show (0 : Int32) = nI 0 from rfl, nI_leI (by omega) (by decide)]
    rw [hd0]
    refine ⟨fun h0 => last s4 fm.rf ?_, fun h0 => ?_⟩
    · unfold wU
      rw [if_pos (by omega)]
      exact P4
    · refine m_note A.2.2.2.1 P4 w4 (fun s5 f5 P5 => last s5 f5 ?_)
      unfold wU
      rw [if_neg (by omega)]
      exact P5
  · rw [Nat.sub_zero] at hf
    unfold wX12_work_42
    refine m_wasR0 hr c8 ⟨fun h => absurd rfl h, fun _ => ?_⟩
    have F2 : fm [189] [2, 5, 6, 7, 8] s s2 := (f1.mono (by decide) (by decide)).tr (f2.mono (by decide) (by decide))
    rw [show gi s2 177 8 = nI r from c8, show (-1 : Int32) - nI r = iI (-1 - flt t t.length 0 0) from by rw [hf, nI_i, show (-1 : Int32) = iI (-1) from rfl, iI_sub]]
    refine k0 (by rw [hf]; omega) s2 (F2.mo (by decide)) ⟨⟨?_, fun i hi => by cases hi⟩, M.2.1.cg (F2.2.1 4 (by decide)) (F2.2.2.1 180 (by decide)), ?_, M.2.2.2.1.cg (F2.2.1 26 (by decide)) (F2.1 187 (by decide) (by decide)), fun i hi => ⟨?_, fun u hu j hj => ?_⟩⟩
    · show s2.1 177 2 = _
      rw [f2.2.1 2 (by decide)]
      exact b2
    · rw [F2.1 178 (by decide) (by decide)]; exact M.2.2.1
    · rw [F2.1 191 (by decide) (by decide)]; exact (M.2.2.2.2 i hi).1
    · rw [F2.1 190 (by decide) (by decide)]; exact (M.2.2.2.2 i hi).2 u hu j hj
theorem okT_nil : okT [] := ⟨by decide, fun _ h => by cases h⟩
theorem S_work (A : okA t L g us ks) (C : CI t L g us ks s) (M : MI t L g us ks s) (kk : KK t K) : wpX11_work s (fun r s1 => wpX12_work s1 (eqK K r)) := by
  refine C_work A C (fun hf s1 f1 C1 => M_work A (M.cl f1) (fun _ s2 f2 M2 => ⟨fun _ => ?_, fun h => h rfl⟩) (fun h => absurd h hf)) (fun hf h d f s1 hw f1 C1 => M_work A (M.cl f1) (fun h => absurd hf h) (fun _ h' d' f' s2 hw' Uh f2 M2 => ?_))
  · exact kk [] L g us ks s2 (by simp) ⟨okT_nil, A.2⟩ (C1.mo f2) M2
  · rw [hw] at hw'
    cases hw'
    refine ⟨fun _ => ?_, fun h => h rfl⟩
    refine kk [] _ h (wU us g d) ks s2 (by simp) ⟨okT_nil, by simp, Uh, ?_⟩ (C1.mo f2) M2
    unfold wU
    by_cases hd : d = 0
    · rw [if_pos hd]; exact A.2.2.2
    · rw [if_neg hd]; exact (A.mut Uh).2.2.2
end WORK
