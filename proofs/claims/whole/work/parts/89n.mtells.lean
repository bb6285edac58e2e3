/-! tells and means: the reference -/
def byV (g : Sy) (b : Nat) (t : List Nat) : Nat → Nat → List Rd
  | 0, _ => []
  | n + 1, i => (if inn g b i = true then (phv (vl g b i 0).toNat t).map (mw (vl g b i 3).toNat) else []) ++ byV g b t n (i + 1)
def rws (J : List Rd) : List Int32 := J.flatMap (fun x => [nI x.1, nI x.2.1, nI x.2.2.1, nI x.2.2.2])
/-- what means answers, and the row behind it -/
def meR (t : List Nat) (L : List Int32) (r : Nat) : Int32 × List Int32 := if (ph t).1 = false then (iI (-1 - (tb t (ph t).2.2 : Int)), L) else if (mgA [] (phv r t)).length = 0 then (-200, L) else if 6 < (mgA [] (phv r t)).length then (-300, L) else (nI (mgA [] (phv r t)).length, rws (mgA [] (phv r t)))
section MTELLS
variable {t : List Nat} {L L' : List Int32} {g g' : Sy} {us us' : List Sy} {ks : Nat → Option Sy} {s s' : gS} {K : gS → Prop} {N e b r gas : Nat} {J H V W R X : List Rd} {Q : Int32 → gS → Prop} {Q' : gS → Prop}
theorem rws_len : ∀ J : List Rd, (rws J).length = 4 * J.length := by
  intro J
  induction J with
  | nil => rfl
  | cons x J ih =>
    show (([nI x.1, nI x.2.1, nI x.2.2.1, nI x.2.2.2] : List Int32) ++ rws J).length = _
    rw [List.length_append, ih]
    show 4 + 4 * J.length = 4 * (J.length + 1)
    omega
theorem rws_get : ∀ (J : List Rd) i, i < J.length → ∀ w, w < 4 → (rws J).getD (4 * i + w) 0 = nI (rc (J.getD i r0) w) := by
  intro J
  induction J with
  | nil => intro i hi; exact absurd hi (Nat.not_lt_zero _)
  | cons x J ih =>
    intro i hi w hw
    show (([nI x.1, nI x.2.1, nI x.2.2.1, nI x.2.2.2] : List Int32) ++ rws J).getD (4 * i + w) 0 = _
    rw [gD_ap]
    cases i with
    | zero =>
      have : w = 0 ∨ w = 1 ∨ w = 2 ∨ w = 3 := by omega
      rcases this with rfl | rfl | rfl | rfl <;> rfl
    | succ i =>
      rw [if_neg (by simp; omega)]
      show (rws J).getD (4 * (i + 1) + w - 4) 0 = nI (rc (J.getD i r0) w)
      rw [show 4 * (i + 1) + w - 4 = 4 * i + w by omega]
      exact ih i (by simp only [List.length_cons] at hi; omega) w hw
theorem tk_s {T : List Int32} {n : Nat} (h : n < T.length) : T.take (n + 1) = T.take n ++ [T.getD n 0] := by
  rw [List.take_succ, List.getElem?_eq_getElem h, List.getD_eq_getElem?_getD, List.getElem?_eq_getElem h]
  rfl
theorem byV_z : ∀ m n, mn g b ≤ n → byV g b t m n = [] := by
  intro m
  induction m with
  | zero => intro n _; rfl
  | succ m ih =>
    intro n hn
    rw [byV, ih (n + 1) (by omega)]
    have : inn g b n = false := by
      cases h : inn g b n with
      | false => rfl
      | true => have := inn_lt h; omega
    rw [this]
    rfl
theorem byV_fu : ∀ m n i, mn g b ≤ i + m → mn g b ≤ i + n → byV g b t m i = byV g b t n i := by
  intro m
  induction m with
  | zero =>
    intro n i h1 h2
    rw [byV_z n i (by omega)]
    rfl
  | succ m ih =>
    intro n i h1 h2
    cases n with
    | zero =>
      rw [byV_z (m + 1) i (by omega)]
      rfl
    | succ n => rw [byV, byV, ih n (i + 1) (by omega) (by omega)]
theorem byV_ok : ∀ n i, okV (byV g b t n i) := by
  intro n
  induction n with
  | zero => intro i; exact ok_nil
  | succ n ih =>
    intro i
    rw [byV]
    refine okV.ap ?_ (ih _)
    split
    · exact mwV_ok phv_ok
    · exact ok_nil
theorem byV_pos (O : okS N g) (hb : b < 6) : ∀ n i, pos (byV g b t n i) := by
  intro n
  induction n with
  | zero => intro i; exact pos_nil
  | succ n ih =>
    intro i
    rw [byV]
    refine pos.ap ?_ (ih _)
    split
    next h =>
      have := (O.2.2.2.2 b hb i (inn_lt h)).2.2.2.2.2.1
      exact mw_pos (by omega) phv_pos
    next => exact pos_nil
theorem m_beg (M : MI t L g us ks s) (k : ∀ s', fm [] [2, 5, 6, 7, 8] s s' → TX t s' → s'.1 177 8 = -1 → s'.1 177 2 = 0 → Q' s') : wpX12_begin (wi s 177 5 0) Q' := by
  unfold wpX12_begin
  refine k _ ((fm_wf (by decide)).tr ((fm_wf (by decide)).tr ((fm_wf (by decide)).tr ((fm_wf (by decide)).tr (fm_wf (by decide)))))) ⟨?_, fun i hi => ?_⟩ ?_ (wi_at _ _ _ _)
  · rw [wi_ne _ _ _ _ (by decide), wi_ne _ _ _ _ (by decide), wi_ne _ _ _ _ (by decide), wi_at]
    show (wi s 177 5 0).1 177 2 = _
    rw [wi_ne _ _ _ _ (by decide)]
    exact M.1.1
  · rw [wi_na _ _ _ _ (by decide), wi_na _ _ _ _ (by decide), wi_na _ _ _ _ (by decide), wi_na _ _ _ _ (by decide), wi_na _ _ _ _ (by decide)]
    exact M.1.2 i hi
  · rw [wi_ne _ _ _ _ (by decide), wi_at]
theorem MI.be (M : MI t L g us ks s) (f : fm (178 :: 187 :: mD) (26 :: 2 :: mF) s s') (h2 : s'.1 177 2 = 0) (hg : s'.1 178 = g') (P : PM us' s') (R : RM L' s') : MI [] L' g' us' ks s' := by
  refine ⟨⟨h2, fun i hi => absurd hi (Nat.not_lt_zero _)⟩, R, hg, P, fun i hi => ⟨?_, fun u hu j hj => ?_⟩⟩
  · rw [f.1 191 (by decide) (by decide)]; exact (M.2.2.2.2 i hi).1
  · rw [f.1 190 (by decide) (by decide)]; exact (M.2.2.2.2 i hi).2 u hu j hj
theorem HP0 : HP [] (wi s 177 14 0) := ⟨wi_at _ _ _ _, fun i hi => absurd hi (Nat.not_lt_zero _)⟩
theorem m_refuse {l : Nat} (h : s.1 177 14 = nI l) (hl : l < 2000) (k0 : l = 0 → Q (-200) s) (k3 : 6 < l → Q (-300) s) (k1 : 1 ≤ l → l ≤ 6 → Q 0 s) : wpX12_refusesHeap s Q := by
  unfold wpX12_refusesHeap
  have z0 : (nI l = 0) = (l = 0) := by rw [show (0 : Int32) = nI 0 from rfl, nI_eq (by omega) (by decide)]
  have z6 : (nI l ≤ 6) = (l ≤ 6) := by rw [show (6 : Int32) = nI 6 from rfl, nI_leI (by omega) (by decide)]
  rw [show gi s 177 14 = nI l from h, z0, z6]
  exact ⟨fun h0 => ⟨fun h6 => k1 (by omega) h6, fun h6 => k3 (by omega)⟩, fun h0 => k0 h0⟩
theorem mg_len {x : Rd} : ∀ J : List Rd, (mg J x).length ≤ J.length + 1 := by
  intro J
  induction J with
  | nil => exact Nat.le_refl _
  | cons y J ih =>
    rw [mg]
    split
    · simp
    · simp only [List.length_cons]
      omega
theorem mgA_len : ∀ X M : List Rd, (mgA M X).length ≤ M.length + X.length := by
  intro X
  induction X with
  | nil => intro M; exact Nat.le_refl _
  | cons x X ih =>
    intro M
    have h1 := ih (mg M x)
    have h2 := mg_len (x := x) M
    show (mgA (mg M x) X).length ≤ _
    rw [List.length_cons]
    omega
theorem m_mrow {x1 : Int32} (hJ : J.length ≤ 6) (h : HP J s) (hg : RM [] s) (k : ∀ s', fm [180] [4] s s' → RM (rws J) s' → Q (nI J.length) s') : ∃ n, wX12_means_60 x1 Q n gas 0 s := by
  have hT := rws_len J
  have hp : ∀ s', fm [180] [4] s s' → HP J s' := fun s' f => ⟨by rw [f.2.1 14 (by decide)]; exact h.1, fun i hi j hj => by rw [f.1 181 (by decide) (by decide)]; exact h.2 i hi j hj⟩
  have Lp : ∀ m i s1, i + m = J.length → fm [180] [4] s s1 → RM ((rws J).take (4 * i)) s1 → wX12_means_60 x1 Q (m + 1) gas (nI i) s1 := by
    intro m
    induction m with
    | zero =>
      intro i s1 hi f R1
      rw [wX12_means_60, show gi s1 177 14 = nI J.length from (hp s1 f).1]
      refine ⟨fun _ => k s1 f ?_, fun hc => absurd (nI_le (by omega) (by omega)) hc⟩
      rw [List.take_of_length_le (by omega)] at R1
      exact R1
    | succ m ih =>
      intro i s1 hi f R1
      rw [wX12_means_60, show gi s1 177 14 = nI J.length from (hp s1 f).1]
      refine ⟨fun hc => ?_, fun _ => ⟨5, ?_⟩⟩
      · rw [nI_leI (by omega) (by omega)] at hc
        omega
      have Li : ∀ m' w s2, w + m' = 4 → fm [180] [4] s s2 → RM ((rws J).take (4 * i + w)) s2 → wX12_means_71 x1 Q (fun g y3 s => wX12_means_60 x1 Q (m + 1) g y3 s) (m' + 1) gas (nI i) (nI w) s2 := by
        intro m'
        induction m' with
        | zero =>
          intro w s2 hw f2 R2
          have : w = 4 := by omega
          subst this
          rw [wX12_means_71, nI_1 i]
          exact ⟨fun _ => ih (i + 1) s2 (by omega) f2 R2, fun hc => absurd (by decide) hc⟩
        | succ m' ihw =>
          intro w s2 hw f2 R2
          rw [wX12_means_71, m_h (hp s2 f2) (by omega) (by omega) (show w < 4 by omega) rfl, nI_1 w]
          refine ⟨fun hc => ?_, fun _ => m_tell R2 ?_ (fun s3 f3 R3 => ihw (w + 1) s3 (by omega) (f2.tr f3) ?_)⟩
          · rw [show (4 : Int32) = nI 4 from rfl, nI_leI (by decide) (by omega)] at hc
            omega
          · rw [List.length_take]
            omega
          · rw [show 4 * i + (w + 1) = 4 * i + w + 1 by omega, tk_s (by omega), rws_get J i (by omega) w (by omega)]
            exact R3
      exact Li 4 0 s1 rfl f R1
  exact ⟨J.length + 1, Lp J.length 0 s (by omega) fm.rf hg⟩
theorem M_means0 {x : Int32} (M : MI t L g us ks s) (hx : ¬ (0 ≤ x.toInt ∧ x.toInt ≤ 9999)) (k : ∀ s', moF s s' → MI [] L g us ks s' → Q (-1) s') : wpX12_means gas x s Q := by
  unfold wpX12_means
  refine m_beg M (fun s1 f1 T1 h8 h2 => ?_)
  rw [i_of x, m_isDay (i_lo x) (i_hi x), decide_eq_false hx]
  refine ⟨fun h => absurd rfl h, fun _ => k s1 (f1.mo (by decide)) (M.be (f1.mono (by decide) (by decide)) h2 ?_ (M.2.2.2.1.cg (f1.2.1 26 (by decide)) (f1.1 187 (by decide) (by decide))) (M.2.1.cg (f1.2.1 4 (by decide)) (f1.2.2.1 180 (by decide))))⟩
  rw [f1.1 178 (by decide) (by decide)]
  exact M.2.2.1
theorem M_means (A : okA t L g us ks) (M : MI t L g us ks s) (G : gtOk s) (hr : r ≤ 9999) (hg : 11 * t.length + 31 ≤ gas) (k : ∀ s', moF s s' → MI [] (meR t L r).2 g us ks s' → Q (meR t L r).1 s') : wpX12_means gas (nI r) s Q := by
  have ht := A.1
  have h80 := ht.1
  have hw : ∀ s', fm (178 :: 187 :: mD) (26 :: 2 :: mF) s s' → moF s s' := fun s' f => f.mo (by decide)
  unfold wpX12_means
  refine m_beg M (fun s1 f1 T1 h8 h2 => ?_)
  rw [show wpX12_isDay (nI r) s1 = wpX12_isDay (iI (r : Int)) s1 from by rw [nI_i], m_isDay (by omega) (by omega), decide_eq_true (by omega)]
  refine ⟨fun _ => ⟨gas, 0, by omega, ?_⟩, fun h => absurd h (by decide)⟩
  have G1 : gtOk (wi s1 177 14 0) := by
    unfold gtOk gt1 gt2 gt3 at G ⊢
    show s1.2.2.1 < 193 ∧ s1.2.2.2.1 < 193 ∧ s1.2.2.2.2 < 193
    rw [f1.2.2.2]
    exact G
  have T2 : TX t (wi s1 177 14 0) := T1.cg (wi_ne _ _ _ _ (by decide)) (wi_na _ _ _ _ (by decide))
  have f2 : fm mD (2 :: mF) s (wi s1 177 14 0) := (f1.mono (by decide) (by decide)).tr (fm_wf (by decide))
  have fin : ∀ s' L', fm mD (2 :: mF) s s' → s'.1 177 2 = 0 → RM L' s' → MI [] L' g us ks s' := fun s' L' f h R => M.be (f.mono (by decide) (by decide)) h (by rw [f.1 178 (by decide) (by decide)]; exact M.2.2.1) (M.2.2.2.1.cg (f.2.1 26 (by decide)) (f.1 187 (by decide) (by decide))) R
  refine s_phr (B := 0) (H := []) ht T2 G1 (by rw [wi_ne _ _ _ _ (by decide)]; exact h8) hr (Nat.le_refl _) (by decide) HP0 hg rfl (fun hp s3 M3 h83 => ?_) (fun hp s3 h83 hM3 => ?_)
  · refine ⟨fun _ => ?_, fun h => absurd h (by decide)⟩
    rw [List.nil_append] at M3
    have hl := phv_le (r := r) ht hp
    have f3 : fm mD (2 :: mF) s s3 := f2.tr (M3.1.mono (by decide) (by decide))
    have b3 : s3.1 177 2 = 0 := by rw [M3.1.2.1 2 (by decide), wi_ne _ _ _ _ (by decide)]; exact h2
    have R3 : RM L s3 := M.2.1.cg (by rw [M3.1.2.1 4 (by decide), wi_ne _ _ _ _ (by decide), f1.2.1 4 (by decide)]) (by rw [M3.1.2.2.1 180 (by decide)]; exact f1.2.2.1 180 (by decide))
    refine m_join M3.h (by omega) phv_ok (fun s4 f4 h4 => ?_)
    have hJ := mgA_len (phv r t) []
    have hJ : (mgA [] (phv r t)).length ≤ 84 := by
      have hJ : (mgA [] (phv r t)).length ≤ 0 + (phv r t).length := hJ
      omega
    obtain ⟨J, eJ⟩ : ∃ J, J = mgA [] (phv r t) := ⟨_, rfl⟩
    unfold meR at k
    rw [if_neg (by rw [hp]; decide)] at k
    rw [← eJ] at k hJ h4
    have F4 : fm mD (2 :: mF) s s4 := f3.tr (f4.mono (by decide) (by decide))
    have b4 : s4.1 177 2 = 0 := by rw [f4.2.1 2 (by decide)]; exact b3
    have R4 : RM L s4 := R3.cg (f4.2.1 4 (by decide)) (f4.2.2.1 180 (by decide))
    refine m_refuse h4.1 (by omega) (fun h0 => ⟨fun h => absurd h (by decide), fun _ => ?_⟩) (fun h6 => ⟨fun h => absurd h (by decide), fun _ => ?_⟩) (fun q1 q6 => ⟨fun _ => ?_, fun h => absurd (by decide) h⟩)
    · rw [if_pos h0] at k
      exact k s4 (F4.mo (by decide)) (fin s4 _ F4 b4 R4)
    · rw [if_neg (by omega), if_pos h6] at k
      exact k s4 (F4.mo (by decide)) (fin s4 _ F4 b4 R4)
    · rw [if_neg (by omega), if_neg (by omega)] at k
      have h5 : HP J (wi s4 177 4 0) := ⟨by rw [wi_ne _ _ _ _ (by decide)]; exact h4.1, fun i hi j hj => by rw [wi_na _ _ _ _ (by decide)]; exact h4.2 i hi j hj⟩
      refine m_mrow q6 h5 m_new (fun s6 f6 R6 => ?_)
      have F6 : fm mD (2 :: mF) s s6 := F4.tr ((fm_wf (by decide)).tr (f6.mono (by decide) (by decide)))
      exact k s6 (F6.mo (by decide)) (fin s6 _ F6 (by rw [f6.2.1 2 (by decide), wi_ne _ _ _ _ (by decide)]; exact b4) R6)
  · refine ⟨fun h => absurd rfl h, fun _ => ?_⟩
    obtain ⟨H', M3⟩ := hM3
    unfold meR at k
    rw [if_pos hp] at k
    have f3 : fm mD (2 :: mF) s s3 := f2.tr (M3.1.mono (by decide) (by decide))
    have b3 : s3.1 177 2 = 0 := by rw [M3.1.2.1 2 (by decide), wi_ne _ _ _ _ (by decide)]; exact h2
    have R3 : RM L s3 := M.2.1.cg (by rw [M3.1.2.1 4 (by decide), wi_ne _ _ _ _ (by decide), f1.2.1 4 (by decide)]) (by rw [M3.1.2.2.1 180 (by decide)]; exact f1.2.2.1 180 (by decide))
    rw [show gi s3 177 8 = nI (tb t (ph t).2.2) from h83, show (-1 : Int32) - nI (tb t (ph t).2.2) = iI (-1 - (tb t (ph t).2.2 : Int)) from by rw [nI_i, show (-1 : Int32) = iI (-1) from rfl, iI_sub]]
    exact k s3 (f3.mo (by decide)) (fin s3 _ f3 b3 R3)
end MTELLS
