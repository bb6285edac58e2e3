/-! without, years -/
section TRIAL
variable {t : List Nat} {L : List Int32} {g g' : Sy} {us us' : List Sy} {ks : Nat → Option Sy} {s s' : gS} {K : gS → Prop} {N : Nat}
theorem c_load {Q : gS → Prop} (O : okS 10 g) (R : repC (s.1 21) g) (k : ∀ s', fR (fun a => a == 23) s s' → repC (s'.1 (22 + 1)) g → Q s') : wpX8_load 22 21 s Q := by
  unfold wpX8_load
  refine ⟨fun h => absurd rfl h, fun _ => k _ (fR_cp rfl) ?_⟩
  rw [show ix (170 : Int32) = 170 from by decide]
  exact repC_f O (by decide) R (fun k hk => cp_at _ _ _ _ hk)
def tD (a : Nat) : Bool := a == 23 || (decide (88 ≤ a) && decide (a < 138))
theorem tD_q : ∀ a, qD a = false → tD a = false := by
  intro a ha
  unfold qD at ha
  unfold tD
  simp at ha ⊢
  omega
theorem e23_t : ∀ a, tD a = false → (a == 23) = false := by
  intro a ha
  unfold tD at ha
  simp at ha ⊢
  omega
theorem fo_t (f : fo 88 s s') : fR tD s s' := ⟨fun a ha => f.1 a (by unfold tD at ha; simp at ha; omega), f.2⟩
theorem tD_v (f : fR tD s s') (h : CV g s) : CV g s' := h.cg (f.1 0 rfl) (fun a h1 h2 => f.1 a (by unfold tD; simp; omega))
theorem sD_88 (f : fR sD s s') (h : SC 88 g s) : SC 88 g s' := h.cg (fun a h1 h2 => f.1 a (by unfold sD; simp; omega))
theorem m_aside {Q : gS → Prop} (k : ∀ s', fm [186] [] s s' → (∀ j, j < 218 → s'.1 186 j = s.1 178 j) → Q s') : wpX12_layAside s Q := by
  have Lp : ∀ n i, i + n = 218 → ∀ s1, fm [186] [] s s1 → (∀ j, j < i → s1.1 186 j = s.1 178 j) → wX12_layAside_2 Q (n + 1) (nI i) s1 := by
    intro n
    induction n with
    | zero =>
      intro i hi s1 f h
      have : i = 218 := by omega
      subst this
      rw [wX12_layAside_2]
      exact ⟨fun _ => k s1 f h, fun h => absurd (by decide) h⟩
    | succ n ih =>
      intro i hi s1 f h
      have hi2 : i < 218 := by omega
      rw [wX12_layAside_2, nI_1]
      simp only [ge218 hi2, vp_in_nI hi2 (show 218 < 2 ^ 31 by decide), ix_nI (show i < 2 ^ 31 by omega), false_implies, true_and, not_false_eq_true, true_implies]
      refine ih (i + 1) (by omega) _ (f.tr (fm_wi (by decide) (by decide))) (fun j hj => ?_)
      by_cases hji : j = i
      · subst hji
        rw [wi_at]
        show s1.1 178 j = _
        rw [f.1 178 (by decide) (by decide)]
      · rw [wi_ne _ _ _ _ hji]
        exact h j (by omega)
  exact ⟨219, Lp 218 0 rfl s fm.rf (fun j hj => by omega)⟩
theorem m_back {Q : gS → Prop} (W : ∀ j, j < 218 → s.1 186 j = g j) (Z : zr g) (H : ∀ j, 218 ≤ j → s.1 178 j = 0) (k : ∀ s', fm [178] [] s s' → s'.1 178 = g → Q s') : wpX12_comesBack s Q := by
  have Lp : ∀ n i, i + n = 218 → ∀ s1, fm [178] [] s s1 → (∀ j, j < i → s1.1 178 j = g j) → (∀ j, 218 ≤ j → s1.1 178 j = 0) → wX12_comesBack_2 Q (n + 1) (nI i) s1 := by
    intro n
    induction n with
    | zero =>
      intro i hi s1 f h h2
      have : i = 218 := by omega
      subst this
      rw [wX12_comesBack_2]
      refine ⟨fun _ => k s1 f (funext fun j => ?_), fun h => absurd (by decide) h⟩
      by_cases hj : j < 218
      · exact h j hj
      · rw [h2 j (by omega), Z j (by omega)]
    | succ n ih =>
      intro i hi s1 f h h2
      have hi2 : i < 218 := by omega
      rw [wX12_comesBack_2, nI_1]
      simp only [ge218 hi2, vp_in_nI hi2 (show 218 < 2 ^ 31 by decide), ix_nI (show i < 2 ^ 31 by omega), false_implies, true_and, not_false_eq_true, true_implies]
      refine ih (i + 1) (by omega) _ (f.tr (fm_wi (by decide) (by decide))) (fun j hj => ?_) (fun j hj => ?_)
      · by_cases hji : j = i
        · subst hji
          rw [wi_at]
          show s1.1 186 j = _
          rw [f.1 186 (by decide) (by decide)]
          exact W j hi2
        · rw [wi_ne _ _ _ _ hji]
          exact h j (by omega)
      · rw [wi_ne _ _ _ _ (by omega)]; exact h2 j hj
  exact ⟨219, Lp 218 0 rfl s fm.rf (fun j hj => by omega) H⟩
theorem SM.cg (S : SM g s) (h17 : s'.1 177 17 = s.1 177 17) (h18 : s'.1 177 18 = s.1 177 18) (h21 : s'.1 177 21 = s.1 177 21) (h183 : s'.1 183 = s.1 183) (h184 : s'.1 184 = s.1 184) : SM g s' := by
  obtain ⟨a1, a2, a3, a4⟩ := S
  refine ⟨by rw [h17]; exact a1, by rw [h18]; exact a2, fun e i he hi => by rw [h183]; exact a3 e i he hi, fun h => ?_⟩
  rw [h21, h184]
  exact a4 h
theorem nI_subI (a b : Nat) : nI a - nI b = iI ((a : Int) - b) := by rw [nI_i, nI_i, iI_sub]
theorem MI.q8 (M : MI t L g us ks s) {L' : List Int32} (f : fm (178 :: mD) mF s s') (h : s'.1 178 = g) (R : RM L' s') : MI t L' g us ks s' := by
  obtain ⟨m1, m2, m3, m4, m5⟩ := M
  refine ⟨⟨?_, fun i hi => ?_⟩, R, h, m4.cg (f.2.1 26 (by decide)) (f.1 187 (by decide) (by decide)), fun k hk => ⟨?_, fun u hu j hj => ?_⟩⟩
  · show s'.1 177 2 = _; rw [f.2.1 2 (by decide)]; exact m1.1
  · show s'.1 179 i = _; rw [f.1 179 (by decide) (by decide)]; exact m1.2 i hi
  · rw [f.1 191 (by decide) (by decide)]; exact (m5 k hk).1
  · rw [f.1 190 (by decide) (by decide)]; exact (m5 k hk).2 u hu j hj
/-- a call that asks, whose reference lays the story aside -/
theorem S_q8 {L' : List Int32} {r : Int32} {WC : (Int32 → gS → Prop) → Prop} {WM : gS → (Int32 → gS → Prop) → Prop} (A : okA t L g us ks) (C : CI t L g us ks s) (M : MI t L g us ks s) (hL : L'.length ≤ 24) (kk : KK t K) (hc : ∀ Q, qC g L' r s Q → WC Q) (hm : ∀ s1, MI t L g us ks s1 → ∀ Q, (∀ s', fm (178 :: mD) mF s1 s' → s'.1 178 = g → RM L' s' → Q r s') → WM s1 Q) : WC (fun r s1 => WM s1 (eqK K r)) := by
  refine hc _ (fun s1 f f0 R V => hm s1 (M.cl (f.cl qD_cl)) _ (fun s2 f2 h2 R2 => ⟨fun _ => ?_, fun h => h rfl⟩))
  exact kk t L' g us ks s2 (by omega) ⟨A.1, hL, A.2.2⟩ ((C.q f.fr f0 R V).mo (f2.mo (by decide))) ((M.cl (f.cl qD_cl)).q8 f2 h2 R2)
theorem S_without {x : Int32} (A : okA t L g us ks) (C : CI t L g us ks s) (M : MI t L g us ks s) (kk : KK t K) : wpX11_without x s (fun r s1 => wpX12_without x s1 (eqK K r)) := by
  have O := A.2.2.1.1
  have hn := O.2.1.2
  have M0 : ∀ s1, MI t L g us ks s1 → (wi s1 177 5 0).1 178 = g := fun s1 h => by rw [wi_na _ _ _ _ (by decide)]; exact h.2.2.1
  have en : ∀ s1, MI t L g us ks s1 → gi (wi s1 177 5 0) 178 1 = nI (no g) := fun s1 M1 => by
    show (wi s1 177 5 0).1 178 1 = _
    rw [M0 s1 M1]
    exact O.2.1.1
  rcases ev_or x (no g) (by omega) with ⟨i, hi, rfl⟩ | hx
  · have U' := ok_rm A.2.2.1 hi
    refine S_q8 (L' := [iI ((lal (rmO g i) 6 : Int) - lal g 6)]) (r := nI (chs (rmO g i)).length) (WC := wpX11_without (nI i) s) (WM := wpX12_without (nI i)) A C M (by simp) kk (fun Q k => ?_) (fun s1 M1 Q k => ?_)
    · unfold wpX11_without
      rw [c_hasOrder O C.2.2.1, or_in hi (by omega)]
      refine ⟨fun _ => ?_, fun h => absurd h (by decide)⟩
      refine c_load O C.2.2.1 (fun s1 f1 R1 => ?_)
      refine c_removeOrder O R1 hi (fun s2 f2 R2 => ?_)
      refine c_solve (by decide) (by decide) U'.1 R2 (fun s3 f3 S3 => ?_)
      have ft : fR tD s s3 := (f1.mono e23_t).tr ((f2.mono e23_t).tr (fo_t f3))
      refine c_clear (fun s4 f4 R4 => ?_)
      have S4 := rD_so (so := 88) (by decide) f4 S3
      refine c_leftOfAll U'.1 S4 ?_
      refine c_solved O (by rw [f4.1 21 rfl, ft.1 21 rfl]; exact C.2.2.1) (rD_v f4 (tD_v ft C.2.2.2.1)) (fun s5 f5 g5 v5 S5 => ?_)
      refine c_leftOfAll O S5 ?_
      rw [nI_subI]
      refine c_add (sD_r f5 R4) (by simp) (fun s6 f6 R6 => ?_)
      have S6 := rD_so (so := 88) (by decide) f6 (sD_88 f5 S4)
      rw [show gi s6 88 8 = nI (chs (rmO g i)).length from S6.1]
      exact k s6 ((ft.mono tD_q).tr ((f4.mono rD_q).tr ((f5.mono sD_q).tr (f6.mono rD_q)))) (fun j hj => by rw [f6.1 0 rfl, g5 j hj, f4.1 0 rfl, ft.1 0 rfl]) R6 (CV1 (by rw [f6.1 0 rfl]; exact v5) (rD_s f6 S5))
    · unfold wpX12_without
      rw [en s1 M1, m_in0 (by omega), or_in hi (by omega)]
      refine ⟨fun _ => ?_, fun h => absurd h (by decide)⟩
      refine m_survey (M0 s1 M1) O (by decide) (fun s2 f2 S2 => ?_)
      refine m_leftAll O S2 ?_
      refine m_aside (fun s3 f3 h3 => ?_)
      have e3 : s3.1 178 = g := by rw [f3.1 178 (by decide) (by decide), f2.1 178 (by decide) (by decide)]; exact M0 s1 M1
      have h3' : ∀ j, j < 218 → s3.1 186 j = g j := fun j hj => by rw [h3 j hj, f2.1 178 (by decide) (by decide), M0 s1 M1]
      refine m_goGo e3 O hi (fun s4 f4 h4 => ?_)
      refine m_survey h4 U'.1 (by decide) (fun s5 f5 S5 => ?_)
      have e5 : s5.1 178 = rmO g i := by rw [f5.1 178 (by decide) (by decide)]; exact h4
      refine m_back (g := g) (fun j hj => by rw [f5.1 186 (by decide) (by decide), f4.1 186 (by decide) (by decide)]; exact h3' j hj) A.2.2.1.2 (fun j hj => by rw [e5]; exact U'.2 j hj) (fun s6 f6 h6 => ?_)
      have S6 : SM (rmO g i) s6 := S5.cg (f6.2.1 17 (by decide)) (f6.2.1 18 (by decide)) (f6.2.1 21 (by decide)) (f6.1 183 (by decide) (by decide)) (f6.1 184 (by decide) (by decide))
      have S7 : SM (rmO g i) (wi s6 177 4 0) := S6.cg (wi_ne _ _ _ _ (by decide)) (wi_ne _ _ _ _ (by decide)) (wi_ne _ _ _ _ (by decide)) (wi_na _ _ _ _ (by decide)) (wi_na _ _ _ _ (by decide))
      refine m_leftAll U'.1 S7 ?_
      rw [nI_subI]
      refine m_tell m_new (by simp) (fun s8 f8 R8 => ?_)
      rw [show gi s8 177 17 = nI (chs (rmO g i)).length from by
        show s8.1 177 17 = _
        rw [f8.2.1 17 (by decide)]; exact S7.1]
      refine k s8 ?_ ?_ R8
      · exact (fm_wf (by decide)).tr ((f2.mono (by decide) (by decide)).tr ((f3.mono (by decide) (by decide)).tr ((f4.mono (by decide) (by decide)).tr ((f5.mono (by decide) (by decide)).tr ((f6.mono (by decide) (by decide)).tr ((fm_wf (by decide)).tr (f8.mono (by decide) (by decide))))))))
      · rw [f8.1 178 (by decide) (by decide), wi_na _ _ _ _ (by decide)]; exact h6
  · refine S_q (L' := L) (r := -1) (WC := wpX11_without x s) (WM := wpX12_without x) A C M A.2.1 kk (fun Q k => ?_) (fun s1 M1 Q k => ?_)
    · unfold wpX11_without
      rw [c_hasOrder O C.2.2.1, or_out hx]
      exact ⟨fun h => absurd rfl h, fun _ => qC_self C k⟩
    · unfold wpX12_without
      rw [en s1 M1, m_in0 (by omega), or_out hx]
      exact ⟨fun h => absurd rfl h, fun _ => qM_th M1 k⟩
/-- years: what is drawn -/
theorem dr_lt (d : Int32) {n : Nat} (hn : 0 < n) (hn2 : n < 100) : ∃ k, k < n ∧ jrem (jushr d 16) (nI n) = nI k := by
  have h1 : ∃ m : Nat, m < 65536 ∧ jushr d 16 = nI m := by
    refine ⟨d.toUInt32.toNat / 65536, ?_, i32_nat ?_ ?_⟩
    · have := d.toUInt32.toNat_lt
      omega
    · show (d.toUInt32 >>> ((16 : Int32).toUInt32 &&& Int32.toUInt32 31)).toNat = _
      rw [show ((16 : Int32).toUInt32 &&& Int32.toUInt32 31) = 16 from by decide, UInt32.toNat_shiftRight]
      show d.toUInt32.toNat >>> 16 = _
      rw [Nat.shiftRight_eq_div_pow]
    · have := d.toUInt32.toNat_lt
      omega
  obtain ⟨m, hm, e⟩ := h1
  refine ⟨m % n, Nat.mod_lt _ hn, ?_⟩
  rw [e, nI_i, nI_i, iI_rem (by omega) (by omega) (by omega) (by omega), nI_i]
  congr 1
def dw (d : Int32) (n : Nat) : Nat := ix (jrem (jushr d 16) (nI n))
theorem dw_lt (d : Int32) {n : Nat} (hn : 0 < n) (hn2 : n < 100) : dw d n < n ∧ jrem (jushr d 16) (nI n) = nI (dw d n) := by
  obtain ⟨k, h1, h2⟩ := dr_lt d hn hn2
  have : dw d n = k := by unfold dw; rw [h2]; exact ix_nI (by omega)
  rw [this]
  exact ⟨h1, h2⟩
def exB (g : Sy) (k x y : Nat) : Bool := (List.range (no g)).any fun o => kd g o == k && (ox g o == x && oy g o == y)
theorem exB_iff {k x y : Nat} : exB g k x y = true ↔ oEx g k x y := by
  unfold exB oEx
  rw [List.any_eq_true]
  constructor
  · rintro ⟨o, h1, h2⟩
    rw [List.mem_range] at h1
    simp at h2
    exact ⟨o, h1, h2⟩
  · rintro ⟨o, h1, h2⟩
    exact ⟨o, List.mem_range.mpr h1, by simpa using h2⟩
def yAd (g : Sy) (k x y : Nat) : Sy := if x ≠ y ∧ exB g k x y = false ∧ no g < 10 then adO g k x y else g
theorem ok_y {k x y : Nat} (O : okU g) (hk : k < 5) (hx : x < 6) (hy : y < 6) : okU (yAd g k x y) := by
  unfold yAd
  split
  next h => exact ok_adU O h.2.2 hk hx hy h.1
  next => exact O
/-- so many draws -/
def yrs (dr1 : Int32 → Int32) : Nat → Sy → Int32 → Sy
  | 0, g, _ => g
  | n + 1, g, d => yrs dr1 n (yAd g (dw (dr1 d) 5) (dw (dr1 (dr1 d)) 6) (dw (dr1 (dr1 (dr1 d))) 6)) (dr1 (dr1 (dr1 d)))
theorem ok_yrs (dr1 : Int32 → Int32) : ∀ n (g : Sy) d, okU g → okU (yrs dr1 n g d) := by
  intro n
  induction n with
  | zero => intro g d O; exact O
  | succ n ih =>
    intro g d O
    rw [yrs]
    exact ih _ _ (ok_y O (dw_lt _ (by decide) (by decide)).1 (dw_lt _ (by decide) (by decide)).1 (dw_lt _ (by decide) (by decide)).1)
theorem ix10 {n : Nat} (h : ¬ n < 10) (h2 : n ≤ 10) : n = 10 := by omega
theorem S_years {x y : Int32} (A : okA t L g us ks) (C : CI t L g us ks s) (M : MI t L g us ks s) (kk : KK t K) : wpX11_years x y s (fun r s1 => wpX12_years x y s1 (eqK K r)) := by
  have O := A.2.2.1.1
  have M0 : ∀ s1, MI t L g us ks s1 → (wi s1 177 5 0).1 178 = g := fun s1 h => by rw [wi_na _ _ _ _ (by decide)]; exact h.2.2.1
  obtain ⟨n, n1, n2, rfl⟩ := i_ex y
  by_cases hn : 1 ≤ n ∧ n ≤ 20
  · have ⟨m, hm⟩ : ∃ m : Nat, n = m := ⟨n.toNat, by omega⟩
    subst hm
    obtain ⟨dr1, hF⟩ : ∃ F : Int32 → Int32, ∀ d, d * 1103515245 + 12345 = F d := ⟨fun d => d * 1103515245 + 12345, fun _ => rfl⟩
    generalize hG : yrs dr1 m g x = G
    have UG : okU G := by rw [← hG]; exact ok_yrs dr1 m g x A.2.2.1
    have hGn := UG.1.2.1.2
    refine S_q8 (L' := [nI (no G), nI (lal G 6)]) (r := nI (chs G).length) (WC := wpX11_years x (iI m) s) (WM := wpX12_years x (iI m)) A C M (by simp) kk (fun Q k => ?_) (fun s1 M1 Q k => ?_)
    · unfold wpX11_years
      rw [show (1 : Int32) = iI 1 from rfl, show (20 : Int32) = iI 20 from rfl, iI_lt n1 n2 (by decide) (by decide), iI_le n1 n2 (by decide) (by decide)]
      refine ⟨fun h => by omega, fun _ => ⟨fun _ => ?_, fun h => by omega⟩⟩
      refine c_load O C.2.2.1 (fun s1 f1 R1 => ⟨m + 1, ?_⟩)
      have Lp : ∀ r i, i + r = m → ∀ (h : Sy) (d : Int32) (s2 : gS), okU h → yrs dr1 r h d = G → fR (fun a => a == 23) s s2 → repC (s2.1 (22 + 1)) h → wX11_years_32 x (iI m) Q (r + 1) d (nI i) s2 := by
        intro r
        induction r with
        | zero =>
          intro i hi h d s2 U2 hy f2 R2
          have : i = m := by omega
          subst this
          have hh : h = G := hy
          subst hh
          rw [wX11_years_32]
          refine ⟨fun _ => ?_, fun hc => absurd (by rw [nI_i]; exact Int32.le_refl _) hc⟩
          refine c_solve (by decide) (by decide) U2.1 R2 (fun s3 f3 S3 => ?_)
          have ft : fR tD s s3 := (f2.mono e23_t).tr (fo_t f3)
          refine c_clear (fun s4 f4 R4 => ?_)
          have r4 : repC (s4.1 (22 + 1)) h := by rw [f4.1 (22 + 1) rfl, f3.1 (22 + 1) (by decide)]; exact R2
          rw [c_orders U2.1 r4]
          refine c_add R4 (by simp) (fun s5 f5 R5 => ?_)
          have S5 := rD_so (so := 88) (by decide) f5 (rD_so (so := 88) (by decide) f4 S3)
          refine c_leftOfAll U2.1 S5 ?_
          refine c_add R5 (by simp) (fun s6 f6 R6 => ?_)
          have S6 := rD_so (so := 88) (by decide) f6 S5
          rw [show gi s6 88 8 = nI (chs h).length from S6.1]
          have fr := f4.tr (f5.tr f6)
          exact k s6 ((ft.mono tD_q).tr (fr.mono rD_q)) (fun j hj => by rw [fr.1 0 rfl, ft.1 0 rfl]) R6 (rD_v fr (tD_v ft C.2.2.2.1))
        | succ r ih =>
          intro i hi h d s2 U2 hy f2 R2
          rw [wX11_years_32]
          refine ⟨fun hc => ?_, fun _ => ?_⟩
          · rw [← nI_i, nI_leI (by omega) (by omega)] at hc; omega
          · rw [yrs] at hy
            obtain ⟨hk, ek⟩ := dw_lt (dr1 d) (n := 5) (by decide) (by decide)
            obtain ⟨hx, ex⟩ := dw_lt (dr1 (dr1 d)) (n := 6) (by decide) (by decide)
            obtain ⟨hy2, ey⟩ := dw_lt (dr1 (dr1 (dr1 d))) (n := 6) (by decide) (by decide)
            simp only [wpX11_nextDrawn, wpX11_drawOf, hF, show ((1 : Int32) ≤ 5) = True by decide, show ((1 : Int32) ≤ 6) = True by decide, show ((5 : Int32) = 0) = False by decide, show ((6 : Int32) = 0) = False by decide, true_implies, not_true_eq_false, false_implies, and_true, not_false_eq_true, true_and]
            rw [show (5 : Int32) = nI 5 from rfl, show (6 : Int32) = nI 6 from rfl, show (10 : Int32) = nI 10 from rfl, ek, ex, ey, nI_1]
            have U3 := ok_y U2 hk hx hy2
            have go : ∀ s3, fR (fun a => a == 23) s2 s3 → repC (s3.1 (22 + 1)) (yAd h (dw (dr1 d) 5) (dw (dr1 (dr1 d)) 6) (dw (dr1 (dr1 (dr1 d))) 6)) → wX11_years_32 x (iI m) Q (r + 1) (dr1 (dr1 (dr1 d))) (nI (i + 1)) s3 := fun s3 f3 R3 => ih (i + 1) (by omega) _ _ s3 U3 hy (f2.tr f3) R3
            by_cases hxy : dw (dr1 (dr1 d)) 6 = dw (dr1 (dr1 (dr1 d))) 6
            · refine c_addOrder0 (Or.inr (Or.inr (Or.inr (by rw [hxy])))) (go s2 fR.rf ?_)
              unfold yAd
              rw [if_neg (fun h => h.1 hxy)]
              exact R2
            · refine c_addOrder (N := 10) (m := 10) U2.1 (Nat.le_refl _) (by decide) R2 hk hx hy2 hxy (fun hex => go s2 fR.rf ?_) (fun _ h10 => go s2 fR.rf ?_) (fun hne hlt s3 f3 R3 => go s3 f3 ?_)
              · unfold yAd
                rw [if_neg (fun h => by rw [exB_iff.mpr hex] at h; cases h.2.1)]
                exact R2
              · unfold yAd
                rw [if_neg (fun h => by omega)]
                exact R2
              · unfold yAd
                rw [if_pos ⟨hxy, by
                  cases he : exB h (dw (dr1 d) 5) (dw (dr1 (dr1 d)) 6) (dw (dr1 (dr1 (dr1 d))) 6) with
                  | false => rfl
                  | true => exact absurd (exB_iff.mp he) hne, hlt⟩]
                exact R3
      exact Lp m 0 (by omega) g x s1 A.2.2.1 hG f1 R1
    · unfold wpX12_years
      show wpX12_in (iI m) (iI 1) (iI 20) _ _
      rw [m_in n1 n2 (by decide) (by decide) (by decide) (by decide)]
      simp only [hn, and_self, decide_true]
      refine ⟨fun _ => ?_, fun h => absurd h (by decide)⟩
      refine m_aside (fun s3 f3 h3 => ⟨m + 1, ?_⟩)
      have e3 : s3.1 178 = g := by rw [f3.1 178 (by decide) (by decide), wi_na _ _ _ _ (by decide)]; exact M0 s1 M1
      have h3' : ∀ j, j < 218 → s3.1 186 j = g j := fun j hj => by rw [h3 j hj, wi_na _ _ _ _ (by decide), M0 s1 M1]
      have f03 : fm (178 :: mD) mF s1 s3 := (fm_wf (by decide)).tr ((fm_wf (by decide)).tr (f3.mono (by decide) (by decide)))
      have d3 : s3.1 177 28 = x := by rw [f3.2.1 28 (by decide), wi_at]
      have Lp : ∀ r i, i + r = m → ∀ (h : Sy) (d : Int32) (s2 : gS), okU h → yrs dr1 r h d = G → fm (178 :: mD) mF s1 s2 → s2.1 178 = h → s2.1 177 28 = d → (∀ j, j < 218 → s2.1 186 j = g j) → wX12_years_28 x (iI m) Q (r + 1) (nI i) s2 := by
        intro r
        induction r with
        | zero =>
          intro i hi h d s2 U2 hy f2 e2 d2 h2
          have : i = m := by omega
          subst this
          have hh : h = G := hy
          subst hh
          rw [wX12_years_28]
          refine ⟨fun _ => ?_, fun hc => absurd (by rw [nI_i]; exact Int32.le_refl _) hc⟩
          refine m_survey e2 U2.1 (by decide) (fun s4 f4 S4 => ?_)
          rw [show gi (wi s4 177 4 0) 178 1 = nI (no h) from by
            show (wi s4 177 4 0).1 178 1 = _
            rw [wi_na _ _ _ _ (by decide), f4.1 178 (by decide) (by decide), e2]; exact U2.1.2.1.1]
          refine m_tell m_new (by simp) (fun s5 f5 R5 => ?_)
          have S5 : SM h s5 := (S4.cg (s' := wi s4 177 4 0) (wi_ne _ _ _ _ (by decide)) (wi_ne _ _ _ _ (by decide)) (wi_ne _ _ _ _ (by decide)) (wi_na _ _ _ _ (by decide)) (wi_na _ _ _ _ (by decide))).cg (f5.2.1 17 (by decide)) (f5.2.1 18 (by decide)) (f5.2.1 21 (by decide)) (f5.1 183 (by decide) (by decide)) (f5.1 184 (by decide) (by decide))
          refine m_leftAll U2.1 S5 ?_
          refine m_tell R5 (by simp) (fun s6 f6 R6 => ?_)
          have e6 : s6.1 178 = h := by rw [f6.1 178 (by decide) (by decide), f5.1 178 (by decide) (by decide), wi_na _ _ _ _ (by decide), f4.1 178 (by decide) (by decide)]; exact e2
          refine m_back (g := g) (fun j hj => by rw [f6.1 186 (by decide) (by decide), f5.1 186 (by decide) (by decide), wi_na _ _ _ _ (by decide), f4.1 186 (by decide) (by decide)]; exact h2 j hj) A.2.2.1.2 (fun j hj => by rw [e6]; exact U2.2 j hj) (fun s7 f7 h7 => ?_)
          rw [show gi s7 177 17 = nI (chs h).length from by
            show s7.1 177 17 = _
            rw [f7.2.1 17 (by decide), f6.2.1 17 (by decide)]; exact S5.1]
          refine k s7 (f2.tr ((f4.mono (by decide) (by decide)).tr ((fm_wf (by decide)).tr ((f5.mono (by decide) (by decide)).tr ((f6.mono (by decide) (by decide)).tr (f7.mono (by decide) (by decide))))))) h7 (R6.cg (f7.2.1 4 (by decide)) (f7.2.2.1 180 (by decide)))
        | succ r ih =>
          intro i hi h d s2 U2 hy f2 e2 d2 h2
          rw [wX12_years_28]
          refine ⟨fun hc => ?_, fun _ => ?_⟩
          · rw [← nI_i, nI_leI (by omega) (by omega)] at hc; omega
          · rw [yrs] at hy
            obtain ⟨hk, ek⟩ := dw_lt (dr1 d) (n := 5) (by decide) (by decide)
            obtain ⟨hx, ex⟩ := dw_lt (dr1 (dr1 d)) (n := 6) (by decide) (by decide)
            obtain ⟨hy2, ey⟩ := dw_lt (dr1 (dr1 (dr1 d))) (n := 6) (by decide) (by decide)
            have q1 : gi s2 177 28 = d := d2
            have q2 : ∀ (z : gS) (v : Int32), gi (wi z 177 28 v) 177 28 = v := fun z v => wi_at _ _ _ _
            simp only [wpX12_draw, q1, q2, hF]
            refine ⟨by decide, by decide, by decide, ?_⟩
            rw [show (5 : Int32) = nI 5 from rfl, show (6 : Int32) = nI 6 from rfl, ek, ex, ey]
            have U3 := ok_y U2 hk hx hy2
            generalize hZ : wi (wi (wi s2 177 28 (dr1 d)) 177 28 (dr1 (dr1 d))) 177 28 (dr1 (dr1 (dr1 d))) = Z
            have fZ : fm (178 :: mD) mF s1 Z := by rw [← hZ]; exact f2.tr ((fm_wf (by decide)).tr ((fm_wf (by decide)).tr (fm_wf (by decide))))
            have eZ : Z.1 178 = h := by rw [← hZ, wi_na _ _ _ _ (by decide), wi_na _ _ _ _ (by decide), wi_na _ _ _ _ (by decide)]; exact e2
            have dZ : Z.1 177 28 = dr1 (dr1 (dr1 d)) := by rw [← hZ, wi_at]
            have hZ2 : ∀ j, j < 218 → Z.1 186 j = g j := fun j hj => by rw [← hZ, wi_na _ _ _ _ (by decide), wi_na _ _ _ _ (by decide), wi_na _ _ _ _ (by decide)]; exact h2 j hj
            rw [nI_1]
            have go : ∀ s3, fm (178 :: mD) mF s1 s3 → s3.1 178 = yAd h (dw (dr1 d) 5) (dw (dr1 (dr1 d)) 6) (dw (dr1 (dr1 (dr1 d))) 6) → s3.1 177 28 = dr1 (dr1 (dr1 d)) → (∀ j, j < 218 → s3.1 186 j = g j) → wX12_years_28 x (iI m) Q (r + 1) (nI (i + 1)) s3 := fun s3 f3 e3 d3 h3 => ih (i + 1) (by omega) _ _ s3 U3 hy f3 e3 d3 h3
            by_cases hxy : dw (dr1 (dr1 d)) 6 = dw (dr1 (dr1 (dr1 d))) 6
            · refine m_refO0 (Or.inr (Or.inr (Or.inr (by rw [hxy])))) ⟨fun _ => go Z fZ ?_ dZ hZ2, fun h => absurd h (by decide)⟩
              unfold yAd
              rw [if_neg (fun h => h.1 hxy)]
              exact eZ
            · refine m_refO eZ U2.1 hk hx hy2 hxy (fun hex => ⟨fun _ => go Z fZ ?_ dZ hZ2, fun h => absurd h (by decide)⟩) (fun _ h10 => ⟨fun _ => go Z fZ ?_ dZ hZ2, fun h => absurd h (by decide)⟩) (fun hne hlt => ⟨fun h => absurd rfl h, fun _ => ?_⟩)
              · unfold yAd
                rw [if_neg (fun h => by rw [exB_iff.mpr hex] at h; cases h.2.1)]
                exact eZ
              · unfold yAd
                rw [if_neg (fun h => by omega)]
                exact eZ
              · refine m_goOrder eZ U2.1 hlt (fun s3 f3 e3 => go s3 (fZ.tr (f3.mono (by decide) (by decide))) ?_ (by rw [f3.2.1 28 (by decide)]; exact dZ) (fun j hj => by rw [f3.1 186 (by decide) (by decide)]; exact hZ2 j hj))
                unfold yAd
                rw [if_pos ⟨hxy, by
                  cases he : exB h (dw (dr1 d) 5) (dw (dr1 (dr1 d)) 6) (dw (dr1 (dr1 (dr1 d))) 6) with
                  | false => rfl
                  | true => exact absurd (exB_iff.mp he) hne, hlt⟩]
                exact e3
      exact Lp m 0 (by omega) g x s3 A.2.2.1 hG f03 e3 d3 h3'
  · refine S_q (L' := L) (r := -1) (WC := wpX11_years x (iI n) s) (WM := wpX12_years x (iI n)) A C M A.2.1 kk (fun Q k => ?_) (fun s1 M1 Q k => ?_)
    · unfold wpX11_years
      rw [show (1 : Int32) = iI 1 from rfl, show (20 : Int32) = iI 20 from rfl, iI_lt n1 n2 (by decide) (by decide), iI_le n1 n2 (by decide) (by decide)]
      exact ⟨fun _ => qC_self C k, fun _ => ⟨fun h => by omega, fun _ => qC_self C k⟩⟩
    · unfold wpX12_years
      show wpX12_in (iI n) (iI 1) (iI 20) _ _
      rw [m_in n1 n2 (by decide) (by decide) (by decide) (by decide)]
      simp only [hn, decide_false]
      exact ⟨fun h => absurd rfl h, fun _ => qM_th M1 k⟩
end TRIAL
