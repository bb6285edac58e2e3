/-! goes, undo, keep, again -/
section MUT
variable {t : List Nat} {L : List Int32} {g g' : Sy} {us us' : List Sy} {ks : Nat → Option Sy} {s s' : gS} {K : gS → Prop} {N : Nat}
def rmO (g : Sy) (i : Nat) : Sy := fun j => if j = 1 then nI (no g - 1) else if 188 + 3 * i ≤ j ∧ j < 218 then (if j + 3 < 218 then g (j + 3) else 0) else g j
def shO (i o : Nat) : Nat := if o < i then o else o + 1
theorem rm_lo {i j : Nat} (h1 : j ≠ 1) (h2 : j < 188) : rmO g i j = g j := by
  unfold rmO
  rw [if_neg h1, if_neg (by omega)]
theorem rm_o {i o c : Nat} (hc : c < 3) (ho : o < 9) : rmO g i (188 + 3 * o + c) = g (188 + 3 * shO i o + c) := by
  unfold rmO shO
  rw [if_neg (by omega)]
  by_cases h : o < i
  · rw [if_neg (by omega), if_pos h]
  · rw [if_pos (by omega), if_pos (by omega), if_neg h]
    congr 1
    omega
theorem rm_no {i : Nat} (h : no g < 100) : no (rmO g i) = no g - 1 := by
  show ix (rmO g i 1) = _
  unfold rmO
  rw [if_pos rfl]
  exact ix_nI (by omega)
theorem rm_v {i o : Nat} (ho : o < 9) : kd (rmO g i) o = kd g (shO i o) ∧ ox (rmO g i) o = ox g (shO i o) ∧ oy (rmO g i) o = oy g (shO i o) := by
  refine ⟨?_, ?_, ?_⟩
  · unfold kd; rw [show 188 + 3 * o = 188 + 3 * o + 0 from rfl, rm_o (by decide) ho]; rfl
  · unfold ox; rw [rm_o (by decide) ho]
  · unfold oy; rw [rm_o (by decide) ho]
theorem ok_rm {i : Nat} (O : okU g) (hi : i < no g) : okU (rmO g i) := by
  obtain ⟨O, Z⟩ := O
  have hn := O.2.1.2
  have hno : no (rmO g i) = no g - 1 := rm_no (by omega)
  have hm : ∀ e, e < 6 → mn (rmO g i) e = mn g e := fun e he => v_mn (rm_lo (by omega) (by omega))
  refine ⟨⟨?_, ⟨?_, ?_⟩, fun o ho => ?_, fun e he => ?_, fun e he k hk => ?_⟩, fun k hk => ?_⟩
  · rw [rm_lo (by omega) (by omega)]; exact O.1
  · rw [hno]
    unfold rmO
    rw [if_pos rfl]
  · rw [hno]; omega
  · rw [hno] at ho
    have hs : shO i o < no g := by unfold shO; split <;> omega
    obtain ⟨w1, w2, w3⟩ := rm_v (g := g) (i := i) (show o < 9 by omega)
    have := O.2.2.1 _ hs
    unfold okO at *
    rw [w1, w2, w3, show 188 + 3 * o = 188 + 3 * o + 0 from rfl, rm_o (by decide) (by omega)]
    rw [show 188 + 3 * o + 0 + 1 = 188 + 3 * o + 1 from rfl, show 188 + 3 * o + 0 + 2 = 188 + 3 * o + 2 from rfl, rm_o (by decide) (by omega), rm_o (by decide) (by omega)]
    exact this
  · rw [v_tl (rm_lo (by omega) (by omega)), hm e he, rm_lo (by omega) (by omega)]; exact O.2.2.2.1 e he
  · rw [hm e he] at hk
    have hm2 := (O.2.2.2.1 e he).2
    exact v_okR (fun w hw => rm_lo (by omega) (by omega)) (O.2.2.2.2 e he k hk)
  · unfold rmO
    rw [if_neg (by omega), if_neg (by omega)]
    exact Z k hk
theorem re_rm {f f' : Sy} {i : Nat} (O : okS 10 g) (R : repC f g) (hi : i < no g) (h2 : f' 2 = nI (no g - 1)) (hlo : ∀ j, j ≠ 2 → ¬ (3 + i ≤ j ∧ j < 13) → f' j = f j) (hhi : ∀ j, 3 + i ≤ j → j < 13 → f' j = f (j + 1)) : repC f' (rmO g i) := by
  have hn := O.2.1.2
  have hno : no (rmO g i) = no g - 1 := rm_no (by omega)
  have hm : ∀ e, e < 6 → mn (rmO g i) e = mn g e := fun e he => v_mn (rm_lo (by omega) (by omega))
  refine ⟨?_, ?_, ?_, fun o ho => ?_, fun e he => ⟨?_, ?_⟩, fun e he k hk w hw => ?_⟩
  · rw [hlo 0 (by omega) (by omega), rm_lo (by omega) (by omega)]; exact R.1
  · rw [h2]
    unfold rmO
    rw [if_pos rfl]
  · rw [hlo 1 (by omega) (by omega), R.2.2.1]
    exact congrArg nI (bts_cg (fun e he => (v_tl (rm_lo (by omega) (by omega))).symm))
  · rw [hno] at ho
    obtain ⟨w1, w2, w3⟩ := rm_v (g := g) (i := i) (show o < 9 by omega)
    have hc : cd (rmO g i) o = cd g (shO i o) := by unfold cd; rw [w1, w2, w3]
    rw [hc]
    unfold shO
    by_cases h : o < i
    · rw [hlo _ (by omega) (by omega), if_pos h]; exact R.2.2.2.1 o (by omega)
    · rw [hhi _ (by omega) (by omega), if_neg h]; exact R.2.2.2.1 (o + 1) (by omega)
  · rw [hm e he, hlo _ (by omega) (by omega)]; exact (R.2.2.2.2.1 e he).1
  · rw [hlo _ (by omega) (by omega), (R.2.2.2.2.1 e he).2]
    exact congrArg nI (bts_cg (fun k hk => (v_inn (rm_lo (by omega) (by omega)) (rm_lo (by omega) (by omega))).symm))
  · rw [hm e he] at hk
    have hm2 := (O.2.2.2.1 e he).2
    rw [hlo _ (by omega) (by omega), rm_lo (by omega) (by omega)]
    exact R.2.2.2.2.2 e he k hk w hw
theorem c_removeOrder {a i : Nat} {Q : Int32 → gS → Prop} (O : okS 10 g) (R : repC (s.1 (a + 1)) g) (hi : i < no g) (k : ∀ s', fR (fun c => c == a + 1) s s' → repC (s'.1 (a + 1)) (rmO g i) → Q (nI (no g - 1)) s') : wpX8_removeOrder a (nI i) s Q := by
  have hn := O.2.1.2
  unfold wpX8_removeOrder
  rw [c_hasOrder O R, or_in hi (by omega)]
  refine ⟨fun _ => ⟨11 - i, ?_⟩, fun h => absurd h (by decide)⟩
  have Lp : ∀ n y, y + n = 10 → i ≤ y → ∀ s1, fR (fun c => c == a + 1) s s1 → (∀ j, ¬ (3 + i ≤ j ∧ j < 3 + y) → s1.1 (a + 1) j = s.1 (a + 1) j) → (∀ j, 3 + i ≤ j → j < 3 + y → s1.1 (a + 1) j = s.1 (a + 1) (j + 1)) → wX8_removeOrder_12 a (nI i) Q (n + 1) (nI y) s1 := by
    intro n
    induction n with
    | zero =>
      intro y hy hiy s1 f h1 h2
      have : y = 10 := by omega
      subst this
      rw [wX8_removeOrder_12]
      refine ⟨fun _ => ?_, fun h => absurd (by decide) h⟩
      have e1 : gi s1 (a + 1) 2 - 1 = nI (no g - 1) := by
        rw [show gi s1 (a + 1) 2 = nI (no g - 1 + 1) from by
          show s1.1 (a + 1) 2 = _
          rw [h1 2 (by omega), show no g - 1 + 1 = no g by omega]
          exact R.2.1.trans O.2.1.1]
        exact nI_pred _
      rw [e1, show gi (wi s1 (a + 1) 2 (nI (no g - 1))) (a + 1) 2 = nI (no g - 1) from wi_at _ _ _ _]
      refine k _ (f.tr (fR_wi (by simp))) (re_rm O R hi (wi_at _ _ _ _) (fun j hj hj2 => ?_) (fun j hj hj2 => ?_))
      · rw [wi_ne _ _ _ _ hj]; exact h1 j (by omega)
      · rw [wi_ne _ _ _ _ (by omega)]; exact h2 j hj (by omega)
    | succ n ih =>
      intro y hy hiy s1 f h1 h2
      have e1 : nI y + 1 = nI (y + 1) := nI_1 y
      have e2 : 3 + nI y = nI (3 + y) := nI_add 3 y
      have e3 : nI (3 + y) + 1 = nI (3 + y + 1) := nI_1 _
      have hle : (11 ≤ nI (y + 1)) = False := by
        rw [show (11 : Int32) = nI 11 from rfl, nI_leI (by decide) (by omega)]
        simp; omega
      rw [wX8_removeOrder_12]
      simp only [e1, e2, e3, hle, ix_nI (show 3 + y < 2 ^ 31 by omega), ix_nI (show 3 + y + 1 < 2 ^ 31 by omega), vp_in_nI (show 3 + y < 170 by omega) (show 170 < 2 ^ 31 by decide), vp_in_nI (show 3 + y + 1 < 170 by omega) (show 170 < 2 ^ 31 by decide), false_implies, true_and, not_false_eq_true, true_implies]
      refine ih (y + 1) (by omega) (by omega) _ (f.tr (fR_wi (by simp))) (fun j hj => ?_) (fun j hj hj2 => ?_)
      · rw [wi_ne _ _ _ _ (by omega)]; exact h1 j (by omega)
      · by_cases hjy : j = 3 + y
        · subst hjy
          rw [wi_at]
          exact h1 _ (by omega)
        · rw [wi_ne _ _ _ _ hjy]; exact h2 j hj (by omega)
  rw [show 11 - i = (10 - i) + 1 by omega]
  exact Lp (10 - i) i (by omega) (Nat.le_refl _) s fR.rf (fun _ _ => rfl) (fun j h1 h2 => by omega)
theorem c_removeOrder0 {a : Nat} {x : Int32} {Q : Int32 → gS → Prop} (O : okS 10 g) (R : repC (s.1 (a + 1)) g) (hx : x < 0 ∨ nI (no g) ≤ x) (k : Q (-1) s) : wpX8_removeOrder a x s Q := by
  unfold wpX8_removeOrder
  rw [c_hasOrder O R, or_out hx]
  exact ⟨fun h => absurd rfl h, fun _ => k⟩
theorem m_goGo {i : Nat} {Q : gS → Prop} (M : s.1 178 = g) (O : okS 10 g) (hi : i < no g) (k : ∀ s', fm [178] [] s s' → s'.1 178 = rmO g i → Q s') : wpX12_goGo (nI i) s Q := by
  have hn := O.2.1.2
  unfold wpX12_goGo
  have a0 : 188 + 3 * nI i = nI (188 + 3 * i) := by
    simp only [lit_i, nI_i, iI_add, iI_mul]
    congr 1
  rw [a0]
  have Lp : ∀ n y, y + n = 218 → 188 + 3 * i ≤ y → ∀ s1, fm [178] [] s s1 → (∀ j, ¬ (188 + 3 * i ≤ j ∧ j < y) → s1.1 178 j = g j) → (∀ j, 188 + 3 * i ≤ j → j < y → s1.1 178 j = if j + 3 < 218 then g (j + 3) else 0) → wX12_goGo_8 (nI i) Q (n + 1) (nI y) s1 := by
    intro n
    induction n with
    | zero =>
      intro y hy hiy s1 f h1 h2
      have : y = 218 := by omega
      subst this
      rw [wX12_goGo_8]
      refine ⟨fun _ => ?_, fun h => absurd (by decide) h⟩
      have e1 : gi s1 178 1 - 1 = nI (no g - 1) := by
        rw [show gi s1 178 1 = nI (no g - 1 + 1) from by
          show s1.1 178 1 = _
          rw [h1 1 (by omega), show no g - 1 + 1 = no g by omega]
          exact O.2.1.1]
        exact nI_pred _
      rw [e1]
      refine k _ (f.tr (fm_wi (by decide) (by decide))) ?_
      rw [wi_up]
      funext j
      unfold up rmO
      by_cases hj : j = 1
      · rw [if_pos hj, if_pos hj]
      · rw [if_neg hj, if_neg hj]
        by_cases hj2 : 188 + 3 * i ≤ j ∧ j < 218
        · rw [if_pos hj2]; exact h2 j hj2.1 hj2.2
        · rw [if_neg hj2]; exact h1 j hj2
    | succ n ih =>
      intro y hy hiy s1 f h1 h2
      have e1 : nI y + 1 = nI (y + 1) := nI_1 y
      have e2 : nI y + 3 = nI (y + 3) := nI_add y 3
      have hle : (218 ≤ nI y) = False := ge218 (by omega)
      have step : ∀ v : Int32, v = (if y + 3 < 218 then g (y + 3) else 0) → wX12_goGo_41 (nI i) Q (fun y2 s => wX12_goGo_8 (nI i) Q (n + 1) y2 s) (nI y) v (nI y) s1 := by
        intro v hv
        unfold wX12_goGo_41
        rw [e1, ix_nI (by omega)]
        refine ⟨vp_in_nI (by omega) (by decide), ih (y + 1) (by omega) (by omega) _ (f.tr (fm_wi (by decide) (by decide))) (fun j hj => ?_) (fun j hj hj2 => ?_)⟩
        · rw [wi_ne _ _ _ _ (by omega)]; exact h1 j (by omega)
        · by_cases hjy : j = y
          · subst hjy; rw [wi_at]; exact hv
          · rw [wi_ne _ _ _ _ hjy]; exact h2 j hj (by omega)
      rw [wX12_goGo_8]
      simp only [hle, e2, false_implies, true_and, not_false_eq_true, true_implies]
      rw [show (218 : Int32) = nI 218 from rfl, nI_leI (by decide) (by omega)]
      refine ⟨fun h => step 0 (by rw [if_neg (by omega)]), fun h => ⟨vp_in_nI (by omega) (by decide), ?_⟩⟩
      rw [ix_nI (by omega)]
      refine step _ ?_
      rw [if_pos (by omega)]
      exact h1 _ (by omega)
  exact ⟨218 - (188 + 3 * i) + 1, Lp (218 - (188 + 3 * i)) (188 + 3 * i) (by omega) (Nat.le_refl _) s fm.rf (fun j _ => by rw [M]) (fun j h1 h2 => by omega)⟩
theorem S_goes {x : Int32} (A : okA t L g us ks) (C : CI t L g us ks s) (M : MI t L g us ks s) (kk : KK t K) : wpX11_goes x s (fun r s1 => wpX12_goes x s1 (eqK K r)) := by
  have O := A.2.2.1.1
  have hn := O.2.1.2
  have en : ∀ s1, MI t L g us ks s1 → gi (wi s1 177 5 0) 178 1 = nI (no g) := fun s1 M1 => by
    show (wi s1 177 5 0).1 178 1 = _
    rw [wi_na _ _ _ _ (by decide), M1.2.2.1]
    exact O.2.1.1
  rcases ev_or x (no g) (by omega) with ⟨i, hi, rfl⟩ | hx
  · refine S_m1 (r := nI (no g - 1)) (g' := rmO g i) (WO := wpX8_removeOrder 20 (nI i)) (WM := wpX12_goes (nI i)) A C M kk (nI_nn (by omega)) (ok_rm A.2.2.1 hi) (fun s1 R1 Q k => c_removeOrder O R1 hi (fun s' f R' => k s' f R')) (fun s1 M1 Q k => ?_)
    unfold wpX12_goes
    rw [en s1 M1, m_in0 (by omega), or_in hi (by omega)]
    refine ⟨fun _ => ?_, fun h => absurd h (by decide)⟩
    refine m_chg A M1 (fun s2 f2 h2 P2 R2 => ?_)
    refine m_goGo h2 O hi (fun s3 f3 h3 => ?_)
    rw [show gi s3 178 1 = nI (no g - 1) from by
      show s3.1 178 1 = _
      rw [h3]
      unfold rmO
      rw [if_pos rfl]]
    exact k s3 (f2.tr (f3.mono (by decide) (by decide))) h3 (P2.cg (f3.2.1 26 (by decide)) (f3.1 187 (by decide) (by decide))) (R2.cg (f3.2.1 4 (by decide)) (f3.2.2.1 180 (by decide)))
  · refine S_m0 (r := -1) (WO := wpX8_removeOrder 20 x) (WM := wpX12_goes x) A C M kk (by decide) (fun s1 R1 Q k => c_removeOrder0 O R1 hx k) (fun s1 M1 Q k => ?_)
    unfold wpX12_goes
    rw [en s1 M1, m_in0 (by omega), or_out hx]
    exact ⟨fun h => absurd rfl h, fun _ => qM_th M1 k⟩
/-- undo -/
theorem dec7 : ∀ n, n < 8 → (nI n - 1) &&& 7 = nI ((n + 7) % 8) := by decide +kernel
theorem S_undo (A : okA t L g us ks) (C : CI t L g us ks s) (M : MI t L g us ks s) (kk : KK t K) : wpX11_undo s (fun r s1 => wpX12_undo s1 (eqK K r)) := by
  obtain ⟨a1, a2, a3, a4, a5, a6⟩ := A
  have hfM : ∀ s1, MI t L g us ks s1 → gi (wi s1 177 5 0) 177 26 = nI us.length := fun s1 M1 => by
    show (wi s1 177 5 0).1 177 26 = _
    rw [wi_ne _ _ _ _ (by decide)]; exact M1.2.2.2.1.1
  unfold wpX11_undo
  rw [show gi s 25 2 = nI us.length from C.2.2.2.2.1.1, show (0 : Int32) = nI 0 from rfl, nI_eq (by omega) (by decide)]
  refine ⟨fun h => ?_, fun h => ?_⟩
  · obtain ⟨p1, nx, hnx, p2, p3⟩ := C.2.2.2.2.1
    generalize hul : us.getD (us.length - 1) (fun _ => 0) = u at *
    have hmem : u ∈ us := by
      rw [← hul, List.getD_eq_getElem?_getD, List.getElem?_eq_getElem (show us.length - 1 < us.length by omega)]
      exact List.getElem_mem _
    obtain ⟨O, Z⟩ := a5 u hmem
    have n170 : ix (170 : Int32) = 170 := by decide
    unfold wpX3_pop
    rw [show gi s 25 2 = nI us.length from p1]
    refine ⟨fun h2 => absurd ((nI_eq (b := 0) (by omega) (by decide)).mp h2) h, fun _ => ⟨fun _ => ?_, fun h => absurd rfl h⟩⟩
    have e1 : (gi s 25 1 - 1) &&& 7 = nI ((nx + 7) % 8) := by
      show (s.1 25 1 - 1) &&& 7 = _
      rw [p2, dec7 nx hnx]
    rw [e1]
    have e2 : gi (wi s 25 1 (nI ((nx + 7) % 8))) 25 1 &&& 7 = nI ((nx + 7) % 8) := by
      rw [show gi (wi s 25 1 (nI ((nx + 7) % 8))) 25 1 = nI ((nx + 7) % 8) from wi_at _ _ _ _, and7 _ (by omega)]
      congr 1
      omega
    rw [e2, ix_nI (by omega), n170]
    refine ⟨vp_in_nI (by omega) (by decide), ?_⟩
    have e3 : gi (cpI (wi s 25 1 (nI ((nx + 7) % 8))) (26 + 1 + (nx + 7) % 8) (ix 0) 21 (ix 0) 170) 25 2 - 1 = nI (us.length - 1) := by
      rw [show gi (cpI (wi s 25 1 (nI ((nx + 7) % 8))) (26 + 1 + (nx + 7) % 8) (ix 0) 21 (ix 0) 170) 25 2 = nI (us.length - 1 + 1) from by
        show (cpI (wi s 25 1 (nI ((nx + 7) % 8))) (26 + 1 + (nx + 7) % 8) (ix 0) 21 (ix 0) 170).1 25 2 = _
        rw [cp_na _ _ _ _ _ _ (by decide), wi_ne _ _ _ _ (by decide), show us.length - 1 + 1 = us.length by omega]
        exact p1]
      exact nI_pred _
    rw [e3]
    generalize hS : wi (cpI (wi s 25 1 (nI ((nx + 7) % 8))) (26 + 1 + (nx + 7) % 8) (ix 0) 21 (ix 0) 170) 25 2 (nI (us.length - 1)) = S1
    have g25 : S1.1 25 2 = nI (us.length - 1) := by rw [← hS, wi_at]
    have g251 : S1.1 25 1 = nI ((nx + 7) % 8) := by rw [← hS, wi_ne _ _ _ _ (by decide), cp_na _ _ _ _ _ _ (by decide), wi_at]
    have gne : ∀ b, b ≠ 25 → b ≠ 21 → S1.1 b = s.1 b := fun b h1 h2 => by rw [← hS, wi_na _ _ _ _ h1, cp_na _ _ _ _ _ _ h2, wi_na _ _ _ _ h1]
    have g2 : S1.2 = s.2 := by rw [← hS]; rfl
    have g21 : repC (S1.1 21) u := by
      have := p3 (us.length - 1) (by omega)
      rw [hul, show 27 + (nx + 8 - us.length + (us.length - 1)) % 8 = 26 + 1 + (nx + 7) % 8 by omega] at this
      refine repC_f O (by decide) this (fun k hk => ?_)
      rw [← hS, wi_na _ _ _ _ (by decide), cp_at _ _ _ _ hk, wi_na _ _ _ _ (by omega)]
    show wpX12_undo (wi S1 0 13 0) (eqK K (gi (wi S1 0 13 0) 25 2))
    rw [show gi (wi S1 0 13 0) 25 2 = nI (us.length - 1) from by
      show (wi S1 0 13 0).1 25 2 = _
      rw [wi_na _ _ _ _ (by decide)]; exact g25]
    have hdl : us.dropLast.length = us.length - 1 := by simp
    have hgd : ∀ k, k < us.length - 1 → us.dropLast.getD k (fun _ => 0) = us.getD k (fun _ => 0) := fun k hk => by
      rw [List.getD_eq_getElem?_getD, List.getD_eq_getElem?_getD, List.getElem?_dropLast, if_pos hk]
    have C1 : CI t L u us.dropLast ks (wi S1 0 13 0) := by
      refine C.mut (f := ⟨fun a ha => ?_, g2⟩) (fun j hj => ?_) ?_ (Or.inl (wi_at _ _ _ _)) ⟨?_, (nx + 7) % 8, by omega, ?_, fun k hk => ?_⟩
      · unfold uD at ha
        simp at ha
        rw [wi_na _ _ _ _ (by omega), gne a (by omega) (by omega)]
      · rw [wi_ne _ _ _ _ hj, gne 0 (by decide) (by decide)]
      · rw [wi_na _ _ _ _ (by decide)]; exact g21
      · rw [wi_na _ _ _ _ (by decide), g25, hdl]
      · rw [wi_na _ _ _ _ (by decide), g251]
      · rw [hdl] at hk ⊢
        rw [wi_na _ _ _ _ (by omega), gne _ (by omega) (by omega), hgd k hk, show 27 + ((nx + 7) % 8 + 8 - (us.length - 1) + k) % 8 = 27 + (nx + 8 - us.length + k) % 8 by omega]
        exact p3 k (by omega)
    have f1 : clF s (wi S1 0 13 0) := ⟨fun a ha => by rw [wi_na _ _ _ _ (by omega), gne a (by omega) (by omega)], fun a _ => by
      show S1.2.1 a = _
      rw [g2]⟩
    have M1 := M.cl f1
    generalize hS2 : wi S1 0 13 0 = S2 at *
    unfold wpX12_undo
    rw [hfM S2 M1]
    refine ⟨fun _ => ?_, fun h2 => absurd ((nI_eq (b := 0) (by omega) (by decide)).mp h2) h⟩
    have e4 : nI us.length - 1 = nI (us.length - 1) := by
      rw [show nI us.length = nI (us.length - 1 + 1) by congr 1; omega]
      exact nI_pred _
    rw [e4]
    have Lp : ∀ n i, i + n = 218 → ∀ s1, fm [178] [5, 26] S2 s1 → s1.1 177 26 = nI (us.length - 1) → (∀ j, j < i → s1.1 178 j = u j) → (∀ j, i ≤ j → s1.1 178 j = S2.1 178 j) → wX12_undo_26 (eqK K (nI (us.length - 1))) (n + 1) (nI i) s1 := by
      intro n
      induction n with
      | zero =>
        intro i hi s1 f hu h1 h2
        have : i = 218 := by omega
        subst this
        rw [wX12_undo_26]
        refine ⟨fun _ => ?_, fun h => absurd (by decide) h⟩
        rw [show gi s1 177 26 = nI (us.length - 1) from hu]
        have hg : s1.1 178 = u := by
          funext j
          by_cases hj : j < 218
          · exact h1 j hj
          · rw [h2 j (by omega), M1.2.2.1, a3.2 j (by omega), Z j (by omega)]
        refine ⟨fun _ => kk t L u us.dropLast ks s1 (by omega) ⟨a1, a2, ⟨O, Z⟩, by rw [hdl]; omega, fun v hv => a5 v ((List.dropLast_sublist us).subset hv), a6⟩ (C1.mo (f.mo (by decide))) ?_, fun h => h rfl⟩
        refine M1.mut (f.mono (by decide) (by decide)) hg ⟨by rw [hdl]; exact hu, fun k hk j hj => ?_⟩ (M1.2.1.cg (f.2.1 4 (by decide)) (f.2.2.1 180 (by decide)))
        rw [hdl] at hk
        rw [f.1 187 (by decide) (by decide), hgd k hk]
        exact M1.2.2.2.1.2 k (by omega) j hj
      | succ n ih =>
        intro i hi s1 f hu h1 h2
        have hi2 : i < 218 := by omega
        have e5 : 218 * gi s1 177 26 + nI i = nI (218 * (us.length - 1) + i) := by
          rw [show gi s1 177 26 = nI (us.length - 1) from hu]
          simp only [lit_i, nI_i, iI_add, iI_mul]
          congr 1
        rw [wX12_undo_26, nI_1, e5]
        simp only [ge218 hi2, vp_in_nI hi2 (show 218 < 2 ^ 31 by decide), vp_in_nI (show 218 * (us.length - 1) + i < 1744 by omega) (show 1744 < 2 ^ 31 by decide), ix_nI (show i < 2 ^ 31 by omega), ix_nI (show 218 * (us.length - 1) + i < 2 ^ 31 by omega), false_implies, true_and, not_false_eq_true, true_implies]
        refine ih (i + 1) (by omega) _ (f.tr (fm_wi (by decide) (by decide))) (by rw [wi_na _ _ _ _ (by decide)]; exact hu) (fun j hj => ?_) (fun j hj => ?_)
        · by_cases hji : j = i
          · subst hji
            rw [wi_at]
            show s1.1 187 _ = _
            rw [f.1 187 (by decide) (by decide), M1.2.2.2.1.2 (us.length - 1) (by omega) j hi2, hul]
          · rw [wi_ne _ _ _ _ hji]; exact h1 j (by omega)
        · rw [wi_ne _ _ _ _ (by omega)]; exact h2 j (by omega)
    refine ⟨219, Lp 218 0 rfl _ (fm.tr (fm_wf (by decide)) (fm_wf (by decide))) (wi_at _ _ _ _) (fun j hj => by omega) (fun j _ => ?_)⟩
    rw [wi_na _ _ _ _ (by decide), wi_na _ _ _ _ (by decide)]
  · show wpX12_undo s (eqK K (-1))
    unfold wpX12_undo
    have hz : nI us.length = 0 := by rw [h]; rfl
    rw [hfM s M]
    refine ⟨fun h2 => absurd hz h2, fun _ => ⟨fun _ => ?_, fun h => h rfl⟩⟩
    exact kk t L g us ks _ (by omega) ⟨a1, a2, a3, a4, a5, a6⟩ (C.mo (m_th.mo (by decide))) (M.q m_th M.2.1.th)
end MUT
