/-! ref, rules, drops -/
section MUT
variable {t : List Nat} {L : List Int32} {g g' : Sy} {us us' : List Sy} {ks : Nat → Option Sy} {s s' : gS} {K : gS → Prop} {N : Nat}
theorem v_tl {e : Nat} (h : g' (2 + e) = g (2 + e)) : tl g' e = tl g e := by unfold tl; rw [h]
theorem v_mn {e : Nat} (h : g' (2 + e) = g (2 + e)) : mn g' e = mn g e := by unfold mn; rw [h]
theorem v_vl {e i w : Nat} (h : g' (8 + 5 * (6 * e + i) + w) = g (8 + 5 * (6 * e + i) + w)) : vl g' e i w = vl g e i w := by unfold vl; rw [h]
theorem v_inn {e i : Nat} (h : g' (2 + e) = g (2 + e)) (h4 : g' (8 + 5 * (6 * e + i) + 4) = g (8 + 5 * (6 * e + i) + 4)) : inn g' e i = inn g e i := by unfold inn; rw [v_mn h, h4]
theorem v_no (h : g' 1 = g 1) : no g' = no g := by unfold no; rw [h]
theorem v_kd {o : Nat} (h : g' (188 + 3 * o) = g (188 + 3 * o)) : kd g' o = kd g o := by unfold kd; rw [h]
theorem v_ox {o : Nat} (h : g' (188 + 3 * o + 1) = g (188 + 3 * o + 1)) : ox g' o = ox g o := by unfold ox; rw [h]
theorem v_oy {o : Nat} (h : g' (188 + 3 * o + 2) = g (188 + 3 * o + 2)) : oy g' o = oy g o := by unfold oy; rw [h]
theorem v_okO {o : Nat} (h : ∀ j, 188 ≤ j → g' j = g j) (O : okO g o) : okO g' o := by
  unfold okO at *
  rw [v_kd (h _ (by omega)), v_ox (h _ (by omega)), v_oy (h _ (by omega)), h _ (by omega), h _ (by omega), h _ (by omega)]
  exact O
theorem v_cd {o : Nat} (h : ∀ j, 188 ≤ j → g' j = g j) : cd g' o = cd g o := by
  unfold cd
  rw [v_kd (h _ (by omega)), v_ox (h _ (by omega)), v_oy (h _ (by omega))]
theorem v_okR {e i : Nat} (h : ∀ w, w < 5 → g' (8 + 5 * (6 * e + i) + w) = g (8 + 5 * (6 * e + i) + w)) (O : okR g e i) : okR g' e i := by
  unfold okR at *
  rw [v_vl (h 0 (by decide)), v_vl (h 1 (by decide)), v_vl (h 2 (by decide)), v_vl (h 3 (by decide)), h 4 (by decide)]
  exact O
/-- another day of reference -/
theorem ok_ref {d : Int} (O : okU g) (hd : 0 ≤ d ∧ d ≤ 9999) : okU (up g 0 (iI d)) := by
  obtain ⟨O, Z⟩ := O
  have h : ∀ j, 1 ≤ j → up g 0 (iI d) j = g j := fun j hj => up_ne _ _ (by omega)
  have hm : ∀ e, mn (up g 0 (iI d)) e = mn g e := fun e => v_mn (h _ (by omega))
  refine ⟨⟨?_, ?_, fun o ho => ?_, fun e he => ?_, fun e he i hi => ?_⟩, fun k hk => ?_⟩
  · rw [up_at, iI_toInt (by omega) (by omega)]; exact hd
  · rw [h 1 (by decide), v_no (h 1 (by decide))]; exact O.2.1
  · rw [v_no (h 1 (by decide))] at ho
    exact v_okO (fun j hj => h j (by omega)) (O.2.2.1 o ho)
  · rw [v_tl (h _ (by omega)), hm, h _ (by omega)]; exact O.2.2.2.1 e he
  · rw [hm] at hi
    exact v_okR (fun w _ => h _ (by omega)) (O.2.2.2.2 e he i hi)
  · rw [h k (by omega)]; exact Z k hk
theorem re_ref {f : Sy} {v : Int32} (R : repC f g) : repC (up f 0 v) (up g 0 v) := by
  have h : ∀ j, 1 ≤ j → up g 0 v j = g j := fun j hj => up_ne _ _ (by omega)
  have hf : ∀ j, 1 ≤ j → up f 0 v j = f j := fun j hj => up_ne _ _ (by omega)
  have hm : ∀ e, mn (up g 0 v) e = mn g e := fun e => v_mn (h _ (by omega))
  refine ⟨by rw [up_at, up_at], ?_, ?_, fun o ho => ?_, fun e he => ⟨?_, ?_⟩, fun e he i hi w hw => ?_⟩
  · rw [hf 2 (by decide), h 1 (by decide)]; exact R.2.1
  · rw [hf 1 (by decide), R.2.2.1]
    congr 1
  · rw [v_no (h 1 (by decide))] at ho
    rw [hf _ (by omega), v_cd (fun j hj => h j (by omega))]
    exact R.2.2.2.1 o ho
  · rw [hf _ (by omega), hm]; exact (R.2.2.2.2.1 e he).1
  · rw [hf _ (by omega), (R.2.2.2.2.1 e he).2]
    congr 1
    exact bts_cg (fun i _ => (v_inn (h _ (by omega)) (h _ (by omega))).symm)
  · rw [hm] at hi
    rw [hf _ (by omega), h _ (by omega)]
    exact R.2.2.2.2.2 e he i hi w hw
theorem wi_up (s : gS) (a i : Nat) (v : Int32) : (wi s a i v).1 a = up (s.1 a) i v := by
  funext k
  by_cases h : k = i
  · subst h; rw [wi_at, up_at]
  · rw [wi_ne _ _ _ _ h, up_ne _ _ h]
theorem c_changeRef {a : Nat} {d : Int} {Q : Int32 → gS → Prop} (O : okS N g) (R : repC (s.1 (a + 1)) g) (h1 : -2147483648 ≤ d) (h2 : d ≤ 2147483647) (k1 : ¬ (0 ≤ d ∧ d ≤ 9999) → Q (-1) s) (k2 : (0 ≤ d ∧ d ≤ 9999) → g 0 = iI d → Q (-2) s) (k3 : (0 ≤ d ∧ d ≤ 9999) → ¬ g 0 = iI d → ∀ s', fR (fun b => b == a + 1) s s' → repC (s'.1 (a + 1)) (up g 0 (iI d)) → Q (g 0) s') : wpX8_changeRef a (iI d) s Q := by
  unfold wpX8_changeRef
  rw [c_isDay h1 h2, show gi s (a + 1) 0 = g 0 from R.1]
  by_cases hd : 0 ≤ d ∧ d ≤ 9999
  · simp only [hd, and_self, decide_true]
    refine ⟨fun _ => ⟨fun h => ?_, fun h => k2 hd h⟩, fun h => absurd h (by decide)⟩
    refine k3 hd h _ (fR_wi (by simp)) ?_
    rw [wi_up]
    exact re_ref R
  · simp only [hd, decide_false]
    exact ⟨fun h => absurd rfl h, fun _ => k1 hd⟩
theorem S_m0 {r : Int32} {WO : gS → (Int32 → gS → Prop) → Prop} {WM : gS → (Int32 → gS → Prop) → Prop} (A : okA t L g us ks) (C : CI t L g us ks s) (M : MI t L g us ks s) (kk : KK t K) (hr : r < 0) (hop : ∀ s1, repC (s1.1 21) g → ∀ Q, Q r s1 → WO s1 Q) (hm : ∀ s1, MI t L g us ks s1 → ∀ Q, qM L r s1 Q → WM s1 Q) : wpX11_saveBefore s (fun s1 => WO s1 (fun r2 s2 => wpX11_recorded r2 s2 (fun r s1 => WM s1 (eqK K r)))) := by
  refine C_mut0 A C hr hop (fun s1 f1 C1 => hm s1 (M.cl f1) _ (fun s2 f2 R2 => ⟨fun _ => ?_, fun h => h rfl⟩))
  exact kk t L g us ks s2 (by omega) A (C1.mo (f2.mo (by decide))) ((M.cl f1).q f2 R2)
theorem S_m1 {r : Int32} {WO : gS → (Int32 → gS → Prop) → Prop} {WM : gS → (Int32 → gS → Prop) → Prop} (A : okA t L g us ks) (C : CI t L g us ks s) (M : MI t L g us ks s) (kk : KK t K) (hr : ¬ r < 0) (G : okU g') (hop : ∀ s1, repC (s1.1 21) g → ∀ Q, (∀ s', fR (fun a => a == 21) s1 s' → repC (s'.1 21) g' → Q r s') → WO s1 Q) (hm : ∀ s1, MI t L g us ks s1 → ∀ Q, (∀ s', fm (178 :: 187 :: mD) (26 :: mF) s1 s' → s'.1 178 = g' → PM (pushU us g) s' → RM L s' → Q r s') → WM s1 Q) : wpX11_saveBefore s (fun s1 => WO s1 (fun r2 s2 => wpX11_recorded r2 s2 (fun r s1 => WM s1 (eqK K r)))) := by
  refine C_mut A C hr hop (fun s1 f1 C1 => hm s1 (M.cl f1) _ (fun s2 f2 h2 P2 R2 => ⟨fun _ => ?_, fun h => h rfl⟩))
  exact kk t L g' (pushU us g) ks s2 (by omega) (A.mut G) (C1.mo (f2.mo (by decide))) ((M.cl f1).mut f2 h2 P2 R2)
theorem PM.th (P : PM us s) : PM us (wi s 177 5 0) := ⟨by rw [wi_ne _ _ _ _ (by decide)]; exact P.1, fun k hk j hj => by rw [wi_na _ _ _ _ (by decide)]; exact P.2 k hk j hj⟩
theorem RM.cg (R : RM L s) (h : s'.1 177 4 = s.1 177 4) (h2 : s'.2.1 180 = s.2.1 180) : RM L s' := ⟨by rw [h]; exact R.1, fun i hi => by rw [h2]; exact R.2 i hi⟩
theorem PM.cg (P : PM us s) (h : s'.1 177 26 = s.1 177 26) (h2 : s'.1 187 = s.1 187) : PM us s' := ⟨by rw [h]; exact P.1, fun k hk j hj => by rw [h2]; exact P.2 k hk j hj⟩
/-- the reference's change behind a call's begin -/
theorem m_chg {Q : gS → Prop} (A : okA t L g us ks) (M : MI t L g us ks s) (k : ∀ s', fm (178 :: 187 :: mD) (26 :: mF) s s' → s'.1 178 = g → PM (pushU us g) s' → RM L s' → Q s') : wpX12_change (wi s 177 5 0) Q := by
  refine m_change (us := us) (g := g) A.2.2.2.1 M.2.2.2.1.th (by rw [wi_na _ _ _ _ (by decide)]; exact M.2.2.1) (fun s1 f1 P1 => ?_)
  refine k s1 ((fm_wf (by decide)).tr (f1.mono (by decide) (by decide))) ?_ P1 (M.2.1.th.cg (f1.2.1 4 (by decide)) (f1.2.2.1 180 (by decide)))
  rw [f1.1 178 (by decide) (by decide), wi_na _ _ _ _ (by decide)]
  exact M.2.2.1
theorem S_ref {x : Int32} (A : okA t L g us ks) (C : CI t L g us ks s) (M : MI t L g us ks s) (kk : KK t K) : wpX11_ref x s (fun r s1 => wpX12_ref x s1 (eqK K r)) := by
  have O := A.2.2.1.1
  obtain ⟨d, d1, d2, rfl⟩ := i_ex x
  have hM : ∀ s1, MI t L g us ks s1 → gi (wi s1 177 5 0) 178 0 = g 0 := fun s1 M1 => by
    show (wi s1 177 5 0).1 178 0 = _
    rw [wi_na _ _ _ _ (by decide), M1.2.2.1]
  have h0 := O.1
  by_cases hd : 0 ≤ d ∧ d ≤ 9999
  · by_cases hg : g 0 = iI d
    · refine S_m0 (r := -2) (WO := wpX8_changeRef 20 (iI d)) (WM := wpX12_ref (iI d)) A C M kk (by decide) (fun s1 R1 Q k => c_changeRef O R1 d1 d2 (fun h => absurd hd h) (fun _ _ => k) (fun _ h => absurd hg h)) (fun s1 M1 Q k => ?_)
      unfold wpX12_ref wpX12_refusesRef
      rw [m_isDay d1 d2, hM s1 M1]
      simp only [hd, and_self, decide_true]
      refine ⟨fun _ => ⟨fun h => absurd hg.symm h, fun _ => ⟨fun h => absurd h (by decide), fun _ => qM_th M1 k⟩⟩, fun h => absurd h (by decide)⟩
    · refine S_m1 (r := g 0) (g' := up g 0 (iI d)) (WO := wpX8_changeRef 20 (iI d)) (WM := wpX12_ref (iI d)) A C M kk (fun h => ?_) (ok_ref A.2.2.1 hd) (fun s1 R1 Q k => c_changeRef O R1 d1 d2 (fun h => absurd hd h) (fun _ h => absurd h hg) (fun _ _ s' f R' => k s' f R')) (fun s1 M1 Q k => ?_)
      · have := Int32.lt_iff_toInt_lt.mp h
        have h5 : (0 : Int32).toInt = 0 := rfl
        omega
      · unfold wpX12_ref wpX12_refusesRef
        rw [m_isDay d1 d2, hM s1 M1]
        simp only [hd, and_self, decide_true]
        refine ⟨fun _ => ⟨fun _ => ⟨fun _ => ?_, fun h => absurd (by decide) h⟩, fun h => absurd h.symm hg⟩, fun h => absurd h (by decide)⟩
        refine m_chg A M1 (fun s2 f2 h2 P2 R2 => ?_)
        rw [show gi s2 178 0 = g 0 from by rw [← h2]; rfl]
        refine k _ (f2.tr (fm_wi (by decide) (by decide))) (by rw [wi_up, h2]) (P2.cg (by rw [wi_na _ _ _ _ (by decide)]) (wi_na _ _ _ _ (by decide))) (R2.cg (by rw [wi_na _ _ _ _ (by decide)]) rfl)
  · refine S_m0 (r := -1) (WO := wpX8_changeRef 20 (iI d)) (WM := wpX12_ref (iI d)) A C M kk (by decide) (fun s1 R1 Q k => c_changeRef O R1 d1 d2 (fun _ => k) (fun h => absurd h hd) (fun h => absurd h hd)) (fun s1 M1 Q k => ?_)
    unfold wpX12_ref wpX12_refusesRef
    rw [m_isDay d1 d2]
    simp only [hd, decide_false]
    exact ⟨fun h => absurd rfl h, fun _ => ⟨fun h => absurd h (by decide), fun _ => qM_th M1 k⟩⟩
/-- a reading put in or out -/
def ruG (g : Sy) (e i : Nat) (b : Bool) : Sy := up g (8 + 5 * (6 * e + i) + 4) (bi b)
theorem ru_inn {e i : Nat} {b : Bool} (hi : i < mn g e) (he6 : i < 6) {e' i' : Nat} (he' : e' < 6) (hi6 : i' < 6) : inn (ruG g e i b) e' i' = if e' = e ∧ i' = i then b else inn g e' i' := by
  unfold ruG
  by_cases h : e' = e ∧ i' = i
  · rw [if_pos h, h.1, h.2]
    unfold inn
    rw [v_mn (up_ne _ _ (by omega)), up_at]
    cases b <;> simp [hi, bi]
  · rw [if_neg h]
    exact v_inn (up_ne _ _ (by omega)) (up_ne _ _ (by omega))
theorem ru_h {e i : Nat} {b : Bool} {j : Nat} (h : j ≠ 8 + 5 * (6 * e + i) + 4) : ruG g e i b j = g j := up_ne _ _ h
theorem ok_ru {e i : Nat} {b : Bool} (O : okU g) (he : e < 6) (hi : i < mn g e) : okU (ruG g e i b) := by
  obtain ⟨O, Z⟩ := O
  have hm6 := (O.2.2.2.1 e he).2
  have hm : ∀ e', e' < 6 → mn (ruG g e i b) e' = mn g e' := fun e' _ => v_mn (ru_h (by omega))
  refine ⟨⟨?_, ?_, fun o ho => ?_, fun e' he' => ?_, fun e' he' i' hi' => ?_⟩, fun k hk => ?_⟩
  · rw [ru_h (by omega)]; exact O.1
  · rw [ru_h (by omega), v_no (ru_h (by omega))]; exact O.2.1
  · rw [v_no (ru_h (by omega))] at ho
    exact v_okO (fun j hj => ru_h (by omega)) (O.2.2.1 o ho)
  · rw [v_tl (ru_h (by omega)), hm e' he', ru_h (by omega)]; exact O.2.2.2.1 e' he'
  · rw [hm e' he'] at hi'
    have hm2 := (O.2.2.2.1 e' he').2
    have h5 := O.2.2.2.2 e' he' i' hi'
    unfold okR at *
    rw [v_vl (ru_h (by omega)), v_vl (ru_h (by omega)), v_vl (ru_h (by omega)), v_vl (ru_h (by omega))]
    refine ⟨h5.1, h5.2.1, h5.2.2.1, h5.2.2.2.1, h5.2.2.2.2.1, h5.2.2.2.2.2.1, h5.2.2.2.2.2.2.1, ?_⟩
    by_cases h : 8 + 5 * (6 * e' + i') + 4 = 8 + 5 * (6 * e + i) + 4
    · rw [h]
      unfold ruG
      rw [up_at]
      exact bi_01 b
    · rw [ru_h h]; exact h5.2.2.2.2.2.2.2
  · rw [ru_h (by omega)]; exact Z k hk
theorem re_ru {e i : Nat} {b : Bool} {f : Sy} (hN : N ≤ 11) (O : okS N g) (R : repC f g) (he : e < 6) (hi : i < mn g e) : repC (up f (20 + e) (nI (bts 6 (inn (ruG g e i b) e)))) (ruG g e i b) := by
  have hm6 := (O.2.2.2.1 e he).2
  have hm : ∀ e', e' < 6 → mn (ruG g e i b) e' = mn g e' := fun e' _ => v_mn (ru_h (by omega))
  refine ⟨?_, ?_, ?_, fun o ho => ?_, fun e' he' => ⟨?_, ?_⟩, fun e' he' i' hi' w hw => ?_⟩
  · rw [up_ne _ _ (by omega), ru_h (by omega)]; exact R.1
  · rw [up_ne _ _ (by omega), ru_h (by omega)]; exact R.2.1
  · rw [up_ne _ _ (by omega), R.2.2.1]
    congr 1
    exact bts_cg (fun e _ => (v_tl (ru_h (by omega))).symm)
  · rw [v_no (ru_h (by omega))] at ho
    have hfo := R.2.2.2.1 o ho
    rw [v_cd (fun j hj => ru_h (by omega))]
    have hno := O.2.1.2
    rw [up_ne _ _ (by omega)]; exact hfo
  · rw [up_ne _ _ (by omega), hm e' he']; exact (R.2.2.2.2.1 e' he').1
  · by_cases h : e' = e
    · subst h; rw [up_at]
    · rw [up_ne _ _ (by omega), (R.2.2.2.2.1 e' he').2]
      congr 1
      exact bts_cg (fun i' hi' => by rw [ru_inn hi (by omega) he' hi', if_neg (fun h2 => h h2.1)])
  · rw [hm e' he'] at hi'
    have hm2 := (O.2.2.2.1 e' he').2
    rw [up_ne _ _ (by omega), ru_h (by omega)]
    exact R.2.2.2.2.2 e' he' i' hi' w hw
theorem c_ruleOut {a e i : Nat} {b : Bool} {Q : Int32 → gS → Prop} (hN : N ≤ 11) (O : okS N g) (R : repC (s.1 (a + 1)) g) (he : e < 6) (hi : i < mn g e) (k0 : inn g e i ≠ b → Q (-2) s) (k1 : inn g e i = b → ∀ s', fR (fun c => c == a + 1) s s' → repC (s'.1 (a + 1)) (ruG g e i (!b)) → Q (nI (cnt 6 (inn (ruG g e i (!b)) e))) s') : wpX8_ruleOut a (nI e) (nI i) (bi b) s Q := by
  have hm6 := (O.2.2.2.1 e he).2
  have hi6 : i < 6 := by omega
  unfold wpX8_ruleOut
  rw [c_has R he, c_isIn O R he hi6, hs_nI O he (by omega)]
  simp only [ltz (show e < 2 ^ 31 by omega), ge6 he, hi, decide_true, false_implies, true_and, not_false_eq_true, true_implies]
  refine ⟨fun _ => ?_, fun h => absurd h (by decide)⟩
  have e1 : 20 + nI e = nI (20 + e) := nI_add 20 e
  rw [e1, ix_nI (by omega)]
  have hbb : (bi (inn g e i) = bi b) = (inn g e i = b) := by
    cases inn g e i <;> cases b <;> decide
  rw [hbb]
  refine ⟨fun h => ⟨vp_in_nI (by omega) (by decide), vp_in_nI (by omega) (by decide), vp_in_nI (by omega) (by decide), ?_⟩, fun h => k0 h⟩
  have e2 : gi s (a + 1) (20 + e) ^^^ jshl 1 (nI i) = nI (bts 6 (inn (ruG g e i (!b)) e)) := by
    rw [show gi s (a + 1) (20 + e) = nI (bts 6 (inn g e)) from (R.2.2.2.2.1 e he).2, bxor6 hi6]
    congr 1
    exact bts_cg (fun k hk => by
      rw [ru_inn hi hi6 he hk]
      by_cases hki : k = i
      · subst hki; simp [h]
      · have hk2 : (k == i) = false := by simpa using hki
        simp [hki, hk2])
  rw [e2, show gi (wi s (a + 1) (20 + e) (nI (bts 6 (inn (ruG g e i (!b)) e)))) (a + 1) (20 + e) = nI (bts 6 (inn (ruG g e i (!b)) e)) from wi_at _ _ _ _, pop_6]
  refine k1 h _ (fR_wi (by simp)) ?_
  rw [wi_up]
  exact re_ru hN O R he hi
theorem c_ruleOut0 {a : Nat} {x y z : Int32} {Q : Int32 → gS → Prop} (R : repC (s.1 (a + 1)) g) (h : (x < 0 ∨ 6 ≤ x) ∨ ∃ e, e < 6 ∧ x = nI e ∧ hs g e y = false) (k : Q (-1) s) : wpX8_ruleOut a x y z s Q := by
  unfold wpX8_ruleOut
  rcases h with h | ⟨e, he, rfl, h2⟩
  · by_cases h1 : x < 0
    · exact ⟨fun _ => k, fun h => absurd h1 h⟩
    · have h2 : 6 ≤ x := h.resolve_left h1
      exact ⟨fun _ => k, fun _ => ⟨fun _ => k, fun h => absurd h2 h⟩⟩
  · rw [c_has R he, h2]
    exact ⟨fun _ => k, fun _ => ⟨fun _ => k, fun _ => ⟨fun h => absurd rfl h, fun _ => k⟩⟩⟩
theorem m_isReading {e : Nat} {y : Int32} {Q : Int32 → gS → Prop} (M : s.1 178 = g) (O : okS 10 g) (he : e < 6) (k : Q (bi (hs g e y)) s) : wpX12_isReading (nI e) y s Q := by
  have hm := (O.2.2.2.1 e he).2
  unfold wpX12_isReading
  rw [m_isTold M he]
  cases ht : tl g e with
  | false =>
    have : hs g e y = false := by
      unfold hs
      rw [mn_nt ht]
      by_cases h : 0 ≤ y
      · have : ¬ y < nI 0 := Int32.not_lt.mpr h
        simp [this]
      · simp [h]
    rw [this] at k
    exact ⟨fun _ => k, fun h => absurd rfl h⟩
  | true =>
    refine ⟨fun h => absurd h (by decide), fun _ => ?_⟩
    have e1 : 2 + nI e = nI (2 + e) := nI_add 2 e
    have e2 : gi s 178 (2 + e) = nI (mn g e) := by
      rw [← ((O.2.2.2.1 e he).1 ht).1, ← M]; rfl
    rw [e1, ix_nI (by omega), e2, m_in0 (by omega)]
    refine ⟨vp_in_nI (by omega) (by decide), ?_⟩
    show (bi (hs g e y) = 0 → _) ∧ (¬ bi (hs g e y) = 0 → _)
    cases hh2 : hs g e y with
    | false => rw [hh2] at k; exact ⟨fun _ => k, fun h => absurd rfl h⟩
    | true => rw [hh2] at k; exact ⟨fun h => absurd h (by decide), fun _ => k⟩
/-- refusesRule and goRule, by cases -/
theorem m_refRule {e i : Nat} {b : Bool} {Q : Int32 → gS → Prop} (M : s.1 178 = g) (O : okS 10 g) (he : e < 6) (hi : i < mn g e) (k : Q (if inn g e i = b then 0 else -2) s) : wpX12_refusesRule (nI e) (nI i) (bi b) s Q := by
  have hm6 := (O.2.2.2.1 e he).2
  unfold wpX12_refusesRule
  refine m_isReading M O he ?_
  rw [hs_nI O he (by omega)]
  simp only [hi, decide_true]
  refine ⟨fun _ => ?_, fun h => absurd h (by decide)⟩
  rw [show wpX12_of (nI e) (nI i) 4 s = wpX12_of (nI e) (nI i) (nI 4) s from rfl, m_of M he (by omega) (by decide), inn_bi O he hi]
  unfold wX12_refusesRule_29
  have t0 : ∀ P : Prop, P → (bi true = 0 → P) := fun P h _ => h
  cases hb : b with
  | false =>
    refine ⟨fun _ => ?_, fun h => absurd rfl h⟩
    rw [hb] at k
    cases hh : inn g e i with
    | false => rw [hh] at k; exact ⟨fun _ => k, fun h => absurd h (by decide)⟩
    | true => rw [hh] at k; exact ⟨fun h => absurd rfl h, fun _ => k⟩
  | true =>
    refine ⟨fun h => absurd h (by decide), fun _ => ?_⟩
    rw [hb] at k
    cases hh : inn g e i with
    | false => rw [hh] at k; exact ⟨fun h => absurd rfl h, fun _ => k⟩
    | true => rw [hh] at k; exact ⟨fun _ => k, fun h => absurd h (by decide)⟩
theorem m_refRule0 {x y z : Int32} {Q : Int32 → gS → Prop} (M : s.1 178 = g) (O : okS 10 g) (h : (x < 0 ∨ 6 ≤ x) ∨ ∃ e, e < 6 ∧ x = nI e ∧ hs g e y = false) (k : Q (-1) s) : wpX12_refusesRule x y z s Q := by
  unfold wpX12_refusesRule
  rcases h with h | ⟨e, he, rfl, h2⟩
  · unfold wpX12_isReading
    rw [m_isTold0 h]
    exact ⟨fun _ => ⟨fun h => absurd rfl h, fun _ => k⟩, fun h => absurd rfl h⟩
  · refine m_isReading M O he ?_
    rw [h2]
    exact ⟨fun h => absurd rfl h, fun _ => k⟩
theorem m_goRule {e i : Nat} {b : Bool} {Q : gS → Prop} (M : s.1 178 = g) (O : okS 10 g) (he : e < 6) (hi : i < mn g e) (k : ∀ s', fm [178] [] s s' → s'.1 178 = ruG g e i (!b) → Q s') : wpX12_goRule (nI e) (nI i) (bi b) s Q := by
  have hm6 := (O.2.2.2.1 e he).2
  unfold wpX12_goRule wpX12_place wX12_goRule_20
  have e1 : 8 + 5 * (6 * nI e + nI i) + 4 = nI (8 + 5 * (6 * e + i) + 4) := by
    simp only [lit_i, nI_i, iI_add, iI_mul]
    congr 1
  dsimp only
  rw [e1, ix_nI (by omega)]
  have go : vp_in (nI (8 + 5 * (6 * e + i) + 4)) 218 ∧ Q (wi s 178 (8 + 5 * (6 * e + i) + 4) (bi (!b))) := ⟨vp_in_nI (by omega) (by decide), k _ (fm_wi (by decide) (by decide)) (by rw [wi_up, M]; rfl)⟩
  cases b with
  | false => exact ⟨fun _ => go, fun h => absurd rfl h⟩
  | true => exact ⟨fun h => absurd h (by decide), fun _ => go⟩
theorem nI_nn {n : Nat} (h : n < 2 ^ 31) : ¬ nI n < 0 := nI_pos h
theorem rd_or (O : okS N g) (x y : Int32) : (∃ e i, e < 6 ∧ i < mn g e ∧ i < 6 ∧ x = nI e ∧ y = nI i) ∨ ((x < 0 ∨ 6 ≤ x) ∨ ∃ e, e < 6 ∧ x = nI e ∧ hs g e y = false) := by
  rcases ev_or x 6 (by decide) with ⟨e, he, rfl⟩ | hx
  · cases h : hs g e y with
    | false => exact Or.inr (Or.inr ⟨e, he, rfl, h⟩)
    | true =>
      obtain ⟨i, h1, h2, rfl⟩ := hs_ex O he h
      exact Or.inl ⟨e, i, he, h1, h2, rfl, rfl⟩
  · exact Or.inr (Or.inl hx)
theorem S_rules {x y : Int32} {b : Bool} (A : okA t L g us ks) (C : CI t L g us ks s) (M : MI t L g us ks s) (kk : KK t K) : wpX11_rules x y (bi b) s (fun r s1 => wpX12_rules x y (bi b) s1 (eqK K r)) := by
  have O := A.2.2.1.1
  have M0 : ∀ s1, MI t L g us ks s1 → (wi s1 177 5 0).1 178 = g := fun s1 h => by rw [wi_na _ _ _ _ (by decide)]; exact h.2.2.1
  rcases rd_or O x y with ⟨e, i, he, hi, hi6, rfl, rfl⟩ | hx
  · by_cases hb : inn g e i = b
    · have hc := cnt_le 6 (inn (ruG g e i (!b)) e)
      refine S_m1 (r := nI (cnt 6 (inn (ruG g e i (!b)) e))) (g' := ruG g e i (!b)) (WO := wpX8_ruleOut 20 (nI e) (nI i) (bi b)) (WM := wpX12_rules (nI e) (nI i) (bi b)) A C M kk (nI_nn (by omega)) (ok_ru A.2.2.1 he hi) (fun s1 R1 Q k => c_ruleOut (by decide) O R1 he hi (fun h => absurd hb h) (fun _ s' f R' => k s' f R')) (fun s1 M1 Q k => ?_)
      unfold wpX12_rules
      refine m_refRule (M0 s1 M1) O he hi ?_
      rw [if_pos hb]
      refine ⟨fun _ => ?_, fun h => absurd (by decide) h⟩
      refine m_chg A M1 (fun s2 f2 h2 P2 R2 => ?_)
      refine m_goRule h2 O he hi (fun s3 f3 h3 => ?_)
      refine m_inMany h3 (ok_ru A.2.2.1 he hi).1 he ?_
      exact k s3 (f2.tr (f3.mono (by decide) (by decide))) h3 (P2.cg (f3.2.1 26 (by decide)) (f3.1 187 (by decide) (by decide))) (R2.cg (f3.2.1 4 (by decide)) (f3.2.2.1 180 (by decide)))
    · refine S_m0 (r := -2) (WO := wpX8_ruleOut 20 (nI e) (nI i) (bi b)) (WM := wpX12_rules (nI e) (nI i) (bi b)) A C M kk (by decide) (fun s1 R1 Q k => c_ruleOut (by decide) O R1 he hi (fun _ => k) (fun h => absurd h hb)) (fun s1 M1 Q k => ?_)
      unfold wpX12_rules
      refine m_refRule (M0 s1 M1) O he hi ?_
      rw [if_neg hb]
      exact ⟨fun h => absurd h (by decide), fun _ => qM_th M1 k⟩
  · refine S_m0 (r := -1) (WO := wpX8_ruleOut 20 x y (bi b)) (WM := wpX12_rules x y (bi b)) A C M kk (by decide) (fun s1 R1 Q k => c_ruleOut0 R1 hx k) (fun s1 M1 Q k => ?_)
    unfold wpX12_rules
    refine m_refRule0 (M0 s1 M1) O hx ?_
    exact ⟨fun h => absurd h (by decide), fun _ => qM_th M1 k⟩
end MUT
