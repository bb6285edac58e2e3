/-! tells: the story behind it -/
def tcl (J : List Rd) (m : Nat) : Int32 := if m % 5 = 4 then 1 else nI (rc (J.getD (m / 5) r0) (m % 5))
def tlQ (g : Sy) (e : Nat) (J : List Rd) (n : Nat) : Sy := fun j => if j = 2 + e then nI J.length else if 8 + 30 * e ≤ j ∧ j < 8 + 30 * e + n then tcl J (j - (8 + 30 * e)) else g j
def tlG (g : Sy) (e : Nat) (J : List Rd) : Sy := tlQ g e J (5 * J.length)
section TELL
variable {t : List Nat} {L : List Int32} {g g' : Sy} {us us' : List Sy} {ks : Nat → Option Sy} {s s' : gS} {K : gS → Prop} {N e : Nat} {J H V W R : List Rd} {Q : Int32 → gS → Prop} {Q' : gS → Prop}
theorem tl_h {j n : Nat} (h1 : j ≠ 2 + e) (h2 : ¬ (8 + 30 * e ≤ j ∧ j < 8 + 30 * e + n)) : tlQ g e J n j = g j := by
  unfold tlQ
  rw [if_neg h1, if_neg h2]
theorem tl_m {n : Nat} : tlQ g e J n (2 + e) = nI J.length := by
  unfold tlQ
  rw [if_pos rfl]
theorem tl_c {i w : Nat} (hi : i < J.length) (hw : w < 5) (he : e < 6) : tlG g e J (8 + 5 * (6 * e + i) + w) = if w = 4 then 1 else nI (rc (J.getD i r0) w) := by
  unfold tlG tlQ
  rw [if_neg (by omega), if_pos (by omega)]
  unfold tcl
  rw [show (8 + 5 * (6 * e + i) + w - (8 + 30 * e)) % 5 = w by omega, show (8 + 5 * (6 * e + i) + w - (8 + 30 * e)) / 5 = i by omega]
theorem tl_s {n : Nat} : tlQ g e J (n + 1) = up (tlQ g e J n) (8 + 30 * e + n) (if 8 + 30 * e + n = 2 + e then nI J.length else tcl J n) := by
  funext j
  unfold tlQ up
  by_cases h : j = 8 + 30 * e + n
  · subst h
    rw [if_pos rfl]
    by_cases h2 : 8 + 30 * e + n = 2 + e
    · rw [if_pos h2, if_pos h2]
    · rw [if_neg h2, if_neg h2, if_pos (by omega), show 8 + 30 * e + n - (8 + 30 * e) = n by omega]
  · rw [if_neg h]
    dsimp only
    by_cases h2 : j = 2 + e
    · rw [if_pos h2, if_pos h2]
    · rw [if_neg h2, if_neg h2]
      by_cases h3 : 8 + 30 * e ≤ j ∧ j < 8 + 30 * e + n
      · rw [if_pos h3, if_pos (by omega)]
      · rw [if_neg h3, if_neg (by omega)]
theorem tg_h {j : Nat} (hJ : J.length ≤ 6) (h1 : j ≠ 2 + e) (h2 : ¬ (8 + 30 * e ≤ j ∧ j < 38 + 30 * e)) : tlG g e J j = g j := tl_h h1 (by omega)
theorem tg_tl {e' : Nat} (hJ : J.length ≤ 6) (he : e < 6) (he' : e' < 6) : tl (tlG g e J) e' = (tl g e' || e' == e) := by
  by_cases h : e' = e
  · subst h
    unfold tl
    rw [show tlG g e' J (2 + e') = nI J.length from tl_m]
    have : nI J.length ≠ -1 := nI_ne (by omega)
    simp [this]
  · have h2 : (e' == e) = false := by simpa using h
    rw [v_tl (tg_h hJ (by omega) (by omega)), h2]
    simp
theorem tg_mn {e' : Nat} (hJ : J.length ≤ 6) (he : e < 6) (he' : e' < 6) : mn (tlG g e J) e' = if e' = e then J.length else mn g e' := by
  by_cases h : e' = e
  · rw [if_pos h]
    subst h
    unfold mn
    rw [show tlG g e' J (2 + e') = nI J.length from tl_m, ix_nI (by omega)]
  · rw [if_neg h]
    exact v_mn (tg_h hJ (by omega) (by omega))
theorem tg_inn {i : Nat} (hJ : J.length ≤ 6) (he : e < 6) (hi : i < 6) : inn (tlG g e J) e i = decide (i < J.length) := by
  unfold inn
  rw [tg_mn hJ he he, if_pos rfl]
  by_cases h : i < J.length
  · rw [tl_c h (by decide) he, if_pos rfl, decide_eq_true h]
    rfl
  · rw [decide_eq_false h, Bool.false_and]
theorem ok_tg (O : okU g) (he : e < 6) (h1 : 1 ≤ J.length) (hJ : J.length ≤ 6) (ok : okV J) (ps : pos J) : okU (tlG g e J) := by
  obtain ⟨O, Z⟩ := O
  refine ⟨⟨?_, ?_, fun o ho => ?_, fun e' he' => ?_, fun e' he' i' hi' => ?_⟩, fun k hk => ?_⟩
  · rw [tg_h hJ (by omega) (by omega)]; exact O.1
  · have e1 : tlG g e J 1 = g 1 := tg_h hJ (by omega) (by omega)
    rw [e1, v_no e1]; exact O.2.1
  · have e1 : tlG g e J 1 = g 1 := tg_h hJ (by omega) (by omega)
    rw [v_no e1] at ho
    exact v_okO (fun j hj => tg_h hJ (by omega) (by omega)) (O.2.2.1 o ho)
  · rw [tg_tl hJ he he', tg_mn hJ he he']
    by_cases h : e' = e
    · subst h
      rw [if_pos rfl]
      exact ⟨fun _ => ⟨tl_m, h1⟩, hJ⟩
    · have h2 : (e' == e) = false := by simpa using h
      rw [if_neg h, h2, Bool.or_false, tg_h hJ (by omega) (by omega)]
      exact O.2.2.2.1 e' he'
  · rw [tg_mn hJ he he'] at hi'
    by_cases h : e' = e
    · rw [if_pos h] at hi'
      subst h
      obtain ⟨q1, q2, q3, q4⟩ := ok _ (getD_mem (d := r0) hi')
      have q5 := ps _ (getD_mem (d := r0) hi')
      have v : ∀ w, w < 4 → vl (tlG g e' J) e' i' w = (rc (J.getD i' r0) w : Int) := fun w hw => by
        unfold vl
        rw [tl_c hi' (by omega) he', if_neg (by omega)]
        have : rc (J.getD i' r0) w < 2 ^ 31 := by
          have : w = 0 ∨ w = 1 ∨ w = 2 ∨ w = 3 := by omega
          rcases this with rfl | rfl | rfl | rfl
          · show (J.getD i' r0).1 < _; omega
          · show (J.getD i' r0).2.1 < _; omega
          · show (J.getD i' r0).2.2.1 < _; omega
          · show (J.getD i' r0).2.2.2 < _; omega
        exact nI_toInt this
      unfold okR
      rw [v 0 (by decide), v 1 (by decide), v 2 (by decide), v 3 (by decide), tl_c hi' (by decide) he', if_pos rfl]
      show (0 : Int) ≤ ((J.getD i' r0).1 : Int) ∧ ((J.getD i' r0).1 : Int) ≤ ((J.getD i' r0).2.1 : Int) ∧ ((J.getD i' r0).2.1 : Int) ≤ 9999 ∧ (0 : Int) ≤ ((J.getD i' r0).2.2.1 : Int) ∧ ((J.getD i' r0).2.2.1 : Int) ≤ 3 ∧ (1 : Int) ≤ ((J.getD i' r0).2.2.2 : Int) ∧ ((J.getD i' r0).2.2.2 : Int) ≤ 3 ∧ ((1 : Int32) = 0 ∨ (1 : Int32) = 1)
      exact ⟨by omega, by omega, by omega, by omega, by omega, by omega, by omega, Or.inr rfl⟩
    · rw [if_neg h] at hi'
      have hm2 := (O.2.2.2.1 e' he').2
      exact v_okR (fun w hw => tg_h hJ (by omega) (by omega)) (O.2.2.2.2 e' he' i' hi')
  · rw [tg_h hJ (by omega) (by omega)]; exact Z k hk
theorem bm6 : ∀ n, n ≤ 6 → jshl 1 (nI n) - 1 = nI (bts 6 (fun i => decide (i < n))) := by decide +kernel
theorem re_tg {f f' : Sy} (hN : N ≤ 11) (O : okS N g) (R : repC f g) (he : e < 6) (hJ : J.length ≤ 6) (c1 : f' 1 = nI (bts 6 (tl (tlG g e J)))) (c2 : f' (14 + e) = nI J.length) (c3 : f' (20 + e) = jshl 1 (nI J.length) - 1) (c4 : ∀ i, i < J.length → ∀ w, w < 4 → f' (26 + 24 * e + (4 * i + w)) = nI (rc (J.getD i r0) w)) (c5 : ∀ j, j < 170 → j ≠ 1 → j ≠ 14 + e → j ≠ 20 + e → ¬ (26 + 24 * e ≤ j ∧ j < 50 + 24 * e) → f' j = f j) : repC f' (tlG g e J) := by
  have hno := O.2.1.2
  have e1 : tlG g e J 1 = g 1 := tg_h hJ (by omega) (by omega)
  refine ⟨?_, ?_, c1, fun o ho => ?_, fun e' he' => ⟨?_, ?_⟩, fun e' he' i' hi' w hw => ?_⟩
  · rw [c5 0 (by omega) (by omega) (by omega) (by omega) (by omega), tg_h hJ (by omega) (by omega)]; exact R.1
  · rw [c5 2 (by omega) (by omega) (by omega) (by omega) (by omega), e1]; exact R.2.1
  · rw [v_no e1] at ho
    rw [c5 (3 + o) (by omega) (by omega) (by omega) (by omega) (by omega), v_cd (fun j hj => tg_h hJ (by omega) (by omega))]
    exact R.2.2.2.1 o ho
  · rw [tg_mn hJ he he']
    by_cases h : e' = e
    · rw [if_pos h, h]; exact c2
    · rw [if_neg h, c5 (14 + e') (by omega) (by omega) (by omega) (by omega) (by omega)]; exact (R.2.2.2.2.1 e' he').1
  · by_cases h : e' = e
    · subst h
      rw [c3, bm6 _ hJ]
      exact congrArg nI (bts_cg (fun i hi => (tg_inn hJ he hi).symm))
    · rw [c5 (20 + e') (by omega) (by omega) (by omega) (by omega) (by omega), (R.2.2.2.2.1 e' he').2]
      exact congrArg nI (bts_cg (fun i hi => (v_inn (tg_h hJ (by omega) (by omega)) (tg_h hJ (by omega) (by omega))).symm))
  · rw [tg_mn hJ he he'] at hi'
    by_cases h : e' = e
    · rw [if_pos h] at hi'
      subst h
      rw [tl_c hi' (by omega) he, if_neg (by omega), ← c4 i' hi' w hw]
      exact congrArg f' (by omega)
    · rw [if_neg h] at hi'
      have hm2 := (O.2.2.2.1 e' he').2
      rw [tg_h hJ (by omega) (by omega), c5 _ (by omega) (by omega) (by omega) (by omega) (by omega)]
      exact R.2.2.2.2.2 e' he' i' hi' w hw
theorem cp_to (s : gS) (src dst dp n : Nat) {k : Nat} : (cpI s src 0 dst dp n).1 dst k = if dp ≤ k ∧ k < dp + n then s.1 src (k - dp) else s.1 dst k := by
  show (if dst = dst then va_cpy (s.1 src) (s.1 dst) 0 dp n else s.1 dst) k = _
  rw [if_pos rfl]
  show (if dp ≤ k ∧ k < dp + n then s.1 src (0 + (k - dp)) else s.1 dst k) = _
  rw [Nat.zero_add]
theorem c_tell (hN : N ≤ 11) (O : okS N g) (R : repC (s.1 21) g) (he : e < 6) (F : FD J s) (hJ : J.length ≤ 6) (k : ∀ s', fR (fun a => a == 21) s s' → repC (s'.1 21) (tlG g e J) → Q' s') : wpX8_tell 20 (nI e) 10 s Q' := by
  have q1 : gi s 10 1 = nI J.length := by
    rw [show gi s 10 1 = nI (min 6 J.length) from F.1]
    exact congrArg nI (by omega)
  have gg : ∀ (q : gS) i v, gi (wi q (20 + 1) i v) 10 1 = gi q 10 1 := fun q i v => by
    show (wi q 21 i v).1 10 1 = q.1 10 1
    rw [wi_na _ _ _ _ (by decide)]
  unfold wpX8_tell
  simp only [gg]
  have e1 : 14 + nI e = nI (14 + e) := nI_add 14 e
  have e2 : 20 + nI e = nI (20 + e) := nI_add 20 e
  have e3 : 26 + nI e * 24 = nI (26 + 24 * e) := by
    rw [show (24 : Int32) = nI 24 from rfl, nI_mul, show (26 : Int32) = nI 26 from rfl, n4a]
    exact congrArg nI (by omega)
  have e4 : ix 24 = 24 := by decide
  have e5 : ix 0 = 0 := by decide
  have e6 : gi s (20 + 1) 1 ||| jshl 1 (nI e) = nI (bts 6 (tl (tlG g e J))) := by
    rw [show gi s (20 + 1) 1 = nI (bts 6 (tl g)) from R.2.2.1, bor6 he]
    exact congrArg nI (bts_cg (fun i hi => (tg_tl hJ he hi).symm))
  rw [q1, e1, e2, e3, e4, e5, e6, ix_nI (by omega), ix_nI (by omega), ix_nI (by omega)]
  refine ⟨fun c => absurd c (nI_nn (by omega)), fun _ => ⟨fun c => ?_, fun _ => ⟨vp_in_nI (by omega) (by decide), vp_in_nI (by omega) (by decide), nI_nn (by omega), by omega, ?_⟩⟩⟩
  · rw [ge6 he] at c
    exact c.elim
  · refine k _ (fR.tr (fR_wi (by simp)) (fR.tr (fR_wi (by simp)) (fR.tr (fR_wi (by simp)) (fR_cp (by simp))))) (re_tg hN O R he hJ ?_ ?_ ?_ (fun i hi w hw => ?_) (fun j h1 h2 h3 h4 h5 => ?_))
    · rw [cp_to, if_neg (by omega), wi_ne _ _ _ _ (by omega), wi_ne _ _ _ _ (by omega), wi_at]
    · rw [cp_to, if_neg (by omega), wi_ne _ _ _ _ (by omega), wi_at]
    · rw [cp_to, if_neg (by omega), wi_at]
    · rw [cp_to, if_pos (by omega), wi_na _ _ _ _ (by decide), wi_na _ _ _ _ (by decide), wi_na _ _ _ _ (by decide), show 26 + 24 * e + (4 * i + w) - (26 + 24 * e) = 4 * i + w by omega]
      exact F.2.2 i (by omega) hi w hw
    · rw [cp_to, if_neg (by omega), wi_ne _ _ _ _ (by omega), wi_ne _ _ _ _ (by omega), wi_ne _ _ _ _ (by omega)]
/-- the reference writes the readings -/
theorem HP.c8 (h : HP J s) (f : fm [178] [] s s') : HP J s' := by
  refine ⟨by rw [f.2.1 14 (by decide)]; exact h.1, fun i hi j hj => ?_⟩
  rw [f.1 181 (by decide) (by decide)]
  exact h.2 i hi j hj
theorem pl_n {i : Nat} : 8 + 5 * (6 * nI e + nI i) = nI (8 + 30 * e + 5 * i) := by
  simp only [lit_i, nI_i, iI_add, iI_mul]
  congr 1
  simp
  omega
theorem m_place {i : Nat} : wpX12_place (nI e) (nI i) s Q = Q (nI (8 + 30 * e + 5 * i)) s := by
  unfold wpX12_place
  rw [pl_n]
theorem m_wr {gas : Nat} {x2 : Int32} (he : e < 6) (hJ : J.length ≤ 6) (k : ∀ s', fm [178] [] s s' → s'.1 178 = tlG g e J → Q (nI J.length) s') : ∀ m i s1, i + m = J.length → HP J s1 → fm [178] [] s s1 → s1.1 178 = tlQ g e J (5 * i) → wX12_tells_219 (nI e) x2 Q (m + 1) gas (nI i) s1 := by
  intro m
  induction m with
  | zero =>
    intro i s1 hi h f hg
    have : i = J.length := by omega
    subst this
    rw [wX12_tells_219, show gi s1 177 14 = nI J.length from h.1]
    exact ⟨fun _ => k s1 f hg, fun hc => absurd (nI_le (Nat.le_refl _) (by omega)) hc⟩
  | succ m ih =>
    intro i s1 hi h f hg
    rw [wX12_tells_219, show gi s1 177 14 = nI J.length from h.1]
    refine ⟨fun hc => ?_, fun _ => ⟨5, ?_⟩⟩
    · rw [nI_leI (by omega) (by omega)] at hc
      omega
    have Li : ∀ m' w s2, w + m' = 4 → HP J s2 → fm [178] [] s s2 → s2.1 178 = tlQ g e J (5 * i + w) → wX12_tells_231 (nI e) x2 Q (fun g y4 s => wX12_tells_219 (nI e) x2 Q (m + 1) g y4 s) (m' + 1) gas (nI i) (nI w) s2 := by
      intro m'
      induction m' with
      | zero =>
        intro w s2 hw h2 f2 g2
        have : w = 4 := by omega
        subst this
        rw [wX12_tells_231, m_place]
        have e4 : nI (8 + 30 * e + 5 * i) + 4 = nI (8 + 30 * e + (5 * i + 4)) := by
          rw [show (4 : Int32) = nI 4 from rfl, n4a]
          exact congrArg nI (by omega)
        rw [e4, ix_nI (by omega), nI_1 i]
        refine ⟨fun _ => ⟨vp_in_nI (by omega) (by decide), ?_⟩, fun hc => absurd (by decide) hc⟩
        have f3 : fm [178] [] s2 (wi s2 178 (8 + 30 * e + (5 * i + 4)) 1) := fm_wi (by decide) (by decide)
        refine ih (i + 1) _ (by omega) (h2.c8 f3) (f2.tr f3) ?_
        rw [wi_up, g2, show 5 * (i + 1) = 5 * i + 4 + 1 by omega, tl_s (n := 5 * i + 4), if_neg (by omega)]
        unfold tcl
        rw [if_pos (by omega)]
      | succ m' ihw =>
        intro w s2 hw h2 f2 g2
        rw [wX12_tells_231, m_place, m_place, m_h h2 (by omega) (by omega) (show w < 4 by omega) rfl, n4a, ix_nI (by omega), nI_1 w]
        refine ⟨fun hc => ?_, fun _ => ⟨vp_in_nI (by omega) (by decide), ?_⟩⟩
        · rw [show (4 : Int32) = nI 4 from rfl, nI_leI (by decide) (by omega)] at hc
          omega
        have f3 : fm [178] [] s2 (wi s2 178 (8 + 30 * e + 5 * i + w) (nI (rc (J.getD i r0) w))) := fm_wi (by decide) (by decide)
        refine ihw (w + 1) _ (by omega) (h2.c8 f3) (f2.tr f3) ?_
        rw [wi_up, g2, show 5 * i + (w + 1) = 5 * i + w + 1 by omega, tl_s (n := 5 * i + w), if_neg (by omega), show 8 + 30 * e + (5 * i + w) = 8 + 30 * e + 5 * i + w by omega]
        unfold tcl
        rw [if_neg (by omega), show (5 * i + w) % 5 = w by omega, show (5 * i + w) / 5 = i by omega]
    exact Li 4 0 s1 rfl h f hg
theorem m_of3 {b i w : Nat} {x : Int32} (M : s.1 178 = g) (h : b < 6) (hi : i < 6) (hw : w < 5) (hx : x = nI w) : wpX12_of (nI b) (nI i) x s Q = Q (iI (vl g b i w)) s := by
  subst hx
  exact m_ofv M h hi hw
theorem HP.set {A : List Rd} {x y : Rd} (h : HP (A ++ x :: R) s) (e1 : y.1 = x.1) (e2 : y.2.1 = x.2.1) (e3 : y.2.2.1 = x.2.2.1) : HP (A ++ y :: R) (wi s 181 (4 * A.length + 3) (nI y.2.2.2)) := by
  refine ⟨?_, fun i hi j hj => ?_⟩
  · rw [wi_na _ _ _ _ (by decide), h.1, List.length_append, List.length_append]
    rfl
  · have hi' : i < (A ++ x :: R).length := by
      rw [List.length_append] at hi ⊢
      exact hi
    have hv := h.2 i hi' j hj
    by_cases c : i = A.length
    · subst c
      have ex : (A ++ x :: R).getD A.length r0 = x := by rw [gD_ap, if_neg (by omega), Nat.sub_self]; rfl
      have ey : (A ++ y :: R).getD A.length r0 = y := by rw [gD_ap, if_neg (by omega), Nat.sub_self]; rfl
      rw [ex] at hv
      rw [ey]
      by_cases c3 : j = 3
      · subst c3
        rw [wi_at]
        rfl
      · rw [wi_ne _ _ _ _ (by omega), hv]
        have : j = 0 ∨ j = 1 ∨ j = 2 := by omega
        rcases this with rfl | rfl | rfl
        · show nI x.1 = nI y.1; rw [e1]
        · show nI x.2.1 = nI y.2.1; rw [e2]
        · show nI x.2.2.1 = nI y.2.2.1; rw [e3]
    · rw [wi_ne _ _ _ _ (by omega), hv, gD_ap, gD_ap]
      by_cases c2 : i < A.length
      · rw [if_pos c2, if_pos c2]
      · rw [if_neg c2, if_neg c2]
        obtain ⟨q, hq⟩ : ∃ q, i - A.length = q + 1 := ⟨i - A.length - 1, by omega⟩
        rw [hq]
        rfl
theorem m_cap {b i c gas : Nat} {x1 : Int32} {k89 : Nat → Int32 → gS → Prop} (M : s.1 178 = g) (hb : b < 6) (hi : i < 6) (hc : vl g b i 3 = (c : Int)) (hc3 : c ≤ 3) : ∀ R A s1, fm [181] [] s s1 → HP (A ++ R) s1 → okV R → (A ++ R).length ≤ 1000 → (∀ s', fm [181] [] s s' → HP (A ++ R.map (mw c)) s' → k89 gas (nI (i + 1)) s') → wX12_tells_136 x1 (nI b) Q k89 (R.length + 1) gas (nI i) (nI A.length) s1 := by
  intro R
  induction R with
  | nil =>
    intro A s1 f h ok hl k
    rw [List.append_nil] at h
    rw [List.length_nil, wX12_tells_136, show gi s1 177 14 = nI A.length from h.1, nI_1 i]
    exact ⟨fun _ => k s1 f (by rw [List.map_nil, List.append_nil]; exact h), fun hcc => absurd (nI_le (Nat.le_refl _) (by rw [List.append_nil] at hl; omega)) hcc⟩
  | cons x R ih =>
    intro A s1 f h ok hl k
    have okx := ok x (by simp)
    have hlen : (A ++ x :: R).length = A.length + (R.length + 1) := by rw [List.length_append, List.length_cons]
    have M1 : s1.1 178 = g := by rw [f.1 178 (by decide) (by decide)]; exact M
    have ex : (A ++ x :: R).getD A.length r0 = x := by rw [gD_ap, if_neg (by omega), Nat.sub_self]; rfl
    have z3 : 4 * nI A.length + 3 = nI (4 * A.length + 3) := by rw [four_n]; exact n4a _ 3
    rw [List.length_cons, wX12_tells_136, show gi s1 177 14 = nI (A ++ x :: R).length from h.1]
    refine ⟨fun hcc => ?_, fun _ => ?_⟩
    · rw [nI_leI (by omega) (by omega)] at hcc
      omega
    rw [m_h (x := 3) (j := 3) h (by omega) (by omega) (by decide) rfl, ex, m_of3 (x := 3) (w := 3) M1 hb hi (by decide) rfl, hc, ← nI_i, show rc x 3 = x.2.2.2 from rfl, min_n (by have := okx.2.2.2; omega) (by omega), z3, ix_nI (by omega), nI_1 A.length]
    refine ⟨vp_in_nI (by omega) (by decide), ?_⟩
    have h2 : HP (A ++ mw c x :: R) (wi s1 181 (4 * A.length + 3) (nI (min x.2.2.2 c))) := h.set (y := mw c x) rfl rfl rfl
    have e2 : A ++ mw c x :: R = (A ++ [mw c x]) ++ R := by rw [List.append_assoc]; rfl
    rw [e2] at h2
    have := ih (A ++ [mw c x]) _ (f.tr (fm_wi (by decide) (by decide))) h2 (fun w hw => ok w (by simp [hw])) (by rw [← e2, List.length_append, List.length_cons]; omega) (fun s' f' h' => k s' f' (by
      rw [List.append_assoc] at h'
      exact h'))
    rw [List.length_append] at this
    exact this
end TELL
