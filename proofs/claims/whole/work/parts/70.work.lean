/-! work: the class -/
section WORK
variable {t : List Nat} {L : List Int32} {g g' : Sy} {us us' : List Sy} {ks : Nat → Option Sy} {s s' : gS} {K : gS → Prop} {Q : Int32 → gS → Prop}
/-- what an act may do: the story and the solver -/
def aD (a : Nat) : Bool := a == 0 || a == 21 || (decide (38 ≤ a) && decide (a < 88))
theorem sD_a : ∀ a, aD a = false → sD a = false := by
  intro a ha
  unfold aD at ha
  unfold sD
  simp at ha ⊢
  omega
theorem e21_a : ∀ a, aD a = false → (a == 21) = false := by
  intro a ha
  unfold aD at ha
  simp at ha ⊢
  omega
theorem c_act {p : Nat} (ht : okT t) (T : txC t s) (U : okU g) (R : repC (s.1 (20 + 1)) g) (V : CV g s) (hp : p < t.length) (k0 : acP t g p = none → ∀ r s', r < 0 → fR aD s s' → (∀ j, j ≠ 13 → s'.1 0 j = s.1 0 j) → repC (s'.1 (20 + 1)) g → Q r s') (k1 : ∀ g', acP t g p = some g' → ∀ r s', ¬ r < 0 → fR aD s s' → (∀ j, j ≠ 13 → s'.1 0 j = s.1 0 j) → repC (s'.1 (20 + 1)) g' → Q r s') : wpX11_act (nI p) s Q := by
  have O := U.1
  have h80 := ht.1
  have hno := O.2.1.2
  unfold wpX11_act
  have e1 : nI p + 1 = nI (p + 1) := nI_1 p
  have e2 : nI p + 2 = nI (p + 2) := nI_add p 2
  have e3 : nI p + 3 = nI (p + 3) := nI_add p 3
  have e4 : nI p + 4 = nI (p + 4) := nI_add p 4
  rw [e1, e2, e3, e4, c_digitAt ht T (by omega), c_digitAt ht T (by omega), c_digitAt ht T (by omega), c_signAt ht T hp]
  have ha := dg_lt t (p + 1)
  have hb := dg_lt t (p + 2)
  have hd := dg_lt t (p + 3)
  have he := dg_lt t (p + 4)
  have hc := sg_lt ht p
  unfold acP at k0 k1
  generalize hA : dg t (p + 1) = a at *
  generalize hB : dg t (p + 2) = b at *
  generalize hD : dg t (p + 3) = d at *
  generalize hE : dg t (p + 4) = e at *
  generalize hC : sg t p = c at *
  have z : ∀ k : Nat, k < 256 → (nI c = nI k) = (c = k) := fun k hk => by rw [nI_eq (by omega) (by omega)]
  have f0 : fR aD s s := fR.rf
  have st : ∀ s', fR (fun c => c == 20 + 1) s s' → fR aD s s' ∧ (∀ j, j ≠ 13 → s'.1 0 j = s.1 0 j) := fun s' f => ⟨f.mono e21_a, fun j _ => by rw [f.1 0 rfl]⟩
  rw [show (100 : Int32) = nI 100 from rfl, show (102 : Int32) = nI 102 from rfl, show (103 : Int32) = nI 103 from rfl, show (105 : Int32) = nI 105 from rfl, show (110 : Int32) = nI 110 from rfl, show (111 : Int32) = nI 111 from rfl, show (114 : Int32) = nI 114 from rfl, z 100 (by decide), z 102 (by decide), z 103 (by decide), z 105 (by decide), z 110 (by decide), z 111 (by decide), z 114 (by decide)]
  refine ⟨fun h => ?_, fun h => ?_, fun h => ?_, fun h => ?_, fun h => ?_, fun h => ?_, fun h => ?_, fun n1 n2 n3 n4 n5 n6 n7 => ?_⟩
  · subst h
    by_cases ha6 : a < 6
    · refine c_drop (by decide) O R ha6 (fun h => k0 (by simp [ac1, h]) _ s (by decide) f0 (fun _ _ => rfl) R) (fun h s' f R' => k1 (drG g a) (by simp [ac1, h, ha6]) _ s' (nI_nn (by have := cnt_le 6 (tl (drG g a)); omega)) (st s' f).1 (st s' f).2 R')
    · exact c_drop0 (Or.inr (by rw [show (6 : Int32) = nI 6 from rfl]; exact nI_le (by omega) (by omega))) (k0 (by simp [ac1, ha6]) _ s (by decide) f0 (fun _ _ => rfl) R)
  · subst h
    rw [c_digitAt ht T (by omega), hE]
    have e5 : nI a * 1000 + nI b * nI 100 + nI d * 10 + nI e = iI ((a * 1000 + b * 100 + d * 10 + e : Nat) : Int) := by
      simp only [lit_i, nI_i, iI_add, iI_mul]
      congr 1
    rw [e5]
    refine c_changeRef O R (by omega) (by omega) (fun h => absurd (by omega) h) (fun _ h => k0 (by simp [ac1, h, nI_i]) _ s (by decide) f0 (fun _ _ => rfl) R) (fun _ h s' f R' => k1 (up g 0 (nI (a * 1000 + b * 100 + d * 10 + e))) ?_ _ s' ?_ (st s' f).1 (st s' f).2 (by rw [nI_i]; exact R'))
    · rw [← nI_i] at h
      simp [ac1, h]
    · intro hlt
      have := Int32.lt_iff_toInt_lt.mp hlt
      have h5 : (0 : Int32).toInt = 0 := rfl
      have := O.1
      omega
  · subst h
    by_cases han : a < no g
    · exact c_removeOrder O R han (fun s' f R' => k1 (rmO g a) (by simp [ac1, han]) _ s' (nI_nn (by omega)) (st s' f).1 (st s' f).2 R')
    · exact c_removeOrder0 O R (Or.inr (nI_le (by omega) (by omega))) (k0 (by simp [ac1, han]) _ s (by decide) f0 (fun _ _ => rfl) R)
  · subst h
    show wpX8_ruleOut 20 (nI a) (nI b) (bi false) s _
    by_cases hr : a < 6 ∧ b < mn g a
    · refine c_ruleOut (by decide) O R hr.1 hr.2 (fun h => k0 (by simp [ac1, hr]; simpa using h) _ s (by decide) f0 (fun _ _ => rfl) R) (fun h s' f R' => k1 (ruG g a b true) (by simp [ac1, hr, h]) _ s' (nI_nn (by have := cnt_le 6 (inn (ruG g a b (!false)) a); omega)) (st s' f).1 (st s' f).2 R')
    · refine c_ruleOut0 R ?_ (k0 (by
        have : ¬ (a < 6 ∧ b < mn g a ∧ inn g a b = false) := fun h => hr ⟨h.1, h.2.1⟩
        simp only [ac1]
        simp [this]) _ s (by decide) f0 (fun _ _ => rfl) R)
      by_cases ha6 : a < 6
      · refine Or.inr ⟨a, ha6, rfl, ?_⟩
        rw [hs_nI O ha6 (by omega)]
        simp
        have : ¬ b < mn g a := fun h => hr ⟨ha6, h⟩
        omega
      · exact Or.inl (Or.inr (by rw [show (6 : Int32) = nI 6 from rfl]; exact nI_le (by omega) (by omega)))
  · subst h
    refine c_solved O R V (fun s1 f1 g1 v1 S1 => ?_)
    have R1 : repC (s1.1 (20 + 1)) g := by rw [f1.1 (20 + 1) rfl]; exact R
    have hn6 := nOut_le (g := g) 6
    refine c_keepOnly (by decide) O R1 S1 (fun h => k0 (by simp [ac1, h]) _ s1 (by decide) (f1.mono sD_a) g1 R1) (fun h s2 f2 R2 => ?_)
    have f3 : fR aD s s2 := (f1.mono sD_a).tr (f2.mono e21_a)
    have g3 : ∀ j, j ≠ 13 → s2.1 0 j = s.1 0 j := fun j hj => by rw [f2.1 0 rfl, g1 j hj]
    by_cases h0 : nOut g 6 = 0
    · rw [if_pos h0]
      rw [nOut_0 O h0] at R2
      exact k0 (by simp [ac1, h0]) _ s2 (by decide) f3 g3 R2
    · rw [if_neg h0]
      exact k1 (naG g) (by simp [ac1, h0, h]) _ s2 (nI_nn (by omega)) f3 g3 R2
  · subst h
    show wpX8_addOrder 20 (nI a) (nI b) (nI d) (nI 10) s _
    by_cases hv : a < 5 ∧ b < 6 ∧ d < 6 ∧ b ≠ d
    · refine c_addOrder O (Nat.le_refl _) (by decide) R hv.1 hv.2.1 hv.2.2.1 hv.2.2.2 (fun h => k0 ?_ _ s (by decide) f0 (fun _ _ => rfl) R) (fun h h10 => k0 ?_ _ s (by decide) f0 (fun _ _ => rfl) R) (fun h h9 s' f R' => k1 (adO g a b d) ?_ _ s' (nI_nn (by omega)) (st s' f).1 (st s' f).2 R')
      · have := exB_iff.mpr h
        simp [ac1, this]
      · simp [ac1, h10]
      · have : exB g a b d = false := by
          cases he : exB g a b d with
          | false => rfl
          | true => exact absurd (exB_iff.mp he) h
        simp [ac1, this, h9, hv]
    · refine c_addOrder0 ?_ (k0 ?_ _ s (by decide) f0 (fun _ _ => rfl) R)
      · rcases o_or (nI a) (nI b) (nI d) with ⟨k, x, y, hk, hx, hy, hxy, q1, q2, q3⟩ | hbad
        · exfalso
          rw [nI_eq (by omega) (by omega)] at q1 q2 q3
          exact hv (by omega)
        · exact hbad
      · have : ¬ (a < 5 ∧ b < 6 ∧ d < 6 ∧ b ≠ d ∧ exB g a b d = false ∧ no g < 10) := fun h => hv ⟨h.1, h.2.1, h.2.2.1, h.2.2.2.1⟩
        unfold ac1
        rw [if_neg (by decide), if_neg (by decide), if_neg (by decide), if_neg (by decide), if_neg (by decide), if_pos rfl, if_neg this]
  · subst h
    show wpX8_ruleOut 20 (nI a) (nI b) (bi true) s _
    by_cases hr : a < 6 ∧ b < mn g a
    · refine c_ruleOut (by decide) O R hr.1 hr.2 (fun h => k0 (by simp [ac1, hr]; simpa using h) _ s (by decide) f0 (fun _ _ => rfl) R) (fun h s' f R' => k1 (ruG g a b false) (by simp [ac1, hr, h]) _ s' (nI_nn (by have := cnt_le 6 (inn (ruG g a b (!true)) a); omega)) (st s' f).1 (st s' f).2 R')
    · refine c_ruleOut0 R ?_ (k0 (by
        have : ¬ (a < 6 ∧ b < mn g a ∧ inn g a b = true) := fun h => hr ⟨h.1, h.2.1⟩
        simp only [ac1]
        simp [this]) _ s (by decide) f0 (fun _ _ => rfl) R)
      by_cases ha6 : a < 6
      · refine Or.inr ⟨a, ha6, rfl, ?_⟩
        rw [hs_nI O ha6 (by omega)]
        simp
        have : ¬ b < mn g a := fun h => hr ⟨ha6, h⟩
        omega
      · exact Or.inl (Or.inr (by rw [show (6 : Int32) = nI 6 from rfl]; exact nI_le (by omega) (by omega)))
  · refine k0 ?_ _ s (by decide) f0 (fun _ _ => rfl) R
    simp [ac1, n1, n2, n3, n4, n5, n6, n7]
/-- the acts one behind another: the story, how many were done, whether one failed -/
def wex (t : List Nat) : Nat → Nat → Sy → Nat → Sy × Nat × Nat
  | 0, _, g, d => (g, d, 0)
  | n + 1, p, g, d => if t.length ≤ p then (g, d, 0) else match acP t g p with
    | none => (g, d, 1)
    | some g' => wex t n (p + 1 + (dgN (sg t p)).getD 0) g' (d + 1)
theorem wex_len {n p d : Nat} (h : t.length ≤ p) : wex t n p g d = (g, d, 0) := by
  cases n with
  | zero => rfl
  | succ n => rw [wex, if_pos h]
def wD (a : Nat) : Bool := a == 0 || a == 21 || a == 24 || (decide (38 ≤ a) && decide (a < 88))
theorem aD_w : ∀ a, wD a = false → aD a = false := by
  intro a ha
  unfold wD at ha
  unfold aD
  simp at ha ⊢
  omega
theorem e24_w : ∀ a, wD a = false → (a == 24) = false := by
  intro a ha
  unfold wD at ha
  simp at ha ⊢
  omega
def wU (us : List Sy) (g : Sy) (d : Nat) : List Sy := if d = 0 then us else pushU us g
/-- what work leaves in the class -/
theorem C_work (A : okA t L g us ks) (C : CI t L g us ks s) (k0 : flt t t.length 0 0 ≠ -1 → ∀ s', clF s s' → CI [] L g us ks s' → Q (iI (-1 - flt t t.length 0 0)) s') (k1 : flt t t.length 0 0 = -1 → ∀ h d f s', wex t 80 0 g 0 = (h, d, f) → clF s s' → CI [] [nI f, nI (chs h).length] h (wU us g d) ks s' → Q (nI d) s') : wpX11_work s Q := by
  have ht := A.1
  have h80 := ht.1
  have O := A.2.2.1.1
  refine c_fault ht C.1 ?_
  have hfb : -1 ≤ flt t t.length 0 0 ∧ flt t t.length 0 0 ≤ 1000 := by
    have : ∀ n c p, -1 ≤ flt t n c p ∧ flt t n c p ≤ (p : Int) + n := by
      intro n
      induction n with
      | zero => intro c p; rw [flt]; split <;> omega
      | succ n ih =>
        intro c p
        rw [flt]
        split
        · split
          · omega
          · rename_i x k' heq; have := ih k' (p + 1); omega
        · split
          · have := ih (c - 1) (p + 1); omega
          · omega
    have := this t.length 0 0
    omega
  have hz : (iI (flt t t.length 0 0) = -1) = (flt t t.length 0 0 = -1) := by
    rw [show (-1 : Int32) = iI (-1) from rfl, iI_eq (by omega) (by omega) (by decide) (by decide)]
  rw [hz]
  refine ⟨fun hf => ?_, fun hf => ?_⟩
  · refine c_save O C.2.2.1 (fun s1 f1 R1 => ⟨82, ?_⟩)
    -- what stands at the end
    have fin : ∀ (h : Sy) (d f : Nat) (s2 : gS), wex t 80 0 g 0 = (h, d, f) → f ≤ 1 → d ≤ 80 → okU h → (d = 0 → h = g) → fR wD s s2 → (∀ j, j ≠ 13 → s2.1 0 j = s.1 0 j) → s2.1 24 = s1.1 24 → repC (s2.1 21) h → CV h s2 → wX11_work_109 Q (nI d) (nI f) s2 := by
      intro h d f s2 hw hf1 hd Uh hdz F G H24 R2 V2
      have last : ∀ s3 : gS, clF s s3 → txC [] s3 → repC (s3.1 21) h → CV h s3 → PC (wU us g d) s3 → (∀ j, j ≠ 13 → s3.1 0 j = s.1 0 j) → s3.1 36 = s.1 36 → s3.1 37 = s.1 37 → s3.2 = s.2 → wX11_work_126 Q (nI d) (nI f) s3 := by
        intro s3 cf T3 R3 V3 P3 G3 h36 h37 hs2
        unfold wX11_work_126
        refine c_clear (fun s4 f4 R4 => c_add R4 (by simp) (fun s5 f5 R5 => ?_))
        have f45 := f4.tr f5
        refine c_solved Uh.1 (by rw [f45.1 21 rfl]; exact R3) (rD_v f45 V3) (fun s6 f6 g6 v6 S6 => ?_)
        rw [show gi s6 38 8 = nI (chs h).length from S6.1]
        refine c_add (sD_r f6 R5) (by simp) (fun s7 f7 R7 => ?_)
        have ne : ∀ a, a ≠ 0 → a ≠ 18 → a ≠ 19 → ¬ (38 ≤ a ∧ a < 88) → s7.1 a = s3.1 a := fun a h1 h2 h3 h4 => by
          rw [f7.1 a (by unfold rD; simp; omega), f6.1 a (by unfold sD; simp; omega), f45.1 a (by unfold rD; simp; omega)]
        have n0 : ∀ j, j ≠ 13 → s7.1 0 j = s3.1 0 j := fun j hj => by rw [f7.1 0 rfl, g6 j hj, f45.1 0 rfl]
        have n2 : s7.2 = s3.2 := by rw [f7.2, f6.2, f45.2]
        refine k1 hf h d f s7 hw ⟨fun a ha => by rw [ne a (by omega) (by omega) (by omega) (by omega)]; exact cf.1 a ha, fun a ha => by rw [n2]; exact cf.2 a ha⟩ ⟨⟨?_, fun i hi => by cases hi⟩, R7, ?_, ?_, P3.cg (ne 25 (by omega) (by omega) (by omega) (by omega)) (fun a h1 h2 => ne a (by omega) (by omega) (by omega) (by omega)), ⟨?_, fun i hi u hu => ?_⟩, ?_⟩
        · show s7.1 1 1 = _; rw [ne 1 (by omega) (by omega) (by omega) (by omega)]; exact T3.1
        · rw [ne 21 (by omega) (by omega) (by omega) (by omega)]; exact R3
        · exact rD_v f7 (CV1 v6 S6)
        · rw [n0 9 (by decide), G3 9 (by decide)]; exact C.2.2.2.2.2.1.1
        · rw [ne _ (by omega) (by omega) (by omega) (by omega)]
          have : i = 0 ∨ i = 1 := by omega
          rcases this with rfl | rfl
          · rw [h36]; exact C.2.2.2.2.2.1.2 0 (by omega) u hu
          · rw [h37]; exact C.2.2.2.2.2.1.2 1 (by omega) u hu
        · unfold gP gt1 gt2 gt3
          rw [n2, hs2]
          exact C.2.2.2.2.2.2
      unfold wX11_work_109 wpX9_clear
      have hd0 : (nI d ≤ 0) = (d ≤ 0) := by rw [show (0 : Int32) = nI 0 from rfl, nI_leI (by omega) (by decide)]
      have PF : PC us (wi s2 1 1 0) := C.2.2.2.2.1.cg (by rw [wi_na _ _ _ _ (by decide), F.1 25 rfl]) (fun a h1 h2 => by rw [wi_na _ _ _ _ (by omega), F.1 a (by unfold wD; simp; omega)])
      have cF : clF s (wi s2 1 1 0) := ⟨fun a ha => by rw [wi_na _ _ _ _ (by omega), F.1 a (by unfold wD; simp; omega)], fun a _ => by
        show s2.2.1 a = _
        rw [F.2]⟩
      dsimp only
      rw [hd0]
      refine ⟨fun hdl => ?_, fun hdl => ?_⟩
      · have : wU us g d = us := by unfold wU; rw [if_pos (by omega)]
        refine last _ cF ⟨wi_at _ _ _ _, fun i hi => by cases hi⟩ (by rw [wi_na _ _ _ _ (by decide)]; exact R2) (V2.cg (wi_na _ _ _ _ (by decide)) (fun a h1 h2 => wi_na _ _ _ _ (by omega))) (by rw [this]; exact PF) (fun j hj => by rw [wi_na _ _ _ _ (by decide)]; exact G j hj) (by rw [wi_na _ _ _ _ (by decide), F.1 36 rfl]) (by rw [wi_na _ _ _ _ (by decide), F.1 37 rfl]) F.2
      · have : wU us g d = pushU us g := by unfold wU; rw [if_neg (by omega)]
        refine c_recorded (us := us) (g := g) (nI_nn (by omega)) O A.2.2.2.1 A.2.2.2.2.1 PF (by rw [wi_na _ _ _ _ (by decide), H24]; exact R1) (fun s3 f3 g3 v3 P3 => ?_)
        refine last s3 ⟨fun a ha => by rw [f3.1 a (by unfold pD; simp; omega)]; exact cF.1 a ha, fun a ha => by rw [f3.2]; exact cF.2 a ha⟩ ⟨?_, fun i hi => by cases hi⟩ (by rw [f3.1 21 rfl, wi_na _ _ _ _ (by decide)]; exact R2) (Or.inl v3) (by rw [this]; exact P3) (fun j hj => by rw [g3 j hj, wi_na _ _ _ _ (by decide)]; exact G j hj) (by rw [f3.1 36 rfl, wi_na _ _ _ _ (by decide), F.1 36 rfl]) (by rw [f3.1 37 rfl, wi_na _ _ _ _ (by decide), F.1 37 rfl]) (by rw [f3.2]; exact F.2)
        show s3.1 1 1 = _
        rw [f3.1 1 rfl, wi_at]
        rfl
    have Lp : ∀ r i, i + r = 81 → ∀ (p : Nat) (h : Sy) (d : Nat) (s2 : gS), i ≤ p → i ≤ 80 → d ≤ i → p ≤ t.length → okU h → (d = 0 → h = g) → flt t (t.length - p) 0 p = -1 → wex t (80 - i) p h d = wex t 80 0 g 0 → fR wD s s2 → (∀ j, j ≠ 13 → s2.1 0 j = s.1 0 j) → s2.1 24 = s1.1 24 → repC (s2.1 21) h → CV h s2 → wX11_work_35 Q (r + 1) (nI d) 0 (nI p) (nI i) s2 := by
      intro r
      induction r with
      | zero => intro i hi p h d s2 h1 h2; omega
      | succ r ih =>
        intro i hi p h d s2 h1 h2 hdi hpl Uh hdz hfl hw F G H24 R2 V2
        have T2 : txC t s2 := ⟨by show s2.1 1 1 = _; rw [F.1 1 rfl]; exact C.1.1, fun j hj => by show s2.1 2 j = _; rw [F.1 2 rfl]; exact C.1.2 j hj⟩
        have stop : t.length ≤ p → wX11_work_109 Q (nI d) 0 s2 := fun hp => fin h d 0 s2 (by rw [← hw, wex_len hp]) (by decide) (by omega) Uh hdz F G H24 R2 V2
        rw [wX11_work_35, show gi s2 1 1 = nI t.length from T2.1]
        refine ⟨fun h8 => stop (by
          rw [show (80 : Int32) = nI 80 from rfl, nI_leI (by decide) (by omega)] at h8
          omega), fun h8 => ?_⟩
        have hi80 : i < 80 := by
          rw [show (80 : Int32) = nI 80 from rfl, nI_leI (by decide) (by omega)] at h8
          omega
        rw [nI_leI (by omega) (by omega)]
        refine ⟨stop, fun hp => ⟨fun h => absurd rfl h, fun _ => ?_⟩⟩
        rw [show 80 - i = (80 - (i + 1)) + 1 by omega, wex, if_neg hp] at hw
        rw [show t.length - p = (t.length - p - 1) + 1 by omega] at hfl
        obtain ⟨kk, q1, q2, q3, q4⟩ := flt_act hfl
        have hk4 := dgN_le q1
        -- behind an act
        have nxt : ∀ (z : Nat) (h' : Sy) (s3 : gS), z ≤ 1 → repC (s3.1 21) h' → fR aD s2 s3 → (∀ j, j ≠ 13 → s3.1 0 j = s2.1 0 j) → wX11_work_35 Q (r + 1) (nI (d + (1 - z))) (nI z) (nI (p + 1 + kk)) (nI (i + 1)) (wi s3 0 13 0) → wX11_work_72 Q (fun y2 y3 y4 y5 s => wX11_work_35 Q (r + 1) y2 y3 y4 y5 s) (nI d) (nI p) (nI i) (nI z) s3 := by
          intro z h' s3 hz1 R3 f3 g3 H
          have T3 : txC t (wi s3 0 13 0) := ⟨by show (wi s3 0 13 0).1 1 1 = _; rw [wi_na _ _ _ _ (by decide), f3.1 1 rfl]; exact T2.1, fun j hj => by show (wi s3 0 13 0).1 2 j = _; rw [wi_na _ _ _ _ (by decide), f3.1 2 rfl]; exact T2.2 j hj⟩
          unfold wX11_work_72
          rw [c_signAt ht T3 (by omega), c_dgAct (sg_lt ht p), q1]
          have e1 : nI d + (1 - nI z) = nI (d + (1 - z)) := by
            rw [nI_i, nI_i, show (1 : Int32) = iI 1 from rfl, iI_sub, iI_add, nI_i]
            congr 1
            omega
          have e2 : nI p + (1 + dgI (some kk)) = nI (p + 1 + kk) := by
            show nI p + (1 + nI kk) = _
            rw [show (1 : Int32) + nI kk = nI (1 + kk) from nI_add 1 kk, nI_add, Nat.add_assoc]
          rw [e1, e2, nI_1]
          exact H
        refine c_act ht T2 Uh R2 V2 (by omega) (fun hn rr s3 hr f3 g3 R3 => ⟨fun h => absurd hr (Int32.not_lt.mpr h), fun _ => ?_⟩) (fun h' hs rr s3 hr f3 g3 R3 => ⟨fun _ => ?_, fun h => absurd (Int32.not_lt.mp hr) h⟩)
        · rw [hn] at hw
          refine nxt 1 h s3 (by decide) R3 f3 g3 ?_
          have F3 : fR wD s (wi s3 0 13 0) := F.tr ((f3.mono aD_w).tr (fR_wi rfl))
          have fn := fin h d 1 (wi s3 0 13 0) hw.symm (by decide) (by omega) Uh hdz F3 (fun j hj => by rw [wi_ne _ _ _ _ hj, g3 j hj, G j hj]) (by rw [wi_na _ _ _ _ (by decide), f3.1 24 rfl, H24]) (by rw [wi_na _ _ _ _ (by decide)]; exact R3) (Or.inl (wi_at _ _ _ _))
          rw [wX11_work_35]
          exact ⟨fun _ => fn, fun _ => ⟨fun _ => fn, fun _ => ⟨fun _ => fn, fun h => absurd h (by decide)⟩⟩⟩
        · rw [hs, q1] at hw
          refine nxt 0 h' s3 (by decide) R3 f3 g3 ?_
          have F3 : fR wD s (wi s3 0 13 0) := F.tr ((f3.mono aD_w).tr (fR_wi rfl))
          refine ih (i + 1) (by omega) (p + 1 + kk) h' (d + 1) (wi s3 0 13 0) (by omega) (by omega) (by omega) (by omega) (ok_ac1 Uh (dg_lt t _) (dg_lt t _) (dg_lt t _) (dg_lt t _) hs) (fun h => by omega) (by rw [show t.length - (p + 1 + kk) = t.length - p - 1 - kk by omega]; exact q4) hw F3 (fun j hj => by rw [wi_ne _ _ _ _ hj, g3 j hj, G j hj]) (by rw [wi_na _ _ _ _ (by decide), f3.1 24 rfl, H24]) (by rw [wi_na _ _ _ _ (by decide)]; exact R3) (Or.inl (wi_at _ _ _ _))
    exact Lp 81 0 rfl 0 g 0 s1 (by omega) (by omega) (by omega) (by omega) A.2.2.1 (fun _ => rfl) hf rfl (f1.mono e24_w) (fun j _ => by rw [f1.1 0 rfl]) rfl (by rw [f1.1 21 rfl]; exact C.2.2.1) (C.2.2.2.1.cg (f1.1 0 rfl) (fun a h1 h2 => f1.1 a (by simp; omega)))
  · unfold wpX9_clear
    rw [show (-1 : Int32) - iI (flt t t.length 0 0) = iI (-1 - flt t t.length 0 0) from by rw [show (-1 : Int32) = iI (-1) from rfl, iI_sub]]
    refine k0 hf _ ⟨fun a ha => wi_na _ _ _ _ (by omega), fun _ _ => rfl⟩ ?_
    exact C.tx (D := fun a => a == 1) (fr.wi rfl) (fun a ha => Or.inl (by simpa using ha)) ⟨wi_at _ _ _ _, fun i hi => by cases hi⟩
end WORK
