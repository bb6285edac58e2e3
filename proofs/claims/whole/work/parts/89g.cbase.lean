/-! phrases: what the first step of a span means to the class -/
def okSt (x : St) : Prop :=
  (x.1 = 0 → 0 ≤ x.2.1 ∧ x.2.1 ≤ 3 ∧ -1 ≤ x.2.2.1 ∧ x.2.2.1 ≤ 1) ∧ (x.1 = 1 → 0 ≤ x.2.1 ∧ x.2.1 ≤ 3 ∧ -99 ≤ x.2.2.1 ∧ x.2.2.1 ≤ 99) ∧
  (2 ≤ x.1 ∧ x.1 ≤ 6 → 0 ≤ x.2.1 ∧ x.2.1 < 7) ∧ (7 ≤ x.1 ∧ x.1 ≤ 9 → 0 ≤ x.2.1 ∧ x.2.1 < 12) ∧ (8 ≤ x.1 ∧ x.1 ≤ 9 → 1 ≤ x.2.2.1 ∧ x.2.2.1 ≤ 31) ∧
  (x.1 = 9 → 2000 ≤ x.2.2.2 ∧ x.2.2.2 ≤ 2027) ∧ (x.1 = 10 → 2000 ≤ x.2.1 ∧ x.2.1 ≤ 2027) ∧ (11 ≤ x.1 ∧ x.1 ≤ 12 → 0 ≤ x.2.1 ∧ x.2.1 ≤ 3 ∧ 0 ≤ x.2.2.1 ∧ x.2.2.1 ≤ 99) ∧
  (16 ≤ x.1 ∧ x.1 ≤ 17 → 0 ≤ x.2.1 ∧ x.2.1 < 7)
section CBASE
variable {s s' s0 : gS} {Q : Int32 → gS → Prop} {Q' : gS → Prop} {V W : List Rd} {a b r : Nat} {x : St}
theorem bs_0 {e z y : Int} : bs r (0, e, z, y) = bs r (0, e, z, 0) := by simp [bs]
theorem bs_1 {e z y : Int} : bs r (1, e, z, y) = bs r (1, e, z, 0) := by simp [bs]
theorem bs_7 {e z y : Int} : bs r (7, e, z, y) = bs r (7, e, 0, 0) := by simp [bs]
theorem bs_8 {e z y : Int} : bs r (8, e, z, y) = bs r (8, e, z, 0) := by simp [bs]
theorem i7 {d : Int} : iI d + 7 = iI (d + 7) := by rw [show (7 : Int32) = iI 7 from rfl, iI_add]
theorem c_unitAt {u : Nat} {z : Int} {x1 x2 : Int32} (h : RA a [] s) (hu : u < 4) (hr : r ≤ 9999) (hz : -1 ≤ z ∧ z ≤ 1) (e1 : x1 = nI u) (e2 : x2 = iI z) (k : ∀ s', fR (rdD a) s s' → RA a (bs r (0, (u : Int), z, 0)) s' → Q' s') : wpX2_addUnitAt x1 x2 (nI r) s Q' := by
  subst e1 e2
  unfold wpX2_addUnitAt
  have eb : bs r (0, (u : Int), z, 0) = uni u r z 3 ++ (if (u : Int) = 1 ∧ 0 < z then pu (r + 1) (r + 7) 1 1 else if (u : Int) = 1 ∧ z < 0 then pu (r - 7) (r - 1) 1 1 else []) := rfl
  rw [eb] at k
  have hl := uni_le (u := u) (n := r) (b := z) (w := 3)
  refine c_aUni (w := 3) h (by simp) hu hr hz rfl rfl rfl rfl (fun s1 f1 h1 => ?_)
  rw [List.nil_append] at h1
  have m39 : ¬ ((u : Int) = 1 ∧ 0 < z) → wX2_addUnitAt_39 (nI u) (iI z) (nI r) Q' s1 := by
    intro hc
    rw [if_neg hc] at k
    unfold wX2_addUnitAt_39
    refine ⟨fun h2 => ?_, fun h2 => ⟨fun h3 => ?_, fun h3 => ?_⟩⟩
    · have h2 := lit_n (n := 1) h2 rfl
      rw [if_neg (by omega), List.append_nil] at k
      exact k s1 f1 h1
    · rw [show (0 : Int32) = iI 0 from rfl, iI_le (by decide) (by decide) (by omega) (by omega)] at h3
      rw [if_neg (by omega), List.append_nil] at k
      exact k s1 f1 h1
    · have h2 := lit_c (n := 1) h2 rfl (by omega) (by decide)
      rw [show (0 : Int32) = iI 0 from rfl, iI_le (by decide) (by decide) (by omega) (by omega)] at h3
      rw [if_pos (by omega)] at k
      exact c_aPu h1 (by omega) (by rw [nI_i, show (7 : Int32) = iI 7 from rfl, iI_sub]) (by rw [nI_i, show (1 : Int32) = iI 1 from rfl, iI_sub]) rfl rfl (by omega) (by omega) (fun s2 f2 h2 => k s2 (f1.tr f2) h2)
  refine ⟨fun h2 => m39 ?_, fun h2 => ⟨fun h3 => m39 ?_, fun h3 => ?_⟩⟩
  · have h2 := lit_n (n := 1) h2 rfl
    omega
  · rw [show (0 : Int32) = iI 0 from rfl, iI_le (by omega) (by omega) (by decide) (by decide)] at h3
    omega
  · have h2 := lit_c (n := 1) h2 rfl (by omega) (by decide)
    rw [show (0 : Int32) = iI 0 from rfl, iI_le (by omega) (by omega) (by decide) (by decide)] at h3
    rw [if_pos (by omega)] at k
    exact c_aPu h1 (by omega) (by rw [nI_i, show (1 : Int32) = iI 1 from rfl, iI_add]) (by rw [nI_i, show (7 : Int32) = iI 7 from rfl, iI_add]) rfl rfl (by omega) (by omega) (fun s2 f2 h2 => k s2 (f1.tr f2) h2)
theorem c_aMoved {u : Nat} {z : Int} {x1 x2 : Int32} (h : RA a [] s) (hu : u < 4) (hr : r ≤ 9999) (hz : -99 ≤ z ∧ z ≤ 99) (e1 : x1 = nI u) (e2 : x2 = iI z) (k : ∀ s', fR (rdD a) s s' → RA a (bs r (1, (u : Int), z, 0)) s' → Q' s') : wpX2_addMoved x1 x2 (nI r) s Q' := by
  subst e1 e2
  unfold wpX2_addMoved
  have eb : bs r (1, (u : Int), z, 0) = if mvS r u z = -1 then [] else pd (mvS r u z) 3 ++ (if (u : Int) = 0 then [] else uni u (mvS r u z).toNat 0 1) := rfl
  rw [eb] at k
  have hb := mvS_bd r u z
  have hl := pd_le (d := mvS r u z) (w := 3)
  have hq : (iI (mvS r u z) = -1) = (mvS r u z = -1) := by rw [show (-1 : Int32) = iI (-1) from rfl, iI_eq (by omega) (by omega) (by decide) (by decide)]
  refine c_move hr hu (by omega) ?_
  rw [hq]
  refine ⟨fun h1 => ?_, fun h1 => ?_⟩
  · rw [if_neg h1] at k
    refine c_aDay (w := 3) h (by simp) rfl rfl (by omega) (fun s1 f1 h2 => ?_)
    rw [List.nil_append] at h2
    refine ⟨fun h3 => ?_, fun h3 => ?_⟩
    · have h3 := lit_c (n := 0) h3 rfl (by omega) (by decide)
      rw [if_pos (by omega), List.append_nil] at k
      exact k s1 f1 h2
    · have h3 := lit_n (n := 0) h3 rfl
      rw [if_neg (by omega)] at k
      exact c_aUni (z := 0) (w := 1) h2 (by omega) hu (d := (mvS r u z).toNat) (by omega) (by omega) rfl (by rw [nI_i]; exact congrArg iI (by omega)) rfl rfl (fun s2 f2 h4 => k s2 (f1.tr f2) h4)
  · rw [if_pos h1] at k
    exact k s fR.rf h
theorem c_mName {z : Int} {x1 : Int32} (h : RA a [] s) (hr : r ≤ 9999) (hz : 0 ≤ z ∧ z < 12) (e1 : x1 = iI z) (k : ∀ s', fR (rdD a) s s' → RA a (bs r (7, z, 0, 0)) s' → Q' s') : wpX2_addMonthName x1 (nI r) s Q' := by
  obtain ⟨n, rfl⟩ : ∃ n : Nat, z = (n : Int) := ⟨z.toNat, by omega⟩
  subst e1
  have eb : bs r (7, (n : Int), 0, 0) = mos (yr r * 12 + (n : Int) + (if mS (12 * yr r + n + 1) ≤ r then 12 else 0)) 1 2 3 ++ mos (yr r * 12 + (n : Int) - (if mS (12 * yr r + n) < r then 0 else 12)) 1 2 2 := rfl
  rw [eb] at k
  have hy := yr_le hr
  unfold wpX2_addMonthName
  rw [c_yearOf hr]
  have e1 : nI (yr r) * 12 + iI (n : Int) = nI (12 * yr r + n) := by
    rw [nI_i, nI_i, show (12 : Int32) = iI 12 from rfl, iI_mul, iI_add]
    exact congrArg iI (by omega)
  rw [e1, nI_1, c_mStart (by omega)]
  have b1 := mS_lt (m := 12 * yr r + n + 1) (by omega)
  have b2 := mS_lt (m := 12 * yr r + n) (by omega)
  have m40 : ∀ (A B : Nat), A ≤ 1 → B ≤ 1 → ((if mS (12 * yr r + n + 1) ≤ r then (12 : Int) else 0) = 12 * A) → ((if mS (12 * yr r + n) < r then (0 : Int) else 12) = 12 * (1 - B)) → wX2_addMonthName_40 (iI (n : Int)) (nI r) Q' (nI (12 * yr r + n)) (nI A) (nI B) s := by
    intro A B hA hB eA eB
    rw [eA, eB] at k
    unfold wX2_addMonthName_40
    refine c_aMon (m := yr r * 12 + (n : Int) + 12 * (A : Int)) (n := 1) (g := 2) (w := 3) h (by simp) ?_ rfl rfl rfl (by omega) (by decide) (fun s1 f1 h1 => ?_)
    · rw [nI_i, nI_i, show (12 : Int32) = iI 12 from rfl, iI_mul, iI_add]
      exact congrArg iI (by omega)
    rw [List.nil_append] at h1
    have hl := mos_le (m := yr r * 12 + (n : Int) + 12 * (A : Int)) (k := 1) (g := 2) (w := 3)
    refine c_aMon (m := yr r * 12 + (n : Int) - 12 * (1 - (B : Int))) (n := 1) (g := 2) (w := 2) h1 (by omega) ?_ rfl rfl rfl (by omega) (by decide) (fun s2 f2 h2 => k s2 (f1.tr f2) h2)
    rw [nI_i, nI_i, show (12 : Int32) = iI 12 from rfl, show (1 : Int32) = iI 1 from rfl, iI_sub, iI_mul, iI_sub]
    exact congrArg iI (by omega)
  have m25 : ∀ A : Nat, A ≤ 1 → ((if mS (12 * yr r + n + 1) ≤ r then (12 : Int) else 0) = 12 * A) → wX2_addMonthName_25 (iI (n : Int)) (nI r) Q' (nI (12 * yr r + n)) (nI A) s := by
    intro A hA eA
    unfold wX2_addMonthName_25
    rw [c_mStart (by omega), nI_leI (by omega) (by omega)]
    exact ⟨fun hc => m40 A 0 hA (by decide) eA (by rw [if_neg (by omega)]; rfl), fun hc => m40 A 1 hA (by decide) eA (by rw [if_pos (by omega)]; rfl)⟩
  rw [nI_ltI (by omega) (by omega)]
  exact ⟨fun hc => m25 0 (by decide) (by rw [if_neg (by omega)]; rfl), fun hc => m25 1 (by decide) (by rw [if_pos (by omega)]; rfl)⟩
theorem c_mAndN {z y : Int} {x1 x2 : Int32} (h : RA a [] s) (hr : r ≤ 9999) (hz : 0 ≤ z ∧ z < 12) (hy : 1 ≤ y ∧ y ≤ 31) (e1 : x1 = iI z) (e2 : x2 = iI y) (k : ∀ s', fR (rdD a) s s' → RA a (bs r (8, z, y, 0)) s' → Q' s') : wpX2_addMonthAndN x1 x2 (nI r) s Q' := by
  obtain ⟨n, rfl⟩ : ∃ n : Nat, z = (n : Int) := ⟨z.toNat, by omega⟩
  subst e1 e2
  obtain ⟨D, hD⟩ : ∃ D : Nat → Int, D = fun Y => dIM (12 * Y + n) y.toNat := ⟨_, rfl⟩
  have eb : bs r (8, (n : Int), y, 0) = pd (ltr r D 28) 3 ++ pd (snr r D 28) 2 := by rw [hD]; rfl
  rw [eb] at k
  have bD : ∀ Y, -1 ≤ D Y ∧ D Y ≤ 9999 := fun Y => by rw [hD]; exact dIM_bd _ _ (by omega)
  have Lp : ∀ m Y (l : Int), Y + m = 28 → (l = -1 ∧ ltr r D 28 = ltr r D m ∨ l ≠ -1 ∧ l = ltr r D 28) → wX2_addMonthAndN_9 (iI (n : Int)) (iI y) (nI r) Q' (m + 1) (iI l) (iI (snr r D Y)) (nI (12 * Y + n)) s := by
    intro m
    induction m with
    | zero =>
      intro Y l hY hl
      have : Y = 28 := by omega
      subst this
      have el : l = ltr r D 28 := by
        rcases hl with ⟨h1, h2⟩ | ⟨h1, h2⟩
        · rw [h1, h2]; rfl
        · exact h2
      have b1 := ltr_bd (r := r) bD 28
      have b2 := snr_bd (r := r) bD 28
      have hl := pd_le (d := l) (w := 3)
      rw [wX2_addMonthAndN_9]
      refine ⟨fun _ => c_aDay (w := 3) h (by simp) rfl rfl (by omega) (fun s1 f1 h1 => ?_), fun hc => absurd ?_ hc⟩
      · rw [List.nil_append] at h1
        refine c_aDay (w := 2) h1 (by omega) rfl rfl (by omega) (fun s2 f2 h2 => k s2 (f1.tr f2) ?_)
        rw [← el]
        exact h2
      · rw [show (336 : Int32) = nI 336 from rfl, nI_leI (by decide) (by omega)]
        omega
    | succ m ih =>
      intro Y l hY hl
      have e12 : nI (12 * Y + n) + 12 = nI (12 * (Y + 1) + n) := by
        rw [show (12 : Int32) = nI 12 from rfl, n4a]
        exact congrArg nI (by omega)
      have eD : (if 1 ≤ y ∧ y ≤ 31 then dIM (12 * Y + n) y.toNat else -1) = D Y := by rw [if_pos hy, hD]
      have bY := bD Y
      have e27 : 27 - m = Y := by omega
      have el : ltr r D (m + 1) = if (r : Int) ≤ D Y then D Y else ltr r D m := by rw [ltr, e27]
      rw [wX2_addMonthAndN_9, e12]
      refine ⟨fun hc => ?_, fun _ => c_dInM (by omega) (by omega) (by omega) ?_⟩
      · rw [show (336 : Int32) = nI 336 from rfl, nI_leI (by decide) (by omega)] at hc
        omega
      rw [eD]
      have q1 : (iI (D Y) = -1) = (D Y = -1) := by rw [show (-1 : Int32) = iI (-1) from rfl, iI_eq (by omega) (by omega) (by decide) (by decide)]
      have q2 : (nI r ≤ iI (D Y)) = ((r : Int) ≤ D Y) := by rw [nI_i, iI_le (by omega) (by omega) (by omega) (by omega)]
      have bl : -1 ≤ l ∧ l ≤ 9999 := by
        have b1 := ltr_bd (r := r) bD 28
        rcases hl with ⟨h1, h2⟩ | ⟨h1, h2⟩ <;> omega
      have q3 : (iI l = -1) = (l = -1) := by rw [show (-1 : Int32) = iI (-1) from rfl, iI_eq (by omega) (by omega) (by decide) (by decide)]
      rw [q1, q2, q3]
      have lno : ¬ (r : Int) ≤ D Y → (l = -1 ∧ ltr r D 28 = ltr r D m ∨ l ≠ -1 ∧ l = ltr r D 28) := by
        intro hc
        rcases hl with ⟨h1, h2⟩ | h1
        · rw [el, if_neg hc] at h2
          exact Or.inl ⟨h1, h2⟩
        · exact Or.inr h1
      have sno : ¬ (0 ≤ D Y ∧ D Y < r) → snr r D (Y + 1) = snr r D Y := fun hc => by rw [snr, if_neg hc]
      refine ⟨fun h1 => ⟨fun h2 => ⟨fun h3 => ?_, fun h3 => ?_⟩, fun h2 => ?_⟩, fun h1 => ?_⟩
      · have := ih (Y + 1) l (by omega) (Or.inr (hl.resolve_left (fun c => h3 c.1)))
        rw [sno (by omega)] at this
        exact this
      · have := ih (Y + 1) (D Y) (by omega) (Or.inr ⟨h1, by
          rcases hl with ⟨g1, g2⟩ | ⟨g1, g2⟩
          · rw [el, if_pos h2] at g2
            exact g2.symm
          · exact absurd h3 g1⟩)
        rw [sno (by omega)] at this
        exact this
      · have := ih (Y + 1) l (by omega) (lno h2)
        rw [snr, if_pos (by omega)] at this
        exact this
      · have := ih (Y + 1) l (by omega) (lno (by omega))
        rw [sno (by omega)] at this
        exact this
  have := Lp 28 0 (-1) rfl (Or.inl ⟨rfl, rfl⟩)
  rw [show 12 * 0 + n = n by omega, nI_i] at this
  exact ⟨29, this⟩
theorem c_days (ok : okSt x) (h6 : x.1 ≤ 6) (hr : r ≤ 9999) (h : RA a [] s) (k : ∀ s', fR (rdD a) s s' → RA a (bs r x) s' → Q' s') : wpX2_addByDays (nI x.1) (iI x.2.1) (iI x.2.2.1) (nI r) s Q' := by
  obtain ⟨c, e, z, y⟩ := x
  obtain ⟨o0, o1, o2, o3, o4, o5, o6, o7, o8⟩ := ok
  dsimp only at o0 o1 o2 o3 o4 o5 o6 o7 o8 h6 ⊢
  have hb := mnd_bd hr
  unfold wpX2_addByDays
  rw [show wpX0_monday (nI r) s = wpX0_monday (iI (r : Int)) s from by rw [nI_i], c_mond (by omega)]
  have e7 : nI r + 1 = iI ((r : Int) + 1) := l1
  refine ⟨fun hc => ?_, fun hc => ?_, fun hc => ?_, fun hc => ?_, fun hc => ?_, fun hc => ?_, fun hc => ?_, fun h0 h1 h2 h3 h4 h5 h7 => ?_⟩
  · have hc := lit_c (n := 0) hc rfl (by omega) (by decide)
    subst hc
    have o := o0 rfl
    refine c_unitAt (u := e.toNat) (z := z) h (by omega) hr (by omega) (by rw [nI_i]; exact congrArg iI (by omega)) rfl (fun s1 f1 h1 => k s1 f1 ?_)
    rw [show (e.toNat : Int) = e by omega] at h1
    rw [bs_0]
    exact h1
  · have hc := lit_c (n := 1) hc rfl (by omega) (by decide)
    subst hc
    have o := o1 rfl
    refine c_aMoved (u := e.toNat) (z := z) h (by omega) hr (by omega) (by rw [nI_i]; exact congrArg iI (by omega)) rfl (fun s1 f1 h1 => k s1 f1 ?_)
    rw [show (e.toNat : Int) = e by omega] at h1
    rw [bs_1]
    exact h1
  · have hc := lit_c (n := 2) hc rfl (by omega) (by decide)
    subst hc
    have o := o2 (by omega)
    have n1 := nmd_bd (a := e) (d := (r : Int)) (by omega) o
    have hl := pd_le (d := nmd e r) (w := 3)
    rw [nI_i, c_named (by omega) o]
    refine c_aDay (w := 3) h (by simp) rfl rfl (by omega) (fun s1 f1 h1 => ?_)
    rw [List.nil_append] at h1
    rw [c_named (by omega) o, lm7]
    exact c_aDay (w := 1) h1 (by omega) rfl rfl (by omega) (fun s2 f2 h2 => k s2 (f1.tr f2) h2)
  · have hc := lit_c (n := 3) hc rfl (by omega) (by decide)
    subst hc
    have o := o2 (by omega)
    rw [iI_add]
    exact c_aDay (w := 3) h (by simp) rfl rfl (by omega) (fun s1 f1 h1 => k s1 f1 h1)
  · have hc := lit_c (n := 4) hc rfl (by omega) (by decide)
    subst hc
    have o := o2 (by omega)
    have n1 := nmd_bd (a := e) (d := (r : Int) + 1) (by omega) o
    have hl := pd_le (d := mnd r + 7 + e) (w := 3)
    rw [i7, iI_add, e7]
    refine c_aDay (w := 3) h (by simp) rfl rfl (by omega) (fun s1 f1 h1 => ?_)
    rw [List.nil_append] at h1
    rw [c_named (by omega) o]
    exact c_aDay (w := 2) h1 (by omega) rfl rfl (by omega) (fun s2 f2 h2 => k s2 (f1.tr f2) h2)
  · have hc := lit_c (n := 5) hc rfl (by omega) (by decide)
    subst hc
    have o := o2 (by omega)
    have n1 := nmd_bd (a := e) (d := (r : Int)) (by omega) o
    have hl := pd_le (d := nmd e r - 7) (w := 3)
    rw [nI_i, c_named (by omega) o, lm7, lm7, iI_add]
    refine c_aDay (w := 3) h (by simp) rfl rfl (by omega) (fun s1 f1 h1 => ?_)
    rw [List.nil_append] at h1
    exact c_aDay (w := 2) h1 (by omega) rfl rfl (by omega) (fun s2 f2 h2 => k s2 (f1.tr f2) h2)
  · have hc := lit_c (n := 6) hc rfl (by omega) (by decide)
    subst hc
    have o := o2 (by omega)
    have n1 := nmd_bd (a := e) (d := (r : Int) + 1) (by omega) o
    have hl := pd_le (d := nmd e ((r : Int) + 1) + 7) (w := 3)
    rw [e7, c_named (by omega) o, i7, l14, iI_add]
    refine c_aDay (w := 3) h (by simp) rfl rfl (by omega) (fun s1 f1 h1 => ?_)
    rw [List.nil_append] at h1
    exact c_aDay (w := 2) h1 (by omega) rfl rfl (by omega) (fun s2 f2 h2 => k s2 (f1.tr f2) h2)
  · have h0 := lit_n (n := 0) h0 rfl
    have h1 := lit_n (n := 1) h1 rfl
    have h2 := lit_n (n := 2) h2 rfl
    have h3 := lit_n (n := 3) h3 rfl
    have h4 := lit_n (n := 4) h4 rfl
    have h5 := lit_n (n := 5) h5 rfl
    have h7 := lit_n (n := 6) h7 rfl
    omega
theorem c_months (ok : okSt x) (h7 : 7 ≤ x.1) (h10 : x.1 ≤ 10) (hr : r ≤ 9999) (h : RA a [] s) (k : ∀ s', fR (rdD a) s s' → RA a (bs r x) s' → Q' s') : wpX2_addByMonths (nI x.1) (iI x.2.1) (iI x.2.2.1) (iI x.2.2.2) (nI r) s Q' := by
  obtain ⟨c, e, z, y⟩ := x
  obtain ⟨o0, o1, o2, o3, o4, o5, o6, o7, o8⟩ := ok
  dsimp only at o0 o1 o2 o3 o4 o5 o6 o7 o8 h7 h10 ⊢
  unfold wpX2_addByMonths
  refine ⟨fun hc => ?_, fun hc => ?_, fun hc => ?_, fun hc => ?_, fun q7 q8 q9 q10 => ?_⟩
  · have hc := lit_c (n := 7) hc rfl (by omega) (by decide)
    subst hc
    rw [bs_7] at k
    exact c_mName h hr (o3 (by omega)) rfl k
  · have hc := lit_c (n := 8) hc rfl (by omega) (by decide)
    subst hc
    rw [bs_8] at k
    exact c_mAndN h hr (o3 (by omega)) (o4 (by omega)) rfl rfl k
  · have hc := lit_c (n := 9) hc rfl (by omega) (by decide)
    subst hc
    have q3 := o3 (by omega)
    have q4 := o4 (by omega)
    have q5 := o5 rfl
    unfold wpX0_dayOf
    rw [show (2000 : Int32) = iI 2000 from rfl, show (2027 : Int32) = iI 2027 from rfl, show (12 : Int32) = iI 12 from rfl, show (1 : Int32) = iI 1 from rfl, iI_add, iI_lt (by omega) (by omega) (by decide) (by decide), iI_lt (by decide) (by decide) (by omega) (by omega), iI_lt (by omega) (by omega) (by decide) (by decide), iI_le (by omega) (by omega) (by decide) (by decide)]
    refine ⟨fun h => by omega, fun _ => ⟨fun h => by omega, fun _ => ⟨fun h => by omega, fun _ => ⟨fun _ => ?_, fun h => by omega⟩⟩⟩⟩
    rw [iI_sub, iI_mul, iI_add, iI_sub, show iI ((y - 2000) * 12 + (e + 1) - 1) = nI (12 * (y.toNat - 2000) + e.toNat) from by
      rw [nI_i]; exact congrArg iI (by omega)]
    refine c_dInM (by omega) (by omega) (by omega) ?_
    rw [if_pos (by omega)]
    have hd := dIM_bd (12 * (y.toNat - 2000) + e.toNat) z.toNat (by omega)
    exact c_aDay (w := 3) h (by simp) rfl rfl (by omega) (fun s1 f1 h1 => k s1 f1 h1)
  · have hc := lit_c (n := 10) hc rfl (by omega) (by decide)
    subst hc
    have q6 := o6 rfl
    exact c_aMon (m := (e - 2000) * 12) (w := 3) h (by simp) (by rw [show (2000 : Int32) = iI 2000 from rfl, show (12 : Int32) = iI 12 from rfl, iI_sub, iI_mul]) rfl rfl rfl (by omega) (by decide) (fun s1 f1 h1 => k s1 f1 h1)
  · have q7 := lit_n (n := 7) q7 rfl
    have q8 := lit_n (n := 8) q8 rfl
    have q9 := lit_n (n := 9) q9 rfl
    have q10 := lit_n (n := 10) q10 rfl
    omega
end CBASE
