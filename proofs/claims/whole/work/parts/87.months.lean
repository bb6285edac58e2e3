/-! phrases: the reference pushes units and months -/
section MONTHS
variable {t : List Nat} {s s' s0 : gS} {Q : Int32 → gS → Prop} {Q' : gS → Prop} {H : List Rd} {r w d u : Nat}
theorem m_pmon {m : Nat} {x : Int32} (h : HP H s) (hH : H.length < 1024) (hm : m < 348) (ex : x = nI w) (k : ∀ s', fm [181] [14] s s' → HP (H ++ mos m 1 2 w) s' → Q' s') : wpX12_pushMonth (nI (2000 + m / 12)) (nI (m % 12 + 1)) x s Q' := by
  subst ex
  unfold wpX12_pushMonth
  rw [show wpX12_in (nI (2000 + m / 12)) 2000 2027 = wpX12_in (nI (2000 + m / 12)) (nI 2000) (nI 2027) from rfl, m_inN (by omega) (by decide) (by decide)]
  by_cases h1 : m < 336
  · rw [decide_eq_true (show 2000 ≤ 2000 + m / 12 by omega), decide_eq_true (show 2000 + m / 12 ≤ 2027 by omega)]
    refine j1 (m_mDay (by omega) (by omega) (by omega) ?_)
    rw [m_mLen (by omega) (by omega), show 12 * (m / 12) + (m % 12 + 1 - 1) = m by omega]
    have e1 := mS_s (m := m) (by omega)
    have e2 := mL_bd (m / 12) (m % 12 + 1)
    have e3 := mS_lt (m := m) (by omega)
    have em : mos m 1 2 w = pu (mS m) ((mS (m + 1) : Int) - 1) 2 w := by
      unfold mos
      rw [if_pos (by omega)]
      rfl
    rw [em] at k
    refine m_push h hH (nI_i _) ?_ rfl rfl (by omega) (by omega) (by omega) k
    rw [nI_add, nI_i, show (1 : Int32) = iI 1 from rfl, iI_sub]
    exact congrArg iI (by omega)
  · rw [decide_eq_false (show ¬ 2000 + m / 12 ≤ 2027 by omega), Bool.and_false]
    have em : mos m 1 2 w = [] := by
      unfold mos
      rw [if_neg (by omega)]
    rw [em, List.append_nil] at k
    exact j0 (k s fm.rf h)
theorem m_pyear {z : Int} {x y : Int32} (h : HP H s) (hH : H.length < 1024) (hz : -10 ≤ z ∧ z ≤ 100) (ey : y = iI (2000 + z)) (ex : x = nI w) (k : ∀ s', fm [181] [14] s s' → HP (H ++ mos (z * 12) 12 3 w) s' → Q' s') : wpX12_pushYear y x s Q' := by
  subst ex ey
  unfold wpX12_pushYear
  rw [show wpX12_in (iI (2000 + z)) 2000 2027 = wpX12_in (iI (2000 + z)) (iI 2000) (iI 2027) from rfl, m_in (by omega) (by omega) (by decide) (by decide) (by decide) (by decide)]
  by_cases h1 : 0 ≤ z ∧ z ≤ 27
  · rw [decide_eq_true (by omega)]
    obtain ⟨Y, hY⟩ : ∃ Y : Nat, z = Y := ⟨z.toNat, by omega⟩
    subst hY
    have e0 : iI (2000 + (Y : Int)) = nI (2000 + Y) := by rw [nI_i]; rfl
    rw [e0]
    refine j1 ?_
    rw [m_ahead (by omega), nI_1, show 2000 + Y + 1 = 2000 + (Y + 1) by omega, m_ahead (by omega)]
    have e3 := mS_lt (m := 12 * (Y + 1)) (by omega)
    have e4 := mS_mo (m := 12 * Y) (n := 12 * (Y + 1)) (by omega) (by omega)
    have em : mos ((Y : Int) * 12) 12 3 w = pu (mS (12 * Y)) ((mS (12 * (Y + 1)) : Int) - 1) 3 w := by
      unfold mos
      rw [if_pos (by omega), show ((Y : Int) * 12).toNat = 12 * Y by omega]
      rfl
    rw [em] at k
    refine m_push h hH (nI_i _) ?_ rfl rfl (by omega) (by omega) (by omega) k
    rw [nI_i, show (1 : Int32) = iI 1 from rfl, iI_sub]
  · rw [decide_eq_false (by omega)]
    have em : mos (z * 12) 12 3 w = [] := by
      unfold mos
      rw [if_neg (by omega)]
    rw [em, List.append_nil] at k
    exact j0 (k s fm.rf h)
theorem m_unit {b : Int} {x y : Int32} (h : HP H s) (hH : H.length < 1024) (hu : u < 4) (hd : d ≤ 9999) (hb : -1 ≤ b ∧ b ≤ 1) (eb : y = iI b) (ex : x = nI w) (k : ∀ s', fm [181] [14] s s' → HP (H ++ uni u d b w) s' → Q' s') : wpX12_pushUnit (nI u) (nI d) y x s Q' := by
  subst eb
  have z : ∀ n : Nat, n < 100 → (nI u = nI n) = (u = n) := fun n hn => by rw [nI_eq (by omega) (by omega)]
  unfold wpX12_pushUnit
  rw [show (nI u = 0) = (u = 0) from z 0 (by decide), show (nI u = 1) = (u = 1) from z 1 (by decide), show (nI u = 2) = (u = 2) from z 2 (by decide)]
  refine ⟨fun h0 => ?_, fun h1 => ?_, fun h2 => ?_, fun h0 h1 h2 => ?_⟩
  · subst h0
    exact m_pushD h hH (by rw [nI_i, iI_add]) ex (by omega) k
  · subst h1
    rw [nI_i d, m_wk (by omega)]
    obtain ⟨w0, w1⟩ := wk_bd (d := (d : Int)) (by omega)
    refine m_push (f := mnd d + 7 * b) (t' := mnd d + 7 * b + 6) (g := 1) h hH ?_ ?_ rfl ex ?_ ?_ (by omega) k
    · unfold mnd
      rw [iI_sub, show (7 : Int32) = iI 7 from rfl, iI_mul, iI_add]
    · unfold mnd
      rw [iI_sub, show (7 : Int32) = iI 7 from rfl, iI_mul, iI_add, show (6 : Int32) = iI 6 from rfl, iI_add]
    · unfold mnd
      omega
    · unfold mnd
      omega
  · subst h2
    obtain ⟨o1, o2, o3, o4⟩ := mo_ok hd
    refine m_yearOf hd (m_monthOf hd ?_)
    have e : 12 * (nI (2000 + yr d) - 2000) + nI (mo d % 12 + 1) - 1 + iI b = iI ((mo d : Int) + b) := by
      simp only [lit_i, nI_i, iI_add, iI_mul, iI_sub]
      congr 1
      omega
    rw [e, show (0 : Int32) = iI 0 from rfl, iI_le (by decide) (by decide) (by omega) (by omega)]
    refine ⟨fun h0 => ?_, fun h0 => ?_⟩
    · obtain ⟨m, hm⟩ : ∃ m : Nat, (mo d : Int) + b = m := ⟨((mo d : Int) + b).toNat, by omega⟩
      have e1 : 2000 + iI ((mo d : Int) + b) / 12 = nI (2000 + m / 12) := by
        rw [hm, ← nI_i, show (12 : Int32) = nI 12 from rfl, nI_div (by omega) (by decide) (by decide), show (2000 : Int32) = nI 2000 from rfl, nI_add]
      have e2 : jrem (iI ((mo d : Int) + b)) 12 + 1 = nI (m % 12 + 1) := by
        rw [hm, ← nI_i, show (12 : Int32) = nI 12 from rfl, nI_rem (by omega) (by decide) (by decide), nI_1]
      rw [e1, e2]
      have e3 : uni 2 d b w = mos m 1 2 w := by
        unfold uni
        rw [if_neg (by simp), if_neg (by simp), if_pos rfl, hm]
      rw [e3] at k
      exact m_pmon h hH (by omega) ex k
    · have e3 : uni 2 d b w = [] := by
        unfold uni mos
        rw [if_neg (by simp), if_neg (by simp), if_pos rfl, if_neg (by omega)]
      rw [e3, List.append_nil] at k
      exact k s fm.rf h
  · have h3 : u = 3 := by omega
    subst h3
    have := yr_le hd
    refine m_yearOf hd (m_pyear (z := (yr d : Int) + b) h hH (by omega) ?_ ex k)
    rw [nI_i, iI_add]
    congr 1
    omega
theorem m_moved {n : Int} {x : Int32} (h : HP H s) (hH : H.length + 2 ≤ 1024) (h8 : s.1 177 8 = -1) (hr : s.1 177 15 = nI r) (hu : u < 4) (hd : r ≤ 9999) (hn : -99 ≤ n ∧ n ≤ 99) (en : x = iI n) (k : ∀ s', fm [181] [14] s s' → HP (H ++ bs r (1, u, n, 0)) s' → Q' s') : wpX12_pushMoved (nI u) x s Q' := by
  subst en
  unfold wpX12_pushMoved
  rw [m_fine1 h8, show gi s 177 15 = nI r from hr]
  refine i1 (m_move hd hu (by omega) ?_)
  unfold wX12_pushMoved_20
  have hb := mvS_bd r u n
  have hz : (iI (mvS r u n) = -1) = (mvS r u n = -1) := by rw [show (-1 : Int32) = iI (-1) from rfl, iI_eq (by omega) (by omega) (by decide) (by decide)]
  rw [hz]
  refine ⟨fun h1 => ?_, fun h1 => ?_⟩
  · refine m_pushD (w := 3) h (by omega) rfl rfl (by omega) (fun s1 f1 p1 => ?_)
    have hz0 : (nI u = 0) = (u = 0) := by rw [show (0 : Int32) = nI 0 from rfl, nI_eq (by omega) (by decide)]
    rw [hz0]
    refine ⟨fun h0 => k s1 f1 ?_, fun h0 => ?_⟩
    · have : bs r (1, u, n, 0) = pd (mvS r u n) 3 := by
        unfold bs
        rw [if_neg (by simp), if_pos rfl]
        show (if mvS r (u : Int).toNat n = -1 then _ else _) = _
        rw [show (u : Int).toNat = u by omega, if_neg h1]
        show pd (mvS r u n) 3 ++ (if (u : Int) = 0 then _ else _) = _
        rw [if_pos (by omega), List.append_nil]
      rw [this]
      exact p1
    · have : bs r (1, u, n, 0) = pd (mvS r u n) 3 ++ uni u (mvS r u n).toNat 0 1 := by
        unfold bs
        rw [if_neg (by simp), if_pos rfl]
        show (if mvS r (u : Int).toNat n = -1 then _ else _) = _
        rw [show (u : Int).toNat = u by omega, if_neg h1]
        show pd (mvS r u n) 3 ++ (if (u : Int) = 0 then _ else _) = _
        rw [if_neg (by omega)]
      have e : iI (mvS r u n) = nI (mvS r u n).toNat := by rw [nI_i]; congr 1; omega
      rw [e]
      have hle := pd_le (d := mvS r u n) (w := 3)
      refine m_unit (b := 0) (w := 1) p1 (by rw [List.length_append]; omega) hu (by omega) (by omega) rfl rfl (fun s2 f2 p2 => k s2 (f1.tr f2) ?_)
      rw [this, ← List.append_assoc]
      exact p2
  · have : bs r (1, u, n, 0) = [] := by
      unfold bs
      rw [if_neg (by simp), if_pos rfl]
      show (if mvS r (u : Int).toNat n = -1 then _ else _) = _
      rw [show (u : Int).toNat = u by omega, if_pos h1]
    rw [this, List.append_nil] at k
    exact k s fm.rf h
theorem m_movedD {v : Nat} {x y : Int32} (hv : v < 1000) (h8 : s.1 177 8 = nI v) (k : Q' s) : wpX12_pushMoved x y s Q' := by
  unfold wpX12_pushMoved
  rw [m_fine0 hv h8]
  exact i0 ⟨fun h => absurd rfl h, fun _ => k⟩
theorem m_mLen9 {m : Nat} (hm : m ≤ 12) (k : ∀ l : Nat, 28 ≤ l → l ≤ 31 → Q (nI l) s) : wpX12_monthLength 1999 (nI m) s Q := by
  unfold wpX12_monthLength
  exact ⟨fun _ => ⟨fun _ => k 30 (by decide) (by decide), fun _ => ⟨fun _ => k 30 (by decide) (by decide), fun _ => ⟨fun _ => k 30 (by decide) (by decide), fun _ => ⟨fun _ => k 31 (by decide) (by decide), fun _ => k 30 (by decide) (by decide)⟩⟩⟩⟩, fun _ => ⟨fun _ => k 28 (by decide) (by decide), fun _ => k 29 (by decide) (by decide)⟩⟩
theorem m_mDay9 {m : Nat} (h1 : 1 ≤ m) (h2 : m ≤ 12) (k : ∀ z : Int, -1000 ≤ z → z < 0 → Q (iI z) s) : wpX12_monthDay 1999 (nI m) s Q := by
  unfold wpX12_monthDay wpX12_aheadOf
  have Lp : ∀ n i (z : Int), i + n = m → 1 ≤ i → -365 ≤ z → z ≤ -365 + 31 * ((i : Int) - 1) → wX12_monthDay_7 1999 (nI m) Q (n + 1) (iI z) (nI i) s := by
    intro n
    induction n with
    | zero =>
      intro i z hi hi1 z1 z2
      have : i = m := by omega
      subst this
      rw [wX12_monthDay_7]
      exact ⟨fun _ => k z (by omega) (by omega), fun h => absurd (nI_le (Nat.le_refl _) (by omega)) h⟩
    | succ n ih =>
      intro i z hi hi1 z1 z2
      rw [wX12_monthDay_7, nI_1]
      refine ⟨fun hc => ?_, fun _ => m_mLen9 (by omega) (fun l l1 l2 => ?_)⟩
      · rw [nI_leI (by omega) (by omega)] at hc; omega
      · rw [nI_i l, iI_add]
        exact ih (i + 1) (z + l) (by omega) (by omega) (by omega) (by omega)
  have e0 : (365 * (1999 - 2000) + (1999 - 2000 + 3) / 4 : Int32) = iI (-365) := by decide
  rw [e0]
  exact ⟨m - 1 + 1, Lp (m - 1) 1 (-365) (by omega) (Nat.le_refl _) (by omega) (by omega)⟩
theorem m_pmon9 {x y : Int32} (k : Q' s) : wpX12_pushMonth 1999 x y s Q' := by
  unfold wpX12_pushMonth
  rw [show wpX12_in 1999 2000 2027 = wpX12_in (nI 1999) (nI 2000) (nI 2027) from rfl, m_inN (by decide) (by decide) (by decide)]
  exact j0 k
/-- the name of a month alone -/
theorem m_pmons {a : Nat} {x : Int32} (h : HP H s) (hH : H.length + 2 ≤ 1024) (hr : s.1 177 15 = nI r) (hd : r ≤ 9999) (ha : a < 12) (ex : x = nI (a + 1)) (k : ∀ s', fm [181] [14] s s' → HP (H ++ bs r (7, a, 0, 0)) s' → Q' s') : wpX12_pushMonths x s Q' := by
  subst ex
  have hy := yr_le hd
  obtain ⟨y1, y2⟩ := yr_ok r
  unfold wpX12_pushMonths
  rw [show gi s 177 15 = nI r from hr]
  refine m_yearOf hd ?_
  obtain ⟨M, hM⟩ : ∃ M, M = 12 * yr r + a := ⟨_, rfl⟩
  have eb : bs r (7, a, 0, 0) = mos (((if mS (M + 1) ≤ r then M + 12 else M) : Nat) : Int) 1 2 3 ++ mos ((M : Int) - (if mS M < r then 0 else 12)) 1 2 2 := by
    unfold bs
    rw [if_neg (by simp), if_neg (by simp), if_neg (by simp), if_neg (by simp), if_neg (by simp), if_neg (by simp), if_neg (by simp), if_pos rfl]
    show mos ((yr r : Int) * 12 + (a : Int) + (if mS (12 * yr r + (a : Int).toNat + 1) ≤ r then 12 else 0)) 1 2 3 ++ mos ((yr r : Int) * 12 + (a : Int) - (if mS (12 * yr r + (a : Int).toNat) < r then 0 else 12)) 1 2 2 = _
    rw [show (a : Int).toNat = a by omega, ← hM]
    congr 2
    · split <;> omega
    · omega
  rw [eb] at k
  have md : ∀ m Y : Nat, m = 12 * Y + a → m < 348 → ∀ {Q : Int32 → gS → Prop} {s : gS}, Q (nI (mS m)) s → wpX12_monthDay (nI (2000 + Y)) (nI (a + 1)) s Q := fun m Y e hm Q s kq => m_mDay (by omega) (by omega) (by omega) (by rw [show 12 * Y + (a + 1 - 1) = m by omega]; exact kq)
  have ml : ∀ m Y : Nat, m = 12 * Y + a → m < 348 → mS (m + 1) = mS m + mL Y (a + 1) := fun m Y e hm => by
    have := mS_s (m := m) (by omega)
    rw [show m / 12 = Y by omega, show m % 12 = a by omega] at this
    exact this
  have pm : ∀ (m Y w : Nat), m = 12 * Y + a → m < 348 → ∀ {H : List Rd} {x : Int32} {s : gS} {Q' : gS → Prop}, HP H s → H.length < 1024 → x = nI w → (∀ s', fm [181] [14] s s' → HP (H ++ mos m 1 2 w) s' → Q' s') → wpX12_pushMonth (nI (2000 + Y)) (nI (a + 1)) x s Q' := fun m Y w e hm H x s Q' hp hl ex kq => by
    have := m_pmon (m := m) hp hl hm ex kq
    rw [show m / 12 = Y by omega, show m % 12 = a by omega] at this
    exact this
  have mbd : ∀ m, m < 349 → mS m ≤ 20000 := fun m hm => by
    have h1 := mS_mo (m := m) (n := 360) (by omega) (by omega)
    have : mS 360 < 20000 := by decide
    omega
  have hM2 : M < 336 := by omega
  -- the second search
  have sec : ∀ (s1 : gS) H1, HP H1 s1 → H1.length < 1024 → s1.1 177 15 = nI r → fm [181] [14] s s1 → (∀ s', fm [181] [14] s s' → HP (H1 ++ mos ((M : Int) - (if mS M < r then 0 else 12)) 1 2 2) s' → Q' s') → wpX12_yearOf (gi s1 177 15) s1 (fun r5 s5 => ∃ n49, wX12_pushMonths_49 (nI (a + 1)) Q' n49 r5 s5) := by
    intro s1 H1 hp hl h15 f1 k1
    rw [show gi s1 177 15 = nI r from h15]
    refine m_yearOf hd ⟨2, ?_⟩
    rw [wX12_pushMonths_49]
    refine md M (yr r) hM (by omega) ?_
    have b1 := mbd M (by omega)
    rw [show gi s1 177 15 = nI r from h15, nI_ltI (by omega) (by omega)]
    refine ⟨fun h1 => ?_, fun h1 => ?_⟩
    · rw [if_pos h1, Int.sub_zero] at k1
      exact pm M (yr r) 2 hM (by omega) hp hl rfl (fun s2 f2 p2 => k1 s2 (f1.tr f2) p2)
    · rw [if_neg h1] at k1
      rw [wX12_pushMonths_49]
      cases hY : yr r with
      | zero =>
        have e9 : nI (2000 + 0) + -1 = 1999 := by decide
        rw [e9]
        refine m_mDay9 (by omega) (by omega) (fun z z1 z2 => ?_)
        rw [show gi s1 177 15 = nI r from h15, nI_i r, iI_lt (by omega) (by omega) (by omega) (by omega)]
        refine ⟨fun _ => m_pmon9 (k1 s1 f1 ?_), fun hc => absurd (by omega) hc⟩
        have : mos ((M : Int) - 12) 1 2 2 = [] := by
          unfold mos
          rw [if_neg (by omega)]
        rw [this, List.append_nil]
        exact hp
      | succ Y =>
        have e9 : nI (2000 + (Y + 1)) + -1 = nI (2000 + Y) := by
          rw [nI_i, show (-1 : Int32) = iI (-1) from rfl, iI_add, nI_i]
          congr 1
          omega
        rw [e9]
        refine md (M - 12) Y (by omega) (by omega) ?_
        have b2 := mbd (M - 12) (by omega)
        have b3 := mS_mo (m := M - 12 + 1) (n := 12 * yr r) (by omega) (by omega)
        have b4 := mS_mo (m := M - 12) (n := M - 12 + 1) (by omega) (by omega)
        rw [show gi s1 177 15 = nI r from h15, nI_ltI (by omega) (by omega)]
        refine ⟨fun _ => pm (M - 12) Y 2 (by omega) (by omega) hp hl rfl (fun s2 f2 p2 => k1 s2 (f1.tr f2) ?_), fun hc => absurd (by omega) hc⟩
        rw [show ((M - 12 : Nat) : Int) = (M : Int) - 12 by omega] at p2
        exact p2
  refine ⟨2, ?_⟩
  rw [wX12_pushMonths_8]
  refine md M (yr r) hM (by omega) ?_
  rw [m_mLen (by omega) (by omega)]
  have b1 := mbd M (by omega)
  have b2 := mbd (M + 1) (by omega)
  have l1 := ml M (yr r) hM (by omega)
  have l2 := mL_bd (yr r) (a + 1)
  have e1 : ∀ x l : Nat, 1 ≤ l → nI x + nI l - 1 = nI (x + l - 1) := fun x l hl => by
    rw [nI_add, nI_i, show (1 : Int32) = iI 1 from rfl, iI_sub, nI_i]
    congr 1
    omega
  rw [show gi s 177 15 = nI r from hr, e1 _ _ (by omega), nI_leI (by omega) (by omega)]
  refine ⟨fun h1 => ?_, fun h1 => ?_⟩
  · rw [if_neg (by omega)] at k
    refine pm M (yr r) 3 hM (by omega) h (by omega) rfl (fun s2 f2 p2 => ?_)
    have := mos_le (m := (M : Int)) (k := 1) (g := 2) (w := 3)
    refine sec s2 _ p2 (by rw [List.length_append]; omega) (by rw [f2.2.1 15 (by decide)]; exact hr) f2 (fun s3 f3 p3 => k s3 f3 ?_)
    rw [← List.append_assoc]
    exact p3
  · rw [if_pos (by omega)] at k
    rw [wX12_pushMonths_8, nI_1, show 2000 + yr r + 1 = 2000 + (yr r + 1) by omega]
    refine md (M + 12) (yr r + 1) (by omega) (by omega) ?_
    rw [m_mLen (by omega) (by omega)]
    have b3 := mbd (M + 12) (by omega)
    have b4 := mbd (M + 13) (by omega)
    have l3 := ml (M + 12) (yr r + 1) (by omega) (by omega)
    have l4 := mL_bd (yr r + 1) (a + 1)
    have l5 := mS_mo (m := 12 * (yr r + 1)) (n := M + 12) (by omega) (by omega)
    rw [show gi s 177 15 = nI r from hr, e1 _ _ (by omega), nI_leI (by omega) (by omega)]
    refine ⟨fun _ => ?_, fun hc => absurd (by omega) hc⟩
    refine pm (M + 12) (yr r + 1) 3 (by omega) (by omega) h (by omega) rfl (fun s2 f2 p2 => ?_)
    have := mos_le (m := ((M + 12 : Nat) : Int)) (k := 1) (g := 2) (w := 3)
    refine sec s2 _ p2 (by rw [List.length_append]; omega) (by rw [f2.2.1 15 (by decide)]; exact hr) f2 (fun s3 f3 p3 => k s3 f3 ?_)
    rw [← List.append_assoc]
    exact p3
end MONTHS
