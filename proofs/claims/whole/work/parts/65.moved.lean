/-! day, date, moved -/
def mvS (d u : Nat) (n : Int) : Int := if u < 2 then (if 0 ≤ (d : Int) + (if u = 0 then n else 7 * n) ∧ (d : Int) + (if u = 0 then n else 7 * n) ≤ 9999 then (d : Int) + (if u = 0 then n else 7 * n) else -1) else (if 0 ≤ (mo d : Int) + (if u = 2 then n else 12 * n) ∧ (mo d : Int) + (if u = 2 then n else 12 * n) ≤ 335 then (if min (mS ((mo d : Int) + (if u = 2 then n else 12 * n)).toNat + (d - mS (mo d))) (mS (((mo d : Int) + (if u = 2 then n else 12 * n)).toNat + 1) - 1) ≤ 9999 then (min (mS ((mo d : Int) + (if u = 2 then n else 12 * n)).toNat + (d - mS (mo d))) (mS (((mo d : Int) + (if u = 2 then n else 12 * n)).toNat + 1) - 1) : Nat) else -1) else -1)
section MOVED
variable {t : List Nat} {L : List Int32} {g g' : Sy} {us us' : List Sy} {ks : Nat → Option Sy} {s s' : gS} {K : gS → Prop} {Q : Int32 → gS → Prop}
theorem c_mv97 {x0 x1 x2 : Int32} {y : Int} (h1 : -2147483648 ≤ y) (h2 : y ≤ 2147483647) (k : Q (iI (if 0 ≤ y ∧ y ≤ 9999 then y else -1)) s) : wX0_move_97 x0 x1 x2 Q (iI y) s := by
  unfold wX0_move_97
  rw [c_isDay h1 h2]
  by_cases h : 0 ≤ y ∧ y ≤ 9999
  · rw [if_pos h] at k
    simp only [h, and_self, decide_true]
    exact ⟨fun h => absurd h (by decide), fun _ => k⟩
  · rw [if_neg h] at k
    simp only [h, decide_false]
    exact ⟨fun _ => k, fun h => absurd rfl h⟩
theorem c_move {d u : Nat} {n : Int} (hd : d ≤ 9999) (hu : u < 4) (hn : -9999 ≤ n ∧ n ≤ 9999) (k : Q (iI (mvS d u n)) s) : wpX0_move (nI d) (nI u) (iI n) s Q := by
  obtain ⟨o1, o2, o3, o4⟩ := mo_ok hd
  have zu : ∀ j : Nat, j < 100 → (nI u = nI j) = (u = j) := fun j hj => by rw [nI_eq (by omega) (by omega)]
  have late : ∀ z : Int, z = (if u = 2 then n else 12 * n) → ¬ u < 2 → wX0_move_49 (nI d) (nI u) (iI n) Q (wX0_move_97 (nI d) (nI u) (iI n) Q) (nI (mo d)) (iI z) (nI (mo d)) s := by
    intro z hz hu2
    have hzb : -200000 ≤ z ∧ z ≤ 200000 := by rw [hz]; split <;> omega
    unfold mvS at k
    rw [if_neg hu2, ← hz] at k
    unfold wX0_move_49
    have e1 : nI (mo d) + iI z = iI ((mo d : Int) + z) := by rw [nI_i, iI_add]
    rw [e1, show (0 : Int32) = iI 0 from rfl, show (336 : Int32) = iI 336 from rfl, iI_lt (by omega) (by omega) (by decide) (by decide), iI_lt (by omega) (by omega) (by decide) (by decide)]
    by_cases hM : 0 ≤ (mo d : Int) + z ∧ (mo d : Int) + z ≤ 335
    · rw [if_pos hM] at k
      refine ⟨fun h => by omega, fun _ => ⟨fun _ => ?_, fun h => by omega⟩⟩
      have e2 : iI ((mo d : Int) + z) = nI ((mo d : Int) + z).toNat := by rw [nI_i]; congr 1; omega
      generalize hm : ((mo d : Int) + z).toNat = m at *
      have hb := mS_lt (show m ≤ 336 by omega)
      have hb2 := mS_lt (show m + 1 ≤ 336 by omega)
      have hst := mS_mo (show m ≤ m + 1 by omega) (by omega)
      rw [e2, c_mStart (by omega), c_mStart (by omega), nI_1, c_mStart (by omega)]
      have e3 : jmin (nI (mS m) + (nI d - nI (mS (mo d)))) (nI (mS (m + 1)) - 1) = iI ((min (mS m + (d - mS (mo d))) (mS (m + 1) - 1) : Nat) : Int) := by
        rw [nI_i, nI_i, nI_i, nI_i, show (1 : Int32) = iI 1 from rfl, iI_sub, iI_add, iI_sub, iI_min (by omega) (by omega) (by omega) (by omega)]
        congr 1
        omega
      rw [e3]
      refine c_mv97 (by omega) (by omega) ?_
      by_cases hf : min (mS m + (d - mS (mo d))) (mS (m + 1) - 1) ≤ 9999
      · rw [if_pos hf] at k
        rw [if_pos (by omega)]
        exact k
      · rw [if_neg hf] at k
        rw [if_neg (by omega)]
        exact k
    · rw [if_neg hM] at k
      exact ⟨fun _ => k, fun _ => ⟨fun h => by omega, fun _ => k⟩⟩
  have early : ∀ z : Int, -80000 ≤ z ∧ z ≤ 80000 → (u < 2 → z = (d : Int) + (if u = 0 then n else 7 * n)) → wX0_move_17 (nI d) (nI u) (iI n) Q (iI z) s := by
    intro z hzb hz
    unfold wX0_move_17 wX0_move_28
    rw [show (2 : Int32) = nI 2 from rfl, show (3 : Int32) = nI 3 from rfl, zu 2 (by decide), zu 3 (by decide)]
    refine ⟨fun h2 => c_monthOf hd ⟨fun _ => late n (by rw [if_pos h2]) (by omega), fun h3 => by omega⟩, fun h2 => ⟨fun h3 => c_mv97 (by omega) (by omega) ?_, fun h3 => c_monthOf hd ⟨fun h4 => absurd h3 h4, fun _ => ?_⟩⟩⟩
    · have hu2 : u < 2 := by omega
      rw [hz hu2]
      unfold mvS at k
      rw [if_pos hu2] at k
      exact k
    · rw [show (12 : Int32) = iI 12 from rfl, iI_mul]
      exact late (12 * n) (by rw [if_neg h2]) (by omega)
  unfold wpX0_move
  rw [show (1 : Int32) = nI 1 from rfl, zu 1 (by decide)]
  refine ⟨fun h1 => ?_, fun h1 => ?_⟩
  · rw [show nI d + iI n = iI ((d : Int) + n) from by rw [nI_i, iI_add]]
    exact early _ (by omega) (fun hu2 => by rw [if_pos (by omega)])
  · rw [show nI d + 7 * iI n = iI ((d : Int) + 7 * n) from by rw [nI_i, show (7 : Int32) = iI 7 from rfl, iI_mul, iI_add]]
    exact early _ (by omega) (fun hu2 => by rw [if_neg (by omega)])
theorem m_move {d u : Nat} {n : Int} (hd : d ≤ 9999) (hu : u < 4) (hn : -9999 ≤ n ∧ n ≤ 9999) (k : Q (iI (mvS d u n)) s) : wpX12_move (nI d) (nI u) (iI n) s Q := by
  obtain ⟨o1, o2, o3, o4⟩ := mo_ok hd
  have hy := yr_le hd
  have zu : ∀ j : Nat, j < 100 → (nI u = nI j) = (u = j) := fun j hj => by rw [nI_eq (by omega) (by omega)]
  have late : ∀ z : Int, z = (if u = 2 then n else 12 * n) → ¬ u < 2 → wX12_move_64 (nI d) (nI u) (iI n) Q (iI z) (nI (mo d)) s := by
    intro z hz hu2
    have hzb : -200000 ≤ z ∧ z ≤ 200000 := by rw [hz]; split <;> omega
    unfold mvS at k
    rw [if_neg hu2, ← hz] at k
    unfold wX12_move_64
    have e1 : nI (mo d) + iI z = iI ((mo d : Int) + z) := by rw [nI_i, iI_add]
    rw [e1]
    have i1 : wpX12_in (iI ((mo d : Int) + z)) 0 335 s = wpX12_in (iI ((mo d : Int) + z)) (iI 0) (iI 335) s := rfl
    rw [i1, m_in (by omega) (by omega) (by decide) (by decide) (by decide) (by decide)]
    by_cases hM : 0 ≤ (mo d : Int) + z ∧ (mo d : Int) + z ≤ 335
    · rw [if_pos hM] at k
      rw [show decide (0 ≤ (mo d : Int) + z ∧ (mo d : Int) + z ≤ 335) = true by simpa using hM]
      refine ⟨fun _ => m_numberOf hd ?_, fun h => absurd h (by decide)⟩
      have e2 : iI ((mo d : Int) + z) = nI ((mo d : Int) + z).toNat := by rw [nI_i]; congr 1; omega
      generalize hm : ((mo d : Int) + z).toNat = m at *
      have e3 : 2000 + nI m / 12 = nI (2000 + m / 12) := by
        rw [show (12 : Int32) = nI 12 from rfl, nI_div (by omega) (by decide) (by decide)]
        exact nI_add 2000 _
      have e4 : jrem (nI m) 12 + 1 = nI (m % 12 + 1) := by
        rw [show (12 : Int32) = nI 12 from rfl, nI_rem (by omega) (by decide) (by decide)]
        exact nI_1 _
      have hml := mL_bd (m / 12) (m % 12 + 1)
      have hs := mS_s (show m < 360 by omega)
      have hb2 := mS_lt (show m + 1 ≤ 336 by omega)
      have hst := mS_s (show mo d < 360 by omega)
      have hmd := mL_bd (mo d / 12) (mo d % 12 + 1)
      rw [e2, e3, e4, m_mLen (by omega) (by omega)]
      have e5 : jmin (nI (d - mS (mo d) + 1)) (nI (mL (m / 12) (m % 12 + 1))) = iI (min (d - mS (mo d) + 1) (mL (m / 12) (m % 12 + 1)) : Nat) := by
        rw [nI_i, nI_i, iI_min (by omega) (by omega) (by omega) (by omega)]
        congr 1
        omega
      rw [e5]
      refine m_dayOf (by omega) (by omega) (by omega) (by omega) (by omega) ?_
      rw [if_pos (by omega), show 12 * (m / 12) + (m % 12 + 1 - 1) = m by omega, Int.toNat_natCast]
      unfold dIM
      by_cases hf : min (mS m + (d - mS (mo d))) (mS (m + 1) - 1) ≤ 9999
      · rw [if_pos hf] at k
        rw [if_pos (by omega)]
        rw [show (mS m : Int) + ((min (d - mS (mo d) + 1) (mL (m / 12) (m % 12 + 1)) : Nat) : Int) - 1 = ((min (mS m + (d - mS (mo d))) (mS (m + 1) - 1) : Nat) : Int) by omega]
        exact k
      · rw [if_neg hf] at k
        rw [if_neg (by omega)]
        exact k
    · rw [if_neg hM] at k
      rw [show decide (0 ≤ (mo d : Int) + z ∧ (mo d : Int) + z ≤ 335) = false by simpa using hM]
      exact ⟨fun h => absurd rfl h, fun _ => k⟩
  have early : ∀ z : Int, -80000 ≤ z ∧ z ≤ 80000 → u < 2 → z = (if u = 0 then n else 7 * n) → wX12_move_18 (nI d) (nI u) (iI n) Q (iI z) (nI d) s := by
    intro z hzb hu2 hz
    unfold mvS at k
    rw [if_pos hu2, ← hz] at k
    unfold wX12_move_18
    rw [show nI d + iI z = iI ((d : Int) + z) from by rw [nI_i, iI_add], m_isDay (by omega) (by omega)]
    by_cases h : 0 ≤ (d : Int) + z ∧ (d : Int) + z ≤ 9999
    · rw [if_pos h] at k
      simp only [h, and_self, decide_true]
      exact ⟨fun h => absurd h (by decide), fun _ => k⟩
    · rw [if_neg h] at k
      simp only [h, decide_false]
      exact ⟨fun _ => k, fun h => absurd rfl h⟩
  unfold wpX12_move
  have e9 : 12 * (nI (2000 + yr d) - 2000) + nI (mo d % 12 + 1) - 1 = nI (mo d) := by
    rw [nI_i, nI_i, show (12 : Int32) = iI 12 from rfl, show (2000 : Int32) = iI 2000 from rfl, show (1 : Int32) = iI 1 from rfl, iI_sub, iI_mul, iI_add, iI_sub, nI_i]
    congr 1
    omega
  rw [show (2 : Int32) = nI 2 from rfl, nI_leI (by decide) (by omega), zu 2 (by decide), show (0 : Int32) = nI 0 from rfl, zu 0 (by decide)]
  refine ⟨fun h2 => m_yearOf hd (m_monthOf hd ?_), fun h2 => ⟨fun h0 => ?_, fun h0 => ?_⟩⟩
  · rw [e9]
    refine ⟨fun h3 => ?_, fun h3 => late n (by rw [if_pos h3]) (by omega)⟩
    rw [show (12 : Int32) = iI 12 from rfl, iI_mul]
    exact late (12 * n) (by rw [if_neg h3]) (by omega)
  · rw [show (7 : Int32) = iI 7 from rfl, iI_mul]
    exact early (7 * n) (by omega) (by omega) (by rw [if_neg h0])
  · exact early n (by omega) (by omega) (by rw [if_pos h0])
theorem mvS_bd (d u : Nat) (n : Int) : -1 ≤ mvS d u n ∧ mvS d u n ≤ 9999 := by
  unfold mvS
  split
  · split <;> omega
  · split
    · split <;> omega
    · omega
theorem dIM_bd (m n : Nat) (hn : 1 ≤ n) : -1 ≤ dIM m n ∧ dIM m n ≤ 9999 := by
  unfold dIM
  split <;> omega
theorem S_day {x y z : Int32} (A : okA t L g us ks) (C : CI t L g us ks s) (M : MI t L g us ks s) (kk : KK t K) : wpX11_day x y z s (fun r s1 => wpX12_day x y z s1 (eqK K r)) := by
  obtain ⟨a, a1, a2, rfl⟩ := i_ex x
  obtain ⟨b, b1, b2, rfl⟩ := i_ex y
  obtain ⟨c, c1, c2, rfl⟩ := i_ex z
  by_cases hv : (2000 ≤ a ∧ a ≤ 2027) ∧ (1 ≤ b ∧ b ≤ 12)
  · obtain ⟨Y, hY⟩ : ∃ Y : Nat, a = ((2000 + Y : Nat) : Int) := ⟨(a - 2000).toNat, by omega⟩
    obtain ⟨m, hm⟩ : ∃ m : Nat, b = (m : Int) := ⟨b.toNat, by omega⟩
    subst hY hm
    refine S_q (L' := L) (r := iI (if 1 ≤ c ∧ c ≤ 31 then dIM (12 * Y + (m - 1)) c.toNat else -1)) (WC := wpX11_day (iI ((2000 + Y : Nat) : Int)) (iI (m : Int)) (iI c) s) (WM := wpX12_day (iI ((2000 + Y : Nat) : Int)) (iI (m : Int)) (iI c)) A C M A.2.1 kk (fun Q k => ?_) (fun s1 M1 Q k => ?_)
    · have k0 := qC_self C k
      unfold wpX11_day wpX0_dayOf
      rw [show (2000 : Int32) = iI 2000 from rfl, show (2027 : Int32) = iI 2027 from rfl, show (12 : Int32) = iI 12 from rfl, show (1 : Int32) = iI 1 from rfl, iI_lt a1 a2 (by decide) (by decide), iI_lt (by decide) (by decide) a1 a2, iI_lt b1 b2 (by decide) (by decide), iI_le b1 b2 (by decide) (by decide)]
      refine ⟨fun h => by omega, fun _ => ⟨fun h => by omega, fun _ => ⟨fun h => by omega, fun _ => ⟨fun _ => ?_, fun h => by omega⟩⟩⟩⟩
      rw [iI_sub, iI_mul, iI_add, iI_sub, show iI ((((2000 + Y : Nat) : Int) - 2000) * 12 + (m : Int) - 1) = nI (12 * Y + (m - 1)) from by
        rw [nI_i]; congr 1; omega]
      exact c_dInM (by omega) c1 c2 k0
    · unfold wpX12_day
      rw [← nI_i, ← nI_i]
      exact m_dayOf (by omega) (by omega) (by omega) c1 c2 (qM_th M1 k)
  · refine S_q (L' := L) (r := -1) (WC := wpX11_day (iI a) (iI b) (iI c) s) (WM := wpX12_day (iI a) (iI b) (iI c)) A C M A.2.1 kk (fun Q k => ?_) (fun s1 M1 Q k => ?_)
    · have k0 := qC_self C k
      unfold wpX11_day wpX0_dayOf
      rw [show (2000 : Int32) = iI 2000 from rfl, show (2027 : Int32) = iI 2027 from rfl, show (12 : Int32) = iI 12 from rfl, show (1 : Int32) = iI 1 from rfl, iI_lt a1 a2 (by decide) (by decide), iI_lt (by decide) (by decide) a1 a2, iI_lt b1 b2 (by decide) (by decide), iI_le b1 b2 (by decide) (by decide)]
      exact ⟨fun _ => k0, fun h1 => ⟨fun _ => k0, fun h2 => ⟨fun _ => k0, fun h3 => ⟨fun h4 => by omega, fun _ => k0⟩⟩⟩⟩
    · have k0 := qM_th M1 k
      unfold wpX12_day wpX12_dayOf
      show wpX12_in (iI a) (iI 2000) (iI 2027) _ _
      rw [m_in a1 a2 (by decide) (by decide) (by decide) (by decide)]
      by_cases ha : 2000 ≤ a ∧ a ≤ 2027
      · rw [show decide (2000 ≤ a ∧ a ≤ 2027) = true by simpa using ha]
        refine ⟨fun h => absurd h (by decide), fun _ => ?_⟩
        show wpX12_in (iI b) (iI 1) (iI 12) _ _
        rw [m_in b1 b2 (by decide) (by decide) (by decide) (by decide), show decide (1 ≤ b ∧ b ≤ 12) = false by
          have : ¬ (1 ≤ b ∧ b ≤ 12) := fun h => hv ⟨ha, h⟩
          simpa using this]
        exact ⟨fun _ => k0, fun h => absurd rfl h⟩
      · rw [show decide (2000 ≤ a ∧ a ≤ 2027) = false by simpa using ha]
        exact ⟨fun _ => k0, fun h => absurd rfl h⟩
theorem day_ex {d : Int} (h : 0 ≤ d ∧ d ≤ 9999) : ∃ n : Nat, n ≤ 9999 ∧ d = (n : Int) := ⟨d.toNat, by omega, by omega⟩
theorem S_date {x : Int32} (A : okA t L g us ks) (C : CI t L g us ks s) (M : MI t L g us ks s) (kk : KK t K) : wpX11_date x s (fun r s1 => wpX12_date x s1 (eqK K r)) := by
  obtain ⟨d, d1, d2, rfl⟩ := i_ex x
  by_cases hd : 0 ≤ d ∧ d ≤ 9999
  · obtain ⟨n, hn, rfl⟩ := day_ex hd
    obtain ⟨o1, o2, o3, o4⟩ := mo_ok hn
    have hy := yr_le hn
    have ew : jrem (iI (n : Int) + 5) 7 = nI ((n + 5) % 7) := by
      rw [← nI_i, show nI n + 5 = nI (n + 5) from nI_add n 5]
      exact nI_rem (b := 7) (by omega) (by decide) (by decide)
    refine S_q (L' := [nI (mo n % 12 + 1), nI (n - mS (mo n) + 1), nI ((n + 5) % 7)]) (r := nI (2000 + yr n)) (WC := wpX11_date (iI n) s) (WM := wpX12_date (iI n)) A C M (by simp) kk (fun Q k => ?_) (fun s1 M1 Q k => ?_)
    · unfold wpX11_date
      rw [c_isDay d1 d2]
      simp only [hd, and_self, decide_true]
      refine ⟨fun _ => ?_, fun h => absurd h (by decide)⟩
      rw [← nI_i] at *
      refine c_monthOf hn ?_
      refine c_clear (fun s1 f1 R1 => ?_)
      have e1 : jrem (nI (mo n)) 12 + 1 = nI (mo n % 12 + 1) := by
        rw [show (12 : Int32) = nI 12 from rfl, nI_rem (by omega) (by decide) (by decide)]
        exact nI_1 _
      rw [e1]
      refine c_add R1 (by simp) (fun s2 f2 R2 => ?_)
      rw [c_mStart (by omega)]
      have e2 : nI n - nI (mS (mo n)) + 1 = nI (n - mS (mo n) + 1) := by
        rw [nI_i, nI_i, show (1 : Int32) = iI 1 from rfl, iI_sub, iI_add, nI_i]
        congr 1
        omega
      rw [e2]
      refine c_add R2 (by simp) (fun s3 f3 R3 => ?_)
      unfold wpX0_weekday
      rw [ew]
      refine c_add R3 (by simp) (fun s4 f4 R4 => ?_)
      have e3 : 2000 + nI (mo n) / 12 = nI (2000 + yr n) := by
        rw [show (12 : Int32) = nI 12 from rfl, nI_div (by omega) (by decide) (by decide), o3]
        exact nI_add 2000 _
      rw [e3]
      have f5 := f1.tr (f2.tr (f3.tr f4))
      exact k s4 (f5.mono rD_q) (fun j hj => by rw [f5.1 0 rfl]) R4 (rD_v f5 C.2.2.2.1)
    · unfold wpX12_date
      rw [m_isDay d1 d2]
      simp only [hd, and_self, decide_true]
      refine ⟨fun _ => ?_, fun h => absurd h (by decide)⟩
      rw [← nI_i] at *
      refine m_monthOf hn ?_
      refine m_tell m_new (by simp) (fun s2 f2 R2 => ?_)
      refine m_numberOf hn ?_
      refine m_tell R2 (by simp) (fun s3 f3 R3 => ?_)
      unfold wpX12_weekday
      rw [ew]
      refine m_tell R3 (by simp) (fun s4 f4 R4 => ?_)
      refine m_yearOf hn ?_
      exact k s4 (m_th.tr (m_rw.tr ((f2.tr (f3.tr f4)).mono (by decide) (by decide)))) R4
  · refine S_q (L' := L) (r := -1) (WC := wpX11_date (iI d) s) (WM := wpX12_date (iI d)) A C M A.2.1 kk (fun Q k => ?_) (fun s1 M1 Q k => ?_)
    · unfold wpX11_date
      rw [c_isDay d1 d2]
      simp only [hd, decide_false]
      exact ⟨fun h => absurd rfl h, fun _ => qC_self C k⟩
    · unfold wpX12_date
      rw [m_isDay d1 d2]
      simp only [hd, decide_false]
      exact ⟨fun h => absurd rfl h, fun _ => qM_th M1 k⟩
theorem S_moved {x y z : Int32} (A : okA t L g us ks) (C : CI t L g us ks s) (M : MI t L g us ks s) (kk : KK t K) : wpX11_moved x y z s (fun r s1 => wpX12_moved x y z s1 (eqK K r)) := by
  obtain ⟨d, d1, d2, rfl⟩ := i_ex x
  obtain ⟨u, u1, u2, rfl⟩ := i_ex y
  obtain ⟨n, n1, n2, rfl⟩ := i_ex z
  by_cases hv : (0 ≤ d ∧ d ≤ 9999) ∧ (0 ≤ u ∧ u ≤ 3) ∧ (-9999 ≤ n ∧ n ≤ 9999)
  · obtain ⟨hd, hu, hn⟩ := hv
    obtain ⟨e, he, rfl⟩ := day_ex hd
    obtain ⟨w, rfl⟩ : ∃ w : Nat, u = (w : Int) := ⟨u.toNat, by omega⟩
    have hb := mvS_bd e w n
    refine S_q (L' := L) (r := if mvS e w n = -1 then -2 else iI (mvS e w n)) (WC := wpX11_moved (iI e) (iI w) (iI n) s) (WM := wpX12_moved (iI e) (iI w) (iI n)) A C M A.2.1 kk (fun Q k => ?_) (fun s1 M1 Q k => ?_)
    · have k0 := qC_self C k
      unfold wpX11_moved
      rw [c_isDay d1 d2]
      simp only [hd, and_self, decide_true]
      refine ⟨fun h => absurd h (by decide), fun _ => ?_⟩
      rw [show (0 : Int32) = iI 0 from rfl, show (3 : Int32) = iI 3 from rfl, show (-9999 : Int32) = iI (-9999) from rfl, show (9999 : Int32) = iI 9999 from rfl, iI_lt u1 u2 (by decide) (by decide), iI_lt (by decide) (by decide) u1 u2, iI_lt n1 n2 (by decide) (by decide), iI_le n1 n2 (by decide) (by decide)]
      refine ⟨fun h => by omega, fun _ => ⟨fun h => by omega, fun _ => ⟨fun h => by omega, fun _ => ⟨fun _ => ?_, fun h => by omega⟩⟩⟩⟩
      rw [← nI_i, ← nI_i]
      refine c_move he (by omega) hn ?_
      rw [show (-1 : Int32) = iI (-1) from rfl, iI_eq (by omega) (by omega) (by decide) (by decide)]
      refine ⟨fun h => ?_, fun h => ?_⟩
      · rw [if_neg h] at k0; exact k0
      · rw [if_pos h] at k0; exact k0
    · have k0 := qM_th M1 k
      unfold wpX12_moved
      rw [m_isDay d1 d2]
      simp only [hd, and_self, decide_true]
      refine ⟨fun h => absurd h (by decide), fun _ => ?_⟩
      show wpX12_in (iI (w : Int)) (iI 0) (iI 3) _ _
      rw [m_in u1 u2 (by decide) (by decide) (by decide) (by decide), show decide (0 ≤ (w : Int) ∧ (w : Int) ≤ 3) = true by simpa using hu]
      refine ⟨fun h => absurd h (by decide), fun _ => ?_⟩
      show wpX12_in (iI n) (iI (-9999)) (iI 9999) _ _
      rw [m_in n1 n2 (by decide) (by decide) (by decide) (by decide), show decide (-9999 ≤ n ∧ n ≤ 9999) = true by simpa using hn]
      refine ⟨fun _ => ?_, fun h => absurd h (by decide)⟩
      rw [← nI_i, ← nI_i]
      refine m_move he (by omega) hn ?_
      rw [show (-1 : Int32) = iI (-1) from rfl, iI_eq (by omega) (by omega) (by decide) (by decide)]
      refine ⟨fun h => ?_, fun h => ?_⟩
      · rw [if_neg h] at k0; exact k0
      · rw [if_pos h] at k0; exact k0
  · refine S_q (L' := L) (r := -1) (WC := wpX11_moved (iI d) (iI u) (iI n) s) (WM := wpX12_moved (iI d) (iI u) (iI n)) A C M A.2.1 kk (fun Q k => ?_) (fun s1 M1 Q k => ?_)
    · have k0 := qC_self C k
      unfold wpX11_moved
      rw [c_isDay d1 d2]
      by_cases hd : 0 ≤ d ∧ d ≤ 9999
      · simp only [hd, and_self, decide_true]
        refine ⟨fun h => absurd h (by decide), fun _ => ?_⟩
        rw [show (0 : Int32) = iI 0 from rfl, show (3 : Int32) = iI 3 from rfl, show (-9999 : Int32) = iI (-9999) from rfl, show (9999 : Int32) = iI 9999 from rfl, iI_lt u1 u2 (by decide) (by decide), iI_lt (by decide) (by decide) u1 u2, iI_lt n1 n2 (by decide) (by decide), iI_le n1 n2 (by decide) (by decide)]
        exact ⟨fun _ => k0, fun h1 => ⟨fun _ => k0, fun h2 => ⟨fun _ => k0, fun h3 => ⟨fun h4 => absurd ⟨hd, by omega, by omega⟩ hv, fun _ => k0⟩⟩⟩⟩
      · simp only [hd, decide_false]
        exact ⟨fun _ => k0, fun h => absurd rfl h⟩
    · have k0 := qM_th M1 k
      unfold wpX12_moved
      rw [m_isDay d1 d2]
      by_cases hd : 0 ≤ d ∧ d ≤ 9999
      · simp only [hd, and_self, decide_true]
        refine ⟨fun h => absurd h (by decide), fun _ => ?_⟩
        show wpX12_in (iI u) (iI 0) (iI 3) _ _
        rw [m_in u1 u2 (by decide) (by decide) (by decide) (by decide)]
        by_cases hu : 0 ≤ u ∧ u ≤ 3
        · rw [show decide (0 ≤ u ∧ u ≤ 3) = true by simpa using hu]
          refine ⟨fun h => absurd h (by decide), fun _ => ?_⟩
          show wpX12_in (iI n) (iI (-9999)) (iI 9999) _ _
          rw [m_in n1 n2 (by decide) (by decide) (by decide) (by decide), show decide (-9999 ≤ n ∧ n ≤ 9999) = false by
            have : ¬ (-9999 ≤ n ∧ n ≤ 9999) := fun h => hv ⟨hd, hu, h⟩
            simpa using this]
          exact ⟨fun h => absurd rfl h, fun _ => k0⟩
        · rw [show decide (0 ≤ u ∧ u ≤ 3) = false by simpa using hu]
          exact ⟨fun _ => k0, fun h => absurd rfl h⟩
      · simp only [hd, decide_false]
        exact ⟨fun _ => k0, fun h => absurd rfl h⟩
end MOVED
