/-! the law's loop -/
section LAWLOOP
variable {Ln : Nat} {xs : Nat → Int32}
set_option maxRecDepth 20000 in
set_option maxHeartbeats 4000000 in
theorem law_L (hL : Ln ≤ 2048) : ∀ c i g t L st us ks s, Ln ≤ 4 * (i + c) + 3 → i + c ≤ 600 → 585 * c + 146 * List.length t ≤ g → okA t L st us ks → CI t L st us ks s → MI t L st us ks s → wL_law_23 Ln xs () (c + 1) g (nI (4 * i)) s := by
  intro c
  induction c with
  | zero =>
    intro i g t L st us ks s h1 h2 hg A C M
    rw [wL_law_23]
    refine ⟨fun _ => trivial, fun hc => absurd ?_ hc⟩
    rw [show Int32.ofNat Ln = nI Ln from rfl, nI_i, nI_i, show (4 : Int32) = iI 4 from rfl, iI_sub, iI_lt (by omega) (by omega) (by omega) (by omega)]
    omega
  | succ c ih =>
    intro i g t L st us ks s h1 h2 hg A C M
    have kk : ∀ g', 585 * c + 146 * (t.length + 4) ≤ g' → KK t (fun s => wL_law_23 Ln xs () (c + 1) g' (nI (4 * (i + 1))) s) := fun g' hg' t' L' st' us' ks' s' ht A' C' M' => ih (i + 1) g' t' L' st' us' ks' s' (by omega) (by omega) (by omega) A' C' M'
    have k0 := kk g (by omega)
    have k1 := kk (g - 1) (by omega)
    have kE : KE (fun s => wL_law_23 Ln xs () (c + 1) (g - (99 * t.length + 279)) (nI (4 * (i + 1))) s) := fun L' st' us' ks' s' A' C' M' => ih (i + 1) _ [] L' st' us' ks' s' (by omega) (by omega) (by show 585 * c + 146 * 0 ≤ _; omega) A' C' M'
    have e1 : nI (4 * i) + 1 = nI (4 * i + 1) := n4a _ 1
    have e2 : nI (4 * i) + 2 = nI (4 * i + 2) := n4a _ 2
    have e3 : nI (4 * i) + 3 = nI (4 * i + 3) := n4a _ 3
    have e4 : nI (4 * i) + 4 = nI (4 * (i + 1)) := n4a _ 4
    have hc : (Int32.ofNat Ln - 4 < nI (4 * i)) = ((Ln : Int) - 4 < 4 * i) := by
      rw [show Int32.ofNat Ln = nI Ln from rfl, nI_i, nI_i, show (4 : Int32) = iI 4 from rfl, iI_sub, iI_lt (by omega) (by omega) (by omega) (by omega)]
      apply propext
      omega
    rw [wL_law_23, e1, e2, e3, e4, hc]
    refine ⟨fun _ => trivial, fun hn => ?_⟩
    have v0 : vp_in (nI (4 * i)) Ln = True := eq_true (vp_in_nI (by omega) (by omega))
    have v1 : vp_in (nI (4 * i + 1)) Ln = True := eq_true (vp_in_nI (by omega) (by omega))
    have v2 : vp_in (nI (4 * i + 2)) Ln = True := eq_true (vp_in_nI (by omega) (by omega))
    have v3 : vp_in (nI (4 * i + 3)) Ln = True := eq_true (vp_in_nI (by omega) (by omega))
    simp only [v0, v1, v2, v3, true_and]
    refine ⟨fun _ => S_sign A C M k0,
      fun _ => S_end A C M k0,
      fun _ => S_tells (K := fun g s => wL_law_23 Ln xs () (c + 1) g (nI (4 * (i + 1))) s) A C M (show 99 * t.length + 279 ≤ g by omega) kE (Nat.le_refl _),
      fun _ => S_means (K := fun g s => wL_law_23 Ln xs () (c + 1) g (nI (4 * (i + 1))) s) A C M (show 99 * t.length + 279 ≤ g by omega) kE (Nat.le_refl _),
      fun _ => S_day A C M k0,
      fun _ => S_date A C M k0,
      fun _ => S_moved A C M k0,
      fun _ => S_readings A C M k0,
      fun _ => ⟨1, g - 1, by omega, S_reading (Nat.le_refl _) A C M k1⟩,
      fun _ => S_hull A C M k0,
      fun _ => S_order A C M k0,
      fun _ => S_told A C M k0,
      fun _ => S_choices A C M k0,
      fun _ => S_best A C M k0,
      fun _ => S_other A C M k0,
      fun _ => S_conflict A C M k0,
      fun _ => S_without A C M k0,
      fun _ => S_with A C M k0,
      fun _ => S_asks A C M k0,
      fun _ => S_on A C M k0,
      fun _ => S_busiest A C M k0,
      fun _ => S_free A C M k0,
      fun _ => S_ref A C M k0,
      fun _ => ?_,
      fun _ => S_narrows A C M k0,
      fun _ => S_drops A C M k0,
      fun _ => S_goes A C M k0,
      fun _ => S_work A C M k0,
      fun _ => S_undo A C M k0,
      fun _ => S_years A C M k0,
      fun _ => S_keep A C M k0,
      fun _ => S_again A C M k0,
      fun _ => S_count A C M k0,
      fun _ => ⟨1, g - 1, by omega, S_row (Nat.le_refl _) A C M k1⟩,
      ?_⟩
    · unfold wL_law_893 wL_law_923
      simp only [e1, e2, e3, e4, v1, v2, v3, true_and]
      by_cases h3 : xs (ix (nI (4 * i + 3))) = 0
      · refine ⟨fun _ => ?_, fun hc => absurd h3 hc⟩
        have h3 : (xs (ix (nI (4 * i + 3))) = 0) = True := eq_true h3
        simp only [h3, true_implies, not_true_eq_false, false_implies, and_true]
        exact S_rules (b := false) A C M k0
      · refine ⟨fun hc => absurd hc h3, fun _ => ?_⟩
        have h3 : (xs (ix (nI (4 * i + 3))) = 0) = False := eq_false h3
        simp only [h3, true_implies, not_false_eq_true, false_implies, true_and]
        exact S_rules (b := true) A C M k0
    · intros
      exact k0 t L st us ks s (by omega) A C M
theorem s0_178 : s0.1 178 = (fun j => if j = 7 then (-1 : Int32) else if j = 6 then -1 else if j = 5 then -1 else if j = 4 then -1 else if j = 3 then -1 else if j = 2 then -1 else if j = 0 then 3000 else 0) := rfl
theorem zr_s0 : zr (s0.1 178) := by
  intro k hk
  rw [s0_178]
  dsimp only
  rw [if_neg (by omega), if_neg (by omega), if_neg (by omega), if_neg (by omega), if_neg (by omega), if_neg (by omega), if_neg (by omega)]
theorem no_s0 : no (s0.1 178) = 0 := by decide +kernel
theorem mn_s0 : ∀ e, e < 6 → mn (s0.1 178) e = 0 := by decide +kernel
theorem tl_s0 : ∀ e, e < 6 → tl (s0.1 178) e = false := by decide +kernel
theorem okU_s0 : okU (s0.1 178) := by
  refine ⟨⟨by decide +kernel, by decide +kernel, fun o ho => ?_, fun e he => ⟨fun h => ?_, ?_⟩, fun e he i hi => ?_⟩, zr_s0⟩
  · rw [no_s0] at ho
    exact absurd ho (Nat.not_lt_zero _)
  · rw [tl_s0 e he] at h
    cases h
  · rw [mn_s0 e he]
    decide
  · rw [mn_s0 e he] at hi
    exact absurd hi (Nat.not_lt_zero _)
theorem re_s0 : repC (s0.1 21) (s0.1 178) := by
  refine ⟨by decide +kernel, by decide +kernel, by decide +kernel, fun o ho => ?_, by decide +kernel, fun e he i hi => ?_⟩
  · rw [no_s0] at ho
    exact absurd ho (Nat.not_lt_zero _)
  · rw [mn_s0 e he] at hi
    exact absurd hi (Nat.not_lt_zero _)
theorem CI_s0 : CI [] [] (s0.1 178) [] (fun _ => none) s0 := by
  refine ⟨⟨by decide +kernel, fun i hi => absurd hi (Nat.not_lt_zero _)⟩, ⟨by decide +kernel, by decide, fun i hi => absurd hi (Nat.not_lt_zero _)⟩, re_s0, Or.inl (by decide +kernel), ⟨by decide +kernel, 0, by decide, by decide +kernel, fun k hk => absurd hk (Nat.not_lt_zero _)⟩, ⟨by decide +kernel, fun i hi u hu => by cases hu⟩, ?_⟩
  exact ⟨isRd_12, isRd_14, isRd_16, by decide +kernel, by decide +kernel, by decide +kernel, by decide +kernel, by decide +kernel, by decide +kernel⟩
theorem MI_s0 : MI [] [] (s0.1 178) [] (fun _ => none) s0 := by
  refine ⟨⟨by decide +kernel, fun i hi => absurd hi (Nat.not_lt_zero _)⟩, ⟨by decide +kernel, fun i hi => absurd hi (Nat.not_lt_zero _)⟩, rfl, ⟨by decide +kernel, fun k hk => absurd hk (Nat.not_lt_zero _)⟩, fun i hi => ⟨?_, fun u hu => by cases hu⟩⟩
  have : ∀ i, i < 2 → s0.1 191 i = bi (none : Option Sy).isSome := by
    intro i hi
    have : i = 0 ∨ i = 1 := by omega
    rcases this with rfl | rfl
    · show s0.1 191 0 = 0
      decide +kernel
    · show s0.1 191 1 = 0
      decide +kernel
  exact this i hi
/-- what is left of the mathematics: the law's loop comes to its end from the start -/
theorem law_holds (Ln : Nat) (hL : Ln ≤ 2048) (xs : Nat → Int32) : ∃ n, wL_law_23 Ln xs () n 300000 0 s0 := by
  refine ⟨Ln / 4 + 1, ?_⟩
  have := law_L (xs := xs) hL (Ln / 4) 0 300000 [] [] (s0.1 178) [] (fun _ => none) s0 (by omega) (by omega) (by show 585 * (Ln / 4) + 146 * 0 ≤ 300000; omega) ⟨okT_nil, by decide, okU_s0, by decide, fun u hu => (by cases hu), fun i u hu => (by cases hu)⟩ CI_s0 MI_s0
  exact this
end LAWLOOP
