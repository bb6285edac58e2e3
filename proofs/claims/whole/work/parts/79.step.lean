/-! phrases: the class reads a step -/
section STEP
variable {t : List Nat} {s s' s0 : gS} {Q : Int32 → gS → Prop} {Q' : gS → Prop} {p q e : Nat} {S P : List St}
theorem c_rNum (ht : okT t) (Z : PZ s0 t p S P s) (hS : S.length + P.length < 80) (h : 100 ≤ tk t p) (k : RS s0 t S P (sNum t p) Q) : wpX4_readFromNumber s Q := by
  unfold wpX4_readFromNumber
  rw [c_num Z.W h]
  refine k_from (lo := 2100) (hi := 2127) Z.W (by decide) (by decide) rfl rfl (fun h1 => i1 ?_) (fun h1 => i0 ?_)
  · have e : sNum t p = (2, (10, ((tk t p - 100 : Nat) : Int), 0, 0), te t p) := by unfold sNum; rw [if_pos h1]
    rw [e] at k
    exact c_advP ht Z (lvN h) (fun s1 Z1 => c_base Z1 (by omega) rfl (nI_i _) rfl rfl (RS2 k))
  · refine k_from (lo := 101) (hi := 199) Z.W (by decide) (by decide) rfl rfl (fun h2 => j1 ?_) (fun h2 => j0 ?_)
    · refine c_advP ht Z (lvN h) (fun s1 Z1 => k_unit Z1.W (fun h3 => j1 ?_) (fun h3 => j0 ?_))
      · refine c_advP ht Z1 (lvW (by omega)) (fun s2 Z2 => ?_)
        rw [kE Z2.W (x := 35) (n := 35) rfl (by decide), kE Z2.W (x := 36) (n := 36) rfl (by decide), kE Z2.W (x := 37) (n := 37) rfl (by decide), Z1.W.w, Z2.W.w]
        refine ⟨fun h4 => ?_, fun h4 => ⟨fun h5 => ?_, fun h5 => ⟨fun h6 => ?_, fun h6 => ?_⟩⟩⟩
        · have e : sNum t p = (1, (11, (tk t (te t p) : Int), ((tk t p - 100 : Nat) : Int), 0), te t (te t (te t p))) := by unfold sNum; rw [if_neg h1, if_pos h2, if_pos h3, if_neg (by omega), if_pos h4]
          rw [e] at k
          rw [h4]
          exact c_advP ht Z2 (lvW (by omega)) (fun s3 Z3 => ⟨fun _ => ⟨fun c => absurd rfl c, fun _ => c_pref Z3 (by omega) rfl (nI_i _) (nI_i _) (RS1 k)⟩, fun c => absurd c (by decide)⟩)
        · have e : sNum t p = (1, (12, (tk t (te t p) : Int), ((tk t p - 100 : Nat) : Int), 0), te t (te t (te t p))) := by unfold sNum; rw [if_neg h1, if_pos h2, if_pos h3, if_neg (by omega), if_neg h4, if_pos h5]
          rw [e] at k
          rw [h5]
          exact c_advP ht Z2 (lvW (by omega)) (fun s3 Z3 => ⟨fun _ => ⟨fun _ => c_pref Z3 (by omega) rfl (nI_i _) (nI_i _) (RS1 k), fun c => absurd c (by decide)⟩, fun c => absurd c (by decide)⟩)
        · have e : sNum t p = (2, (1, (tk t (te t p) : Int), -((tk t p - 100 : Nat) : Int), 0), te t (te t (te t p))) := by unfold sNum; rw [if_neg h1, if_pos h2, if_pos h3, if_pos h6]
          rw [e] at k
          rw [h6]
          exact c_advP ht Z2 (lvW (by omega)) (fun s3 Z3 => ⟨fun c => absurd rfl c, fun _ => c_base Z3 (by omega) rfl (nI_i _) (by rw [nI_i, iI_neg]) rfl (RS2 k)⟩)
        · have e : sNum t p = (0, st0, te t (te t p)) := by unfold sNum; rw [if_neg h1, if_pos h2, if_pos h3, if_neg h6, if_neg h4, if_neg h5]
          rw [e] at k
          exact RS0 k Z2
      · have e : sNum t p = (0, st0, te t p) := by unfold sNum; rw [if_neg h1, if_pos h2, if_neg h3]
        rw [e] at k
        exact RS0 k Z1
    · have e : sNum t p = (0, st0, p) := by unfold sNum; rw [if_neg h1, if_neg h2]
      rw [e] at k
      exact RS0 k Z
theorem c_rDay (ht : okT t) (Z : PZ s0 t p S P s) (hS : S.length + P.length < 80) (h : 4 ≤ tk t p ∧ tk t p < 11) (k : RS s0 t S P (sDay t p) Q) : wpX4_readFromDayName s Q := by
  unfold wpX4_readFromDayName
  rw [kS Z.W (x := 4) (n := 4) rfl h.1]
  refine c_advP ht Z (lvW (by omega)) (fun s1 Z1 => ?_)
  rw [kE Z1.W (x := 35) (n := 35) rfl (by decide)]
  refine ⟨fun h1 => c_advP ht Z1 (lvW (by omega)) (fun s2 Z2 => ?_), fun h1 => ?_⟩
  · rw [kE Z2.W (x := 33) (n := 33) rfl (by decide)]
    refine ⟨fun h2 => c_advP ht Z2 (lvW (by omega)) (fun s3 Z3 => ?_), fun h2 => ?_⟩
    · have e : sDay t p = (2, (6, ((tk t p - 4 : Nat) : Int), 0, 0), te t (te t (te t p))) := by unfold sDay; rw [if_pos h1, if_pos h2]
      rw [e] at k
      exact c_base Z3 (by omega) rfl rfl rfl rfl (RS2 k)
    · have e : sDay t p = (0, st0, te t (te t p)) := by unfold sDay; rw [if_pos h1, if_neg h2]
      rw [e] at k
      exact RS0 k Z2
  · have e : sDay t p = (2, (2, ((tk t p - 4 : Nat) : Int), 0, 0), te t p) := by unfold sDay; rw [if_neg h1]
    rw [e] at k
    exact c_base Z1 (by omega) rfl rfl rfl rfl (RS2 k)
theorem c_rMon (ht : okT t) (Z : PZ s0 t p S P s) (hS : S.length + P.length < 80) (h : 11 ≤ tk t p ∧ tk t p < 23) (k : RS s0 t S P (sMon t p) Q) : wpX4_readFromMonthName s Q := by
  unfold wpX4_readFromMonthName
  rw [kS Z.W (x := 11) (n := 11) rfl h.1]
  refine c_advP ht Z (lvW (by omega)) (fun s1 Z1 => k_num Z1.W (fun h1 => j1 ?_) (fun h1 => j0 ?_))
  · refine k_from (lo := 101) (hi := 131) Z1.W (by decide) (by decide) rfl rfl (fun h2 => j1 ?_) (fun h2 => j0 ?_)
    · rw [c_num Z1.W h1]
      refine c_advP ht Z1 (lvN h1) (fun s2 Z2 => k_num Z2.W (fun h3 => j1 ?_) (fun h3 => j0 ?_))
      · refine k_from (lo := 2100) (hi := 2127) Z2.W (by decide) (by decide) rfl rfl (fun h4 => j1 ?_) (fun h4 => j0 ?_)
        · rw [c_num Z2.W h3]
          have e : sMon t p = (2, (9, ((tk t p - 11 : Nat) : Int), ((tk t (te t p) - 100 : Nat) : Int), ((tk t (te t (te t p)) - 100 : Nat) : Int)), te t (te t (te t p))) := by unfold sMon; rw [if_pos h1, if_pos h2, if_pos h3, if_pos h4]
          rw [e] at k
          exact c_advP ht Z2 (lvN h3) (fun s3 Z3 => c_base Z3 (by omega) rfl rfl (nI_i _) (nI_i _) (RS2 k))
        · have e : sMon t p = (0, st0, te t (te t p)) := by unfold sMon; rw [if_pos h1, if_pos h2, if_pos h3, if_neg h4]
          rw [e] at k
          exact RS0 k Z2
      · have e : sMon t p = (2, (8, ((tk t p - 11 : Nat) : Int), ((tk t (te t p) - 100 : Nat) : Int), 0), te t (te t p)) := by unfold sMon; rw [if_pos h1, if_pos h2, if_neg h3]
        rw [e] at k
        exact c_base Z2 (by omega) rfl rfl (nI_i _) rfl (RS2 k)
    · have e : sMon t p = (0, st0, te t p) := by unfold sMon; rw [if_pos h1, if_neg h2]
      rw [e] at k
      exact RS0 k Z1
  · have e : sMon t p = (2, (7, ((tk t p - 11 : Nat) : Int), 0, 0), te t p) := by unfold sMon; rw [if_neg h1]
    rw [e] at k
    exact c_base Z1 (by omega) rfl rfl rfl rfl (RS2 k)
theorem c_rFst (ht : okT t) (Z : PZ s0 t p S P s) (hS : S.length + P.length < 80) (k : RS s0 t S P (sFst t p) Q) : wpX4_readBehindFirst s Q := by
  unfold wpX4_readBehindFirst
  refine k_day Z.W (fun h => j1 ?_) (fun h => j0 ?_)
  · rw [kS Z.W (x := 4) (n := 4) rfl h.1]
    refine c_advP ht Z (lvW (by omega)) (fun s1 Z1 => ?_)
    rw [kE Z1.W (x := 34) (n := 34) rfl (by decide)]
    refine ⟨fun h1 => c_advP ht Z1 (lvW (by omega)) (fun s2 Z2 => ?_), fun h1 => ?_⟩
    · have e : sFst t p = (1, (16, ((tk t p - 4 : Nat) : Int), 0, 0), te t (te t p)) := by unfold sFst; rw [if_pos h, if_pos h1]
      rw [e] at k
      exact c_pref Z2 (by omega) rfl rfl rfl (RS1 k)
    · have e : sFst t p = (0, st0, te t p) := by unfold sFst; rw [if_pos h, if_neg h1]
      rw [e] at k
      exact RS0 k Z1
  · have e : sFst t p = (0, st0, p) := by unfold sFst; rw [if_neg h]
    rw [e] at k
    exact RS0 k Z
theorem c_rThs {x1 x2 : Int32} {c : Nat} {b : Int} (ht : okT t) (Z : PZ s0 t p S P s) (hS : S.length + P.length < 80) (hc : c < 6) (e1 : x1 = nI c) (e2 : x2 = iI b) (k : RS s0 t S P (sThs c b t p) Q) : wpX4_readBehindThis x1 x2 s Q := by
  unfold wpX4_readBehindThis
  refine k_unit Z.W (fun h => i1 ?_) (fun h => i0 ?_)
  · rw [Z.W.w]
    have e : sThs c b t p = (2, (0, (tk t p : Int), b, 0), te t p) := by unfold sThs; rw [if_pos h]
    rw [e] at k
    exact c_advP ht Z (lvW (by omega)) (fun s1 Z1 => c_base Z1 (by omega) rfl (nI_i _) e2 rfl (RS2 k))
  · refine k_day Z.W (fun h1 => j1 ?_) (fun h1 => j0 ?_)
    · rw [kS Z.W (x := 4) (n := 4) rfl h1.1]
      refine c_advP ht Z (lvW (by omega)) (fun s1 Z1 => ?_)
      have e5 : (x1 = 5) = (c = 5) := by rw [e1, show (5 : Int32) = nI 5 from rfl, nI_eq (by omega) (by decide)]
      rw [kE Z1.W (x := 34) (n := 34) rfl (by decide), e5]
      have fin : ¬ (c = 5 ∧ tk t (te t p) = 34) → wX4_readBehindThis_92 x1 x2 Q (iI ((tk t p - 4 : Nat) : Int)) s1 := by
        intro h2
        have e : sThs c b t p = (2, (c, ((tk t p - 4 : Nat) : Int), 0, 0), te t p) := by unfold sThs; rw [if_neg h, if_pos h1, if_neg h2]
        rw [e] at k
        exact c_base Z1 (by omega) e1 rfl rfl rfl (RS2 k)
      refine ⟨fun h2 => fin (fun c => h2 c.1), fun h2 => ⟨fun h3 => fin (fun c => h3 c.2), fun h3 => ?_⟩⟩
      have e : sThs c b t p = (1, (17, ((tk t p - 4 : Nat) : Int), 0, 0), te t (te t p)) := by unfold sThs; rw [if_neg h, if_pos h1, if_pos ⟨h2, h3⟩]
      rw [e] at k
      exact c_advP ht Z1 (lvW (by omega)) (fun s2 Z2 => c_pref Z2 (by omega) rfl rfl rfl (RS1 k))
    · have e : sThs c b t p = (0, st0, p) := by unfold sThs; rw [if_neg h, if_neg h1]
      rw [e] at k
      exact RS0 k Z
theorem c_rIn (ht : okT t) (Z : PZ s0 t p S P s) (hS : S.length + P.length < 80) (k : RS s0 t S P (sIn t p) Q) : wpX4_readBehindIn s Q := by
  unfold wpX4_readBehindIn
  refine k_from (lo := 101) (hi := 199) Z.W (by decide) (by decide) rfl rfl (fun h => j1 ?_) (fun h => j0 ?_)
  · rw [c_num Z.W (by omega)]
    refine c_advP ht Z (lvN (by omega)) (fun s1 Z1 => k_unit Z1.W (fun h1 => j1 ?_) (fun h1 => j0 ?_))
    · rw [Z1.W.w]
      have e : sIn t p = (2, (1, (tk t (te t p) : Int), ((tk t p - 100 : Nat) : Int), 0), te t (te t p)) := by unfold sIn; rw [if_pos h, if_pos h1]
      rw [e] at k
      exact c_advP ht Z1 (lvW (by omega)) (fun s2 Z2 => c_base Z2 (by omega) rfl (nI_i _) (nI_i _) rfl (RS2 k))
    · have e : sIn t p = (0, st0, te t p) := by unfold sIn; rw [if_pos h, if_neg h1]
      rw [e] at k
      exact RS0 k Z1
  · have e : sIn t p = (0, st0, p) := by unfold sIn; rw [if_neg h]
    rw [e] at k
    exact RS0 k Z
theorem c_step (ht : okT t) (Z : PZ s0 t p S P s) (hS : S.length + P.length < 80) (k : RS s0 t S P (stp t p) Q) : wpX4_readStep s Q := by
  unfold wpX4_readStep
  refine k_num Z.W (fun h => i1 ?_) (fun h => i0 ?_)
  · have e : stp t p = sNum t p := by unfold stp; rw [if_pos h]
    rw [e] at k
    exact c_rNum ht Z hS h k
  refine k_day Z.W (fun h1 => i1 ?_) (fun h1 => i0 ?_)
  · have e : stp t p = sDay t p := by unfold stp; rw [if_neg h, if_pos h1]
    rw [e] at k
    exact c_rDay ht Z hS h1 k
  refine k_mon Z.W (fun h2 => i1 ?_) (fun h2 => i0 ?_)
  · have e : stp t p = sMon t p := by unfold stp; rw [if_neg h, if_neg h1, if_pos h2]
    rw [e] at k
    exact c_rMon ht Z hS h2 k
  refine k_beg Z.W (fun h3 => j1 ?_) (fun h3 => j0 ?_)
  · rw [kE Z.W (x := 23) (n := 23) rfl (by decide), kE Z.W (x := 24) (n := 24) rfl (by decide), kE Z.W (x := 25) (n := 25) rfl (by decide), kE Z.W (x := 26) (n := 26) rfl (by decide), kE Z.W (x := 27) (n := 27) rfl (by decide), kE Z.W (x := 28) (n := 28) rfl (by decide), kE Z.W (x := 29) (n := 29) rfl (by decide), kE Z.W (x := 30) (n := 30) rfl (by decide), kE Z.W (x := 31) (n := 31) rfl (by decide), kE Z.W (x := 32) (n := 32) rfl (by decide), kE Z.W (x := 33) (n := 33) rfl (by decide)]
    refine c_advP ht Z (lvW (by omega)) (fun s1 Z1 => ⟨fun c => ?_, fun c => ?_, fun c => ?_, fun c => ?_, fun c => ?_, fun c => ?_, fun c => ?_, fun c => ?_, fun c => ?_, fun c => ?_, fun c => ?_, fun _ _ _ _ _ _ _ _ _ _ _ => by omega⟩)
    · have e : stp t p = (1, (13, 0, 0, 0), te t p) := by unfold stp; rw [c]; rfl
      rw [e] at k
      exact c_pref Z1 (by omega) rfl rfl rfl (RS1 k)
    · have e : stp t p = (1, (14, 0, 0, 0), te t p) := by unfold stp; rw [c]; rfl
      rw [e] at k
      exact c_pref Z1 (by omega) rfl rfl rfl (RS1 k)
    · have e : stp t p = (1, (15, 0, 0, 0), te t p) := by unfold stp; rw [c]; rfl
      rw [e] at k
      exact c_pref Z1 (by omega) rfl rfl rfl (RS1 k)
    · have e : stp t p = sFst t (te t p) := by unfold stp; rw [c]; rfl
      rw [e] at k
      exact c_rFst ht Z1 hS k
    · have e : stp t p = sThs 5 (-1) t (te t p) := by unfold stp; rw [c]; rfl
      rw [e] at k
      exact c_rThs ht Z1 hS (by decide) rfl rfl k
    · have e : stp t p = (2, (0, 0, 0, 0), te t p) := by unfold stp; rw [c]; rfl
      rw [e] at k
      exact c_base Z1 (by omega) rfl rfl rfl rfl (RS2 k)
    · have e : stp t p = (2, (0, 0, 1, 0), te t p) := by unfold stp; rw [c]; rfl
      rw [e] at k
      exact c_base Z1 (by omega) rfl rfl rfl rfl (RS2 k)
    · have e : stp t p = (2, (0, 0, -1, 0), te t p) := by unfold stp; rw [c]; rfl
      rw [e] at k
      exact c_base Z1 (by omega) rfl rfl rfl rfl (RS2 k)
    · have e : stp t p = sIn t (te t p) := by unfold stp; rw [c]; rfl
      rw [e] at k
      exact c_rIn ht Z1 hS k
    · have e : stp t p = sThs 3 0 t (te t p) := by unfold stp; rw [c]; rfl
      rw [e] at k
      exact c_rThs ht Z1 hS (by decide) rfl rfl k
    · have e : stp t p = sThs 4 1 t (te t p) := by unfold stp; rw [c]; rfl
      rw [e] at k
      exact c_rThs ht Z1 hS (by decide) rfl rfl k
  · have e : stp t p = (0, st0, p) := by unfold stp; rw [if_neg h, if_neg h1, if_neg h2, if_neg (by omega), if_neg (by omega), if_neg (by omega), if_neg (by omega), if_neg (by omega), if_neg (by omega), if_neg (by omega), if_neg (by omega), if_neg (by omega), if_neg (by omega), if_neg (by omega)]
    rw [e] at k
    exact RS0 k Z
end STEP
