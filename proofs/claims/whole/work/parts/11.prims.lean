/-! Math.max, Math.min, System.arraycopy, the table of days, an object's reference field -/
theorem kM1 : Cond.initialized "java/lang/Math" ∈ g_TB := g_in1 18 (by decide +kernel) rfl
theorem kM2 : Cond.static Lib.Math.min.name ∈ g_TB := g_in3 76 (by decide +kernel) rfl
theorem kM3 : Cond.code Lib.Math.min.name Lib.Math.min.code 2 (some .int) ∈ g_TB := g_in3 77 (by decide +kernel) rfl
theorem kM4 : Cond.static Lib.Math.max.name ∈ g_TB := g_in3 131 (by decide +kernel) rfl
theorem kM5 : Cond.code Lib.Math.max.name Lib.Math.max.code 2 (some .int) ∈ g_TB := g_in3 132 (by decide +kernel) rfl
theorem kA1 : Cond.static arraycopyName ∈ g_TB := g_in3 173 (by decide +kernel) rfl
theorem kA2 : Cond.native arraycopyName ∈ g_TB := g_in3 174 (by decide +kernel) rfl
theorem kA3 : Cond.initialized "java/lang/System" ∈ g_TB := List.mem_filter.mpr ⟨by decide +kernel, rfl⟩
theorem kDA : Cond.fieldLink "ProseDates$Calendar" 9 "ProseDates$Calendar" "DAYS_AHEAD" "[I" ∈ g_TB := g_in3 58 (by decide +kernel) rfl
section PRIMS
variable {l : Launch} {mt : gMt} {R : Room} {X : gX} {pc : Nat} {L L' : List (Option Value)} {S S0 : List Value} {M : gMem} {s : gS} {k n : Nat} {Z : State → Prop}
theorem g_cats : ((S.map (g_v (g_ad X))).map fun v => v.category).sum = (S.map fun v => v.category).sum := by
  rw [List.map_map]
  congr 1
  exact List.map_congr_left fun v _ => g_v_cat _ v
theorem n_max {idx : Nat} {x y : Int32} (hd : decode mt.2.1 pc = .ok (.invokestatic idx, 3)) (hk : Cond.methodLink mt.1.cls idx Lib.Math.max.name ∈ g_TB) (hR : 1 ≤ R.frames ∧ (S.map fun v => v.category).sum + 13 ≤ R.locals) (hf : k ≤ R.cells ∧ n ≤ R.slots) (kk : Gw l mt R X (pc + 3) L (.int (jmax x y) :: S) M k n Z) : Gw l mt R X pc L (.int y :: .int x :: S) M k n Z := fun ok H locs ls hl hP hD hS =>
  va_mmax ok.1 ok.2.1 (ok.2.2.1.trans hl.1.symm) ok.2.2.2.1 (ok.2.2.2.2.1 _ hk) (ok.2.2.2.2.1 _ kM4) (ok.2.2.2.2.1 _ kM1) (ok.2.2.2.2.1 _ kM5) hR.1 (by rw [g_cats]; exact hR.2) hf.1 hf.2 hd (kk ok H locs ls hl hP hD hS)
theorem n_min {idx : Nat} {x y : Int32} (hd : decode mt.2.1 pc = .ok (.invokestatic idx, 3)) (hk : Cond.methodLink mt.1.cls idx Lib.Math.min.name ∈ g_TB) (hR : 1 ≤ R.frames ∧ (S.map fun v => v.category).sum + 13 ≤ R.locals) (hf : k ≤ R.cells ∧ n ≤ R.slots) (kk : Gw l mt R X (pc + 3) L (.int (jmin x y) :: S) M k n Z) : Gw l mt R X pc L (.int y :: .int x :: S) M k n Z := fun ok H locs ls hl hP hD hS =>
  va_mmin ok.1 ok.2.1 (ok.2.2.1.trans hl.1.symm) ok.2.2.2.1 (ok.2.2.2.2.1 _ hk) (ok.2.2.2.2.1 _ kM2) (ok.2.2.2.2.1 _ kM1) (ok.2.2.2.2.1 _ kM3) hR.1 (by rw [g_cats]; exact hR.2) hf.1 hf.2 hd (kk ok H locs ls hl hP hD hS)
/-- ints of one row into another -/
theorem n_copy {idx src dst n0 n1 : Nat} {sp dp m : Int32} (hd : decode mt.2.1 pc = .ok (.invokestatic idx, 3)) (hk : Cond.methodLink mt.1.cls idx arraycopyName ∈ g_TB) (hR : 1 ≤ R.frames ∧ (S.map fun v => v.category).sum + 32 ≤ R.locals) (ha : src < 193) (hs : shpS src = (100, n0)) (ha1 : dst < 193) (hs1 : shpS dst = (100, n1)) (h1 : ¬ sp < 0) (h2 : ¬ dp < 0) (h3 : ¬ m < 0) (h4 : ix sp + ix m ≤ n0) (h5 : ix dp + ix m ≤ n1)
    (kk : Gw l mt R X (pc + 3) L S (nrm (cpI s src (ix sp) dst (ix dp) (ix m))) k n Z) : Gw l mt R X pc L (.int m :: .int dp :: .ref dst :: .int sp :: .ref src :: S) (nrm s) k n Z := by
  intro ok H locs ls hl hP hD hS
  have he := g_ws_at (M := nrm s) (cA := g_cA X) (ad := g_ad X) ha
  have he1 := g_ws_at (M := nrm s) (cA := g_cA X) (ad := g_ad X) ha1
  rw [g_cell_i hs (by omega)] at he
  rw [g_cell_i hs1 (by omega)] at he1
  refine va_copyi (ty := .int) ok.1 ok.2.1 (ok.2.2.1.trans hl.1.symm) ok.2.2.2.1 (ok.2.2.2.2.1 _ hk) (ok.2.2.2.2.1 _ kA2) (ok.2.2.2.2.1 _ kA1) (ok.2.2.2.2.1 _ kA3) ok.2.2.2.2.2.2.2.2.1 hP hD hS src dst 0 0 he he1 rfl rfl rfl h1 h2 h3 h4 h5 (fun _ _ => rfl) hR.1 (by
    rw [g_cats]
    have : nativeFrameWords "java/lang/System" "arraycopy" 5 + 11 ≤ 32 := by decide
    omega) hd (fun H1 locs1 q1 q2 q3 => ?_)
  have e : (g_ws (g_cA X) (g_ad X) (nrm s)).set dst (g_ad X dst, .inl (g_cA X 100, n1, .inl (va_cpy ((nrm s).2.2.2.1 src) ((nrm s).2.2.2.1 dst) (ix sp) (ix dp) (ix m)))) = g_ws (g_cA X) (g_ad X) (nrm (cpI s src (ix sp) dst (ix dp) (ix m))) := by
    refine g_ws_set rfl ?_ (fun q h => ?_)
    · rw [g_cell_i (M := nrm (cpI s src (ix sp) dst (ix dp) (ix m))) hs1 (by omega)]
      simp [nrm, cpI]
    · have e0 : (nrm (cpI s src (ix sp) dst (ix dp) (ix m))).2.2.2.1 q = (nrm s).2.2.2.1 q := by simp [nrm, cpI, h]
      have e1 : g_fv (g_ad X) (nrm (cpI s src (ix sp) dst (ix dp) (ix m))) q = g_fv (g_ad X) (nrm s) q := by funext kq j; simp only [g_fv, e0]; rfl
      unfold g_cell
      rw [e0, e1]
      rfl
  rw [e] at q1 q2
  exact kk ok H1 locs1 ls hl q1 q2 q3
theorem n_days (hd : decode mt.2.1 pc = .ok (.getstatic 9, 3)) (hc : mt.1.cls = "ProseDates$Calendar") (kk : Gw l mt R X (pc + 3) L (.ref 900 :: S) M k n Z) : Gw l mt R X pc L S M k n Z := by
  intro ok H locs ls hl hP hD hS
  have hown := ok.2.2.2.1
  rw [hc] at hown
  exact va_gets ok.1 ok.2.1 ok.2.2.2.2.2.2.2.2.2.2.2.2.2.1 hS hown (ok.2.2.2.2.1 _ kDA) (fun _ h => h) hd (kk ok H locs ls hl hP hD hS)
theorem n_dald {i : Int32} (hd : decode mt.2.1 pc = .ok (.iaload, 1)) (hi : vp_in i 12) (kk : Gw l mt R X (pc + 1) L (.int (g_days.getD (ix i) 0) :: S) M k n Z) : Gw l mt R X pc L (.int i :: .ref 900 :: S) M k n Z := fun ok H locs ls hl hP hD hS =>
  va_ti ok.1 ok.2.1 ok.2.2.2.2.2.2.2.2.2.2.2.2.2.2.1 hS hi rfl hd (kk ok H locs ls hl hP hD hS)
theorem n_ldci {index : Nat} {v : Int32} (hd : decode mt.2.1 pc = .ok (.ldc index, 2)) (hc : Cond.constant mt.1.cls index v ∈ g_TB) (kk : Gw l mt R X (pc + 2) L (.int v :: S) M k n Z) : Gw l mt R X pc L S M k n Z := r_ldci hd hc kk
theorem n_ldc_wi {index : Nat} {v : Int32} (hd : decode mt.2.1 pc = .ok (.ldc_w index, 3)) (hc : Cond.constant mt.1.cls index v ∈ g_TB) (kk : Gw l mt R X (pc + 3) L (.int v :: S) M k n Z) : Gw l mt R X pc L S M k n Z := fun ok H locs ls hl hP hD hS => lv_ldcw ok.1 ok.2.1 ok.2.2.2.1 (ok.2.2.2.2.1 _ hc) hd (kk ok H locs ls hl hP hD hS)
theorem n_ldcS {index i : Nat} {tx : String} (hd : decode mt.2.1 pc = .ok (.ldc index, 2)) (hc : (mt.1.cls, index, tx, i) ∈ g_SR) (kk : Gw l mt R X (pc + 2) L (.ref (1000 + i) :: S) M k n Z) : Gw l mt R X pc L S M k n Z := r_ldcS hd hc kk
theorem n_ldc_wS {index i : Nat} {tx : String} (hd : decode mt.2.1 pc = .ok (.ldc_w index, 3)) (hc : (mt.1.cls, index, tx, i) ∈ g_SR) (kk : Gw l mt R X (pc + 3) L (.ref (1000 + i) :: S) M k n Z) : Gw l mt R X pc L S M k n Z := by
  intro ok H locs ls hl hP hD hS T hT XX
  obtain ⟨t, a1, b1⟩ := kk ok H locs ls hl hP hD hS T hT XX
  refine ⟨t, ?_, b1⟩
  have hZ := ok.2.2.2.2.2.2.2.2.2.2.1 _ hc
  obtain ⟨kc, cf, i', a', hk, hcf, hcp, -, hr, hev'⟩ := Cond.stringRef_spec ok.2.2.2.1 hZ.1
  cases hZ.2.symm.trans hev'
  obtain ⟨k', hk', he⟩ := XX.warmed.alike.2.2 _ _ hk
  have hr' : k'.resolved[index]? = some (some (.string (g_ad X (1000 + i)))) := by
    rcases XX.warmed.entry hk hk' index with h | ⟨h, -⟩
    · rw [h]; exact hr
    · rw [hr] at h; cases h
  have hd' : decode (g_c X).code pc = .ok (.ldc_w index, 3) := by rw [ok.2.1]; exact hd
  jvm_step XX.here [ok.1, hd', ldc_w.wp_string (e := X.2.1) (s := T) (f := F0 (g_m X) pc ls (S.map (g_v (g_ad X)))) XX.here.top hk' (by rw [he]; exact hcf) hcp hr']
  exact a1
theorem n_lcmp {x y : Int64} (hd : decode mt.2.1 pc = .ok (.lcmp, 1)) (kk : Gw l mt R X (pc + 1) L (.int (lg_cmp x y) :: S) M k n Z) : Gw l mt R X pc L (.long y :: .long x :: S) M k n Z := fun ok H locs ls hl hP hD hS => W.lcmp ok.1 ok.2.1 hd (kk ok H locs ls hl hP hD hS)
/-- Meaning's three fields that change -/
theorem mr_1 (s : gS) (v : Nat) : g_sr (nrm s) 9 1 (some v) = nrm (wt1 s v) := by
  have e : g_up (mrS s.2.2) 9 1 (some v) = mrS (v, s.2.2.2) := by
    funext a j
    by_cases ha : a = 9
    · subst ha
      match j with
      | 0 => rfl
      | 1 => rfl
      | 2 => rfl
      | 3 => rfl
      | j + 4 => rfl
    · rw [g_up_a _ _ _ ha]
      simp [mrS, ha]
  show (193, shpS, g_up (mrS s.2.2) 9 1 (some v), s.1, s.2.1) = _
  rw [e]
  rfl
theorem mr_2 (s : gS) (v : Nat) : g_sr (nrm s) 9 2 (some v) = nrm (wt2 s v) := by
  have e : g_up (mrS s.2.2) 9 2 (some v) = mrS (s.2.2.1, v, s.2.2.2.2) := by
    funext a j
    by_cases ha : a = 9
    · subst ha
      match j with
      | 0 => rfl
      | 1 => rfl
      | 2 => rfl
      | 3 => rfl
      | j + 4 => rfl
    · rw [g_up_a _ _ _ ha]
      simp [mrS, ha]
  show (193, shpS, g_up (mrS s.2.2) 9 2 (some v), s.1, s.2.1) = _
  rw [e]
  rfl
theorem mr_3 (s : gS) (v : Nat) : g_sr (nrm s) 9 3 (some v) = nrm (wt3 s v) := by
  have e : g_up (mrS s.2.2) 9 3 (some v) = mrS (s.2.2.1, s.2.2.2.1, v) := by
    funext a j
    by_cases ha : a = 9
    · subst ha
      match j with
      | 0 => rfl
      | 1 => rfl
      | 2 => rfl
      | 3 => rfl
      | j + 4 => rfl
    · rw [g_up_a _ _ _ ha]
      simp [mrS, ha]
  show (193, shpS, g_up (mrS s.2.2) 9 3 (some v), s.1, s.2.1) = _
  rw [e]
  rfl
end PRIMS
