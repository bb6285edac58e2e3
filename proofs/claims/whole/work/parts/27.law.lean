abbrev mL_law : gMt := (yL_law, cL_law, 8, ret)
/-! THE LAW's loop. A method with an exception table of its own: reading, row -/
abbrev mL_reading : gMt := (yL_reading, cL_reading, 6, some .int)
abbrev mL_row : gMt := (yL_row, cL_row, 4, some .int)
def g_mh (mt : gMt) (hh : List (Nat × Nat × Nat × Nat)) (na : Nat) : Prop := Cond.static mt.1 ∈ g_TB ∧ Cond.initialized mt.1.cls ∈ g_TB ∧ Cond.codeWith mt.1 mt.2.1 mt.2.2.1 mt.2.2.2 hh ∈ g_TB ∧ (mt.1.cls ≠ "java/lang/invoke/MethodHandle" ∧ mt.1.cls ≠ "java/lang/invoke/VarHandle" ∧ (parseMethodDescriptor mt.1.desc).map (fun d => d.parameters.length) = some na)
section LAWR
variable {l : Launch} {mt mt' : gMt} {R : Room} {X : gX} {pc : Nat} {L L' : List (Option Value)} {S S0 : List Value} {M : gMem} {s : gS} {k n : Nat} {Z : State → Prop} {hh : List (Nat × Nat × Nat × Nat)}
theorem n_SiH {Q' : Int32 → gS → Prop} {idx na d' mc' ms' : Nat} {vs : List Value} (hC : CtH l mt' hh d' mc' ms' vs (nrm s) (q_i Q')) (hm : g_mh mt' hh na) (hk : Cond.methodLink mt.1.cls idx mt'.1 ∈ g_TB) (hd : decode mt.2.1 pc = .ok (.invokestatic idx, 3)) (hn : vs.length = na) (hSe : S = vs.reverse ++ S0) (hR : d' + 1 ≤ R.frames ∧ 8 + (mt'.2.2.1 + 11) + 40 * d' ≤ R.locals) (hw : (S0.map fun v => v.category).sum ≤ 8) (hf : k + mc' ≤ R.cells ∧ n + ms' ≤ R.slots) (kk : ∀ r s', Q' r s' → Gw l mt R X (pc + 3) L (.int r :: S0) (nrm s') (k + mc') (n + ms') Z) : Gw l mt R X pc L S (nrm s) k n Z := by
  intro ok H locs ls hl hP hD hS
  have hG : GoodIn g_TB (va_wsS mt.1.cls idx mt'.1 (Cond.codeWith mt'.1 mt'.2.1 mt'.2.2.1 mt'.2.2.2 hh :: g_TB)) := by
    intro w hw
    rcases List.mem_append.mp hw with h | h
    · simp at h
      rcases h with rfl | rfl | rfl
      · exact g_gd hk
      · exact g_gd hm.1
      · exact g_gd hm.2.1
    · rcases List.mem_cons.mp h with rfl | h
      · exact g_gd hm.2.2.1
      · exact g_gd h
  exact g_back ok hl hS (vx_runSW (nL := mt.2.2.1) (As := vs.map (g_v (g_ad X))) (rest := S0.map (g_v (g_ad X))) ⟨ok.1, ok.2.1, ok.2.2.1, ok.2.2.2.1, ok.2.2.2.2.1⟩ (hC (g_E X)) (vx_cwSW na ok.2.2.2.2.1 hG rfl rfl rfl hm.2.2.2 hR) ⟨g_Pc_blind _ _ _, g_pre ok hP hD hS⟩ rfl (by simpa using hn) hl.1 (by rw [hSe]; simp) (g_room hw) hd hf) (e_i (P := fun v M => Gw l mt R X (pc + 3) L (v.toList ++ S0) M (k + mc') (n + ms') Z) kk)
theorem n_scl {Ln : Nat} {xs : Nat → Int32} (hd : decode mt.2.1 pc = .ok (.arraylength, 1)) (hsc : (g_E X).2.2.2.2.2.1 = Ln ∧ (g_E X).2.2.2.2.2.2 = xs) (kk : Gw l mt R X (pc + 1) L (.int (Int32.ofNat Ln) :: S) M k n Z) : Gw l mt R X pc L (.ref 950 :: S) M k n Z := by
  intro ok H locs ls hl hP hD hS
  obtain ⟨h7, h8, h9⟩ := ok.2.2.2.2.2.2.2.2.2.2.2.2.2.2.2.1
  have := kk ok H locs ls hl hP hD hS
  rw [← hsc.1] at this
  exact va_slen ok.1 ok.2.1 h7 h9 h8 hS hd this
theorem n_scd {Ln : Nat} {xs : Nat → Int32} {i : Int32} (hd : decode mt.2.1 pc = .ok (.iaload, 1)) (hsc : (g_E X).2.2.2.2.2.1 = Ln ∧ (g_E X).2.2.2.2.2.2 = xs) (hi : vp_in i Ln) (kk : Gw l mt R X (pc + 1) L (.int (xs (ix i)) :: S) M k n Z) : Gw l mt R X pc L (.int i :: .ref 950 :: S) M k n Z := by
  intro ok H locs ls hl hP hD hS
  obtain ⟨h7, h8, h9⟩ := ok.2.2.2.2.2.2.2.2.2.2.2.2.2.2.2.1
  have := kk ok H locs ls hl hP hD hS
  rw [← hsc.2] at this
  exact va_sld ok.1 ok.2.1 h7 h9 h8 hS (by rw [hsc.1]; exact hi) hd this
theorem r_lstore {i : Nat} {x : Int64} (hd : decode mt.2.1 pc = .ok (.lstore i, 2)) (hL : (L.set i (some (.long x))).set (i + 1) none = L') (hi : i + 1 < mt.2.2.1) (hn : g_nl L i = true) (kk : Gw l mt R X (pc + 2) L' S M k n Z) : Gw l mt R X pc L (.long x :: S) M k n Z := by
  intro ok H locs ls hl hP hD hS
  refine lv_lstore ok.1 ok.2.1 hd (g_lv_has hl) hi rfl (fun ls' h => kk ok H locs ls' ⟨h.1, h.2.1, fun j u hj => ?_⟩ hP hD hS)
  subst hL
  rw [List.getElem?_set] at hj
  by_cases e : i + 1 = j
  · subst e
    simp at hj
  · rw [if_neg e, List.getElem?_set] at hj
    by_cases e2 : i = j
    · subst e2
      simp at hj
      obtain ⟨-, hj⟩ := hj
      subst hj
      exact h.2.2 _ List.mem_cons_self
    · rw [if_neg e2] at hj
      refine h.2.2 (j, g_v (g_ad X) u) (List.mem_cons_of_mem _ (List.mem_filter.mpr ⟨g_lvl_mem hj, ?_⟩))
      have a1 : ¬ j = i := fun q => e2 q.symm
      have a2 : ¬ j = i + 1 := fun q => e q.symm
      by_cases e3 : j + 1 = i
      · have := g_nl_ok hn hj e3
        simp [a1, a2, g_v_cat, this]
      · simp [a1, a2, e3]
end LAWR

theorem gmL_reading : g_mh mL_reading [(0, 12, 15, 13)] 5 := ⟨g_in5 79 (by decide +kernel) rfl, g_in1 0 (by decide +kernel) rfl, g_in5 80 (by decide +kernel) rfl, by decide⟩
theorem gmL_row : g_mh mL_row [(0, 8, 11, 13)] 3 := ⟨g_in5 153 (by decide +kernel) rfl, g_in1 0 (by decide +kernel) rfl, g_in5 154 (by decide +kernel) rfl, by decide⟩
/-- x.reading, x.row: what they answer, or that they throw -/
def wxX11_reading (x1 x2 x3 : Int32) (s : gS) (Q : Int32 → gS → Prop) (Qx : gS → Prop) : Prop := wpX8_has 20 x1 x2 s (fun r s => (r = 0 → Qx s) ∧ (¬ r = 0 → (x3 < 0 → Qx s) ∧ (¬ x3 < 0 → (x3 ≤ 4 → (¬ x3 = 4 → wpX8_value 20 x1 x2 x3 s Q) ∧ (x3 = 4 → wpX8_isIn 20 x1 x2 s (fun r s => (r = 0 → Q 0 s) ∧ (¬ r = 0 → Q 1 s)))) ∧ (¬ x3 ≤ 4 → Qx s))))
def wxX11_row (x1 : Int32) (s : gS) (Q : Int64 → gS → Prop) (Qx : gS → Prop) : Prop := (x1 < 0 → Qx s) ∧ (¬ x1 < 0 → (x1 < gi s 18 1 → wpX6_numberAt x1 s (fun r s => Q r.toInt64 s)) ∧ (¬ x1 < gi s 18 1 → Qx s))
def wpL_reading (g : Nat) (x1 x2 x3 : Int32) (s : gS) (Q : Int32 → gS → Prop) : Prop := 1 ≤ g ∧ wxX11_reading x1 x2 x3 s (fun r s => Q 0 (wl s 192 0 r.toInt64)) (fun s => Q 1 s)
def wpL_row (g : Nat) (x1 : Int32) (s : gS) (Q : Int32 → gS → Prop) : Prop := 1 ≤ g ∧ wxX11_row x1 s (fun r s => Q 0 (wl s 192 0 r)) (fun s => Q 1 s)
theorem spxX11_reading {l : Launch} (hst : l.stackTraces = false) {x1 x2 x3 : Int32} {s : gS} {Q : Int32 → gS → Prop} {Qx : gS → Prop} (h : wxX11_reading x1 x2 x3 s Q Qx) : CtX l mX11_reading 7 1 6 [.ref 0, .int x1, .int x2, .int x3] (nrm s) (q_i Q) (q_x Qx) := by
  refine CtX.of (by decide) (Nat.le_of_ble_eq_true rfl) (fun X ht => ?_)
  refine n_L (L' := [some (.ref 0), some (.int x1), some (.int x2), some (.int x3)]) (le_s (le_s (le_s (le_s (le_e))))) ?_
  refine r_aload_n (pc := 0) (x := 0) dX11_reading_0 rfl ?_
  refine n_getR (pc := 1) (j := 4) (q := 20) dX11_reading_1 fl_RX11_40 (by decide) sh_0 rfl rfl rfl ?_
  refine r_iload_n (pc := 4) (x := x1) dX11_reading_4 rfl ?_
  refine r_iload_n (pc := 5) (x := x2) dX11_reading_5 rfl ?_
  refine n_Vi0 (pc := 6) (S0 := []) (spX8_has isSt_20 h) gmX8_has selX8_has lk_RX11_186 dX11_reading_6 rfl (by decide) sh_20 ⟨rfl, by decide⟩ rfl ⟨Nat.le_of_ble_eq_true rfl, Nat.le_of_ble_eq_true rfl⟩ (Nat.le_of_ble_eq_true rfl) ⟨Nat.zero_le _, Nat.zero_le _⟩ (fun r1 s1 h => ?_)
  refine r_if_eq (pc := 9) (tgt := 21) dX11_reading_9 (by decide) (fun c => ?_) (fun c => ?_)
  · replace h := h.1 c
    exact x_throwS (pc := 21) (sa := 1) (text := "no such reading, or another what") hst rfl ht (List.mem_of_getElem? (i := 1) rfl) dX11_reading_21 dX11_reading_24 dX11_reading_25 dX11_reading_27 dX11_reading_30 ⟨Nat.le_of_ble_eq_true rfl, Nat.le_of_ble_eq_true rfl, Nat.le_of_ble_eq_true rfl, Nat.le_of_ble_eq_true rfl⟩ ⟨Nat.le_of_ble_eq_true rfl, Nat.le_of_ble_eq_true rfl⟩ ⟨_, rfl, h⟩
  · replace h := h.2 c
    refine r_iload_n (pc := 12) (x := x3) dX11_reading_12 rfl ?_
    refine r_if_lt (pc := 13) (tgt := 21) dX11_reading_13 (by decide) (fun c => ?_) (fun c => ?_)
    · replace h := h.1 c
      exact x_throwS (pc := 21) (sa := 1) (text := "no such reading, or another what") hst rfl ht (List.mem_of_getElem? (i := 1) rfl) dX11_reading_21 dX11_reading_24 dX11_reading_25 dX11_reading_27 dX11_reading_30 ⟨Nat.le_of_ble_eq_true rfl, Nat.le_of_ble_eq_true rfl, Nat.le_of_ble_eq_true rfl, Nat.le_of_ble_eq_true rfl⟩ ⟨Nat.le_of_ble_eq_true rfl, Nat.le_of_ble_eq_true rfl⟩ ⟨_, rfl, h⟩
    · replace h := h.2 c
      refine r_iload_n (pc := 16) (x := x3) dX11_reading_16 rfl ?_
      refine r_iconst (pc := 17) (v := 4) dX11_reading_17 (by decide) ?_
      refine r_icmp_le (pc := 18) (tgt := 31) dX11_reading_18 (by decide) (fun c => ?_) (fun c => ?_)
      · replace h := h.1 c
        refine r_iload_n (pc := 31) (x := x3) dX11_reading_31 rfl ?_
        refine r_iconst (pc := 32) (v := 4) dX11_reading_32 (by decide) ?_
        refine r_icmp_ne (pc := 33) (tgt := 54) dX11_reading_33 (by decide) (fun c => ?_) (fun c => ?_)
        · replace h := h.1 c
          refine r_aload_n (pc := 54) (x := 0) dX11_reading_54 rfl ?_
          refine n_getR (pc := 55) (j := 4) (q := 20) dX11_reading_55 fl_RX11_40 (by decide) sh_0 rfl rfl rfl ?_
          refine r_iload_n (pc := 58) (x := x1) dX11_reading_58 rfl ?_
          refine r_iload_n (pc := 59) (x := x2) dX11_reading_59 rfl ?_
          refine r_iload_n (pc := 60) (x := x3) dX11_reading_60 rfl ?_
          refine n_Vi0 (pc := 61) (S0 := []) (spX8_value isSt_20 h) gmX8_value selX8_value lk_RX11_124 dX11_reading_61 rfl (by decide) sh_20 ⟨rfl, by decide⟩ rfl ⟨Nat.le_of_ble_eq_true rfl, Nat.le_of_ble_eq_true rfl⟩ (Nat.le_of_ble_eq_true rfl) ⟨Nat.zero_le _, Nat.zero_le _⟩ (fun r2 s2 h => ?_)
          exact x_ret (n_iret (pc := 64) dX11_reading_64 rfl (Nat.zero_le _) (Nat.zero_le _) h)
        · replace h := h.2 c
          refine r_aload_n (pc := 36) (x := 0) dX11_reading_36 rfl ?_
          refine n_getR (pc := 37) (j := 4) (q := 20) dX11_reading_37 fl_RX11_40 (by decide) sh_0 rfl rfl rfl ?_
          refine r_iload_n (pc := 40) (x := x1) dX11_reading_40 rfl ?_
          refine r_iload_n (pc := 41) (x := x2) dX11_reading_41 rfl ?_
          refine n_Vi0 (pc := 42) (S0 := []) (spX8_isIn isSt_20 h) gmX8_isIn selX8_isIn lk_RX11_120 dX11_reading_42 rfl (by decide) sh_20 ⟨rfl, by decide⟩ rfl ⟨Nat.le_of_ble_eq_true rfl, Nat.le_of_ble_eq_true rfl⟩ (Nat.le_of_ble_eq_true rfl) ⟨Nat.zero_le _, Nat.zero_le _⟩ (fun r2 s2 h => ?_)
          refine r_if_eq (pc := 45) (tgt := 52) dX11_reading_45 (by decide) (fun c => ?_) (fun c => ?_)
          · replace h := h.1 c
            refine r_iconst (pc := 52) (v := 0) dX11_reading_52 (by decide) ?_
            exact x_ret (n_iret (pc := 53) dX11_reading_53 rfl (Nat.zero_le _) (Nat.zero_le _) h)
          · replace h := h.2 c
            refine r_iconst (pc := 48) (v := 1) dX11_reading_48 (by decide) ?_
            refine r_goto (pc := 49) (tgt := 53) dX11_reading_49 (by decide) ?_
            exact x_ret (n_iret (pc := 53) dX11_reading_53 rfl (Nat.zero_le _) (Nat.zero_le _) h)
      · replace h := h.2 c
        exact x_throwS (pc := 21) (sa := 1) (text := "no such reading, or another what") hst rfl ht (List.mem_of_getElem? (i := 1) rfl) dX11_reading_21 dX11_reading_24 dX11_reading_25 dX11_reading_27 dX11_reading_30 ⟨Nat.le_of_ble_eq_true rfl, Nat.le_of_ble_eq_true rfl, Nat.le_of_ble_eq_true rfl, Nat.le_of_ble_eq_true rfl⟩ ⟨Nat.le_of_ble_eq_true rfl, Nat.le_of_ble_eq_true rfl⟩ ⟨_, rfl, h⟩
theorem spxX11_row {l : Launch} (hst : l.stackTraces = false) {x1 : Int32} {s : gS} {Q : Int64 → gS → Prop} {Qx : gS → Prop} (h : wxX11_row x1 s Q Qx) : CtX l mX11_row 7 1 6 [.ref 0, .int x1] (nrm s) (q_l Q) (q_x Qx) := by
  refine CtX.of (by decide) (Nat.le_of_ble_eq_true rfl) (fun X ht => ?_)
  refine n_L (L' := [some (.ref 0), some (.int x1)]) (le_s (le_s (le_e))) ?_
  refine r_iload_n (pc := 0) (x := x1) dX11_row_0 rfl ?_
  refine r_if_lt (pc := 1) (tgt := 15) dX11_row_1 (by decide) (fun c => ?_) (fun c => ?_)
  · replace h := h.1 c
    exact x_throwSW (pc := 15) (sa := 2) (text := "the row has no such number") hst rfl ht (List.mem_of_getElem? (i := 2) rfl) dX11_row_15 dX11_row_18 dX11_row_19 dX11_row_22 dX11_row_25 ⟨Nat.le_of_ble_eq_true rfl, Nat.le_of_ble_eq_true rfl, Nat.le_of_ble_eq_true rfl, Nat.le_of_ble_eq_true rfl⟩ ⟨Nat.le_of_ble_eq_true rfl, Nat.le_of_ble_eq_true rfl⟩ ⟨_, rfl, h⟩
  · replace h := h.2 c
    refine r_iload_n (pc := 4) (x := x1) dX11_row_4 rfl ?_
    refine r_aload_n (pc := 5) (x := 0) dX11_row_5 rfl ?_
    refine n_getR (pc := 6) (j := 3) (q := 18) dX11_row_6 fl_RX11_33 (by decide) sh_0 rfl rfl rfl ?_
    refine n_getI (pc := 9) (j := 1) dX11_row_9 fl_RX11_334 (by decide) sh_18 rfl rfl ?_
    refine r_icmp_lt (pc := 12) (tgt := 26) dX11_row_12 (by decide) (fun c => ?_) (fun c => ?_)
    · replace h := h.1 c
      refine r_aload_n (pc := 26) (x := 0) dX11_row_26 rfl ?_
      refine n_getR (pc := 27) (j := 3) (q := 18) dX11_row_27 fl_RX11_33 (by decide) sh_0 rfl rfl rfl ?_
      refine r_iload_n (pc := 30) (x := x1) dX11_row_30 rfl ?_
      refine n_Vi0 (pc := 31) (S0 := []) (spX6_numberAt h) gmX6_numberAt selX6_numberAt lk_RX11_337 dX11_row_31 rfl (by decide) sh_18 ⟨rfl, by decide⟩ rfl ⟨Nat.le_of_ble_eq_true rfl, Nat.le_of_ble_eq_true rfl⟩ (Nat.le_of_ble_eq_true rfl) ⟨Nat.zero_le _, Nat.zero_le _⟩ (fun r2 s2 h => ?_)
      refine r_i2l (pc := 34) dX11_row_34 ?_
      exact x_ret (n_lret (pc := 35) dX11_row_35 rfl (Nat.zero_le _) (Nat.zero_le _) h)
    · replace h := h.2 c
      exact x_throwSW (pc := 15) (sa := 2) (text := "the row has no such number") hst rfl ht (List.mem_of_getElem? (i := 2) rfl) dX11_row_15 dX11_row_18 dX11_row_19 dX11_row_22 dX11_row_25 ⟨Nat.le_of_ble_eq_true rfl, Nat.le_of_ble_eq_true rfl, Nat.le_of_ble_eq_true rfl, Nat.le_of_ble_eq_true rfl⟩ ⟨Nat.le_of_ble_eq_true rfl, Nat.le_of_ble_eq_true rfl⟩ ⟨_, rfl, h⟩
theorem spL_reading {l : Launch} (hst : l.stackTraces = false) {g : Nat} {x1 x2 x3 : Int32} {s : gS} {Q : Int32 → gS → Prop} (h : wpL_reading g x1 x2 x3 s Q) : CtH l mL_reading [(0, 12, 15, 13)] 8 (2 * g) (8 * g) [.ref 0, .int x1, .int x2, .int x3, .ref 192] (nrm s) (q_i Q) := by
  obtain ⟨hg, h⟩ := h
  refine CtH.of (by decide) (Nat.le_of_ble_eq_true rfl) (fun X ht => ?_)
  refine n_L (L' := [some (.ref 0), some (.int x1), some (.int x2), some (.int x3), some (.ref 192), none]) (le_s (le_s (le_s (le_s (le_s (le_p (le_e))))))) ?_
  refine r_aload (pc := 0) (x := 192) dL_reading_0 rfl ?_
  refine r_iconst (pc := 2) (v := 0) dL_reading_2 (by decide) ?_
  refine r_aload_n (pc := 3) (x := 0) dL_reading_3 rfl ?_
  refine r_iload_n (pc := 4) (x := x1) dL_reading_4 rfl ?_
  refine r_iload_n (pc := 5) (x := x2) dL_reading_5 rfl ?_
  refine r_iload_n (pc := 6) (x := x3) dL_reading_6 rfl ?_
  refine r_callVX (pc := 7) (S0 := [.int 0, .ref 192]) (M := nrm s) (x := ⟨0, 12, 15, 13⟩) (spxX11_reading hst h) gmX11_reading selX11_reading lk_RL_7 dL_reading_7 rfl (show 0 < 193 by decide) sh_0 ⟨rfl, by decide⟩ rfl ⟨Nat.le_of_ble_eq_true rfl, Nat.le_of_ble_eq_true rfl⟩ (Nat.le_of_ble_eq_true rfl) ⟨by show 0 + 1 ≤ 2 * g; omega, by show 0 + 6 ≤ 8 * g; omega⟩ (ht.trans rfl) rfl (by decide) x_lkL x_cast (fun M' hq => ?_) (e_i (P := fun v M => Gw l mL_reading (g_rm 8 (2 * g) (8 * g)) X (7 + 3) [some (.ref 0), some (.int x1), some (.int x2), some (.int x3), some (.ref 192), none] (v.toList ++ [.int 0, .ref 192]) M (0 + 1) (0 + 6) (g_Z X (q_i Q) (2 * g) (8 * g))) (fun r s' h => ?_))
  · obtain ⟨s', rfl, hq⟩ := hq
    refine x_ast (i := 5) (pc := 15) (L' := [some (.ref 0), some (.int x1), some (.int x2), some (.int x3), some (.ref 192), none]) dL_reading_15 rfl (by decide) rfl ?_
    refine r_iconst (pc := 17) (v := 1) dL_reading_17 (by decide) ?_
    exact n_iret (pc := 18) dL_reading_18 rfl (by omega) (by omega) hq
  · refine r_i2l (pc := 10) (x := r) (S := [.int 0, .ref 192]) dL_reading_10 ?_
    refine n_last (pc := 11) (a := 192) (len := 1) (j := 0) dL_reading_11 (by decide) sh_192 (vp_inc (by decide)) (by decide) ?_
    refine r_goto (pc := 12) (tgt := 19) dL_reading_12 (by decide) ?_
    refine r_iconst (pc := 19) (v := 0) dL_reading_19 (by decide) ?_
    exact n_iret (pc := 20) dL_reading_20 rfl (by omega) (by omega) h
theorem spL_row {l : Launch} (hst : l.stackTraces = false) {g : Nat} {x1 : Int32} {s : gS} {Q : Int32 → gS → Prop} (h : wpL_row g x1 s Q) : CtH l mL_row [(0, 8, 11, 13)] 8 (2 * g) (8 * g) [.ref 0, .int x1, .ref 192] (nrm s) (q_i Q) := by
  obtain ⟨hg, h⟩ := h
  refine CtH.of (by decide) (Nat.le_of_ble_eq_true rfl) (fun X ht => ?_)
  refine n_L (L' := [some (.ref 0), some (.int x1), some (.ref 192), none]) (le_s (le_s (le_s (le_p (le_e))))) ?_
  refine r_aload_n (pc := 0) (x := 192) dL_row_0 rfl ?_
  refine r_iconst (pc := 1) (v := 0) dL_row_1 (by decide) ?_
  refine r_aload_n (pc := 2) (x := 0) dL_row_2 rfl ?_
  refine r_iload_n (pc := 3) (x := x1) dL_row_3 rfl ?_
  refine r_callVX (pc := 4) (S0 := [.int 0, .ref 192]) (M := nrm s) (x := ⟨0, 8, 11, 13⟩) (spxX11_row hst h) gmX11_row selX11_row lk_RL_15 dL_row_4 rfl (show 0 < 193 by decide) sh_0 ⟨rfl, by decide⟩ rfl ⟨Nat.le_of_ble_eq_true rfl, Nat.le_of_ble_eq_true rfl⟩ (Nat.le_of_ble_eq_true rfl) ⟨by show 0 + 1 ≤ 2 * g; omega, by show 0 + 6 ≤ 8 * g; omega⟩ (ht.trans rfl) rfl (by decide) x_lkL x_cast (fun M' hq => ?_) (e_l (P := fun v M => Gw l mL_row (g_rm 8 (2 * g) (8 * g)) X (4 + 3) [some (.ref 0), some (.int x1), some (.ref 192), none] (v.toList ++ [.int 0, .ref 192]) M (0 + 1) (0 + 6) (g_Z X (q_i Q) (2 * g) (8 * g))) (fun r s' h => ?_))
  · obtain ⟨s', rfl, hq⟩ := hq
    refine x_astn (i := 3) (pc := 11) (L' := [some (.ref 0), some (.int x1), some (.ref 192), none]) dL_row_11 rfl (by decide) rfl ?_
    refine r_iconst (pc := 12) (v := 1) dL_row_12 (by decide) ?_
    exact n_iret (pc := 13) dL_row_13 rfl (by omega) (by omega) hq
  · refine n_last (pc := 7) (a := 192) (len := 1) (j := 0) dL_row_7 (by decide) sh_192 (vp_inc (by decide)) (by decide) ?_
    refine r_goto (pc := 8) (tgt := 14) dL_row_8 (by decide) ?_
    refine r_iconst (pc := 14) (v := 0) dL_row_14 (by decide) ?_
    exact n_iret (pc := 15) dL_row_15 rfl (by omega) (by omega) h
def wL_law_923 (Ln : Nat) (xs : Nat → Int32) (Q : Unit) (k23 : Nat → Int32 → gS → Prop) (g : Nat) (y4 : Int32) (z0 : Int32) (z1 : Int32) (z2 : Int32) (z4 : Int32) (s : gS) : Prop := wpX12_rules z2 z1 z0 s (fun r1 s1 => (z4 = r1 → k23 g (y4 + 4) s1) ∧ (¬ (z4 = r1) → False))
set_option maxRecDepth 20000 in
set_option maxHeartbeats 4000000 in
theorem pL_law_923 {l : Launch} {X : gX} {Z : State → Prop} {Ln : Nat} {xs : Nat → Int32} (hst : l.stackTraces = false) (hsc : (g_E X).2.2.2.2.2.1 = Ln ∧ (g_E X).2.2.2.2.2.2 = xs) (hret : ∀ (pc : Nat) (L : List (Option Value)) (M : gMem) (k n : Nat), decode mL_law.2.1 pc = .ok (.ireturn, 1) → k ≤ 601024 → n ≤ 7293034 → Gw l mL_law room_1 X pc L [.int 1] M k n Z) {Q : Unit} {k23 : Nat → Int32 → gS → Prop} (g : Nat) (y4 : Int32) (z0 : Int32) (z1 : Int32) (z2 : Int32) (z4 : Int32) (s : gS) (h : wL_law_923 Ln xs Q k23 g y4 z0 z1 z2 z4 s) (hk23 : ∀ (g : Nat) (y4 : Int32) (s : gS), k23 g y4 s → ∀ (k n : Nat), k + 2 * g ≤ 601024 → n + 8 * g ≤ 7293034 → Gw l mL_law room_1 X 23 [some (.ref 950), some (.ref 0), some (.ref 177), some (.ref 192), some (.int y4), none, none, none] [] (nrm s) k n Z) : ∀ (k n : Nat), k + 2 * g ≤ 601024 → n + 8 * g ≤ 7293034 → Gw l mL_law room_1 X 923 [some (.ref 950), some (.ref 0), some (.ref 177), some (.ref 192), some (.int y4), none, none, none] [.int z0, .int z1, .int z2, .ref 177, .int z4] (nrm s) k n Z := by
  intro k n hg1 hg2
  refine n_Vi0 (pc := 923) (S0 := [.int z4]) (spX12_rules h) gmX12_rules selX12_rules lk_RL_128 dL_law_923 rfl (by decide) sh_177 ⟨rfl, by decide⟩ rfl ⟨Nat.le_of_ble_eq_true rfl, Nat.le_of_ble_eq_true rfl⟩ (Nat.le_of_ble_eq_true rfl) ⟨by show _ ≤ 601024; omega, by show _ ≤ 7293034; omega⟩ (fun r1 s1 h => ?_)
  refine r_icmp_eq (pc := 926) (tgt := 1187) dL_law_926 (by decide) (fun c => ?_) (fun c => ?_)
  · replace h := h.1 c
    refine n_iinc (pc := 1187) (x := y4) (w := 4) (L' := [some (.ref 950), some (.ref 0), some (.ref 177), some (.ref 192), some (.int (y4 + 4)), none, none, none]) dL_law_1187 rfl (by decide) rfl (by decide) rfl ?_
    refine r_goto (pc := 1190) (tgt := 23) dL_law_1190 (by decide) ?_
    refine n_L (L' := [some (.ref 950), some (.ref 0), some (.ref 177), some (.ref 192), some (.int (y4 + 4)), none, none, none]) (le_s (le_s (le_s (le_s (le_s (le_n (le_n (le_n (le_e))))))))) ?_
    exact hk23 _ _ _ h _ _ (by omega) (by omega)
  · replace h := h.2 c
    refine r_iconst (pc := 929) (v := 0) dL_law_929 (by decide) ?_
    exact h.elim
def wL_law_893 (Ln : Nat) (xs : Nat → Int32) (Q : Unit) (k23 : Nat → Int32 → gS → Prop) (g : Nat) (y4 : Int32) (z0 : Int32) (z1 : Int32) (z2 : Int32) (s : gS) : Prop := wpX11_rules z2 z1 z0 s (fun r2 s2 => vp_in (y4 + 1) Ln ∧ (vp_in (y4 + 2) Ln ∧ (vp_in (y4 + 3) Ln ∧ (((xs (ix (y4 + 3))) = 0 → wL_law_923 Ln xs Q k23 g y4 0 (xs (ix (y4 + 2))) (xs (ix (y4 + 1))) r2 s2) ∧ (¬ ((xs (ix (y4 + 3))) = 0) → wL_law_923 Ln xs Q k23 g y4 1 (xs (ix (y4 + 2))) (xs (ix (y4 + 1))) r2 s2)))))
set_option maxRecDepth 20000 in
set_option maxHeartbeats 4000000 in
theorem pL_law_893 {l : Launch} {X : gX} {Z : State → Prop} {Ln : Nat} {xs : Nat → Int32} (hst : l.stackTraces = false) (hsc : (g_E X).2.2.2.2.2.1 = Ln ∧ (g_E X).2.2.2.2.2.2 = xs) (hret : ∀ (pc : Nat) (L : List (Option Value)) (M : gMem) (k n : Nat), decode mL_law.2.1 pc = .ok (.ireturn, 1) → k ≤ 601024 → n ≤ 7293034 → Gw l mL_law room_1 X pc L [.int 1] M k n Z) {Q : Unit} {k23 : Nat → Int32 → gS → Prop} (g : Nat) (y4 : Int32) (z0 : Int32) (z1 : Int32) (z2 : Int32) (s : gS) (h : wL_law_893 Ln xs Q k23 g y4 z0 z1 z2 s) (hk23 : ∀ (g : Nat) (y4 : Int32) (s : gS), k23 g y4 s → ∀ (k n : Nat), k + 2 * g ≤ 601024 → n + 8 * g ≤ 7293034 → Gw l mL_law room_1 X 23 [some (.ref 950), some (.ref 0), some (.ref 177), some (.ref 192), some (.int y4), none, none, none] [] (nrm s) k n Z) : ∀ (k n : Nat), k + 2 * g ≤ 601024 → n + 8 * g ≤ 7293034 → Gw l mL_law room_1 X 893 [some (.ref 950), some (.ref 0), some (.ref 177), some (.ref 192), some (.int y4), none, none, none] [.int z0, .int z1, .int z2, .ref 0] (nrm s) k n Z := by
  intro k n hg1 hg2
  refine n_Vi0 (pc := 893) (S0 := []) (spX11_rules h) gmX11_rules selX11_rules lk_RL_124 dL_law_893 rfl (by decide) sh_0 ⟨rfl, by decide⟩ rfl ⟨Nat.le_of_ble_eq_true rfl, Nat.le_of_ble_eq_true rfl⟩ (Nat.le_of_ble_eq_true rfl) ⟨by show _ ≤ 601024; omega, by show _ ≤ 7293034; omega⟩ (fun r2 s2 h => ?_)
  refine r_aload_n (pc := 896) (x := 177) dL_law_896 rfl ?_
  refine r_aload_n (pc := 897) (x := 950) dL_law_897 rfl ?_
  refine r_iload (pc := 898) (x := y4) dL_law_898 rfl ?_
  refine r_iconst (pc := 900) (v := 1) dL_law_900 (by decide) ?_
  refine r_iadd (pc := 901) dL_law_901 ?_
  obtain ⟨b3, h⟩ := h
  refine n_scd (pc := 902) dL_law_902 hsc b3 ?_
  refine r_aload_n (pc := 903) (x := 950) dL_law_903 rfl ?_
  refine r_iload (pc := 904) (x := y4) dL_law_904 rfl ?_
  refine r_iconst (pc := 906) (v := 2) dL_law_906 (by decide) ?_
  refine r_iadd (pc := 907) dL_law_907 ?_
  obtain ⟨b4, h⟩ := h
  refine n_scd (pc := 908) dL_law_908 hsc b4 ?_
  refine r_aload_n (pc := 909) (x := 950) dL_law_909 rfl ?_
  refine r_iload (pc := 910) (x := y4) dL_law_910 rfl ?_
  refine r_iconst (pc := 912) (v := 3) dL_law_912 (by decide) ?_
  refine r_iadd (pc := 913) dL_law_913 ?_
  obtain ⟨b5, h⟩ := h
  refine n_scd (pc := 914) dL_law_914 hsc b5 ?_
  refine r_if_eq (pc := 915) (tgt := 922) dL_law_915 (by decide) (fun c => ?_) (fun c => ?_)
  · replace h := h.1 c
    refine r_iconst (pc := 922) (v := 0) dL_law_922 (by decide) ?_
    refine n_L (L' := [some (.ref 950), some (.ref 0), some (.ref 177), some (.ref 192), some (.int y4), none, none, none]) (le_s (le_s (le_s (le_s (le_s (le_n (le_n (le_n (le_e))))))))) ?_
    exact pL_law_923 hst hsc hret _ _ _ _ _ _ _ h hk23 _ _ (by omega) (by omega)
  · replace h := h.2 c
    refine r_iconst (pc := 918) (v := 1) dL_law_918 (by decide) ?_
    refine r_goto (pc := 919) (tgt := 923) dL_law_919 (by decide) ?_
    refine n_L (L' := [some (.ref 950), some (.ref 0), some (.ref 177), some (.ref 192), some (.int y4), none, none, none]) (le_s (le_s (le_s (le_s (le_s (le_n (le_n (le_n (le_e))))))))) ?_
    exact pL_law_923 hst hsc hret _ _ _ _ _ _ _ h hk23 _ _ (by omega) (by omega)
def wL_law_23 (Ln : Nat) (xs : Nat → Int32) (Q : Unit)  : Nat → Nat → Int32 → gS → Prop
  | 0, _, _, _ => False
  | n + 1, g, y4, s => (((Int32.ofNat Ln) - 4) < y4 → True) ∧ (¬ (((Int32.ofNat Ln) - 4) < y4) → vp_in y4 Ln ∧ ((((xs (ix y4)) &&& 63) = 0 → vp_in (y4 + 1) Ln ∧ (wpX11_sign (xs (ix (y4 + 1))) s (fun r8 s8 => vp_in (y4 + 1) Ln ∧ (wpX12_sign (xs (ix (y4 + 1))) s8 (fun r10 s10 => (r8 = r10 → wL_law_23 Ln xs Q n g (y4 + 4) s10) ∧ (¬ (r8 = r10) → False)))))) ∧ (((xs (ix y4)) &&& 63) = 1 → vp_in (y4 + 1) Ln ∧ (wpX11_end (xs (ix (y4 + 1))) s (fun r12 s12 => vp_in (y4 + 1) Ln ∧ (wpX12_end (xs (ix (y4 + 1))) s12 (fun r14 s14 => (r12 = r14 → wL_law_23 Ln xs Q n g (y4 + 4) s14) ∧ (¬ (r12 = r14) → False)))))) ∧ (((xs (ix y4)) &&& 63) = 2 → vp_in (y4 + 1) Ln ∧ (vp_in (y4 + 2) Ln ∧ (wpX11_tells (xs (ix (y4 + 1))) (xs (ix (y4 + 2))) s (fun r17 s17 => vp_in (y4 + 1) Ln ∧ (vp_in (y4 + 2) Ln ∧ (∃ g20a g20b, g20a + g20b ≤ g ∧ wpX12_tells g20a (xs (ix (y4 + 1))) (xs (ix (y4 + 2))) s17 (fun r20 s20 => (r17 = r20 → wL_law_23 Ln xs Q n g20b (y4 + 4) s20) ∧ (¬ (r17 = r20) → False)))))))) ∧ (((xs (ix y4)) &&& 63) = 3 → vp_in (y4 + 1) Ln ∧ (wpX11_means (xs (ix (y4 + 1))) s (fun r22 s22 => vp_in (y4 + 1) Ln ∧ (∃ g24a g24b, g24a + g24b ≤ g ∧ wpX12_means g24a (xs (ix (y4 + 1))) s22 (fun r24 s24 => (r22 = r24 → wL_law_23 Ln xs Q n g24b (y4 + 4) s24) ∧ (¬ (r22 = r24) → False)))))) ∧ (((xs (ix y4)) &&& 63) = 4 → vp_in (y4 + 1) Ln ∧ (vp_in (y4 + 2) Ln ∧ (vp_in (y4 + 3) Ln ∧ (wpX11_day (xs (ix (y4 + 1))) (xs (ix (y4 + 2))) (xs (ix (y4 + 3))) s (fun r28 s28 => vp_in (y4 + 1) Ln ∧ (vp_in (y4 + 2) Ln ∧ (vp_in (y4 + 3) Ln ∧ (wpX12_day (xs (ix (y4 + 1))) (xs (ix (y4 + 2))) (xs (ix (y4 + 3))) s28 (fun r32 s32 => (r28 = r32 → wL_law_23 Ln xs Q n g (y4 + 4) s32) ∧ (¬ (r28 = r32) → False)))))))))) ∧ (((xs (ix y4)) &&& 63) = 5 → vp_in (y4 + 1) Ln ∧ (wpX11_date (xs (ix (y4 + 1))) s (fun r34 s34 => vp_in (y4 + 1) Ln ∧ (wpX12_date (xs (ix (y4 + 1))) s34 (fun r36 s36 => (r34 = r36 → wL_law_23 Ln xs Q n g (y4 + 4) s36) ∧ (¬ (r34 = r36) → False)))))) ∧ (((xs (ix y4)) &&& 63) = 6 → vp_in (y4 + 1) Ln ∧ (vp_in (y4 + 2) Ln ∧ (vp_in (y4 + 3) Ln ∧ (wpX11_moved (xs (ix (y4 + 1))) (xs (ix (y4 + 2))) (xs (ix (y4 + 3))) s (fun r40 s40 => vp_in (y4 + 1) Ln ∧ (vp_in (y4 + 2) Ln ∧ (vp_in (y4 + 3) Ln ∧ (wpX12_moved (xs (ix (y4 + 1))) (xs (ix (y4 + 2))) (xs (ix (y4 + 3))) s40 (fun r44 s44 => (r40 = r44 → wL_law_23 Ln xs Q n g (y4 + 4) s44) ∧ (¬ (r40 = r44) → False)))))))))) ∧ (((xs (ix y4)) &&& 63) = 7 → vp_in (y4 + 1) Ln ∧ (wpX11_readings (xs (ix (y4 + 1))) s (fun r46 s46 => vp_in (y4 + 1) Ln ∧ (wpX12_readings (xs (ix (y4 + 1))) s46 (fun r48 s48 => (r46 = r48 → wL_law_23 Ln xs Q n g (y4 + 4) s48) ∧ (¬ (r46 = r48) → False)))))) ∧ (((xs (ix y4)) &&& 63) = 8 → vp_in (y4 + 1) Ln ∧ (vp_in (y4 + 2) Ln ∧ (vp_in (y4 + 3) Ln ∧ (∃ g52a g52b, g52a + g52b ≤ g ∧ wpL_reading g52a (xs (ix (y4 + 1))) (xs (ix (y4 + 2))) (xs (ix (y4 + 3))) s (fun r52 s52 => vp_in (y4 + 1) Ln ∧ (vp_in (y4 + 2) Ln ∧ (vp_in (y4 + 3) Ln ∧ (wpX12_reading (xs (ix (y4 + 1))) (xs (ix (y4 + 2))) (xs (ix (y4 + 3))) s52 (fun r56 s56 => wpX12_thrown s56 (fun r57 s57 => (r57 = r52 → (¬ r52 = 0 → wL_law_23 Ln xs Q n g52b (y4 + 4) s57) ∧ (r52 = 0 → ((lg_cmp (gl s57 192 0) r56.toInt64) = 0 → wL_law_23 Ln xs Q n g52b (y4 + 4) s57) ∧ (¬ ((lg_cmp (gl s57 192 0) r56.toInt64) = 0) → False))) ∧ (¬ (r57 = r52) → False))))))))))) ∧ (((xs (ix y4)) &&& 63) = 9 → vp_in (y4 + 1) Ln ∧ (wpX11_hull (xs (ix (y4 + 1))) s (fun r59 s59 => vp_in (y4 + 1) Ln ∧ (wpX12_hull (xs (ix (y4 + 1))) s59 (fun r61 s61 => (r59 = r61 → wL_law_23 Ln xs Q n g (y4 + 4) s61) ∧ (¬ (r59 = r61) → False)))))) ∧ (((xs (ix y4)) &&& 63) = 10 → vp_in (y4 + 1) Ln ∧ (vp_in (y4 + 2) Ln ∧ (vp_in (y4 + 3) Ln ∧ (wpX11_order (xs (ix (y4 + 1))) (xs (ix (y4 + 2))) (xs (ix (y4 + 3))) s (fun r65 s65 => vp_in (y4 + 1) Ln ∧ (vp_in (y4 + 2) Ln ∧ (vp_in (y4 + 3) Ln ∧ (wpX12_order (xs (ix (y4 + 1))) (xs (ix (y4 + 2))) (xs (ix (y4 + 3))) s65 (fun r69 s69 => (r65 = r69 → wL_law_23 Ln xs Q n g (y4 + 4) s69) ∧ (¬ (r65 = r69) → False)))))))))) ∧ (((xs (ix y4)) &&& 63) = 11 → vp_in (y4 + 1) Ln ∧ (wpX11_told (xs (ix (y4 + 1))) s (fun r71 s71 => vp_in (y4 + 1) Ln ∧ (wpX12_told (xs (ix (y4 + 1))) s71 (fun r73 s73 => (r71 = r73 → wL_law_23 Ln xs Q n g (y4 + 4) s73) ∧ (¬ (r71 = r73) → False)))))) ∧ (((xs (ix y4)) &&& 63) = 12 → wpX11_choices s (fun r74 s74 => wpX12_choices s74 (fun r75 s75 => (r74 = r75 → wL_law_23 Ln xs Q n g (y4 + 4) s75) ∧ (¬ (r74 = r75) → False)))) ∧ (((xs (ix y4)) &&& 63) = 13 → wpX11_best s (fun r76 s76 => wpX12_best s76 (fun r77 s77 => (r76 = r77 → wL_law_23 Ln xs Q n g (y4 + 4) s77) ∧ (¬ (r76 = r77) → False)))) ∧ (((xs (ix y4)) &&& 63) = 14 → wpX11_other s (fun r78 s78 => wpX12_other s78 (fun r79 s79 => (r78 = r79 → wL_law_23 Ln xs Q n g (y4 + 4) s79) ∧ (¬ (r78 = r79) → False)))) ∧ (((xs (ix y4)) &&& 63) = 15 → wpX11_conflict s (fun r80 s80 => wpX12_conflict s80 (fun r81 s81 => (r80 = r81 → wL_law_23 Ln xs Q n g (y4 + 4) s81) ∧ (¬ (r80 = r81) → False)))) ∧ (((xs (ix y4)) &&& 63) = 16 → vp_in (y4 + 1) Ln ∧ (wpX11_without (xs (ix (y4 + 1))) s (fun r83 s83 => vp_in (y4 + 1) Ln ∧ (wpX12_without (xs (ix (y4 + 1))) s83 (fun r85 s85 => (r83 = r85 → wL_law_23 Ln xs Q n g (y4 + 4) s85) ∧ (¬ (r83 = r85) → False)))))) ∧ (((xs (ix y4)) &&& 63) = 17 → vp_in (y4 + 1) Ln ∧ (vp_in (y4 + 2) Ln ∧ (vp_in (y4 + 3) Ln ∧ (wpX11_with (xs (ix (y4 + 1))) (xs (ix (y4 + 2))) (xs (ix (y4 + 3))) s (fun r89 s89 => vp_in (y4 + 1) Ln ∧ (vp_in (y4 + 2) Ln ∧ (vp_in (y4 + 3) Ln ∧ (wpX12_with (xs (ix (y4 + 1))) (xs (ix (y4 + 2))) (xs (ix (y4 + 3))) s89 (fun r93 s93 => (r89 = r93 → wL_law_23 Ln xs Q n g (y4 + 4) s93) ∧ (¬ (r89 = r93) → False)))))))))) ∧ (((xs (ix y4)) &&& 63) = 18 → wpX11_asks s (fun r94 s94 => wpX12_asks s94 (fun r95 s95 => (r94 = r95 → wL_law_23 Ln xs Q n g (y4 + 4) s95) ∧ (¬ (r94 = r95) → False)))) ∧ (((xs (ix y4)) &&& 63) = 19 → vp_in (y4 + 1) Ln ∧ (wpX11_on (xs (ix (y4 + 1))) s (fun r97 s97 => vp_in (y4 + 1) Ln ∧ (wpX12_on (xs (ix (y4 + 1))) s97 (fun r99 s99 => (r97 = r99 → wL_law_23 Ln xs Q n g (y4 + 4) s99) ∧ (¬ (r97 = r99) → False)))))) ∧ (((xs (ix y4)) &&& 63) = 20 → wpX11_busiest s (fun r100 s100 => wpX12_busiest s100 (fun r101 s101 => (r100 = r101 → wL_law_23 Ln xs Q n g (y4 + 4) s101) ∧ (¬ (r100 = r101) → False)))) ∧ (((xs (ix y4)) &&& 63) = 21 → vp_in (y4 + 1) Ln ∧ (vp_in (y4 + 2) Ln ∧ (wpX11_free (xs (ix (y4 + 1))) (xs (ix (y4 + 2))) s (fun r104 s104 => vp_in (y4 + 1) Ln ∧ (vp_in (y4 + 2) Ln ∧ (wpX12_free (xs (ix (y4 + 1))) (xs (ix (y4 + 2))) s104 (fun r107 s107 => (r104 = r107 → wL_law_23 Ln xs Q n g (y4 + 4) s107) ∧ (¬ (r104 = r107) → False)))))))) ∧ (((xs (ix y4)) &&& 63) = 22 → vp_in (y4 + 1) Ln ∧ (wpX11_ref (xs (ix (y4 + 1))) s (fun r109 s109 => vp_in (y4 + 1) Ln ∧ (wpX12_ref (xs (ix (y4 + 1))) s109 (fun r111 s111 => (r109 = r111 → wL_law_23 Ln xs Q n g (y4 + 4) s111) ∧ (¬ (r109 = r111) → False)))))) ∧ (((xs (ix y4)) &&& 63) = 23 → vp_in (y4 + 1) Ln ∧ (vp_in (y4 + 2) Ln ∧ (vp_in (y4 + 3) Ln ∧ (((xs (ix (y4 + 3))) = 0 → wL_law_893 Ln xs Q (fun g y4 s => wL_law_23 Ln xs Q n g y4 s) g y4 0 (xs (ix (y4 + 2))) (xs (ix (y4 + 1))) s) ∧ (¬ ((xs (ix (y4 + 3))) = 0) → wL_law_893 Ln xs Q (fun g y4 s => wL_law_23 Ln xs Q n g y4 s) g y4 1 (xs (ix (y4 + 2))) (xs (ix (y4 + 1))) s))))) ∧ (((xs (ix y4)) &&& 63) = 24 → wpX11_narrows s (fun r115 s115 => wpX12_narrows s115 (fun r116 s116 => (r115 = r116 → wL_law_23 Ln xs Q n g (y4 + 4) s116) ∧ (¬ (r115 = r116) → False)))) ∧ (((xs (ix y4)) &&& 63) = 25 → vp_in (y4 + 1) Ln ∧ (wpX11_drops (xs (ix (y4 + 1))) s (fun r118 s118 => vp_in (y4 + 1) Ln ∧ (wpX12_drops (xs (ix (y4 + 1))) s118 (fun r120 s120 => (r118 = r120 → wL_law_23 Ln xs Q n g (y4 + 4) s120) ∧ (¬ (r118 = r120) → False)))))) ∧ (((xs (ix y4)) &&& 63) = 26 → vp_in (y4 + 1) Ln ∧ (wpX11_goes (xs (ix (y4 + 1))) s (fun r122 s122 => vp_in (y4 + 1) Ln ∧ (wpX12_goes (xs (ix (y4 + 1))) s122 (fun r124 s124 => (r122 = r124 → wL_law_23 Ln xs Q n g (y4 + 4) s124) ∧ (¬ (r122 = r124) → False)))))) ∧ (((xs (ix y4)) &&& 63) = 27 → wpX11_work s (fun r125 s125 => wpX12_work s125 (fun r126 s126 => (r125 = r126 → wL_law_23 Ln xs Q n g (y4 + 4) s126) ∧ (¬ (r125 = r126) → False)))) ∧ (((xs (ix y4)) &&& 63) = 28 → wpX11_undo s (fun r127 s127 => wpX12_undo s127 (fun r128 s128 => (r127 = r128 → wL_law_23 Ln xs Q n g (y4 + 4) s128) ∧ (¬ (r127 = r128) → False)))) ∧ (((xs (ix y4)) &&& 63) = 29 → vp_in (y4 + 1) Ln ∧ (vp_in (y4 + 2) Ln ∧ (wpX11_years (xs (ix (y4 + 1))) (xs (ix (y4 + 2))) s (fun r131 s131 => vp_in (y4 + 1) Ln ∧ (vp_in (y4 + 2) Ln ∧ (wpX12_years (xs (ix (y4 + 1))) (xs (ix (y4 + 2))) s131 (fun r134 s134 => (r131 = r134 → wL_law_23 Ln xs Q n g (y4 + 4) s134) ∧ (¬ (r131 = r134) → False)))))))) ∧ (((xs (ix y4)) &&& 63) = 30 → vp_in (y4 + 1) Ln ∧ (wpX11_keep (xs (ix (y4 + 1))) s (fun r136 s136 => vp_in (y4 + 1) Ln ∧ (wpX12_keep (xs (ix (y4 + 1))) s136 (fun r138 s138 => (r136 = r138 → wL_law_23 Ln xs Q n g (y4 + 4) s138) ∧ (¬ (r136 = r138) → False)))))) ∧ (((xs (ix y4)) &&& 63) = 31 → vp_in (y4 + 1) Ln ∧ (wpX11_again (xs (ix (y4 + 1))) s (fun r140 s140 => vp_in (y4 + 1) Ln ∧ (wpX12_again (xs (ix (y4 + 1))) s140 (fun r142 s142 => (r140 = r142 → wL_law_23 Ln xs Q n g (y4 + 4) s142) ∧ (¬ (r140 = r142) → False)))))) ∧ (((xs (ix y4)) &&& 63) = 32 → vp_in (y4 + 1) Ln ∧ (wpX11_count (xs (ix (y4 + 1))) s (fun r144 s144 => vp_in (y4 + 1) Ln ∧ (wpX12_count (xs (ix (y4 + 1))) s144 (fun r146 s146 => (r144 = r146 → wL_law_23 Ln xs Q n g (y4 + 4) s146) ∧ (¬ (r144 = r146) → False)))))) ∧ (((xs (ix y4)) &&& 63) = 33 → vp_in (y4 + 1) Ln ∧ (∃ g148a g148b, g148a + g148b ≤ g ∧ wpL_row g148a (xs (ix (y4 + 1))) s (fun r148 s148 => vp_in (y4 + 1) Ln ∧ (wpX12_row (xs (ix (y4 + 1))) s148 (fun r150 s150 => wpX12_thrown s150 (fun r151 s151 => (r151 = r148 → (¬ r148 = 0 → wL_law_23 Ln xs Q n g148b (y4 + 4) s151) ∧ (r148 = 0 → ((lg_cmp (gl s151 192 0) r150) = 0 → wL_law_23 Ln xs Q n g148b (y4 + 4) s151) ∧ (¬ ((lg_cmp (gl s151 192 0) r150) = 0) → False))) ∧ (¬ (r151 = r148) → False))))))) ∧ (¬ ((xs (ix y4)) &&& 63) = 0 → ¬ ((xs (ix y4)) &&& 63) = 1 → ¬ ((xs (ix y4)) &&& 63) = 2 → ¬ ((xs (ix y4)) &&& 63) = 3 → ¬ ((xs (ix y4)) &&& 63) = 4 → ¬ ((xs (ix y4)) &&& 63) = 5 → ¬ ((xs (ix y4)) &&& 63) = 6 → ¬ ((xs (ix y4)) &&& 63) = 7 → ¬ ((xs (ix y4)) &&& 63) = 8 → ¬ ((xs (ix y4)) &&& 63) = 9 → ¬ ((xs (ix y4)) &&& 63) = 10 → ¬ ((xs (ix y4)) &&& 63) = 11 → ¬ ((xs (ix y4)) &&& 63) = 12 → ¬ ((xs (ix y4)) &&& 63) = 13 → ¬ ((xs (ix y4)) &&& 63) = 14 → ¬ ((xs (ix y4)) &&& 63) = 15 → ¬ ((xs (ix y4)) &&& 63) = 16 → ¬ ((xs (ix y4)) &&& 63) = 17 → ¬ ((xs (ix y4)) &&& 63) = 18 → ¬ ((xs (ix y4)) &&& 63) = 19 → ¬ ((xs (ix y4)) &&& 63) = 20 → ¬ ((xs (ix y4)) &&& 63) = 21 → ¬ ((xs (ix y4)) &&& 63) = 22 → ¬ ((xs (ix y4)) &&& 63) = 23 → ¬ ((xs (ix y4)) &&& 63) = 24 → ¬ ((xs (ix y4)) &&& 63) = 25 → ¬ ((xs (ix y4)) &&& 63) = 26 → ¬ ((xs (ix y4)) &&& 63) = 27 → ¬ ((xs (ix y4)) &&& 63) = 28 → ¬ ((xs (ix y4)) &&& 63) = 29 → ¬ ((xs (ix y4)) &&& 63) = 30 → ¬ ((xs (ix y4)) &&& 63) = 31 → ¬ ((xs (ix y4)) &&& 63) = 32 → ¬ ((xs (ix y4)) &&& 63) = 33 → wL_law_23 Ln xs Q n g (y4 + 4) s)))
set_option maxRecDepth 20000 in
set_option maxHeartbeats 4000000 in
theorem pL_law_23 {l : Launch} {X : gX} {Z : State → Prop} {Ln : Nat} {xs : Nat → Int32} (hst : l.stackTraces = false) (hsc : (g_E X).2.2.2.2.2.1 = Ln ∧ (g_E X).2.2.2.2.2.2 = xs) (hret : ∀ (pc : Nat) (L : List (Option Value)) (M : gMem) (k n : Nat), decode mL_law.2.1 pc = .ok (.ireturn, 1) → k ≤ 601024 → n ≤ 7293034 → Gw l mL_law room_1 X pc L [.int 1] M k n Z) {Q : Unit}  : ∀ (n : Nat) (g : Nat) (y4 : Int32) (s : gS) (h : wL_law_23 Ln xs Q n g y4 s) , ∀ (k n : Nat), k + 2 * g ≤ 601024 → n + 8 * g ≤ 7293034 → Gw l mL_law room_1 X 23 [some (.ref 950), some (.ref 0), some (.ref 177), some (.ref 192), some (.int y4), none, none, none] [] (nrm s) k n Z := by
  intro n
  induction n with
  | zero => intro g y4 s h; exact h.elim
  | succ n ih0 =>
    intro g y4 s h 
    have ih : ∀ (g : Nat) (y4 : Int32) (s : gS), wL_law_23 Ln xs Q n g y4 s → ∀ (k n : Nat), k + 2 * g ≤ 601024 → n + 8 * g ≤ 7293034 → Gw l mL_law room_1 X 23 [some (.ref 950), some (.ref 0), some (.ref 177), some (.ref 192), some (.int y4), none, none, none] [] (nrm s) k n Z := fun g y4 s h => ih0 g y4 s h 
    intro k n hg1 hg2
    refine r_iload (pc := 23) (x := y4) dL_law_23 rfl ?_
    refine r_aload_n (pc := 25) (x := 950) dL_law_25 rfl ?_
    refine n_scl (pc := 26) dL_law_26 hsc ?_
    refine r_iconst (pc := 27) (v := 4) dL_law_27 (by decide) ?_
    refine r_isub (pc := 28) dL_law_28 ?_
    refine r_icmp_gt (pc := 29) (tgt := 1193) dL_law_29 (by decide) (fun c => ?_) (fun c => ?_)
    · replace h := h.1 c
      refine r_iconst (pc := 1193) (v := 1) dL_law_1193 (by decide) ?_
      exact hret 1194 _ _ _ _ dL_law_1194 (by omega) (by omega)
    · replace h := h.2 c
      refine r_aload_n (pc := 32) (x := 950) dL_law_32 rfl ?_
      refine r_iload (pc := 33) (x := y4) dL_law_33 rfl ?_
      obtain ⟨b6, h⟩ := h
      refine n_scd (pc := 35) dL_law_35 hsc b6 ?_
      refine r_bipush (pc := 36) (v := 63) dL_law_36 (by decide) ?_
      refine r_iand (pc := 38) dL_law_38 ?_
      by_cases c152_0 : ((xs (ix y4)) &&& 63) = 0
      · replace h := h.1 c152_0
        refine r_tableIn (pc := 39) (off := 149) (tgt := 188) dL_law_39 (by rw [c152_0]; decide) (by rw [c152_0]; decide) (by rw [c152_0]; decide) (by decide) ?_
        refine r_aload_n (pc := 188) (x := 0) dL_law_188 rfl ?_
        refine r_aload_n (pc := 189) (x := 950) dL_law_189 rfl ?_
        refine r_iload (pc := 190) (x := y4) dL_law_190 rfl ?_
        refine r_iconst (pc := 192) (v := 1) dL_law_192 (by decide) ?_
        refine r_iadd (pc := 193) dL_law_193 ?_
        obtain ⟨b7, h⟩ := h
        refine n_scd (pc := 194) dL_law_194 hsc b7 ?_
        refine n_Vi0 (pc := 195) (S0 := []) (spX11_sign h) gmX11_sign selX11_sign lk_RL_23 dL_law_195 rfl (by decide) sh_0 ⟨rfl, by decide⟩ rfl ⟨Nat.le_of_ble_eq_true rfl, Nat.le_of_ble_eq_true rfl⟩ (Nat.le_of_ble_eq_true rfl) ⟨by show _ ≤ 601024; omega, by show _ ≤ 7293034; omega⟩ (fun r8 s8 h => ?_)
        refine r_aload_n (pc := 198) (x := 177) dL_law_198 rfl ?_
        refine r_aload_n (pc := 199) (x := 950) dL_law_199 rfl ?_
        refine r_iload (pc := 200) (x := y4) dL_law_200 rfl ?_
        refine r_iconst (pc := 202) (v := 1) dL_law_202 (by decide) ?_
        refine r_iadd (pc := 203) dL_law_203 ?_
        obtain ⟨b9, h⟩ := h
        refine n_scd (pc := 204) dL_law_204 hsc b9 ?_
        refine n_Vi0 (pc := 205) (S0 := [.int r8]) (spX12_sign h) gmX12_sign selX12_sign lk_RL_27 dL_law_205 rfl (by decide) sh_177 ⟨rfl, by decide⟩ rfl ⟨Nat.le_of_ble_eq_true rfl, Nat.le_of_ble_eq_true rfl⟩ (Nat.le_of_ble_eq_true rfl) ⟨by show _ ≤ 601024; omega, by show _ ≤ 7293034; omega⟩ (fun r10 s10 h => ?_)
        refine r_icmp_eq (pc := 208) (tgt := 1187) dL_law_208 (by decide) (fun c => ?_) (fun c => ?_)
        · replace h := h.1 c
          refine n_iinc (pc := 1187) (x := y4) (w := 4) (L' := [some (.ref 950), some (.ref 0), some (.ref 177), some (.ref 192), some (.int (y4 + 4)), none, none, none]) dL_law_1187 rfl (by decide) rfl (by decide) rfl ?_
          refine r_goto (pc := 1190) (tgt := 23) dL_law_1190 (by decide) ?_
          refine n_L (L' := [some (.ref 950), some (.ref 0), some (.ref 177), some (.ref 192), some (.int (y4 + 4)), none, none, none]) (le_s (le_s (le_s (le_s (le_s (le_n (le_n (le_n (le_e))))))))) ?_
          exact ih _ _ _ h _ _ (by omega) (by omega)
        · replace h := h.2 c
          refine r_iconst (pc := 211) (v := 0) dL_law_211 (by decide) ?_
          exact h.elim
      by_cases c152_1 : ((xs (ix y4)) &&& 63) = 1
      · replace h := h.2.1 c152_1
        refine r_tableIn (pc := 39) (off := 174) (tgt := 213) dL_law_39 (by rw [c152_1]; decide) (by rw [c152_1]; decide) (by rw [c152_1]; decide) (by decide) ?_
        refine r_aload_n (pc := 213) (x := 0) dL_law_213 rfl ?_
        refine r_aload_n (pc := 214) (x := 950) dL_law_214 rfl ?_
        refine r_iload (pc := 215) (x := y4) dL_law_215 rfl ?_
        refine r_iconst (pc := 217) (v := 1) dL_law_217 (by decide) ?_
        refine r_iadd (pc := 218) dL_law_218 ?_
        obtain ⟨b11, h⟩ := h
        refine n_scd (pc := 219) dL_law_219 hsc b11 ?_
        refine n_Vi0 (pc := 220) (S0 := []) (spX11_end h) gmX11_end selX11_end lk_RL_28 dL_law_220 rfl (by decide) sh_0 ⟨rfl, by decide⟩ rfl ⟨Nat.le_of_ble_eq_true rfl, Nat.le_of_ble_eq_true rfl⟩ (Nat.le_of_ble_eq_true rfl) ⟨by show _ ≤ 601024; omega, by show _ ≤ 7293034; omega⟩ (fun r12 s12 h => ?_)
        refine r_aload_n (pc := 223) (x := 177) dL_law_223 rfl ?_
        refine r_aload_n (pc := 224) (x := 950) dL_law_224 rfl ?_
        refine r_iload (pc := 225) (x := y4) dL_law_225 rfl ?_
        refine r_iconst (pc := 227) (v := 1) dL_law_227 (by decide) ?_
        refine r_iadd (pc := 228) dL_law_228 ?_
        obtain ⟨b13, h⟩ := h
        refine n_scd (pc := 229) dL_law_229 hsc b13 ?_
        refine n_Vi0 (pc := 230) (S0 := [.int r12]) (spX12_end h) gmX12_end selX12_end lk_RL_32 dL_law_230 rfl (by decide) sh_177 ⟨rfl, by decide⟩ rfl ⟨Nat.le_of_ble_eq_true rfl, Nat.le_of_ble_eq_true rfl⟩ (Nat.le_of_ble_eq_true rfl) ⟨by show _ ≤ 601024; omega, by show _ ≤ 7293034; omega⟩ (fun r14 s14 h => ?_)
        refine r_icmp_eq (pc := 233) (tgt := 1187) dL_law_233 (by decide) (fun c => ?_) (fun c => ?_)
        · replace h := h.1 c
          refine n_iinc (pc := 1187) (x := y4) (w := 4) (L' := [some (.ref 950), some (.ref 0), some (.ref 177), some (.ref 192), some (.int (y4 + 4)), none, none, none]) dL_law_1187 rfl (by decide) rfl (by decide) rfl ?_
          refine r_goto (pc := 1190) (tgt := 23) dL_law_1190 (by decide) ?_
          refine n_L (L' := [some (.ref 950), some (.ref 0), some (.ref 177), some (.ref 192), some (.int (y4 + 4)), none, none, none]) (le_s (le_s (le_s (le_s (le_s (le_n (le_n (le_n (le_e))))))))) ?_
          exact ih _ _ _ h _ _ (by omega) (by omega)
        · replace h := h.2 c
          refine r_iconst (pc := 236) (v := 0) dL_law_236 (by decide) ?_
          exact h.elim
      by_cases c152_2 : ((xs (ix y4)) &&& 63) = 2
      · replace h := h.2.2.1 c152_2
        refine r_tableIn (pc := 39) (off := 199) (tgt := 238) dL_law_39 (by rw [c152_2]; decide) (by rw [c152_2]; decide) (by rw [c152_2]; decide) (by decide) ?_
        refine r_aload_n (pc := 238) (x := 0) dL_law_238 rfl ?_
        refine r_aload_n (pc := 239) (x := 950) dL_law_239 rfl ?_
        refine r_iload (pc := 240) (x := y4) dL_law_240 rfl ?_
        refine r_iconst (pc := 242) (v := 1) dL_law_242 (by decide) ?_
        refine r_iadd (pc := 243) dL_law_243 ?_
        obtain ⟨b15, h⟩ := h
        refine n_scd (pc := 244) dL_law_244 hsc b15 ?_
        refine r_aload_n (pc := 245) (x := 950) dL_law_245 rfl ?_
        refine r_iload (pc := 246) (x := y4) dL_law_246 rfl ?_
        refine r_iconst (pc := 248) (v := 2) dL_law_248 (by decide) ?_
        refine r_iadd (pc := 249) dL_law_249 ?_
        obtain ⟨b16, h⟩ := h
        refine n_scd (pc := 250) dL_law_250 hsc b16 ?_
        refine n_Vi0 (pc := 251) (S0 := []) (spX11_tells h) gmX11_tells selX11_tells lk_RL_33 dL_law_251 rfl (by decide) sh_0 ⟨rfl, by decide⟩ rfl ⟨Nat.le_of_ble_eq_true rfl, Nat.le_of_ble_eq_true rfl⟩ (Nat.le_of_ble_eq_true rfl) ⟨by show _ ≤ 601024; omega, by show _ ≤ 7293034; omega⟩ (fun r17 s17 h => ?_)
        refine r_aload_n (pc := 254) (x := 177) dL_law_254 rfl ?_
        refine r_aload_n (pc := 255) (x := 950) dL_law_255 rfl ?_
        refine r_iload (pc := 256) (x := y4) dL_law_256 rfl ?_
        refine r_iconst (pc := 258) (v := 1) dL_law_258 (by decide) ?_
        refine r_iadd (pc := 259) dL_law_259 ?_
        obtain ⟨b18, h⟩ := h
        refine n_scd (pc := 260) dL_law_260 hsc b18 ?_
        refine r_aload_n (pc := 261) (x := 950) dL_law_261 rfl ?_
        refine r_iload (pc := 262) (x := y4) dL_law_262 rfl ?_
        refine r_iconst (pc := 264) (v := 2) dL_law_264 (by decide) ?_
        refine r_iadd (pc := 265) dL_law_265 ?_
        obtain ⟨b19, h⟩ := h
        refine n_scd (pc := 266) dL_law_266 hsc b19 ?_
        obtain ⟨g20a, g20b, hg20, h⟩ := h
        refine n_Vi (pc := 267) (S0 := [.int r17]) (spX12_tells h) gmX12_tells selX12_tells lk_RL_37 dL_law_267 rfl (by decide) sh_177 ⟨rfl, by decide⟩ rfl ⟨Nat.le_of_ble_eq_true rfl, Nat.le_of_ble_eq_true rfl⟩ (Nat.le_of_ble_eq_true rfl) ⟨by show _ ≤ 601024; omega, by show _ ≤ 7293034; omega⟩ (fun r20 s20 h => ?_)
        refine r_icmp_eq (pc := 270) (tgt := 1187) dL_law_270 (by decide) (fun c => ?_) (fun c => ?_)
        · replace h := h.1 c
          refine n_iinc (pc := 1187) (x := y4) (w := 4) (L' := [some (.ref 950), some (.ref 0), some (.ref 177), some (.ref 192), some (.int (y4 + 4)), none, none, none]) dL_law_1187 rfl (by decide) rfl (by decide) rfl ?_
          refine r_goto (pc := 1190) (tgt := 23) dL_law_1190 (by decide) ?_
          refine n_L (L' := [some (.ref 950), some (.ref 0), some (.ref 177), some (.ref 192), some (.int (y4 + 4)), none, none, none]) (le_s (le_s (le_s (le_s (le_s (le_n (le_n (le_n (le_e))))))))) ?_
          exact ih _ _ _ h _ _ (by omega) (by omega)
        · replace h := h.2 c
          refine r_iconst (pc := 273) (v := 0) dL_law_273 (by decide) ?_
          exact h.elim
      by_cases c152_3 : ((xs (ix y4)) &&& 63) = 3
      · replace h := h.2.2.2.1 c152_3
        refine r_tableIn (pc := 39) (off := 236) (tgt := 275) dL_law_39 (by rw [c152_3]; decide) (by rw [c152_3]; decide) (by rw [c152_3]; decide) (by decide) ?_
        refine r_aload_n (pc := 275) (x := 0) dL_law_275 rfl ?_
        refine r_aload_n (pc := 276) (x := 950) dL_law_276 rfl ?_
        refine r_iload (pc := 277) (x := y4) dL_law_277 rfl ?_
        refine r_iconst (pc := 279) (v := 1) dL_law_279 (by decide) ?_
        refine r_iadd (pc := 280) dL_law_280 ?_
        obtain ⟨b21, h⟩ := h
        refine n_scd (pc := 281) dL_law_281 hsc b21 ?_
        refine n_Vi0 (pc := 282) (S0 := []) (spX11_means h) gmX11_means selX11_means lk_RL_38 dL_law_282 rfl (by decide) sh_0 ⟨rfl, by decide⟩ rfl ⟨Nat.le_of_ble_eq_true rfl, Nat.le_of_ble_eq_true rfl⟩ (Nat.le_of_ble_eq_true rfl) ⟨by show _ ≤ 601024; omega, by show _ ≤ 7293034; omega⟩ (fun r22 s22 h => ?_)
        refine r_aload_n (pc := 285) (x := 177) dL_law_285 rfl ?_
        refine r_aload_n (pc := 286) (x := 950) dL_law_286 rfl ?_
        refine r_iload (pc := 287) (x := y4) dL_law_287 rfl ?_
        refine r_iconst (pc := 289) (v := 1) dL_law_289 (by decide) ?_
        refine r_iadd (pc := 290) dL_law_290 ?_
        obtain ⟨b23, h⟩ := h
        refine n_scd (pc := 291) dL_law_291 hsc b23 ?_
        obtain ⟨g24a, g24b, hg24, h⟩ := h
        refine n_Vi (pc := 292) (S0 := [.int r22]) (spX12_means h) gmX12_means selX12_means lk_RL_41 dL_law_292 rfl (by decide) sh_177 ⟨rfl, by decide⟩ rfl ⟨Nat.le_of_ble_eq_true rfl, Nat.le_of_ble_eq_true rfl⟩ (Nat.le_of_ble_eq_true rfl) ⟨by show _ ≤ 601024; omega, by show _ ≤ 7293034; omega⟩ (fun r24 s24 h => ?_)
        refine r_icmp_eq (pc := 295) (tgt := 1187) dL_law_295 (by decide) (fun c => ?_) (fun c => ?_)
        · replace h := h.1 c
          refine n_iinc (pc := 1187) (x := y4) (w := 4) (L' := [some (.ref 950), some (.ref 0), some (.ref 177), some (.ref 192), some (.int (y4 + 4)), none, none, none]) dL_law_1187 rfl (by decide) rfl (by decide) rfl ?_
          refine r_goto (pc := 1190) (tgt := 23) dL_law_1190 (by decide) ?_
          refine n_L (L' := [some (.ref 950), some (.ref 0), some (.ref 177), some (.ref 192), some (.int (y4 + 4)), none, none, none]) (le_s (le_s (le_s (le_s (le_s (le_n (le_n (le_n (le_e))))))))) ?_
          exact ih _ _ _ h _ _ (by omega) (by omega)
        · replace h := h.2 c
          refine r_iconst (pc := 298) (v := 0) dL_law_298 (by decide) ?_
          exact h.elim
      by_cases c152_4 : ((xs (ix y4)) &&& 63) = 4
      · replace h := h.2.2.2.2.1 c152_4
        refine r_tableIn (pc := 39) (off := 261) (tgt := 300) dL_law_39 (by rw [c152_4]; decide) (by rw [c152_4]; decide) (by rw [c152_4]; decide) (by decide) ?_
        refine r_aload_n (pc := 300) (x := 0) dL_law_300 rfl ?_
        refine r_aload_n (pc := 301) (x := 950) dL_law_301 rfl ?_
        refine r_iload (pc := 302) (x := y4) dL_law_302 rfl ?_
        refine r_iconst (pc := 304) (v := 1) dL_law_304 (by decide) ?_
        refine r_iadd (pc := 305) dL_law_305 ?_
        obtain ⟨b25, h⟩ := h
        refine n_scd (pc := 306) dL_law_306 hsc b25 ?_
        refine r_aload_n (pc := 307) (x := 950) dL_law_307 rfl ?_
        refine r_iload (pc := 308) (x := y4) dL_law_308 rfl ?_
        refine r_iconst (pc := 310) (v := 2) dL_law_310 (by decide) ?_
        refine r_iadd (pc := 311) dL_law_311 ?_
        obtain ⟨b26, h⟩ := h
        refine n_scd (pc := 312) dL_law_312 hsc b26 ?_
        refine r_aload_n (pc := 313) (x := 950) dL_law_313 rfl ?_
        refine r_iload (pc := 314) (x := y4) dL_law_314 rfl ?_
        refine r_iconst (pc := 316) (v := 3) dL_law_316 (by decide) ?_
        refine r_iadd (pc := 317) dL_law_317 ?_
        obtain ⟨b27, h⟩ := h
        refine n_scd (pc := 318) dL_law_318 hsc b27 ?_
        refine n_Vi0 (pc := 319) (S0 := []) (spX11_day h) gmX11_day selX11_day lk_RL_42 dL_law_319 rfl (by decide) sh_0 ⟨rfl, by decide⟩ rfl ⟨Nat.le_of_ble_eq_true rfl, Nat.le_of_ble_eq_true rfl⟩ (Nat.le_of_ble_eq_true rfl) ⟨by show _ ≤ 601024; omega, by show _ ≤ 7293034; omega⟩ (fun r28 s28 h => ?_)
        refine r_aload_n (pc := 322) (x := 177) dL_law_322 rfl ?_
        refine r_aload_n (pc := 323) (x := 950) dL_law_323 rfl ?_
        refine r_iload (pc := 324) (x := y4) dL_law_324 rfl ?_
        refine r_iconst (pc := 326) (v := 1) dL_law_326 (by decide) ?_
        refine r_iadd (pc := 327) dL_law_327 ?_
        obtain ⟨b29, h⟩ := h
        refine n_scd (pc := 328) dL_law_328 hsc b29 ?_
        refine r_aload_n (pc := 329) (x := 950) dL_law_329 rfl ?_
        refine r_iload (pc := 330) (x := y4) dL_law_330 rfl ?_
        refine r_iconst (pc := 332) (v := 2) dL_law_332 (by decide) ?_
        refine r_iadd (pc := 333) dL_law_333 ?_
        obtain ⟨b30, h⟩ := h
        refine n_scd (pc := 334) dL_law_334 hsc b30 ?_
        refine r_aload_n (pc := 335) (x := 950) dL_law_335 rfl ?_
        refine r_iload (pc := 336) (x := y4) dL_law_336 rfl ?_
        refine r_iconst (pc := 338) (v := 3) dL_law_338 (by decide) ?_
        refine r_iadd (pc := 339) dL_law_339 ?_
        obtain ⟨b31, h⟩ := h
        refine n_scd (pc := 340) dL_law_340 hsc b31 ?_
        refine n_Vi0 (pc := 341) (S0 := [.int r28]) (spX12_day h) gmX12_day selX12_day lk_RL_45 dL_law_341 rfl (by decide) sh_177 ⟨rfl, by decide⟩ rfl ⟨Nat.le_of_ble_eq_true rfl, Nat.le_of_ble_eq_true rfl⟩ (Nat.le_of_ble_eq_true rfl) ⟨by show _ ≤ 601024; omega, by show _ ≤ 7293034; omega⟩ (fun r32 s32 h => ?_)
        refine r_icmp_eq (pc := 344) (tgt := 1187) dL_law_344 (by decide) (fun c => ?_) (fun c => ?_)
        · replace h := h.1 c
          refine n_iinc (pc := 1187) (x := y4) (w := 4) (L' := [some (.ref 950), some (.ref 0), some (.ref 177), some (.ref 192), some (.int (y4 + 4)), none, none, none]) dL_law_1187 rfl (by decide) rfl (by decide) rfl ?_
          refine r_goto (pc := 1190) (tgt := 23) dL_law_1190 (by decide) ?_
          refine n_L (L' := [some (.ref 950), some (.ref 0), some (.ref 177), some (.ref 192), some (.int (y4 + 4)), none, none, none]) (le_s (le_s (le_s (le_s (le_s (le_n (le_n (le_n (le_e))))))))) ?_
          exact ih _ _ _ h _ _ (by omega) (by omega)
        · replace h := h.2 c
          refine r_iconst (pc := 347) (v := 0) dL_law_347 (by decide) ?_
          exact h.elim
      by_cases c152_5 : ((xs (ix y4)) &&& 63) = 5
      · replace h := h.2.2.2.2.2.1 c152_5
        refine r_tableIn (pc := 39) (off := 310) (tgt := 349) dL_law_39 (by rw [c152_5]; decide) (by rw [c152_5]; decide) (by rw [c152_5]; decide) (by decide) ?_
        refine r_aload_n (pc := 349) (x := 0) dL_law_349 rfl ?_
        refine r_aload_n (pc := 350) (x := 950) dL_law_350 rfl ?_
        refine r_iload (pc := 351) (x := y4) dL_law_351 rfl ?_
        refine r_iconst (pc := 353) (v := 1) dL_law_353 (by decide) ?_
        refine r_iadd (pc := 354) dL_law_354 ?_
        obtain ⟨b33, h⟩ := h
        refine n_scd (pc := 355) dL_law_355 hsc b33 ?_
        refine n_Vi0 (pc := 356) (S0 := []) (spX11_date h) gmX11_date selX11_date lk_RL_46 dL_law_356 rfl (by decide) sh_0 ⟨rfl, by decide⟩ rfl ⟨Nat.le_of_ble_eq_true rfl, Nat.le_of_ble_eq_true rfl⟩ (Nat.le_of_ble_eq_true rfl) ⟨by show _ ≤ 601024; omega, by show _ ≤ 7293034; omega⟩ (fun r34 s34 h => ?_)
        refine r_aload_n (pc := 359) (x := 177) dL_law_359 rfl ?_
        refine r_aload_n (pc := 360) (x := 950) dL_law_360 rfl ?_
        refine r_iload (pc := 361) (x := y4) dL_law_361 rfl ?_
        refine r_iconst (pc := 363) (v := 1) dL_law_363 (by decide) ?_
        refine r_iadd (pc := 364) dL_law_364 ?_
        obtain ⟨b35, h⟩ := h
        refine n_scd (pc := 365) dL_law_365 hsc b35 ?_
        refine n_Vi0 (pc := 366) (S0 := [.int r34]) (spX12_date h) gmX12_date selX12_date lk_RL_49 dL_law_366 rfl (by decide) sh_177 ⟨rfl, by decide⟩ rfl ⟨Nat.le_of_ble_eq_true rfl, Nat.le_of_ble_eq_true rfl⟩ (Nat.le_of_ble_eq_true rfl) ⟨by show _ ≤ 601024; omega, by show _ ≤ 7293034; omega⟩ (fun r36 s36 h => ?_)
        refine r_icmp_eq (pc := 369) (tgt := 1187) dL_law_369 (by decide) (fun c => ?_) (fun c => ?_)
        · replace h := h.1 c
          refine n_iinc (pc := 1187) (x := y4) (w := 4) (L' := [some (.ref 950), some (.ref 0), some (.ref 177), some (.ref 192), some (.int (y4 + 4)), none, none, none]) dL_law_1187 rfl (by decide) rfl (by decide) rfl ?_
          refine r_goto (pc := 1190) (tgt := 23) dL_law_1190 (by decide) ?_
          refine n_L (L' := [some (.ref 950), some (.ref 0), some (.ref 177), some (.ref 192), some (.int (y4 + 4)), none, none, none]) (le_s (le_s (le_s (le_s (le_s (le_n (le_n (le_n (le_e))))))))) ?_
          exact ih _ _ _ h _ _ (by omega) (by omega)
        · replace h := h.2 c
          refine r_iconst (pc := 372) (v := 0) dL_law_372 (by decide) ?_
          exact h.elim
      by_cases c152_6 : ((xs (ix y4)) &&& 63) = 6
      · replace h := h.2.2.2.2.2.2.1 c152_6
        refine r_tableIn (pc := 39) (off := 335) (tgt := 374) dL_law_39 (by rw [c152_6]; decide) (by rw [c152_6]; decide) (by rw [c152_6]; decide) (by decide) ?_
        refine r_aload_n (pc := 374) (x := 0) dL_law_374 rfl ?_
        refine r_aload_n (pc := 375) (x := 950) dL_law_375 rfl ?_
        refine r_iload (pc := 376) (x := y4) dL_law_376 rfl ?_
        refine r_iconst (pc := 378) (v := 1) dL_law_378 (by decide) ?_
        refine r_iadd (pc := 379) dL_law_379 ?_
        obtain ⟨b37, h⟩ := h
        refine n_scd (pc := 380) dL_law_380 hsc b37 ?_
        refine r_aload_n (pc := 381) (x := 950) dL_law_381 rfl ?_
        refine r_iload (pc := 382) (x := y4) dL_law_382 rfl ?_
        refine r_iconst (pc := 384) (v := 2) dL_law_384 (by decide) ?_
        refine r_iadd (pc := 385) dL_law_385 ?_
        obtain ⟨b38, h⟩ := h
        refine n_scd (pc := 386) dL_law_386 hsc b38 ?_
        refine r_aload_n (pc := 387) (x := 950) dL_law_387 rfl ?_
        refine r_iload (pc := 388) (x := y4) dL_law_388 rfl ?_
        refine r_iconst (pc := 390) (v := 3) dL_law_390 (by decide) ?_
        refine r_iadd (pc := 391) dL_law_391 ?_
        obtain ⟨b39, h⟩ := h
        refine n_scd (pc := 392) dL_law_392 hsc b39 ?_
        refine n_Vi0 (pc := 393) (S0 := []) (spX11_moved h) gmX11_moved selX11_moved lk_RL_50 dL_law_393 rfl (by decide) sh_0 ⟨rfl, by decide⟩ rfl ⟨Nat.le_of_ble_eq_true rfl, Nat.le_of_ble_eq_true rfl⟩ (Nat.le_of_ble_eq_true rfl) ⟨by show _ ≤ 601024; omega, by show _ ≤ 7293034; omega⟩ (fun r40 s40 h => ?_)
        refine r_aload_n (pc := 396) (x := 177) dL_law_396 rfl ?_
        refine r_aload_n (pc := 397) (x := 950) dL_law_397 rfl ?_
        refine r_iload (pc := 398) (x := y4) dL_law_398 rfl ?_
        refine r_iconst (pc := 400) (v := 1) dL_law_400 (by decide) ?_
        refine r_iadd (pc := 401) dL_law_401 ?_
        obtain ⟨b41, h⟩ := h
        refine n_scd (pc := 402) dL_law_402 hsc b41 ?_
        refine r_aload_n (pc := 403) (x := 950) dL_law_403 rfl ?_
        refine r_iload (pc := 404) (x := y4) dL_law_404 rfl ?_
        refine r_iconst (pc := 406) (v := 2) dL_law_406 (by decide) ?_
        refine r_iadd (pc := 407) dL_law_407 ?_
        obtain ⟨b42, h⟩ := h
        refine n_scd (pc := 408) dL_law_408 hsc b42 ?_
        refine r_aload_n (pc := 409) (x := 950) dL_law_409 rfl ?_
        refine r_iload (pc := 410) (x := y4) dL_law_410 rfl ?_
        refine r_iconst (pc := 412) (v := 3) dL_law_412 (by decide) ?_
        refine r_iadd (pc := 413) dL_law_413 ?_
        obtain ⟨b43, h⟩ := h
        refine n_scd (pc := 414) dL_law_414 hsc b43 ?_
        refine n_Vi0 (pc := 415) (S0 := [.int r40]) (spX12_moved h) gmX12_moved selX12_moved lk_RL_53 dL_law_415 rfl (by decide) sh_177 ⟨rfl, by decide⟩ rfl ⟨Nat.le_of_ble_eq_true rfl, Nat.le_of_ble_eq_true rfl⟩ (Nat.le_of_ble_eq_true rfl) ⟨by show _ ≤ 601024; omega, by show _ ≤ 7293034; omega⟩ (fun r44 s44 h => ?_)
        refine r_icmp_eq (pc := 418) (tgt := 1187) dL_law_418 (by decide) (fun c => ?_) (fun c => ?_)
        · replace h := h.1 c
          refine n_iinc (pc := 1187) (x := y4) (w := 4) (L' := [some (.ref 950), some (.ref 0), some (.ref 177), some (.ref 192), some (.int (y4 + 4)), none, none, none]) dL_law_1187 rfl (by decide) rfl (by decide) rfl ?_
          refine r_goto (pc := 1190) (tgt := 23) dL_law_1190 (by decide) ?_
          refine n_L (L' := [some (.ref 950), some (.ref 0), some (.ref 177), some (.ref 192), some (.int (y4 + 4)), none, none, none]) (le_s (le_s (le_s (le_s (le_s (le_n (le_n (le_n (le_e))))))))) ?_
          exact ih _ _ _ h _ _ (by omega) (by omega)
        · replace h := h.2 c
          refine r_iconst (pc := 421) (v := 0) dL_law_421 (by decide) ?_
          exact h.elim
      by_cases c152_7 : ((xs (ix y4)) &&& 63) = 7
      · replace h := h.2.2.2.2.2.2.2.1 c152_7
        refine r_tableIn (pc := 39) (off := 384) (tgt := 423) dL_law_39 (by rw [c152_7]; decide) (by rw [c152_7]; decide) (by rw [c152_7]; decide) (by decide) ?_
        refine r_aload_n (pc := 423) (x := 0) dL_law_423 rfl ?_
        refine r_aload_n (pc := 424) (x := 950) dL_law_424 rfl ?_
        refine r_iload (pc := 425) (x := y4) dL_law_425 rfl ?_
        refine r_iconst (pc := 427) (v := 1) dL_law_427 (by decide) ?_
        refine r_iadd (pc := 428) dL_law_428 ?_
        obtain ⟨b45, h⟩ := h
        refine n_scd (pc := 429) dL_law_429 hsc b45 ?_
        refine n_Vi0 (pc := 430) (S0 := []) (spX11_readings h) gmX11_readings selX11_readings lk_RL_54 dL_law_430 rfl (by decide) sh_0 ⟨rfl, by decide⟩ rfl ⟨Nat.le_of_ble_eq_true rfl, Nat.le_of_ble_eq_true rfl⟩ (Nat.le_of_ble_eq_true rfl) ⟨by show _ ≤ 601024; omega, by show _ ≤ 7293034; omega⟩ (fun r46 s46 h => ?_)
        refine r_aload_n (pc := 433) (x := 177) dL_law_433 rfl ?_
        refine r_aload_n (pc := 434) (x := 950) dL_law_434 rfl ?_
        refine r_iload (pc := 435) (x := y4) dL_law_435 rfl ?_
        refine r_iconst (pc := 437) (v := 1) dL_law_437 (by decide) ?_
        refine r_iadd (pc := 438) dL_law_438 ?_
        obtain ⟨b47, h⟩ := h
        refine n_scd (pc := 439) dL_law_439 hsc b47 ?_
        refine n_Vi0 (pc := 440) (S0 := [.int r46]) (spX12_readings h) gmX12_readings selX12_readings lk_RL_57 dL_law_440 rfl (by decide) sh_177 ⟨rfl, by decide⟩ rfl ⟨Nat.le_of_ble_eq_true rfl, Nat.le_of_ble_eq_true rfl⟩ (Nat.le_of_ble_eq_true rfl) ⟨by show _ ≤ 601024; omega, by show _ ≤ 7293034; omega⟩ (fun r48 s48 h => ?_)
        refine r_icmp_eq (pc := 443) (tgt := 1187) dL_law_443 (by decide) (fun c => ?_) (fun c => ?_)
        · replace h := h.1 c
          refine n_iinc (pc := 1187) (x := y4) (w := 4) (L' := [some (.ref 950), some (.ref 0), some (.ref 177), some (.ref 192), some (.int (y4 + 4)), none, none, none]) dL_law_1187 rfl (by decide) rfl (by decide) rfl ?_
          refine r_goto (pc := 1190) (tgt := 23) dL_law_1190 (by decide) ?_
          refine n_L (L' := [some (.ref 950), some (.ref 0), some (.ref 177), some (.ref 192), some (.int (y4 + 4)), none, none, none]) (le_s (le_s (le_s (le_s (le_s (le_n (le_n (le_n (le_e))))))))) ?_
          exact ih _ _ _ h _ _ (by omega) (by omega)
        · replace h := h.2 c
          refine r_iconst (pc := 446) (v := 0) dL_law_446 (by decide) ?_
          exact h.elim
      by_cases c152_8 : ((xs (ix y4)) &&& 63) = 8
      · replace h := h.2.2.2.2.2.2.2.2.1 c152_8
        refine r_tableIn (pc := 39) (off := 409) (tgt := 448) dL_law_39 (by rw [c152_8]; decide) (by rw [c152_8]; decide) (by rw [c152_8]; decide) (by decide) ?_
        refine r_aload_n (pc := 448) (x := 0) dL_law_448 rfl ?_
        refine r_aload_n (pc := 449) (x := 950) dL_law_449 rfl ?_
        refine r_iload (pc := 450) (x := y4) dL_law_450 rfl ?_
        refine r_iconst (pc := 452) (v := 1) dL_law_452 (by decide) ?_
        refine r_iadd (pc := 453) dL_law_453 ?_
        obtain ⟨b49, h⟩ := h
        refine n_scd (pc := 454) dL_law_454 hsc b49 ?_
        refine r_aload_n (pc := 455) (x := 950) dL_law_455 rfl ?_
        refine r_iload (pc := 456) (x := y4) dL_law_456 rfl ?_
        refine r_iconst (pc := 458) (v := 2) dL_law_458 (by decide) ?_
        refine r_iadd (pc := 459) dL_law_459 ?_
        obtain ⟨b50, h⟩ := h
        refine n_scd (pc := 460) dL_law_460 hsc b50 ?_
        refine r_aload_n (pc := 461) (x := 950) dL_law_461 rfl ?_
        refine r_iload (pc := 462) (x := y4) dL_law_462 rfl ?_
        refine r_iconst (pc := 464) (v := 3) dL_law_464 (by decide) ?_
        refine r_iadd (pc := 465) dL_law_465 ?_
        obtain ⟨b51, h⟩ := h
        refine n_scd (pc := 466) dL_law_466 hsc b51 ?_
        refine r_aload_n (pc := 467) (x := 192) dL_law_467 rfl ?_
        obtain ⟨g52a, g52b, hg52, h⟩ := h
        refine n_SiH (pc := 468) (S0 := []) (spL_reading hst h) gmL_reading lk_RL_58 dL_law_468 rfl rfl ⟨Nat.le_of_ble_eq_true rfl, Nat.le_of_ble_eq_true rfl⟩ (Nat.le_of_ble_eq_true rfl) ⟨by show _ ≤ 601024; omega, by show _ ≤ 7293034; omega⟩ (fun r52 s52 h => ?_)
        refine r_istore (pc := 471) (L' := [some (.ref 950), some (.ref 0), some (.ref 177), some (.ref 192), some (.int y4), some (.int r52), none, none]) dL_law_471 rfl (by decide) rfl ?_
        refine r_aload_n (pc := 473) (x := 177) dL_law_473 rfl ?_
        refine r_aload_n (pc := 474) (x := 950) dL_law_474 rfl ?_
        refine r_iload (pc := 475) (x := y4) dL_law_475 rfl ?_
        refine r_iconst (pc := 477) (v := 1) dL_law_477 (by decide) ?_
        refine r_iadd (pc := 478) dL_law_478 ?_
        obtain ⟨b53, h⟩ := h
        refine n_scd (pc := 479) dL_law_479 hsc b53 ?_
        refine r_aload_n (pc := 480) (x := 950) dL_law_480 rfl ?_
        refine r_iload (pc := 481) (x := y4) dL_law_481 rfl ?_
        refine r_iconst (pc := 483) (v := 2) dL_law_483 (by decide) ?_
        refine r_iadd (pc := 484) dL_law_484 ?_
        obtain ⟨b54, h⟩ := h
        refine n_scd (pc := 485) dL_law_485 hsc b54 ?_
        refine r_aload_n (pc := 486) (x := 950) dL_law_486 rfl ?_
        refine r_iload (pc := 487) (x := y4) dL_law_487 rfl ?_
        refine r_iconst (pc := 489) (v := 3) dL_law_489 (by decide) ?_
        refine r_iadd (pc := 490) dL_law_490 ?_
        obtain ⟨b55, h⟩ := h
        refine n_scd (pc := 491) dL_law_491 hsc b55 ?_
        refine n_Vi0 (pc := 492) (S0 := []) (spX12_reading h) gmX12_reading selX12_reading lk_RL_63 dL_law_492 rfl (by decide) sh_177 ⟨rfl, by decide⟩ rfl ⟨Nat.le_of_ble_eq_true rfl, Nat.le_of_ble_eq_true rfl⟩ (Nat.le_of_ble_eq_true rfl) ⟨by show _ ≤ 601024; omega, by show _ ≤ 7293034; omega⟩ (fun r56 s56 h => ?_)
        refine r_istore (pc := 495) (L' := [some (.ref 950), some (.ref 0), some (.ref 177), some (.ref 192), some (.int y4), some (.int r52), some (.int r56), none]) dL_law_495 rfl (by decide) rfl ?_
        refine r_aload_n (pc := 497) (x := 177) dL_law_497 rfl ?_
        refine n_Vi0 (pc := 498) (S0 := []) (spX12_thrown h) gmX12_thrown selX12_thrown lk_RL_64 dL_law_498 rfl (by decide) sh_177 ⟨rfl, by decide⟩ rfl ⟨Nat.le_of_ble_eq_true rfl, Nat.le_of_ble_eq_true rfl⟩ (Nat.le_of_ble_eq_true rfl) ⟨by show _ ≤ 601024; omega, by show _ ≤ 7293034; omega⟩ (fun r57 s57 h => ?_)
        refine r_iload (pc := 501) (x := r52) dL_law_501 rfl ?_
        refine r_icmp_eq (pc := 503) (tgt := 508) dL_law_503 (by decide) (fun c => ?_) (fun c => ?_)
        · replace h := h.1 c
          refine r_iload (pc := 508) (x := r52) dL_law_508 rfl ?_
          refine r_if_ne (pc := 510) (tgt := 525) dL_law_510 (by decide) (fun c => ?_) (fun c => ?_)
          · replace h := h.1 c
            refine r_goto (pc := 525) (tgt := 1187) dL_law_525 (by decide) ?_
            refine n_iinc (pc := 1187) (x := y4) (w := 4) (L' := [some (.ref 950), some (.ref 0), some (.ref 177), some (.ref 192), some (.int (y4 + 4)), some (.int r52), some (.int r56), none]) dL_law_1187 rfl (by decide) rfl (by decide) rfl ?_
            refine r_goto (pc := 1190) (tgt := 23) dL_law_1190 (by decide) ?_
            refine n_L (L' := [some (.ref 950), some (.ref 0), some (.ref 177), some (.ref 192), some (.int (y4 + 4)), none, none, none]) (le_s (le_s (le_s (le_s (le_s (le_n (le_n (le_n (le_e))))))))) ?_
            exact ih _ _ _ h _ _ (by omega) (by omega)
          · replace h := h.2 c
            refine r_aload_n (pc := 513) (x := 192) dL_law_513 rfl ?_
            refine r_iconst (pc := 514) (v := 0) dL_law_514 (by decide) ?_
            refine n_lald (pc := 515) (j := 0) dL_law_515 (by decide) sh_192 (vp_inc (by decide)) (by decide) ?_
            refine r_iload (pc := 516) (x := r56) dL_law_516 rfl ?_
            refine r_i2l (pc := 518) dL_law_518 ?_
            refine n_lcmp (pc := 519) dL_law_519 ?_
            refine r_if_eq (pc := 520) (tgt := 525) dL_law_520 (by decide) (fun c => ?_) (fun c => ?_)
            · replace h := h.1 c
              refine r_goto (pc := 525) (tgt := 1187) dL_law_525 (by decide) ?_
              refine n_iinc (pc := 1187) (x := y4) (w := 4) (L' := [some (.ref 950), some (.ref 0), some (.ref 177), some (.ref 192), some (.int (y4 + 4)), some (.int r52), some (.int r56), none]) dL_law_1187 rfl (by decide) rfl (by decide) rfl ?_
              refine r_goto (pc := 1190) (tgt := 23) dL_law_1190 (by decide) ?_
              refine n_L (L' := [some (.ref 950), some (.ref 0), some (.ref 177), some (.ref 192), some (.int (y4 + 4)), none, none, none]) (le_s (le_s (le_s (le_s (le_s (le_n (le_n (le_n (le_e))))))))) ?_
              exact ih _ _ _ h _ _ (by omega) (by omega)
            · replace h := h.2 c
              refine r_iconst (pc := 523) (v := 0) dL_law_523 (by decide) ?_
              exact h.elim
        · replace h := h.2 c
          refine r_iconst (pc := 506) (v := 0) dL_law_506 (by decide) ?_
          exact h.elim
      by_cases c152_9 : ((xs (ix y4)) &&& 63) = 9
      · replace h := h.2.2.2.2.2.2.2.2.2.1 c152_9
        refine r_tableIn (pc := 39) (off := 489) (tgt := 528) dL_law_39 (by rw [c152_9]; decide) (by rw [c152_9]; decide) (by rw [c152_9]; decide) (by decide) ?_
        refine r_aload_n (pc := 528) (x := 0) dL_law_528 rfl ?_
        refine r_aload_n (pc := 529) (x := 950) dL_law_529 rfl ?_
        refine r_iload (pc := 530) (x := y4) dL_law_530 rfl ?_
        refine r_iconst (pc := 532) (v := 1) dL_law_532 (by decide) ?_
        refine r_iadd (pc := 533) dL_law_533 ?_
        obtain ⟨b58, h⟩ := h
        refine n_scd (pc := 534) dL_law_534 hsc b58 ?_
        refine n_Vi0 (pc := 535) (S0 := []) (spX11_hull h) gmX11_hull selX11_hull lk_RL_68 dL_law_535 rfl (by decide) sh_0 ⟨rfl, by decide⟩ rfl ⟨Nat.le_of_ble_eq_true rfl, Nat.le_of_ble_eq_true rfl⟩ (Nat.le_of_ble_eq_true rfl) ⟨by show _ ≤ 601024; omega, by show _ ≤ 7293034; omega⟩ (fun r59 s59 h => ?_)
        refine r_aload_n (pc := 538) (x := 177) dL_law_538 rfl ?_
        refine r_aload_n (pc := 539) (x := 950) dL_law_539 rfl ?_
        refine r_iload (pc := 540) (x := y4) dL_law_540 rfl ?_
        refine r_iconst (pc := 542) (v := 1) dL_law_542 (by decide) ?_
        refine r_iadd (pc := 543) dL_law_543 ?_
        obtain ⟨b60, h⟩ := h
        refine n_scd (pc := 544) dL_law_544 hsc b60 ?_
        refine n_Vi0 (pc := 545) (S0 := [.int r59]) (spX12_hull h) gmX12_hull selX12_hull lk_RL_71 dL_law_545 rfl (by decide) sh_177 ⟨rfl, by decide⟩ rfl ⟨Nat.le_of_ble_eq_true rfl, Nat.le_of_ble_eq_true rfl⟩ (Nat.le_of_ble_eq_true rfl) ⟨by show _ ≤ 601024; omega, by show _ ≤ 7293034; omega⟩ (fun r61 s61 h => ?_)
        refine r_icmp_eq (pc := 548) (tgt := 1187) dL_law_548 (by decide) (fun c => ?_) (fun c => ?_)
        · replace h := h.1 c
          refine n_iinc (pc := 1187) (x := y4) (w := 4) (L' := [some (.ref 950), some (.ref 0), some (.ref 177), some (.ref 192), some (.int (y4 + 4)), none, none, none]) dL_law_1187 rfl (by decide) rfl (by decide) rfl ?_
          refine r_goto (pc := 1190) (tgt := 23) dL_law_1190 (by decide) ?_
          refine n_L (L' := [some (.ref 950), some (.ref 0), some (.ref 177), some (.ref 192), some (.int (y4 + 4)), none, none, none]) (le_s (le_s (le_s (le_s (le_s (le_n (le_n (le_n (le_e))))))))) ?_
          exact ih _ _ _ h _ _ (by omega) (by omega)
        · replace h := h.2 c
          refine r_iconst (pc := 551) (v := 0) dL_law_551 (by decide) ?_
          exact h.elim
      by_cases c152_10 : ((xs (ix y4)) &&& 63) = 10
      · replace h := h.2.2.2.2.2.2.2.2.2.2.1 c152_10
        refine r_tableIn (pc := 39) (off := 514) (tgt := 553) dL_law_39 (by rw [c152_10]; decide) (by rw [c152_10]; decide) (by rw [c152_10]; decide) (by decide) ?_
        refine r_aload_n (pc := 553) (x := 0) dL_law_553 rfl ?_
        refine r_aload_n (pc := 554) (x := 950) dL_law_554 rfl ?_
        refine r_iload (pc := 555) (x := y4) dL_law_555 rfl ?_
        refine r_iconst (pc := 557) (v := 1) dL_law_557 (by decide) ?_
        refine r_iadd (pc := 558) dL_law_558 ?_
        obtain ⟨b62, h⟩ := h
        refine n_scd (pc := 559) dL_law_559 hsc b62 ?_
        refine r_aload_n (pc := 560) (x := 950) dL_law_560 rfl ?_
        refine r_iload (pc := 561) (x := y4) dL_law_561 rfl ?_
        refine r_iconst (pc := 563) (v := 2) dL_law_563 (by decide) ?_
        refine r_iadd (pc := 564) dL_law_564 ?_
        obtain ⟨b63, h⟩ := h
        refine n_scd (pc := 565) dL_law_565 hsc b63 ?_
        refine r_aload_n (pc := 566) (x := 950) dL_law_566 rfl ?_
        refine r_iload (pc := 567) (x := y4) dL_law_567 rfl ?_
        refine r_iconst (pc := 569) (v := 3) dL_law_569 (by decide) ?_
        refine r_iadd (pc := 570) dL_law_570 ?_
        obtain ⟨b64, h⟩ := h
        refine n_scd (pc := 571) dL_law_571 hsc b64 ?_
        refine n_Vi0 (pc := 572) (S0 := []) (spX11_order h) gmX11_order selX11_order lk_RL_72 dL_law_572 rfl (by decide) sh_0 ⟨rfl, by decide⟩ rfl ⟨Nat.le_of_ble_eq_true rfl, Nat.le_of_ble_eq_true rfl⟩ (Nat.le_of_ble_eq_true rfl) ⟨by show _ ≤ 601024; omega, by show _ ≤ 7293034; omega⟩ (fun r65 s65 h => ?_)
        refine r_aload_n (pc := 575) (x := 177) dL_law_575 rfl ?_
        refine r_aload_n (pc := 576) (x := 950) dL_law_576 rfl ?_
        refine r_iload (pc := 577) (x := y4) dL_law_577 rfl ?_
        refine r_iconst (pc := 579) (v := 1) dL_law_579 (by decide) ?_
        refine r_iadd (pc := 580) dL_law_580 ?_
        obtain ⟨b66, h⟩ := h
        refine n_scd (pc := 581) dL_law_581 hsc b66 ?_
        refine r_aload_n (pc := 582) (x := 950) dL_law_582 rfl ?_
        refine r_iload (pc := 583) (x := y4) dL_law_583 rfl ?_
        refine r_iconst (pc := 585) (v := 2) dL_law_585 (by decide) ?_
        refine r_iadd (pc := 586) dL_law_586 ?_
        obtain ⟨b67, h⟩ := h
        refine n_scd (pc := 587) dL_law_587 hsc b67 ?_
        refine r_aload_n (pc := 588) (x := 950) dL_law_588 rfl ?_
        refine r_iload (pc := 589) (x := y4) dL_law_589 rfl ?_
        refine r_iconst (pc := 591) (v := 3) dL_law_591 (by decide) ?_
        refine r_iadd (pc := 592) dL_law_592 ?_
        obtain ⟨b68, h⟩ := h
        refine n_scd (pc := 593) dL_law_593 hsc b68 ?_
        refine n_Vi0 (pc := 594) (S0 := [.int r65]) (spX12_order h) gmX12_order selX12_order lk_RL_75 dL_law_594 rfl (by decide) sh_177 ⟨rfl, by decide⟩ rfl ⟨Nat.le_of_ble_eq_true rfl, Nat.le_of_ble_eq_true rfl⟩ (Nat.le_of_ble_eq_true rfl) ⟨by show _ ≤ 601024; omega, by show _ ≤ 7293034; omega⟩ (fun r69 s69 h => ?_)
        refine r_icmp_eq (pc := 597) (tgt := 1187) dL_law_597 (by decide) (fun c => ?_) (fun c => ?_)
        · replace h := h.1 c
          refine n_iinc (pc := 1187) (x := y4) (w := 4) (L' := [some (.ref 950), some (.ref 0), some (.ref 177), some (.ref 192), some (.int (y4 + 4)), none, none, none]) dL_law_1187 rfl (by decide) rfl (by decide) rfl ?_
          refine r_goto (pc := 1190) (tgt := 23) dL_law_1190 (by decide) ?_
          refine n_L (L' := [some (.ref 950), some (.ref 0), some (.ref 177), some (.ref 192), some (.int (y4 + 4)), none, none, none]) (le_s (le_s (le_s (le_s (le_s (le_n (le_n (le_n (le_e))))))))) ?_
          exact ih _ _ _ h _ _ (by omega) (by omega)
        · replace h := h.2 c
          refine r_iconst (pc := 600) (v := 0) dL_law_600 (by decide) ?_
          exact h.elim
      by_cases c152_11 : ((xs (ix y4)) &&& 63) = 11
      · replace h := h.2.2.2.2.2.2.2.2.2.2.2.1 c152_11
        refine r_tableIn (pc := 39) (off := 563) (tgt := 602) dL_law_39 (by rw [c152_11]; decide) (by rw [c152_11]; decide) (by rw [c152_11]; decide) (by decide) ?_
        refine r_aload_n (pc := 602) (x := 0) dL_law_602 rfl ?_
        refine r_aload_n (pc := 603) (x := 950) dL_law_603 rfl ?_
        refine r_iload (pc := 604) (x := y4) dL_law_604 rfl ?_
        refine r_iconst (pc := 606) (v := 1) dL_law_606 (by decide) ?_
        refine r_iadd (pc := 607) dL_law_607 ?_
        obtain ⟨b70, h⟩ := h
        refine n_scd (pc := 608) dL_law_608 hsc b70 ?_
        refine n_Vi0 (pc := 609) (S0 := []) (spX11_told h) gmX11_told selX11_told lk_RL_76 dL_law_609 rfl (by decide) sh_0 ⟨rfl, by decide⟩ rfl ⟨Nat.le_of_ble_eq_true rfl, Nat.le_of_ble_eq_true rfl⟩ (Nat.le_of_ble_eq_true rfl) ⟨by show _ ≤ 601024; omega, by show _ ≤ 7293034; omega⟩ (fun r71 s71 h => ?_)
        refine r_aload_n (pc := 612) (x := 177) dL_law_612 rfl ?_
        refine r_aload_n (pc := 613) (x := 950) dL_law_613 rfl ?_
        refine r_iload (pc := 614) (x := y4) dL_law_614 rfl ?_
        refine r_iconst (pc := 616) (v := 1) dL_law_616 (by decide) ?_
        refine r_iadd (pc := 617) dL_law_617 ?_
        obtain ⟨b72, h⟩ := h
        refine n_scd (pc := 618) dL_law_618 hsc b72 ?_
        refine n_Vi0 (pc := 619) (S0 := [.int r71]) (spX12_told h) gmX12_told selX12_told lk_RL_79 dL_law_619 rfl (by decide) sh_177 ⟨rfl, by decide⟩ rfl ⟨Nat.le_of_ble_eq_true rfl, Nat.le_of_ble_eq_true rfl⟩ (Nat.le_of_ble_eq_true rfl) ⟨by show _ ≤ 601024; omega, by show _ ≤ 7293034; omega⟩ (fun r73 s73 h => ?_)
        refine r_icmp_eq (pc := 622) (tgt := 1187) dL_law_622 (by decide) (fun c => ?_) (fun c => ?_)
        · replace h := h.1 c
          refine n_iinc (pc := 1187) (x := y4) (w := 4) (L' := [some (.ref 950), some (.ref 0), some (.ref 177), some (.ref 192), some (.int (y4 + 4)), none, none, none]) dL_law_1187 rfl (by decide) rfl (by decide) rfl ?_
          refine r_goto (pc := 1190) (tgt := 23) dL_law_1190 (by decide) ?_
          refine n_L (L' := [some (.ref 950), some (.ref 0), some (.ref 177), some (.ref 192), some (.int (y4 + 4)), none, none, none]) (le_s (le_s (le_s (le_s (le_s (le_n (le_n (le_n (le_e))))))))) ?_
          exact ih _ _ _ h _ _ (by omega) (by omega)
        · replace h := h.2 c
          refine r_iconst (pc := 625) (v := 0) dL_law_625 (by decide) ?_
          exact h.elim
      by_cases c152_12 : ((xs (ix y4)) &&& 63) = 12
      · replace h := h.2.2.2.2.2.2.2.2.2.2.2.2.1 c152_12
        refine r_tableIn (pc := 39) (off := 588) (tgt := 627) dL_law_39 (by rw [c152_12]; decide) (by rw [c152_12]; decide) (by rw [c152_12]; decide) (by decide) ?_
        refine r_aload_n (pc := 627) (x := 0) dL_law_627 rfl ?_
        refine n_Vi0 (pc := 628) (S0 := []) (spX11_choices h) gmX11_choices selX11_choices lk_RL_80 dL_law_628 rfl (by decide) sh_0 ⟨rfl, by decide⟩ rfl ⟨Nat.le_of_ble_eq_true rfl, Nat.le_of_ble_eq_true rfl⟩ (Nat.le_of_ble_eq_true rfl) ⟨by show _ ≤ 601024; omega, by show _ ≤ 7293034; omega⟩ (fun r74 s74 h => ?_)
        refine r_aload_n (pc := 631) (x := 177) dL_law_631 rfl ?_
        refine n_Vi0 (pc := 632) (S0 := [.int r74]) (spX12_choices h) gmX12_choices selX12_choices lk_RL_83 dL_law_632 rfl (by decide) sh_177 ⟨rfl, by decide⟩ rfl ⟨Nat.le_of_ble_eq_true rfl, Nat.le_of_ble_eq_true rfl⟩ (Nat.le_of_ble_eq_true rfl) ⟨by show _ ≤ 601024; omega, by show _ ≤ 7293034; omega⟩ (fun r75 s75 h => ?_)
        refine r_icmp_eq (pc := 635) (tgt := 1187) dL_law_635 (by decide) (fun c => ?_) (fun c => ?_)
        · replace h := h.1 c
          refine n_iinc (pc := 1187) (x := y4) (w := 4) (L' := [some (.ref 950), some (.ref 0), some (.ref 177), some (.ref 192), some (.int (y4 + 4)), none, none, none]) dL_law_1187 rfl (by decide) rfl (by decide) rfl ?_
          refine r_goto (pc := 1190) (tgt := 23) dL_law_1190 (by decide) ?_
          refine n_L (L' := [some (.ref 950), some (.ref 0), some (.ref 177), some (.ref 192), some (.int (y4 + 4)), none, none, none]) (le_s (le_s (le_s (le_s (le_s (le_n (le_n (le_n (le_e))))))))) ?_
          exact ih _ _ _ h _ _ (by omega) (by omega)
        · replace h := h.2 c
          refine r_iconst (pc := 638) (v := 0) dL_law_638 (by decide) ?_
          exact h.elim
      by_cases c152_13 : ((xs (ix y4)) &&& 63) = 13
      · replace h := h.2.2.2.2.2.2.2.2.2.2.2.2.2.1 c152_13
        refine r_tableIn (pc := 39) (off := 601) (tgt := 640) dL_law_39 (by rw [c152_13]; decide) (by rw [c152_13]; decide) (by rw [c152_13]; decide) (by decide) ?_
        refine r_aload_n (pc := 640) (x := 0) dL_law_640 rfl ?_
        refine n_Vi0 (pc := 641) (S0 := []) (spX11_best h) gmX11_best selX11_best lk_RL_84 dL_law_641 rfl (by decide) sh_0 ⟨rfl, by decide⟩ rfl ⟨Nat.le_of_ble_eq_true rfl, Nat.le_of_ble_eq_true rfl⟩ (Nat.le_of_ble_eq_true rfl) ⟨by show _ ≤ 601024; omega, by show _ ≤ 7293034; omega⟩ (fun r76 s76 h => ?_)
        refine r_aload_n (pc := 644) (x := 177) dL_law_644 rfl ?_
        refine n_Vi0 (pc := 645) (S0 := [.int r76]) (spX12_best h) gmX12_best selX12_best lk_RL_87 dL_law_645 rfl (by decide) sh_177 ⟨rfl, by decide⟩ rfl ⟨Nat.le_of_ble_eq_true rfl, Nat.le_of_ble_eq_true rfl⟩ (Nat.le_of_ble_eq_true rfl) ⟨by show _ ≤ 601024; omega, by show _ ≤ 7293034; omega⟩ (fun r77 s77 h => ?_)
        refine r_icmp_eq (pc := 648) (tgt := 1187) dL_law_648 (by decide) (fun c => ?_) (fun c => ?_)
        · replace h := h.1 c
          refine n_iinc (pc := 1187) (x := y4) (w := 4) (L' := [some (.ref 950), some (.ref 0), some (.ref 177), some (.ref 192), some (.int (y4 + 4)), none, none, none]) dL_law_1187 rfl (by decide) rfl (by decide) rfl ?_
          refine r_goto (pc := 1190) (tgt := 23) dL_law_1190 (by decide) ?_
          refine n_L (L' := [some (.ref 950), some (.ref 0), some (.ref 177), some (.ref 192), some (.int (y4 + 4)), none, none, none]) (le_s (le_s (le_s (le_s (le_s (le_n (le_n (le_n (le_e))))))))) ?_
          exact ih _ _ _ h _ _ (by omega) (by omega)
        · replace h := h.2 c
          refine r_iconst (pc := 651) (v := 0) dL_law_651 (by decide) ?_
          exact h.elim
      by_cases c152_14 : ((xs (ix y4)) &&& 63) = 14
      · replace h := h.2.2.2.2.2.2.2.2.2.2.2.2.2.2.1 c152_14
        refine r_tableIn (pc := 39) (off := 614) (tgt := 653) dL_law_39 (by rw [c152_14]; decide) (by rw [c152_14]; decide) (by rw [c152_14]; decide) (by decide) ?_
        refine r_aload_n (pc := 653) (x := 0) dL_law_653 rfl ?_
        refine n_Vi0 (pc := 654) (S0 := []) (spX11_other h) gmX11_other selX11_other lk_RL_88 dL_law_654 rfl (by decide) sh_0 ⟨rfl, by decide⟩ rfl ⟨Nat.le_of_ble_eq_true rfl, Nat.le_of_ble_eq_true rfl⟩ (Nat.le_of_ble_eq_true rfl) ⟨by show _ ≤ 601024; omega, by show _ ≤ 7293034; omega⟩ (fun r78 s78 h => ?_)
        refine r_aload_n (pc := 657) (x := 177) dL_law_657 rfl ?_
        refine n_Vi0 (pc := 658) (S0 := [.int r78]) (spX12_other h) gmX12_other selX12_other lk_RL_91 dL_law_658 rfl (by decide) sh_177 ⟨rfl, by decide⟩ rfl ⟨Nat.le_of_ble_eq_true rfl, Nat.le_of_ble_eq_true rfl⟩ (Nat.le_of_ble_eq_true rfl) ⟨by show _ ≤ 601024; omega, by show _ ≤ 7293034; omega⟩ (fun r79 s79 h => ?_)
        refine r_icmp_eq (pc := 661) (tgt := 1187) dL_law_661 (by decide) (fun c => ?_) (fun c => ?_)
        · replace h := h.1 c
          refine n_iinc (pc := 1187) (x := y4) (w := 4) (L' := [some (.ref 950), some (.ref 0), some (.ref 177), some (.ref 192), some (.int (y4 + 4)), none, none, none]) dL_law_1187 rfl (by decide) rfl (by decide) rfl ?_
          refine r_goto (pc := 1190) (tgt := 23) dL_law_1190 (by decide) ?_
          refine n_L (L' := [some (.ref 950), some (.ref 0), some (.ref 177), some (.ref 192), some (.int (y4 + 4)), none, none, none]) (le_s (le_s (le_s (le_s (le_s (le_n (le_n (le_n (le_e))))))))) ?_
          exact ih _ _ _ h _ _ (by omega) (by omega)
        · replace h := h.2 c
          refine r_iconst (pc := 664) (v := 0) dL_law_664 (by decide) ?_
          exact h.elim
      by_cases c152_15 : ((xs (ix y4)) &&& 63) = 15
      · replace h := h.2.2.2.2.2.2.2.2.2.2.2.2.2.2.2.1 c152_15
        refine r_tableIn (pc := 39) (off := 627) (tgt := 666) dL_law_39 (by rw [c152_15]; decide) (by rw [c152_15]; decide) (by rw [c152_15]; decide) (by decide) ?_
        refine r_aload_n (pc := 666) (x := 0) dL_law_666 rfl ?_
        refine n_Vi0 (pc := 667) (S0 := []) (spX11_conflict h) gmX11_conflict selX11_conflict lk_RL_92 dL_law_667 rfl (by decide) sh_0 ⟨rfl, by decide⟩ rfl ⟨Nat.le_of_ble_eq_true rfl, Nat.le_of_ble_eq_true rfl⟩ (Nat.le_of_ble_eq_true rfl) ⟨by show _ ≤ 601024; omega, by show _ ≤ 7293034; omega⟩ (fun r80 s80 h => ?_)
        refine r_aload_n (pc := 670) (x := 177) dL_law_670 rfl ?_
        refine n_Vi0 (pc := 671) (S0 := [.int r80]) (spX12_conflict h) gmX12_conflict selX12_conflict lk_RL_95 dL_law_671 rfl (by decide) sh_177 ⟨rfl, by decide⟩ rfl ⟨Nat.le_of_ble_eq_true rfl, Nat.le_of_ble_eq_true rfl⟩ (Nat.le_of_ble_eq_true rfl) ⟨by show _ ≤ 601024; omega, by show _ ≤ 7293034; omega⟩ (fun r81 s81 h => ?_)
        refine r_icmp_eq (pc := 674) (tgt := 1187) dL_law_674 (by decide) (fun c => ?_) (fun c => ?_)
        · replace h := h.1 c
          refine n_iinc (pc := 1187) (x := y4) (w := 4) (L' := [some (.ref 950), some (.ref 0), some (.ref 177), some (.ref 192), some (.int (y4 + 4)), none, none, none]) dL_law_1187 rfl (by decide) rfl (by decide) rfl ?_
          refine r_goto (pc := 1190) (tgt := 23) dL_law_1190 (by decide) ?_
          refine n_L (L' := [some (.ref 950), some (.ref 0), some (.ref 177), some (.ref 192), some (.int (y4 + 4)), none, none, none]) (le_s (le_s (le_s (le_s (le_s (le_n (le_n (le_n (le_e))))))))) ?_
          exact ih _ _ _ h _ _ (by omega) (by omega)
        · replace h := h.2 c
          refine r_iconst (pc := 677) (v := 0) dL_law_677 (by decide) ?_
          exact h.elim
      by_cases c152_16 : ((xs (ix y4)) &&& 63) = 16
      · replace h := h.2.2.2.2.2.2.2.2.2.2.2.2.2.2.2.2.1 c152_16
        refine r_tableIn (pc := 39) (off := 640) (tgt := 679) dL_law_39 (by rw [c152_16]; decide) (by rw [c152_16]; decide) (by rw [c152_16]; decide) (by decide) ?_
        refine r_aload_n (pc := 679) (x := 0) dL_law_679 rfl ?_
        refine r_aload_n (pc := 680) (x := 950) dL_law_680 rfl ?_
        refine r_iload (pc := 681) (x := y4) dL_law_681 rfl ?_
        refine r_iconst (pc := 683) (v := 1) dL_law_683 (by decide) ?_
        refine r_iadd (pc := 684) dL_law_684 ?_
        obtain ⟨b82, h⟩ := h
        refine n_scd (pc := 685) dL_law_685 hsc b82 ?_
        refine n_Vi0 (pc := 686) (S0 := []) (spX11_without h) gmX11_without selX11_without lk_RL_96 dL_law_686 rfl (by decide) sh_0 ⟨rfl, by decide⟩ rfl ⟨Nat.le_of_ble_eq_true rfl, Nat.le_of_ble_eq_true rfl⟩ (Nat.le_of_ble_eq_true rfl) ⟨by show _ ≤ 601024; omega, by show _ ≤ 7293034; omega⟩ (fun r83 s83 h => ?_)
        refine r_aload_n (pc := 689) (x := 177) dL_law_689 rfl ?_
        refine r_aload_n (pc := 690) (x := 950) dL_law_690 rfl ?_
        refine r_iload (pc := 691) (x := y4) dL_law_691 rfl ?_
        refine r_iconst (pc := 693) (v := 1) dL_law_693 (by decide) ?_
        refine r_iadd (pc := 694) dL_law_694 ?_
        obtain ⟨b84, h⟩ := h
        refine n_scd (pc := 695) dL_law_695 hsc b84 ?_
        refine n_Vi0 (pc := 696) (S0 := [.int r83]) (spX12_without h) gmX12_without selX12_without lk_RL_99 dL_law_696 rfl (by decide) sh_177 ⟨rfl, by decide⟩ rfl ⟨Nat.le_of_ble_eq_true rfl, Nat.le_of_ble_eq_true rfl⟩ (Nat.le_of_ble_eq_true rfl) ⟨by show _ ≤ 601024; omega, by show _ ≤ 7293034; omega⟩ (fun r85 s85 h => ?_)
        refine r_icmp_eq (pc := 699) (tgt := 1187) dL_law_699 (by decide) (fun c => ?_) (fun c => ?_)
        · replace h := h.1 c
          refine n_iinc (pc := 1187) (x := y4) (w := 4) (L' := [some (.ref 950), some (.ref 0), some (.ref 177), some (.ref 192), some (.int (y4 + 4)), none, none, none]) dL_law_1187 rfl (by decide) rfl (by decide) rfl ?_
          refine r_goto (pc := 1190) (tgt := 23) dL_law_1190 (by decide) ?_
          refine n_L (L' := [some (.ref 950), some (.ref 0), some (.ref 177), some (.ref 192), some (.int (y4 + 4)), none, none, none]) (le_s (le_s (le_s (le_s (le_s (le_n (le_n (le_n (le_e))))))))) ?_
          exact ih _ _ _ h _ _ (by omega) (by omega)
        · replace h := h.2 c
          refine r_iconst (pc := 702) (v := 0) dL_law_702 (by decide) ?_
          exact h.elim
      by_cases c152_17 : ((xs (ix y4)) &&& 63) = 17
      · replace h := h.2.2.2.2.2.2.2.2.2.2.2.2.2.2.2.2.2.1 c152_17
        refine r_tableIn (pc := 39) (off := 665) (tgt := 704) dL_law_39 (by rw [c152_17]; decide) (by rw [c152_17]; decide) (by rw [c152_17]; decide) (by decide) ?_
        refine r_aload_n (pc := 704) (x := 0) dL_law_704 rfl ?_
        refine r_aload_n (pc := 705) (x := 950) dL_law_705 rfl ?_
        refine r_iload (pc := 706) (x := y4) dL_law_706 rfl ?_
        refine r_iconst (pc := 708) (v := 1) dL_law_708 (by decide) ?_
        refine r_iadd (pc := 709) dL_law_709 ?_
        obtain ⟨b86, h⟩ := h
        refine n_scd (pc := 710) dL_law_710 hsc b86 ?_
        refine r_aload_n (pc := 711) (x := 950) dL_law_711 rfl ?_
        refine r_iload (pc := 712) (x := y4) dL_law_712 rfl ?_
        refine r_iconst (pc := 714) (v := 2) dL_law_714 (by decide) ?_
        refine r_iadd (pc := 715) dL_law_715 ?_
        obtain ⟨b87, h⟩ := h
        refine n_scd (pc := 716) dL_law_716 hsc b87 ?_
        refine r_aload_n (pc := 717) (x := 950) dL_law_717 rfl ?_
        refine r_iload (pc := 718) (x := y4) dL_law_718 rfl ?_
        refine r_iconst (pc := 720) (v := 3) dL_law_720 (by decide) ?_
        refine r_iadd (pc := 721) dL_law_721 ?_
        obtain ⟨b88, h⟩ := h
        refine n_scd (pc := 722) dL_law_722 hsc b88 ?_
        refine n_Vi0 (pc := 723) (S0 := []) (spX11_with h) gmX11_with selX11_with lk_RL_100 dL_law_723 rfl (by decide) sh_0 ⟨rfl, by decide⟩ rfl ⟨Nat.le_of_ble_eq_true rfl, Nat.le_of_ble_eq_true rfl⟩ (Nat.le_of_ble_eq_true rfl) ⟨by show _ ≤ 601024; omega, by show _ ≤ 7293034; omega⟩ (fun r89 s89 h => ?_)
        refine r_aload_n (pc := 726) (x := 177) dL_law_726 rfl ?_
        refine r_aload_n (pc := 727) (x := 950) dL_law_727 rfl ?_
        refine r_iload (pc := 728) (x := y4) dL_law_728 rfl ?_
        refine r_iconst (pc := 730) (v := 1) dL_law_730 (by decide) ?_
        refine r_iadd (pc := 731) dL_law_731 ?_
        obtain ⟨b90, h⟩ := h
        refine n_scd (pc := 732) dL_law_732 hsc b90 ?_
        refine r_aload_n (pc := 733) (x := 950) dL_law_733 rfl ?_
        refine r_iload (pc := 734) (x := y4) dL_law_734 rfl ?_
        refine r_iconst (pc := 736) (v := 2) dL_law_736 (by decide) ?_
        refine r_iadd (pc := 737) dL_law_737 ?_
        obtain ⟨b91, h⟩ := h
        refine n_scd (pc := 738) dL_law_738 hsc b91 ?_
        refine r_aload_n (pc := 739) (x := 950) dL_law_739 rfl ?_
        refine r_iload (pc := 740) (x := y4) dL_law_740 rfl ?_
        refine r_iconst (pc := 742) (v := 3) dL_law_742 (by decide) ?_
        refine r_iadd (pc := 743) dL_law_743 ?_
        obtain ⟨b92, h⟩ := h
        refine n_scd (pc := 744) dL_law_744 hsc b92 ?_
        refine n_Vi0 (pc := 745) (S0 := [.int r89]) (spX12_with h) gmX12_with selX12_with lk_RL_103 dL_law_745 rfl (by decide) sh_177 ⟨rfl, by decide⟩ rfl ⟨Nat.le_of_ble_eq_true rfl, Nat.le_of_ble_eq_true rfl⟩ (Nat.le_of_ble_eq_true rfl) ⟨by show _ ≤ 601024; omega, by show _ ≤ 7293034; omega⟩ (fun r93 s93 h => ?_)
        refine r_icmp_eq (pc := 748) (tgt := 1187) dL_law_748 (by decide) (fun c => ?_) (fun c => ?_)
        · replace h := h.1 c
          refine n_iinc (pc := 1187) (x := y4) (w := 4) (L' := [some (.ref 950), some (.ref 0), some (.ref 177), some (.ref 192), some (.int (y4 + 4)), none, none, none]) dL_law_1187 rfl (by decide) rfl (by decide) rfl ?_
          refine r_goto (pc := 1190) (tgt := 23) dL_law_1190 (by decide) ?_
          refine n_L (L' := [some (.ref 950), some (.ref 0), some (.ref 177), some (.ref 192), some (.int (y4 + 4)), none, none, none]) (le_s (le_s (le_s (le_s (le_s (le_n (le_n (le_n (le_e))))))))) ?_
          exact ih _ _ _ h _ _ (by omega) (by omega)
        · replace h := h.2 c
          refine r_iconst (pc := 751) (v := 0) dL_law_751 (by decide) ?_
          exact h.elim
      by_cases c152_18 : ((xs (ix y4)) &&& 63) = 18
      · replace h := h.2.2.2.2.2.2.2.2.2.2.2.2.2.2.2.2.2.2.1 c152_18
        refine r_tableIn (pc := 39) (off := 714) (tgt := 753) dL_law_39 (by rw [c152_18]; decide) (by rw [c152_18]; decide) (by rw [c152_18]; decide) (by decide) ?_
        refine r_aload_n (pc := 753) (x := 0) dL_law_753 rfl ?_
        refine n_Vi0 (pc := 754) (S0 := []) (spX11_asks h) gmX11_asks selX11_asks lk_RL_104 dL_law_754 rfl (by decide) sh_0 ⟨rfl, by decide⟩ rfl ⟨Nat.le_of_ble_eq_true rfl, Nat.le_of_ble_eq_true rfl⟩ (Nat.le_of_ble_eq_true rfl) ⟨by show _ ≤ 601024; omega, by show _ ≤ 7293034; omega⟩ (fun r94 s94 h => ?_)
        refine r_aload_n (pc := 757) (x := 177) dL_law_757 rfl ?_
        refine n_Vi0 (pc := 758) (S0 := [.int r94]) (spX12_asks h) gmX12_asks selX12_asks lk_RL_107 dL_law_758 rfl (by decide) sh_177 ⟨rfl, by decide⟩ rfl ⟨Nat.le_of_ble_eq_true rfl, Nat.le_of_ble_eq_true rfl⟩ (Nat.le_of_ble_eq_true rfl) ⟨by show _ ≤ 601024; omega, by show _ ≤ 7293034; omega⟩ (fun r95 s95 h => ?_)
        refine r_icmp_eq (pc := 761) (tgt := 1187) dL_law_761 (by decide) (fun c => ?_) (fun c => ?_)
        · replace h := h.1 c
          refine n_iinc (pc := 1187) (x := y4) (w := 4) (L' := [some (.ref 950), some (.ref 0), some (.ref 177), some (.ref 192), some (.int (y4 + 4)), none, none, none]) dL_law_1187 rfl (by decide) rfl (by decide) rfl ?_
          refine r_goto (pc := 1190) (tgt := 23) dL_law_1190 (by decide) ?_
          refine n_L (L' := [some (.ref 950), some (.ref 0), some (.ref 177), some (.ref 192), some (.int (y4 + 4)), none, none, none]) (le_s (le_s (le_s (le_s (le_s (le_n (le_n (le_n (le_e))))))))) ?_
          exact ih _ _ _ h _ _ (by omega) (by omega)
        · replace h := h.2 c
          refine r_iconst (pc := 764) (v := 0) dL_law_764 (by decide) ?_
          exact h.elim
      by_cases c152_19 : ((xs (ix y4)) &&& 63) = 19
      · replace h := h.2.2.2.2.2.2.2.2.2.2.2.2.2.2.2.2.2.2.2.1 c152_19
        refine r_tableIn (pc := 39) (off := 727) (tgt := 766) dL_law_39 (by rw [c152_19]; decide) (by rw [c152_19]; decide) (by rw [c152_19]; decide) (by decide) ?_
        refine r_aload_n (pc := 766) (x := 0) dL_law_766 rfl ?_
        refine r_aload_n (pc := 767) (x := 950) dL_law_767 rfl ?_
        refine r_iload (pc := 768) (x := y4) dL_law_768 rfl ?_
        refine r_iconst (pc := 770) (v := 1) dL_law_770 (by decide) ?_
        refine r_iadd (pc := 771) dL_law_771 ?_
        obtain ⟨b96, h⟩ := h
        refine n_scd (pc := 772) dL_law_772 hsc b96 ?_
        refine n_Vi0 (pc := 773) (S0 := []) (spX11_on h) gmX11_on selX11_on lk_RL_108 dL_law_773 rfl (by decide) sh_0 ⟨rfl, by decide⟩ rfl ⟨Nat.le_of_ble_eq_true rfl, Nat.le_of_ble_eq_true rfl⟩ (Nat.le_of_ble_eq_true rfl) ⟨by show _ ≤ 601024; omega, by show _ ≤ 7293034; omega⟩ (fun r97 s97 h => ?_)
        refine r_aload_n (pc := 776) (x := 177) dL_law_776 rfl ?_
        refine r_aload_n (pc := 777) (x := 950) dL_law_777 rfl ?_
        refine r_iload (pc := 778) (x := y4) dL_law_778 rfl ?_
        refine r_iconst (pc := 780) (v := 1) dL_law_780 (by decide) ?_
        refine r_iadd (pc := 781) dL_law_781 ?_
        obtain ⟨b98, h⟩ := h
        refine n_scd (pc := 782) dL_law_782 hsc b98 ?_
        refine n_Vi0 (pc := 783) (S0 := [.int r97]) (spX12_on h) gmX12_on selX12_on lk_RL_111 dL_law_783 rfl (by decide) sh_177 ⟨rfl, by decide⟩ rfl ⟨Nat.le_of_ble_eq_true rfl, Nat.le_of_ble_eq_true rfl⟩ (Nat.le_of_ble_eq_true rfl) ⟨by show _ ≤ 601024; omega, by show _ ≤ 7293034; omega⟩ (fun r99 s99 h => ?_)
        refine r_icmp_eq (pc := 786) (tgt := 1187) dL_law_786 (by decide) (fun c => ?_) (fun c => ?_)
        · replace h := h.1 c
          refine n_iinc (pc := 1187) (x := y4) (w := 4) (L' := [some (.ref 950), some (.ref 0), some (.ref 177), some (.ref 192), some (.int (y4 + 4)), none, none, none]) dL_law_1187 rfl (by decide) rfl (by decide) rfl ?_
          refine r_goto (pc := 1190) (tgt := 23) dL_law_1190 (by decide) ?_
          refine n_L (L' := [some (.ref 950), some (.ref 0), some (.ref 177), some (.ref 192), some (.int (y4 + 4)), none, none, none]) (le_s (le_s (le_s (le_s (le_s (le_n (le_n (le_n (le_e))))))))) ?_
          exact ih _ _ _ h _ _ (by omega) (by omega)
        · replace h := h.2 c
          refine r_iconst (pc := 789) (v := 0) dL_law_789 (by decide) ?_
          exact h.elim
      by_cases c152_20 : ((xs (ix y4)) &&& 63) = 20
      · replace h := h.2.2.2.2.2.2.2.2.2.2.2.2.2.2.2.2.2.2.2.2.1 c152_20
        refine r_tableIn (pc := 39) (off := 752) (tgt := 791) dL_law_39 (by rw [c152_20]; decide) (by rw [c152_20]; decide) (by rw [c152_20]; decide) (by decide) ?_
        refine r_aload_n (pc := 791) (x := 0) dL_law_791 rfl ?_
        refine n_Vi0 (pc := 792) (S0 := []) (spX11_busiest h) gmX11_busiest selX11_busiest lk_RL_112 dL_law_792 rfl (by decide) sh_0 ⟨rfl, by decide⟩ rfl ⟨Nat.le_of_ble_eq_true rfl, Nat.le_of_ble_eq_true rfl⟩ (Nat.le_of_ble_eq_true rfl) ⟨by show _ ≤ 601024; omega, by show _ ≤ 7293034; omega⟩ (fun r100 s100 h => ?_)
        refine r_aload_n (pc := 795) (x := 177) dL_law_795 rfl ?_
        refine n_Vi0 (pc := 796) (S0 := [.int r100]) (spX12_busiest h) gmX12_busiest selX12_busiest lk_RL_115 dL_law_796 rfl (by decide) sh_177 ⟨rfl, by decide⟩ rfl ⟨Nat.le_of_ble_eq_true rfl, Nat.le_of_ble_eq_true rfl⟩ (Nat.le_of_ble_eq_true rfl) ⟨by show _ ≤ 601024; omega, by show _ ≤ 7293034; omega⟩ (fun r101 s101 h => ?_)
        refine r_icmp_eq (pc := 799) (tgt := 1187) dL_law_799 (by decide) (fun c => ?_) (fun c => ?_)
        · replace h := h.1 c
          refine n_iinc (pc := 1187) (x := y4) (w := 4) (L' := [some (.ref 950), some (.ref 0), some (.ref 177), some (.ref 192), some (.int (y4 + 4)), none, none, none]) dL_law_1187 rfl (by decide) rfl (by decide) rfl ?_
          refine r_goto (pc := 1190) (tgt := 23) dL_law_1190 (by decide) ?_
          refine n_L (L' := [some (.ref 950), some (.ref 0), some (.ref 177), some (.ref 192), some (.int (y4 + 4)), none, none, none]) (le_s (le_s (le_s (le_s (le_s (le_n (le_n (le_n (le_e))))))))) ?_
          exact ih _ _ _ h _ _ (by omega) (by omega)
        · replace h := h.2 c
          refine r_iconst (pc := 802) (v := 0) dL_law_802 (by decide) ?_
          exact h.elim
      by_cases c152_21 : ((xs (ix y4)) &&& 63) = 21
      · replace h := h.2.2.2.2.2.2.2.2.2.2.2.2.2.2.2.2.2.2.2.2.2.1 c152_21
        refine r_tableIn (pc := 39) (off := 765) (tgt := 804) dL_law_39 (by rw [c152_21]; decide) (by rw [c152_21]; decide) (by rw [c152_21]; decide) (by decide) ?_
        refine r_aload_n (pc := 804) (x := 0) dL_law_804 rfl ?_
        refine r_aload_n (pc := 805) (x := 950) dL_law_805 rfl ?_
        refine r_iload (pc := 806) (x := y4) dL_law_806 rfl ?_
        refine r_iconst (pc := 808) (v := 1) dL_law_808 (by decide) ?_
        refine r_iadd (pc := 809) dL_law_809 ?_
        obtain ⟨b102, h⟩ := h
        refine n_scd (pc := 810) dL_law_810 hsc b102 ?_
        refine r_aload_n (pc := 811) (x := 950) dL_law_811 rfl ?_
        refine r_iload (pc := 812) (x := y4) dL_law_812 rfl ?_
        refine r_iconst (pc := 814) (v := 2) dL_law_814 (by decide) ?_
        refine r_iadd (pc := 815) dL_law_815 ?_
        obtain ⟨b103, h⟩ := h
        refine n_scd (pc := 816) dL_law_816 hsc b103 ?_
        refine n_Vi0 (pc := 817) (S0 := []) (spX11_free h) gmX11_free selX11_free lk_RL_116 dL_law_817 rfl (by decide) sh_0 ⟨rfl, by decide⟩ rfl ⟨Nat.le_of_ble_eq_true rfl, Nat.le_of_ble_eq_true rfl⟩ (Nat.le_of_ble_eq_true rfl) ⟨by show _ ≤ 601024; omega, by show _ ≤ 7293034; omega⟩ (fun r104 s104 h => ?_)
        refine r_aload_n (pc := 820) (x := 177) dL_law_820 rfl ?_
        refine r_aload_n (pc := 821) (x := 950) dL_law_821 rfl ?_
        refine r_iload (pc := 822) (x := y4) dL_law_822 rfl ?_
        refine r_iconst (pc := 824) (v := 1) dL_law_824 (by decide) ?_
        refine r_iadd (pc := 825) dL_law_825 ?_
        obtain ⟨b105, h⟩ := h
        refine n_scd (pc := 826) dL_law_826 hsc b105 ?_
        refine r_aload_n (pc := 827) (x := 950) dL_law_827 rfl ?_
        refine r_iload (pc := 828) (x := y4) dL_law_828 rfl ?_
        refine r_iconst (pc := 830) (v := 2) dL_law_830 (by decide) ?_
        refine r_iadd (pc := 831) dL_law_831 ?_
        obtain ⟨b106, h⟩ := h
        refine n_scd (pc := 832) dL_law_832 hsc b106 ?_
        refine n_Vi0 (pc := 833) (S0 := [.int r104]) (spX12_free h) gmX12_free selX12_free lk_RL_119 dL_law_833 rfl (by decide) sh_177 ⟨rfl, by decide⟩ rfl ⟨Nat.le_of_ble_eq_true rfl, Nat.le_of_ble_eq_true rfl⟩ (Nat.le_of_ble_eq_true rfl) ⟨by show _ ≤ 601024; omega, by show _ ≤ 7293034; omega⟩ (fun r107 s107 h => ?_)
        refine r_icmp_eq (pc := 836) (tgt := 1187) dL_law_836 (by decide) (fun c => ?_) (fun c => ?_)
        · replace h := h.1 c
          refine n_iinc (pc := 1187) (x := y4) (w := 4) (L' := [some (.ref 950), some (.ref 0), some (.ref 177), some (.ref 192), some (.int (y4 + 4)), none, none, none]) dL_law_1187 rfl (by decide) rfl (by decide) rfl ?_
          refine r_goto (pc := 1190) (tgt := 23) dL_law_1190 (by decide) ?_
          refine n_L (L' := [some (.ref 950), some (.ref 0), some (.ref 177), some (.ref 192), some (.int (y4 + 4)), none, none, none]) (le_s (le_s (le_s (le_s (le_s (le_n (le_n (le_n (le_e))))))))) ?_
          exact ih _ _ _ h _ _ (by omega) (by omega)
        · replace h := h.2 c
          refine r_iconst (pc := 839) (v := 0) dL_law_839 (by decide) ?_
          exact h.elim
      by_cases c152_22 : ((xs (ix y4)) &&& 63) = 22
      · replace h := h.2.2.2.2.2.2.2.2.2.2.2.2.2.2.2.2.2.2.2.2.2.2.1 c152_22
        refine r_tableIn (pc := 39) (off := 802) (tgt := 841) dL_law_39 (by rw [c152_22]; decide) (by rw [c152_22]; decide) (by rw [c152_22]; decide) (by decide) ?_
        refine r_aload_n (pc := 841) (x := 0) dL_law_841 rfl ?_
        refine r_aload_n (pc := 842) (x := 950) dL_law_842 rfl ?_
        refine r_iload (pc := 843) (x := y4) dL_law_843 rfl ?_
        refine r_iconst (pc := 845) (v := 1) dL_law_845 (by decide) ?_
        refine r_iadd (pc := 846) dL_law_846 ?_
        obtain ⟨b108, h⟩ := h
        refine n_scd (pc := 847) dL_law_847 hsc b108 ?_
        refine n_Vi0 (pc := 848) (S0 := []) (spX11_ref h) gmX11_ref selX11_ref lk_RL_120 dL_law_848 rfl (by decide) sh_0 ⟨rfl, by decide⟩ rfl ⟨Nat.le_of_ble_eq_true rfl, Nat.le_of_ble_eq_true rfl⟩ (Nat.le_of_ble_eq_true rfl) ⟨by show _ ≤ 601024; omega, by show _ ≤ 7293034; omega⟩ (fun r109 s109 h => ?_)
        refine r_aload_n (pc := 851) (x := 177) dL_law_851 rfl ?_
        refine r_aload_n (pc := 852) (x := 950) dL_law_852 rfl ?_
        refine r_iload (pc := 853) (x := y4) dL_law_853 rfl ?_
        refine r_iconst (pc := 855) (v := 1) dL_law_855 (by decide) ?_
        refine r_iadd (pc := 856) dL_law_856 ?_
        obtain ⟨b110, h⟩ := h
        refine n_scd (pc := 857) dL_law_857 hsc b110 ?_
        refine n_Vi0 (pc := 858) (S0 := [.int r109]) (spX12_ref h) gmX12_ref selX12_ref lk_RL_123 dL_law_858 rfl (by decide) sh_177 ⟨rfl, by decide⟩ rfl ⟨Nat.le_of_ble_eq_true rfl, Nat.le_of_ble_eq_true rfl⟩ (Nat.le_of_ble_eq_true rfl) ⟨by show _ ≤ 601024; omega, by show _ ≤ 7293034; omega⟩ (fun r111 s111 h => ?_)
        refine r_icmp_eq (pc := 861) (tgt := 1187) dL_law_861 (by decide) (fun c => ?_) (fun c => ?_)
        · replace h := h.1 c
          refine n_iinc (pc := 1187) (x := y4) (w := 4) (L' := [some (.ref 950), some (.ref 0), some (.ref 177), some (.ref 192), some (.int (y4 + 4)), none, none, none]) dL_law_1187 rfl (by decide) rfl (by decide) rfl ?_
          refine r_goto (pc := 1190) (tgt := 23) dL_law_1190 (by decide) ?_
          refine n_L (L' := [some (.ref 950), some (.ref 0), some (.ref 177), some (.ref 192), some (.int (y4 + 4)), none, none, none]) (le_s (le_s (le_s (le_s (le_s (le_n (le_n (le_n (le_e))))))))) ?_
          exact ih _ _ _ h _ _ (by omega) (by omega)
        · replace h := h.2 c
          refine r_iconst (pc := 864) (v := 0) dL_law_864 (by decide) ?_
          exact h.elim
      by_cases c152_23 : ((xs (ix y4)) &&& 63) = 23
      · replace h := h.2.2.2.2.2.2.2.2.2.2.2.2.2.2.2.2.2.2.2.2.2.2.2.1 c152_23
        refine r_tableIn (pc := 39) (off := 827) (tgt := 866) dL_law_39 (by rw [c152_23]; decide) (by rw [c152_23]; decide) (by rw [c152_23]; decide) (by decide) ?_
        refine r_aload_n (pc := 866) (x := 0) dL_law_866 rfl ?_
        refine r_aload_n (pc := 867) (x := 950) dL_law_867 rfl ?_
        refine r_iload (pc := 868) (x := y4) dL_law_868 rfl ?_
        refine r_iconst (pc := 870) (v := 1) dL_law_870 (by decide) ?_
        refine r_iadd (pc := 871) dL_law_871 ?_
        obtain ⟨b112, h⟩ := h
        refine n_scd (pc := 872) dL_law_872 hsc b112 ?_
        refine r_aload_n (pc := 873) (x := 950) dL_law_873 rfl ?_
        refine r_iload (pc := 874) (x := y4) dL_law_874 rfl ?_
        refine r_iconst (pc := 876) (v := 2) dL_law_876 (by decide) ?_
        refine r_iadd (pc := 877) dL_law_877 ?_
        obtain ⟨b113, h⟩ := h
        refine n_scd (pc := 878) dL_law_878 hsc b113 ?_
        refine r_aload_n (pc := 879) (x := 950) dL_law_879 rfl ?_
        refine r_iload (pc := 880) (x := y4) dL_law_880 rfl ?_
        refine r_iconst (pc := 882) (v := 3) dL_law_882 (by decide) ?_
        refine r_iadd (pc := 883) dL_law_883 ?_
        obtain ⟨b114, h⟩ := h
        refine n_scd (pc := 884) dL_law_884 hsc b114 ?_
        refine r_if_eq (pc := 885) (tgt := 892) dL_law_885 (by decide) (fun c => ?_) (fun c => ?_)
        · replace h := h.1 c
          refine r_iconst (pc := 892) (v := 0) dL_law_892 (by decide) ?_
          refine n_L (L' := [some (.ref 950), some (.ref 0), some (.ref 177), some (.ref 192), some (.int y4), none, none, none]) (le_s (le_s (le_s (le_s (le_s (le_n (le_n (le_n (le_e))))))))) ?_
          exact pL_law_893 hst hsc hret _ _ _ _ _ _ h ih _ _ (by omega) (by omega)
        · replace h := h.2 c
          refine r_iconst (pc := 888) (v := 1) dL_law_888 (by decide) ?_
          refine r_goto (pc := 889) (tgt := 893) dL_law_889 (by decide) ?_
          refine n_L (L' := [some (.ref 950), some (.ref 0), some (.ref 177), some (.ref 192), some (.int y4), none, none, none]) (le_s (le_s (le_s (le_s (le_s (le_n (le_n (le_n (le_e))))))))) ?_
          exact pL_law_893 hst hsc hret _ _ _ _ _ _ h ih _ _ (by omega) (by omega)
      by_cases c152_24 : ((xs (ix y4)) &&& 63) = 24
      · replace h := h.2.2.2.2.2.2.2.2.2.2.2.2.2.2.2.2.2.2.2.2.2.2.2.2.1 c152_24
        refine r_tableIn (pc := 39) (off := 892) (tgt := 931) dL_law_39 (by rw [c152_24]; decide) (by rw [c152_24]; decide) (by rw [c152_24]; decide) (by decide) ?_
        refine r_aload_n (pc := 931) (x := 0) dL_law_931 rfl ?_
        refine n_Vi0 (pc := 932) (S0 := []) (spX11_narrows h) gmX11_narrows selX11_narrows lk_RL_129 dL_law_932 rfl (by decide) sh_0 ⟨rfl, by decide⟩ rfl ⟨Nat.le_of_ble_eq_true rfl, Nat.le_of_ble_eq_true rfl⟩ (Nat.le_of_ble_eq_true rfl) ⟨by show _ ≤ 601024; omega, by show _ ≤ 7293034; omega⟩ (fun r115 s115 h => ?_)
        refine r_aload_n (pc := 935) (x := 177) dL_law_935 rfl ?_
        refine n_Vi0 (pc := 936) (S0 := [.int r115]) (spX12_narrows h) gmX12_narrows selX12_narrows lk_RL_132 dL_law_936 rfl (by decide) sh_177 ⟨rfl, by decide⟩ rfl ⟨Nat.le_of_ble_eq_true rfl, Nat.le_of_ble_eq_true rfl⟩ (Nat.le_of_ble_eq_true rfl) ⟨by show _ ≤ 601024; omega, by show _ ≤ 7293034; omega⟩ (fun r116 s116 h => ?_)
        refine r_icmp_eq (pc := 939) (tgt := 1187) dL_law_939 (by decide) (fun c => ?_) (fun c => ?_)
        · replace h := h.1 c
          refine n_iinc (pc := 1187) (x := y4) (w := 4) (L' := [some (.ref 950), some (.ref 0), some (.ref 177), some (.ref 192), some (.int (y4 + 4)), none, none, none]) dL_law_1187 rfl (by decide) rfl (by decide) rfl ?_
          refine r_goto (pc := 1190) (tgt := 23) dL_law_1190 (by decide) ?_
          refine n_L (L' := [some (.ref 950), some (.ref 0), some (.ref 177), some (.ref 192), some (.int (y4 + 4)), none, none, none]) (le_s (le_s (le_s (le_s (le_s (le_n (le_n (le_n (le_e))))))))) ?_
          exact ih _ _ _ h _ _ (by omega) (by omega)
        · replace h := h.2 c
          refine r_iconst (pc := 942) (v := 0) dL_law_942 (by decide) ?_
          exact h.elim
      by_cases c152_25 : ((xs (ix y4)) &&& 63) = 25
      · replace h := h.2.2.2.2.2.2.2.2.2.2.2.2.2.2.2.2.2.2.2.2.2.2.2.2.2.1 c152_25
        refine r_tableIn (pc := 39) (off := 905) (tgt := 944) dL_law_39 (by rw [c152_25]; decide) (by rw [c152_25]; decide) (by rw [c152_25]; decide) (by decide) ?_
        refine r_aload_n (pc := 944) (x := 0) dL_law_944 rfl ?_
        refine r_aload_n (pc := 945) (x := 950) dL_law_945 rfl ?_
        refine r_iload (pc := 946) (x := y4) dL_law_946 rfl ?_
        refine r_iconst (pc := 948) (v := 1) dL_law_948 (by decide) ?_
        refine r_iadd (pc := 949) dL_law_949 ?_
        obtain ⟨b117, h⟩ := h
        refine n_scd (pc := 950) dL_law_950 hsc b117 ?_
        refine n_Vi0 (pc := 951) (S0 := []) (spX11_drops h) gmX11_drops selX11_drops lk_RL_133 dL_law_951 rfl (by decide) sh_0 ⟨rfl, by decide⟩ rfl ⟨Nat.le_of_ble_eq_true rfl, Nat.le_of_ble_eq_true rfl⟩ (Nat.le_of_ble_eq_true rfl) ⟨by show _ ≤ 601024; omega, by show _ ≤ 7293034; omega⟩ (fun r118 s118 h => ?_)
        refine r_aload_n (pc := 954) (x := 177) dL_law_954 rfl ?_
        refine r_aload_n (pc := 955) (x := 950) dL_law_955 rfl ?_
        refine r_iload (pc := 956) (x := y4) dL_law_956 rfl ?_
        refine r_iconst (pc := 958) (v := 1) dL_law_958 (by decide) ?_
        refine r_iadd (pc := 959) dL_law_959 ?_
        obtain ⟨b119, h⟩ := h
        refine n_scd (pc := 960) dL_law_960 hsc b119 ?_
        refine n_Vi0 (pc := 961) (S0 := [.int r118]) (spX12_drops h) gmX12_drops selX12_drops lk_RL_136 dL_law_961 rfl (by decide) sh_177 ⟨rfl, by decide⟩ rfl ⟨Nat.le_of_ble_eq_true rfl, Nat.le_of_ble_eq_true rfl⟩ (Nat.le_of_ble_eq_true rfl) ⟨by show _ ≤ 601024; omega, by show _ ≤ 7293034; omega⟩ (fun r120 s120 h => ?_)
        refine r_icmp_eq (pc := 964) (tgt := 1187) dL_law_964 (by decide) (fun c => ?_) (fun c => ?_)
        · replace h := h.1 c
          refine n_iinc (pc := 1187) (x := y4) (w := 4) (L' := [some (.ref 950), some (.ref 0), some (.ref 177), some (.ref 192), some (.int (y4 + 4)), none, none, none]) dL_law_1187 rfl (by decide) rfl (by decide) rfl ?_
          refine r_goto (pc := 1190) (tgt := 23) dL_law_1190 (by decide) ?_
          refine n_L (L' := [some (.ref 950), some (.ref 0), some (.ref 177), some (.ref 192), some (.int (y4 + 4)), none, none, none]) (le_s (le_s (le_s (le_s (le_s (le_n (le_n (le_n (le_e))))))))) ?_
          exact ih _ _ _ h _ _ (by omega) (by omega)
        · replace h := h.2 c
          refine r_iconst (pc := 967) (v := 0) dL_law_967 (by decide) ?_
          exact h.elim
      by_cases c152_26 : ((xs (ix y4)) &&& 63) = 26
      · replace h := h.2.2.2.2.2.2.2.2.2.2.2.2.2.2.2.2.2.2.2.2.2.2.2.2.2.2.1 c152_26
        refine r_tableIn (pc := 39) (off := 930) (tgt := 969) dL_law_39 (by rw [c152_26]; decide) (by rw [c152_26]; decide) (by rw [c152_26]; decide) (by decide) ?_
        refine r_aload_n (pc := 969) (x := 0) dL_law_969 rfl ?_
        refine r_aload_n (pc := 970) (x := 950) dL_law_970 rfl ?_
        refine r_iload (pc := 971) (x := y4) dL_law_971 rfl ?_
        refine r_iconst (pc := 973) (v := 1) dL_law_973 (by decide) ?_
        refine r_iadd (pc := 974) dL_law_974 ?_
        obtain ⟨b121, h⟩ := h
        refine n_scd (pc := 975) dL_law_975 hsc b121 ?_
        refine n_Vi0 (pc := 976) (S0 := []) (spX11_goes h) gmX11_goes selX11_goes lk_RL_137 dL_law_976 rfl (by decide) sh_0 ⟨rfl, by decide⟩ rfl ⟨Nat.le_of_ble_eq_true rfl, Nat.le_of_ble_eq_true rfl⟩ (Nat.le_of_ble_eq_true rfl) ⟨by show _ ≤ 601024; omega, by show _ ≤ 7293034; omega⟩ (fun r122 s122 h => ?_)
        refine r_aload_n (pc := 979) (x := 177) dL_law_979 rfl ?_
        refine r_aload_n (pc := 980) (x := 950) dL_law_980 rfl ?_
        refine r_iload (pc := 981) (x := y4) dL_law_981 rfl ?_
        refine r_iconst (pc := 983) (v := 1) dL_law_983 (by decide) ?_
        refine r_iadd (pc := 984) dL_law_984 ?_
        obtain ⟨b123, h⟩ := h
        refine n_scd (pc := 985) dL_law_985 hsc b123 ?_
        refine n_Vi0 (pc := 986) (S0 := [.int r122]) (spX12_goes h) gmX12_goes selX12_goes lk_RL_140 dL_law_986 rfl (by decide) sh_177 ⟨rfl, by decide⟩ rfl ⟨Nat.le_of_ble_eq_true rfl, Nat.le_of_ble_eq_true rfl⟩ (Nat.le_of_ble_eq_true rfl) ⟨by show _ ≤ 601024; omega, by show _ ≤ 7293034; omega⟩ (fun r124 s124 h => ?_)
        refine r_icmp_eq (pc := 989) (tgt := 1187) dL_law_989 (by decide) (fun c => ?_) (fun c => ?_)
        · replace h := h.1 c
          refine n_iinc (pc := 1187) (x := y4) (w := 4) (L' := [some (.ref 950), some (.ref 0), some (.ref 177), some (.ref 192), some (.int (y4 + 4)), none, none, none]) dL_law_1187 rfl (by decide) rfl (by decide) rfl ?_
          refine r_goto (pc := 1190) (tgt := 23) dL_law_1190 (by decide) ?_
          refine n_L (L' := [some (.ref 950), some (.ref 0), some (.ref 177), some (.ref 192), some (.int (y4 + 4)), none, none, none]) (le_s (le_s (le_s (le_s (le_s (le_n (le_n (le_n (le_e))))))))) ?_
          exact ih _ _ _ h _ _ (by omega) (by omega)
        · replace h := h.2 c
          refine r_iconst (pc := 992) (v := 0) dL_law_992 (by decide) ?_
          exact h.elim
      by_cases c152_27 : ((xs (ix y4)) &&& 63) = 27
      · replace h := h.2.2.2.2.2.2.2.2.2.2.2.2.2.2.2.2.2.2.2.2.2.2.2.2.2.2.2.1 c152_27
        refine r_tableIn (pc := 39) (off := 955) (tgt := 994) dL_law_39 (by rw [c152_27]; decide) (by rw [c152_27]; decide) (by rw [c152_27]; decide) (by decide) ?_
        refine r_aload_n (pc := 994) (x := 0) dL_law_994 rfl ?_
        refine n_Vi0 (pc := 995) (S0 := []) (spX11_work h) gmX11_work selX11_work lk_RL_141 dL_law_995 rfl (by decide) sh_0 ⟨rfl, by decide⟩ rfl ⟨Nat.le_of_ble_eq_true rfl, Nat.le_of_ble_eq_true rfl⟩ (Nat.le_of_ble_eq_true rfl) ⟨by show _ ≤ 601024; omega, by show _ ≤ 7293034; omega⟩ (fun r125 s125 h => ?_)
        refine r_aload_n (pc := 998) (x := 177) dL_law_998 rfl ?_
        refine n_Vi0 (pc := 999) (S0 := [.int r125]) (spX12_work h) gmX12_work selX12_work lk_RL_144 dL_law_999 rfl (by decide) sh_177 ⟨rfl, by decide⟩ rfl ⟨Nat.le_of_ble_eq_true rfl, Nat.le_of_ble_eq_true rfl⟩ (Nat.le_of_ble_eq_true rfl) ⟨by show _ ≤ 601024; omega, by show _ ≤ 7293034; omega⟩ (fun r126 s126 h => ?_)
        refine r_icmp_eq (pc := 1002) (tgt := 1187) dL_law_1002 (by decide) (fun c => ?_) (fun c => ?_)
        · replace h := h.1 c
          refine n_iinc (pc := 1187) (x := y4) (w := 4) (L' := [some (.ref 950), some (.ref 0), some (.ref 177), some (.ref 192), some (.int (y4 + 4)), none, none, none]) dL_law_1187 rfl (by decide) rfl (by decide) rfl ?_
          refine r_goto (pc := 1190) (tgt := 23) dL_law_1190 (by decide) ?_
          refine n_L (L' := [some (.ref 950), some (.ref 0), some (.ref 177), some (.ref 192), some (.int (y4 + 4)), none, none, none]) (le_s (le_s (le_s (le_s (le_s (le_n (le_n (le_n (le_e))))))))) ?_
          exact ih _ _ _ h _ _ (by omega) (by omega)
        · replace h := h.2 c
          refine r_iconst (pc := 1005) (v := 0) dL_law_1005 (by decide) ?_
          exact h.elim
      by_cases c152_28 : ((xs (ix y4)) &&& 63) = 28
      · replace h := h.2.2.2.2.2.2.2.2.2.2.2.2.2.2.2.2.2.2.2.2.2.2.2.2.2.2.2.2.1 c152_28
        refine r_tableIn (pc := 39) (off := 968) (tgt := 1007) dL_law_39 (by rw [c152_28]; decide) (by rw [c152_28]; decide) (by rw [c152_28]; decide) (by decide) ?_
        refine r_aload_n (pc := 1007) (x := 0) dL_law_1007 rfl ?_
        refine n_Vi0 (pc := 1008) (S0 := []) (spX11_undo h) gmX11_undo selX11_undo lk_RL_145 dL_law_1008 rfl (by decide) sh_0 ⟨rfl, by decide⟩ rfl ⟨Nat.le_of_ble_eq_true rfl, Nat.le_of_ble_eq_true rfl⟩ (Nat.le_of_ble_eq_true rfl) ⟨by show _ ≤ 601024; omega, by show _ ≤ 7293034; omega⟩ (fun r127 s127 h => ?_)
        refine r_aload_n (pc := 1011) (x := 177) dL_law_1011 rfl ?_
        refine n_Vi0 (pc := 1012) (S0 := [.int r127]) (spX12_undo h) gmX12_undo selX12_undo lk_RL_148 dL_law_1012 rfl (by decide) sh_177 ⟨rfl, by decide⟩ rfl ⟨Nat.le_of_ble_eq_true rfl, Nat.le_of_ble_eq_true rfl⟩ (Nat.le_of_ble_eq_true rfl) ⟨by show _ ≤ 601024; omega, by show _ ≤ 7293034; omega⟩ (fun r128 s128 h => ?_)
        refine r_icmp_eq (pc := 1015) (tgt := 1187) dL_law_1015 (by decide) (fun c => ?_) (fun c => ?_)
        · replace h := h.1 c
          refine n_iinc (pc := 1187) (x := y4) (w := 4) (L' := [some (.ref 950), some (.ref 0), some (.ref 177), some (.ref 192), some (.int (y4 + 4)), none, none, none]) dL_law_1187 rfl (by decide) rfl (by decide) rfl ?_
          refine r_goto (pc := 1190) (tgt := 23) dL_law_1190 (by decide) ?_
          refine n_L (L' := [some (.ref 950), some (.ref 0), some (.ref 177), some (.ref 192), some (.int (y4 + 4)), none, none, none]) (le_s (le_s (le_s (le_s (le_s (le_n (le_n (le_n (le_e))))))))) ?_
          exact ih _ _ _ h _ _ (by omega) (by omega)
        · replace h := h.2 c
          refine r_iconst (pc := 1018) (v := 0) dL_law_1018 (by decide) ?_
          exact h.elim
      by_cases c152_29 : ((xs (ix y4)) &&& 63) = 29
      · replace h := h.2.2.2.2.2.2.2.2.2.2.2.2.2.2.2.2.2.2.2.2.2.2.2.2.2.2.2.2.2.1 c152_29
        refine r_tableIn (pc := 39) (off := 981) (tgt := 1020) dL_law_39 (by rw [c152_29]; decide) (by rw [c152_29]; decide) (by rw [c152_29]; decide) (by decide) ?_
        refine r_aload_n (pc := 1020) (x := 0) dL_law_1020 rfl ?_
        refine r_aload_n (pc := 1021) (x := 950) dL_law_1021 rfl ?_
        refine r_iload (pc := 1022) (x := y4) dL_law_1022 rfl ?_
        refine r_iconst (pc := 1024) (v := 1) dL_law_1024 (by decide) ?_
        refine r_iadd (pc := 1025) dL_law_1025 ?_
        obtain ⟨b129, h⟩ := h
        refine n_scd (pc := 1026) dL_law_1026 hsc b129 ?_
        refine r_aload_n (pc := 1027) (x := 950) dL_law_1027 rfl ?_
        refine r_iload (pc := 1028) (x := y4) dL_law_1028 rfl ?_
        refine r_iconst (pc := 1030) (v := 2) dL_law_1030 (by decide) ?_
        refine r_iadd (pc := 1031) dL_law_1031 ?_
        obtain ⟨b130, h⟩ := h
        refine n_scd (pc := 1032) dL_law_1032 hsc b130 ?_
        refine n_Vi0 (pc := 1033) (S0 := []) (spX11_years h) gmX11_years selX11_years lk_RL_149 dL_law_1033 rfl (by decide) sh_0 ⟨rfl, by decide⟩ rfl ⟨Nat.le_of_ble_eq_true rfl, Nat.le_of_ble_eq_true rfl⟩ (Nat.le_of_ble_eq_true rfl) ⟨by show _ ≤ 601024; omega, by show _ ≤ 7293034; omega⟩ (fun r131 s131 h => ?_)
        refine r_aload_n (pc := 1036) (x := 177) dL_law_1036 rfl ?_
        refine r_aload_n (pc := 1037) (x := 950) dL_law_1037 rfl ?_
        refine r_iload (pc := 1038) (x := y4) dL_law_1038 rfl ?_
        refine r_iconst (pc := 1040) (v := 1) dL_law_1040 (by decide) ?_
        refine r_iadd (pc := 1041) dL_law_1041 ?_
        obtain ⟨b132, h⟩ := h
        refine n_scd (pc := 1042) dL_law_1042 hsc b132 ?_
        refine r_aload_n (pc := 1043) (x := 950) dL_law_1043 rfl ?_
        refine r_iload (pc := 1044) (x := y4) dL_law_1044 rfl ?_
        refine r_iconst (pc := 1046) (v := 2) dL_law_1046 (by decide) ?_
        refine r_iadd (pc := 1047) dL_law_1047 ?_
        obtain ⟨b133, h⟩ := h
        refine n_scd (pc := 1048) dL_law_1048 hsc b133 ?_
        refine n_Vi0 (pc := 1049) (S0 := [.int r131]) (spX12_years h) gmX12_years selX12_years lk_RL_152 dL_law_1049 rfl (by decide) sh_177 ⟨rfl, by decide⟩ rfl ⟨Nat.le_of_ble_eq_true rfl, Nat.le_of_ble_eq_true rfl⟩ (Nat.le_of_ble_eq_true rfl) ⟨by show _ ≤ 601024; omega, by show _ ≤ 7293034; omega⟩ (fun r134 s134 h => ?_)
        refine r_icmp_eq (pc := 1052) (tgt := 1187) dL_law_1052 (by decide) (fun c => ?_) (fun c => ?_)
        · replace h := h.1 c
          refine n_iinc (pc := 1187) (x := y4) (w := 4) (L' := [some (.ref 950), some (.ref 0), some (.ref 177), some (.ref 192), some (.int (y4 + 4)), none, none, none]) dL_law_1187 rfl (by decide) rfl (by decide) rfl ?_
          refine r_goto (pc := 1190) (tgt := 23) dL_law_1190 (by decide) ?_
          refine n_L (L' := [some (.ref 950), some (.ref 0), some (.ref 177), some (.ref 192), some (.int (y4 + 4)), none, none, none]) (le_s (le_s (le_s (le_s (le_s (le_n (le_n (le_n (le_e))))))))) ?_
          exact ih _ _ _ h _ _ (by omega) (by omega)
        · replace h := h.2 c
          refine r_iconst (pc := 1055) (v := 0) dL_law_1055 (by decide) ?_
          exact h.elim
      by_cases c152_30 : ((xs (ix y4)) &&& 63) = 30
      · replace h := h.2.2.2.2.2.2.2.2.2.2.2.2.2.2.2.2.2.2.2.2.2.2.2.2.2.2.2.2.2.2.1 c152_30
        refine r_tableIn (pc := 39) (off := 1018) (tgt := 1057) dL_law_39 (by rw [c152_30]; decide) (by rw [c152_30]; decide) (by rw [c152_30]; decide) (by decide) ?_
        refine r_aload_n (pc := 1057) (x := 0) dL_law_1057 rfl ?_
        refine r_aload_n (pc := 1058) (x := 950) dL_law_1058 rfl ?_
        refine r_iload (pc := 1059) (x := y4) dL_law_1059 rfl ?_
        refine r_iconst (pc := 1061) (v := 1) dL_law_1061 (by decide) ?_
        refine r_iadd (pc := 1062) dL_law_1062 ?_
        obtain ⟨b135, h⟩ := h
        refine n_scd (pc := 1063) dL_law_1063 hsc b135 ?_
        refine n_Vi0 (pc := 1064) (S0 := []) (spX11_keep h) gmX11_keep selX11_keep lk_RL_153 dL_law_1064 rfl (by decide) sh_0 ⟨rfl, by decide⟩ rfl ⟨Nat.le_of_ble_eq_true rfl, Nat.le_of_ble_eq_true rfl⟩ (Nat.le_of_ble_eq_true rfl) ⟨by show _ ≤ 601024; omega, by show _ ≤ 7293034; omega⟩ (fun r136 s136 h => ?_)
        refine r_aload_n (pc := 1067) (x := 177) dL_law_1067 rfl ?_
        refine r_aload_n (pc := 1068) (x := 950) dL_law_1068 rfl ?_
        refine r_iload (pc := 1069) (x := y4) dL_law_1069 rfl ?_
        refine r_iconst (pc := 1071) (v := 1) dL_law_1071 (by decide) ?_
        refine r_iadd (pc := 1072) dL_law_1072 ?_
        obtain ⟨b137, h⟩ := h
        refine n_scd (pc := 1073) dL_law_1073 hsc b137 ?_
        refine n_Vi0 (pc := 1074) (S0 := [.int r136]) (spX12_keep h) gmX12_keep selX12_keep lk_RL_156 dL_law_1074 rfl (by decide) sh_177 ⟨rfl, by decide⟩ rfl ⟨Nat.le_of_ble_eq_true rfl, Nat.le_of_ble_eq_true rfl⟩ (Nat.le_of_ble_eq_true rfl) ⟨by show _ ≤ 601024; omega, by show _ ≤ 7293034; omega⟩ (fun r138 s138 h => ?_)
        refine r_icmp_eq (pc := 1077) (tgt := 1187) dL_law_1077 (by decide) (fun c => ?_) (fun c => ?_)
        · replace h := h.1 c
          refine n_iinc (pc := 1187) (x := y4) (w := 4) (L' := [some (.ref 950), some (.ref 0), some (.ref 177), some (.ref 192), some (.int (y4 + 4)), none, none, none]) dL_law_1187 rfl (by decide) rfl (by decide) rfl ?_
          refine r_goto (pc := 1190) (tgt := 23) dL_law_1190 (by decide) ?_
          refine n_L (L' := [some (.ref 950), some (.ref 0), some (.ref 177), some (.ref 192), some (.int (y4 + 4)), none, none, none]) (le_s (le_s (le_s (le_s (le_s (le_n (le_n (le_n (le_e))))))))) ?_
          exact ih _ _ _ h _ _ (by omega) (by omega)
        · replace h := h.2 c
          refine r_iconst (pc := 1080) (v := 0) dL_law_1080 (by decide) ?_
          exact h.elim
      by_cases c152_31 : ((xs (ix y4)) &&& 63) = 31
      · replace h := h.2.2.2.2.2.2.2.2.2.2.2.2.2.2.2.2.2.2.2.2.2.2.2.2.2.2.2.2.2.2.2.1 c152_31
        refine r_tableIn (pc := 39) (off := 1043) (tgt := 1082) dL_law_39 (by rw [c152_31]; decide) (by rw [c152_31]; decide) (by rw [c152_31]; decide) (by decide) ?_
        refine r_aload_n (pc := 1082) (x := 0) dL_law_1082 rfl ?_
        refine r_aload_n (pc := 1083) (x := 950) dL_law_1083 rfl ?_
        refine r_iload (pc := 1084) (x := y4) dL_law_1084 rfl ?_
        refine r_iconst (pc := 1086) (v := 1) dL_law_1086 (by decide) ?_
        refine r_iadd (pc := 1087) dL_law_1087 ?_
        obtain ⟨b139, h⟩ := h
        refine n_scd (pc := 1088) dL_law_1088 hsc b139 ?_
        refine n_Vi0 (pc := 1089) (S0 := []) (spX11_again h) gmX11_again selX11_again lk_RL_157 dL_law_1089 rfl (by decide) sh_0 ⟨rfl, by decide⟩ rfl ⟨Nat.le_of_ble_eq_true rfl, Nat.le_of_ble_eq_true rfl⟩ (Nat.le_of_ble_eq_true rfl) ⟨by show _ ≤ 601024; omega, by show _ ≤ 7293034; omega⟩ (fun r140 s140 h => ?_)
        refine r_aload_n (pc := 1092) (x := 177) dL_law_1092 rfl ?_
        refine r_aload_n (pc := 1093) (x := 950) dL_law_1093 rfl ?_
        refine r_iload (pc := 1094) (x := y4) dL_law_1094 rfl ?_
        refine r_iconst (pc := 1096) (v := 1) dL_law_1096 (by decide) ?_
        refine r_iadd (pc := 1097) dL_law_1097 ?_
        obtain ⟨b141, h⟩ := h
        refine n_scd (pc := 1098) dL_law_1098 hsc b141 ?_
        refine n_Vi0 (pc := 1099) (S0 := [.int r140]) (spX12_again h) gmX12_again selX12_again lk_RL_160 dL_law_1099 rfl (by decide) sh_177 ⟨rfl, by decide⟩ rfl ⟨Nat.le_of_ble_eq_true rfl, Nat.le_of_ble_eq_true rfl⟩ (Nat.le_of_ble_eq_true rfl) ⟨by show _ ≤ 601024; omega, by show _ ≤ 7293034; omega⟩ (fun r142 s142 h => ?_)
        refine r_icmp_eq (pc := 1102) (tgt := 1187) dL_law_1102 (by decide) (fun c => ?_) (fun c => ?_)
        · replace h := h.1 c
          refine n_iinc (pc := 1187) (x := y4) (w := 4) (L' := [some (.ref 950), some (.ref 0), some (.ref 177), some (.ref 192), some (.int (y4 + 4)), none, none, none]) dL_law_1187 rfl (by decide) rfl (by decide) rfl ?_
          refine r_goto (pc := 1190) (tgt := 23) dL_law_1190 (by decide) ?_
          refine n_L (L' := [some (.ref 950), some (.ref 0), some (.ref 177), some (.ref 192), some (.int (y4 + 4)), none, none, none]) (le_s (le_s (le_s (le_s (le_s (le_n (le_n (le_n (le_e))))))))) ?_
          exact ih _ _ _ h _ _ (by omega) (by omega)
        · replace h := h.2 c
          refine r_iconst (pc := 1105) (v := 0) dL_law_1105 (by decide) ?_
          exact h.elim
      by_cases c152_32 : ((xs (ix y4)) &&& 63) = 32
      · replace h := h.2.2.2.2.2.2.2.2.2.2.2.2.2.2.2.2.2.2.2.2.2.2.2.2.2.2.2.2.2.2.2.2.1 c152_32
        refine r_tableIn (pc := 39) (off := 1068) (tgt := 1107) dL_law_39 (by rw [c152_32]; decide) (by rw [c152_32]; decide) (by rw [c152_32]; decide) (by decide) ?_
        refine r_aload_n (pc := 1107) (x := 0) dL_law_1107 rfl ?_
        refine r_aload_n (pc := 1108) (x := 950) dL_law_1108 rfl ?_
        refine r_iload (pc := 1109) (x := y4) dL_law_1109 rfl ?_
        refine r_iconst (pc := 1111) (v := 1) dL_law_1111 (by decide) ?_
        refine r_iadd (pc := 1112) dL_law_1112 ?_
        obtain ⟨b143, h⟩ := h
        refine n_scd (pc := 1113) dL_law_1113 hsc b143 ?_
        refine n_Vi0 (pc := 1114) (S0 := []) (spX11_count h) gmX11_count selX11_count lk_RL_161 dL_law_1114 rfl (by decide) sh_0 ⟨rfl, by decide⟩ rfl ⟨Nat.le_of_ble_eq_true rfl, Nat.le_of_ble_eq_true rfl⟩ (Nat.le_of_ble_eq_true rfl) ⟨by show _ ≤ 601024; omega, by show _ ≤ 7293034; omega⟩ (fun r144 s144 h => ?_)
        refine r_aload_n (pc := 1117) (x := 177) dL_law_1117 rfl ?_
        refine r_aload_n (pc := 1118) (x := 950) dL_law_1118 rfl ?_
        refine r_iload (pc := 1119) (x := y4) dL_law_1119 rfl ?_
        refine r_iconst (pc := 1121) (v := 1) dL_law_1121 (by decide) ?_
        refine r_iadd (pc := 1122) dL_law_1122 ?_
        obtain ⟨b145, h⟩ := h
        refine n_scd (pc := 1123) dL_law_1123 hsc b145 ?_
        refine n_Vi0 (pc := 1124) (S0 := [.int r144]) (spX12_count h) gmX12_count selX12_count lk_RL_164 dL_law_1124 rfl (by decide) sh_177 ⟨rfl, by decide⟩ rfl ⟨Nat.le_of_ble_eq_true rfl, Nat.le_of_ble_eq_true rfl⟩ (Nat.le_of_ble_eq_true rfl) ⟨by show _ ≤ 601024; omega, by show _ ≤ 7293034; omega⟩ (fun r146 s146 h => ?_)
        refine r_icmp_eq (pc := 1127) (tgt := 1187) dL_law_1127 (by decide) (fun c => ?_) (fun c => ?_)
        · replace h := h.1 c
          refine n_iinc (pc := 1187) (x := y4) (w := 4) (L' := [some (.ref 950), some (.ref 0), some (.ref 177), some (.ref 192), some (.int (y4 + 4)), none, none, none]) dL_law_1187 rfl (by decide) rfl (by decide) rfl ?_
          refine r_goto (pc := 1190) (tgt := 23) dL_law_1190 (by decide) ?_
          refine n_L (L' := [some (.ref 950), some (.ref 0), some (.ref 177), some (.ref 192), some (.int (y4 + 4)), none, none, none]) (le_s (le_s (le_s (le_s (le_s (le_n (le_n (le_n (le_e))))))))) ?_
          exact ih _ _ _ h _ _ (by omega) (by omega)
        · replace h := h.2 c
          refine r_iconst (pc := 1130) (v := 0) dL_law_1130 (by decide) ?_
          exact h.elim
      by_cases c152_33 : ((xs (ix y4)) &&& 63) = 33
      · replace h := h.2.2.2.2.2.2.2.2.2.2.2.2.2.2.2.2.2.2.2.2.2.2.2.2.2.2.2.2.2.2.2.2.2.1 c152_33
        refine r_tableIn (pc := 39) (off := 1093) (tgt := 1132) dL_law_39 (by rw [c152_33]; decide) (by rw [c152_33]; decide) (by rw [c152_33]; decide) (by decide) ?_
        refine r_aload_n (pc := 1132) (x := 0) dL_law_1132 rfl ?_
        refine r_aload_n (pc := 1133) (x := 950) dL_law_1133 rfl ?_
        refine r_iload (pc := 1134) (x := y4) dL_law_1134 rfl ?_
        refine r_iconst (pc := 1136) (v := 1) dL_law_1136 (by decide) ?_
        refine r_iadd (pc := 1137) dL_law_1137 ?_
        obtain ⟨b147, h⟩ := h
        refine n_scd (pc := 1138) dL_law_1138 hsc b147 ?_
        refine r_aload_n (pc := 1139) (x := 192) dL_law_1139 rfl ?_
        obtain ⟨g148a, g148b, hg148, h⟩ := h
        refine n_SiH (pc := 1140) (S0 := []) (spL_row hst h) gmL_row lk_RL_165 dL_law_1140 rfl rfl ⟨Nat.le_of_ble_eq_true rfl, Nat.le_of_ble_eq_true rfl⟩ (Nat.le_of_ble_eq_true rfl) ⟨by show _ ≤ 601024; omega, by show _ ≤ 7293034; omega⟩ (fun r148 s148 h => ?_)
        refine r_istore (pc := 1143) (L' := [some (.ref 950), some (.ref 0), some (.ref 177), some (.ref 192), some (.int y4), some (.int r148), none, none]) dL_law_1143 rfl (by decide) rfl ?_
        refine r_aload_n (pc := 1145) (x := 177) dL_law_1145 rfl ?_
        refine r_aload_n (pc := 1146) (x := 950) dL_law_1146 rfl ?_
        refine r_iload (pc := 1147) (x := y4) dL_law_1147 rfl ?_
        refine r_iconst (pc := 1149) (v := 1) dL_law_1149 (by decide) ?_
        refine r_iadd (pc := 1150) dL_law_1150 ?_
        obtain ⟨b149, h⟩ := h
        refine n_scd (pc := 1151) dL_law_1151 hsc b149 ?_
        refine n_Vl0 (pc := 1152) (S0 := []) (spX12_row h) gmX12_row selX12_row lk_RL_168 dL_law_1152 rfl (by decide) sh_177 ⟨rfl, by decide⟩ rfl ⟨Nat.le_of_ble_eq_true rfl, Nat.le_of_ble_eq_true rfl⟩ (Nat.le_of_ble_eq_true rfl) ⟨by show _ ≤ 601024; omega, by show _ ≤ 7293034; omega⟩ (fun r150 s150 h => ?_)
        refine r_lstore (pc := 1155) (L' := [some (.ref 950), some (.ref 0), some (.ref 177), some (.ref 192), some (.int y4), some (.int r148), some (.long r150), none]) dL_law_1155 rfl (by decide) rfl ?_
        refine r_aload_n (pc := 1157) (x := 177) dL_law_1157 rfl ?_
        refine n_Vi0 (pc := 1158) (S0 := []) (spX12_thrown h) gmX12_thrown selX12_thrown lk_RL_64 dL_law_1158 rfl (by decide) sh_177 ⟨rfl, by decide⟩ rfl ⟨Nat.le_of_ble_eq_true rfl, Nat.le_of_ble_eq_true rfl⟩ (Nat.le_of_ble_eq_true rfl) ⟨by show _ ≤ 601024; omega, by show _ ≤ 7293034; omega⟩ (fun r151 s151 h => ?_)
        refine r_iload (pc := 1161) (x := r148) dL_law_1161 rfl ?_
        refine r_icmp_eq (pc := 1163) (tgt := 1168) dL_law_1163 (by decide) (fun c => ?_) (fun c => ?_)
        · replace h := h.1 c
          refine r_iload (pc := 1168) (x := r148) dL_law_1168 rfl ?_
          refine r_if_ne (pc := 1170) (tgt := 1184) dL_law_1170 (by decide) (fun c => ?_) (fun c => ?_)
          · replace h := h.1 c
            refine r_goto (pc := 1184) (tgt := 1187) dL_law_1184 (by decide) ?_
            refine n_iinc (pc := 1187) (x := y4) (w := 4) (L' := [some (.ref 950), some (.ref 0), some (.ref 177), some (.ref 192), some (.int (y4 + 4)), some (.int r148), some (.long r150), none]) dL_law_1187 rfl (by decide) rfl (by decide) rfl ?_
            refine r_goto (pc := 1190) (tgt := 23) dL_law_1190 (by decide) ?_
            refine n_L (L' := [some (.ref 950), some (.ref 0), some (.ref 177), some (.ref 192), some (.int (y4 + 4)), none, none, none]) (le_s (le_s (le_s (le_s (le_s (le_n (le_n (le_n (le_e))))))))) ?_
            exact ih _ _ _ h _ _ (by omega) (by omega)
          · replace h := h.2 c
            refine r_aload_n (pc := 1173) (x := 192) dL_law_1173 rfl ?_
            refine r_iconst (pc := 1174) (v := 0) dL_law_1174 (by decide) ?_
            refine n_lald (pc := 1175) (j := 0) dL_law_1175 (by decide) sh_192 (vp_inc (by decide)) (by decide) ?_
            refine r_lload (pc := 1176) (x := r150) dL_law_1176 rfl ?_
            refine n_lcmp (pc := 1178) dL_law_1178 ?_
            refine r_if_eq (pc := 1179) (tgt := 1184) dL_law_1179 (by decide) (fun c => ?_) (fun c => ?_)
            · replace h := h.1 c
              refine r_goto (pc := 1184) (tgt := 1187) dL_law_1184 (by decide) ?_
              refine n_iinc (pc := 1187) (x := y4) (w := 4) (L' := [some (.ref 950), some (.ref 0), some (.ref 177), some (.ref 192), some (.int (y4 + 4)), some (.int r148), some (.long r150), none]) dL_law_1187 rfl (by decide) rfl (by decide) rfl ?_
              refine r_goto (pc := 1190) (tgt := 23) dL_law_1190 (by decide) ?_
              refine n_L (L' := [some (.ref 950), some (.ref 0), some (.ref 177), some (.ref 192), some (.int (y4 + 4)), none, none, none]) (le_s (le_s (le_s (le_s (le_s (le_n (le_n (le_n (le_e))))))))) ?_
              exact ih _ _ _ h _ _ (by omega) (by omega)
            · replace h := h.2 c
              refine r_iconst (pc := 1182) (v := 0) dL_law_1182 (by decide) ?_
              exact h.elim
        · replace h := h.2 c
          refine r_iconst (pc := 1166) (v := 0) dL_law_1166 (by decide) ?_
          exact h.elim
      replace h := h.2.2.2.2.2.2.2.2.2.2.2.2.2.2.2.2.2.2.2.2.2.2.2.2.2.2.2.2.2.2.2.2.2.2 c152_0 c152_1 c152_2 c152_3 c152_4 c152_5 c152_6 c152_7 c152_8 c152_9 c152_10 c152_11 c152_12 c152_13 c152_14 c152_15 c152_16 c152_17 c152_18 c152_19 c152_20 c152_21 c152_22 c152_23 c152_24 c152_25 c152_26 c152_27 c152_28 c152_29 c152_30 c152_31 c152_32 c152_33
      refine r_tableOut (pc := 39) (tgt := 1187) dL_law_39 (by have e0 := lv_neT c152_0 (show (0 : Int32).toInt = 0 by decide); have e1 := lv_neT c152_1 (show (1 : Int32).toInt = 1 by decide); have e2 := lv_neT c152_2 (show (2 : Int32).toInt = 2 by decide); have e3 := lv_neT c152_3 (show (3 : Int32).toInt = 3 by decide); have e4 := lv_neT c152_4 (show (4 : Int32).toInt = 4 by decide); have e5 := lv_neT c152_5 (show (5 : Int32).toInt = 5 by decide); have e6 := lv_neT c152_6 (show (6 : Int32).toInt = 6 by decide); have e7 := lv_neT c152_7 (show (7 : Int32).toInt = 7 by decide); have e8 := lv_neT c152_8 (show (8 : Int32).toInt = 8 by decide); have e9 := lv_neT c152_9 (show (9 : Int32).toInt = 9 by decide); have e10 := lv_neT c152_10 (show (10 : Int32).toInt = 10 by decide); have e11 := lv_neT c152_11 (show (11 : Int32).toInt = 11 by decide); have e12 := lv_neT c152_12 (show (12 : Int32).toInt = 12 by decide); have e13 := lv_neT c152_13 (show (13 : Int32).toInt = 13 by decide); have e14 := lv_neT c152_14 (show (14 : Int32).toInt = 14 by decide); have e15 := lv_neT c152_15 (show (15 : Int32).toInt = 15 by decide); have e16 := lv_neT c152_16 (show (16 : Int32).toInt = 16 by decide); have e17 := lv_neT c152_17 (show (17 : Int32).toInt = 17 by decide); have e18 := lv_neT c152_18 (show (18 : Int32).toInt = 18 by decide); have e19 := lv_neT c152_19 (show (19 : Int32).toInt = 19 by decide); have e20 := lv_neT c152_20 (show (20 : Int32).toInt = 20 by decide); have e21 := lv_neT c152_21 (show (21 : Int32).toInt = 21 by decide); have e22 := lv_neT c152_22 (show (22 : Int32).toInt = 22 by decide); have e23 := lv_neT c152_23 (show (23 : Int32).toInt = 23 by decide); have e24 := lv_neT c152_24 (show (24 : Int32).toInt = 24 by decide); have e25 := lv_neT c152_25 (show (25 : Int32).toInt = 25 by decide); have e26 := lv_neT c152_26 (show (26 : Int32).toInt = 26 by decide); have e27 := lv_neT c152_27 (show (27 : Int32).toInt = 27 by decide); have e28 := lv_neT c152_28 (show (28 : Int32).toInt = 28 by decide); have e29 := lv_neT c152_29 (show (29 : Int32).toInt = 29 by decide); have e30 := lv_neT c152_30 (show (30 : Int32).toInt = 30 by decide); have e31 := lv_neT c152_31 (show (31 : Int32).toInt = 31 by decide); have e32 := lv_neT c152_32 (show (32 : Int32).toInt = 32 by decide); have e33 := lv_neT c152_33 (show (33 : Int32).toInt = 33 by decide); omega) (by decide) ?_
      refine n_iinc (pc := 1187) (x := y4) (w := 4) (L' := [some (.ref 950), some (.ref 0), some (.ref 177), some (.ref 192), some (.int (y4 + 4)), none, none, none]) dL_law_1187 rfl (by decide) rfl (by decide) rfl ?_
      refine r_goto (pc := 1190) (tgt := 23) dL_law_1190 (by decide) ?_
      refine n_L (L' := [some (.ref 950), some (.ref 0), some (.ref 177), some (.ref 192), some (.int (y4 + 4)), none, none, none]) (le_s (le_s (le_s (le_s (le_s (le_n (le_n (le_n (le_e))))))))) ?_
      exact ih _ _ _ h _ _ (by omega) (by omega)
