def wpX11_sign (x1 : Int32) (s : gS) (Q : Int32 → gS → Prop) : Prop := wpX9_append x1 s (fun r1 s1 => Q r1 s1)
set_option maxRecDepth 20000 in
theorem spX11_sign {l : Launch} {x1 : Int32}  {s : gS} {Q : Int32 → gS → Prop} (h : wpX11_sign x1 s Q) : Ct l mX11_sign 2 0 0 [.ref 0, .int x1] (nrm s) (q_i Q) := by
  refine Ct.of (by decide) (Nat.le_of_ble_eq_true rfl) (fun X => ?_)
  refine n_L (L' := [some (.ref 0), some (.int x1)]) (le_s (le_s (le_e))) ?_
  refine r_aload_n (pc := 0) (x := 0) dX11_sign_0 rfl ?_
  refine n_getR (pc := 1) (j := 0) (q := 1) dX11_sign_1 fl_RX11_10 (by decide) sh_0 rfl rfl rfl ?_
  refine r_iload_n (pc := 4) (x := x1) dX11_sign_4 rfl ?_
  refine n_Vi0 (pc := 5) (S0 := []) (spX9_append h) gmX9_append selX9_append lk_RX11_88 dX11_sign_5 rfl (by decide) sh_1 ⟨rfl, by decide⟩ rfl ⟨Nat.le_of_ble_eq_true rfl, Nat.le_of_ble_eq_true rfl⟩ (Nat.le_of_ble_eq_true rfl) ⟨Nat.zero_le _, Nat.zero_le _⟩ (fun r1 s1 h => ?_)
  exact n_iret (pc := 8) dX11_sign_8 rfl (Nat.le_refl _) (Nat.le_refl _) h
def wpX11_end (x1 : Int32) (s : gS) (Q : Int32 → gS → Prop) : Prop := wpX9_cut x1 s (fun r1 s1 => (r1 = 0 ∨ r1 = 1) ∧ (Q r1 s1))
set_option maxRecDepth 20000 in
theorem spX11_end {l : Launch} {x1 : Int32}  {s : gS} {Q : Int32 → gS → Prop} (h : wpX11_end x1 s Q) : Ct l mX11_end 2 0 0 [.ref 0, .int x1] (nrm s) (q_i Q) := by
  refine Ct.of (by decide) (Nat.le_of_ble_eq_true rfl) (fun X => ?_)
  refine n_L (L' := [some (.ref 0), some (.int x1)]) (le_s (le_s (le_e))) ?_
  refine r_aload_n (pc := 0) (x := 0) dX11_end_0 rfl ?_
  refine n_getR (pc := 1) (j := 0) (q := 1) dX11_end_1 fl_RX11_10 (by decide) sh_0 rfl rfl rfl ?_
  refine r_iload_n (pc := 4) (x := x1) dX11_end_4 rfl ?_
  refine n_Vi0 (pc := 5) (S0 := []) (spX9_cut h) gmX9_cut selX9_cut lk_RX11_92 dX11_end_5 rfl (by decide) sh_1 ⟨rfl, by decide⟩ rfl ⟨Nat.le_of_ble_eq_true rfl, Nat.le_of_ble_eq_true rfl⟩ (Nat.le_of_ble_eq_true rfl) ⟨Nat.zero_le _, Nat.zero_le _⟩ (fun r1 s1 h => ?_)
  obtain ⟨b2, h⟩ := h
  exact n_zret (pc := 8) dX11_end_8 rfl b2 (Nat.le_refl _) (Nat.le_refl _) h
def wpX11_saveBefore  (s : gS) (Q : gS → Prop) : Prop := wpX8_save 20 24 s (fun s1 => Q s1)
set_option maxRecDepth 20000 in
theorem spX11_saveBefore {l : Launch}   {s : gS} {Q : gS → Prop} (h : wpX11_saveBefore  s Q) : Ct l mX11_saveBefore 3 0 0 [.ref 0] (nrm s) (q_v Q) := by
  refine Ct.of (by decide) (Nat.le_of_ble_eq_true rfl) (fun X => ?_)
  refine n_L (L' := [some (.ref 0)]) (le_s (le_e)) ?_
  refine r_aload_n (pc := 0) (x := 0) dX11_saveBefore_0 rfl ?_
  refine n_getR (pc := 1) (j := 4) (q := 20) dX11_saveBefore_1 fl_RX11_40 (by decide) sh_0 rfl rfl rfl ?_
  refine r_aload_n (pc := 4) (x := 0) dX11_saveBefore_4 rfl ?_
  refine n_getR (pc := 5) (j := 6) (q := 24) dX11_saveBefore_5 fl_RX11_47 (by decide) sh_0 rfl rfl rfl ?_
  refine n_Vv0 (pc := 8) (S0 := []) (spX8_save isSt_20 (by unfold isA170; decide) h) gmX8_save selX8_save lk_RX11_321 dX11_saveBefore_8 rfl (by decide) sh_20 ⟨rfl, by decide⟩ rfl ⟨Nat.le_of_ble_eq_true rfl, Nat.le_of_ble_eq_true rfl⟩ (Nat.le_of_ble_eq_true rfl) ⟨Nat.zero_le _, Nat.zero_le _⟩ (fun s1 h => ?_)
  exact n_vret (pc := 11) dX11_saveBefore_11 rfl (Nat.le_refl _) (Nat.le_refl _) h
def wpX11_recorded (x1 : Int32) (s : gS) (Q : Int32 → gS → Prop) : Prop := (x1 < 0 → Q x1 s) ∧ (¬ (x1 < 0) → wpX3_push 24 s (fun s1 => Q x1 (wi s1 0 13 0)))
set_option maxRecDepth 20000 in
theorem spX11_recorded {l : Launch} {x1 : Int32}  {s : gS} {Q : Int32 → gS → Prop} (h : wpX11_recorded x1 s Q) : Ct l mX11_recorded 3 0 0 [.ref 0, .int x1] (nrm s) (q_i Q) := by
  refine Ct.of (by decide) (Nat.le_of_ble_eq_true rfl) (fun X => ?_)
  refine n_L (L' := [some (.ref 0), some (.int x1)]) (le_s (le_s (le_e))) ?_
  refine r_iload_n (pc := 0) (x := x1) dX11_recorded_0 rfl ?_
  refine r_if_lt (pc := 1) (tgt := 20) dX11_recorded_1 (by decide) (fun c => ?_) (fun c => ?_)
  · replace h := h.1 c
    refine r_iload_n (pc := 20) (x := x1) dX11_recorded_20 rfl ?_
    exact n_iret (pc := 21) dX11_recorded_21 rfl (Nat.le_refl _) (Nat.le_refl _) h
  · replace h := h.2 c
    refine r_aload_n (pc := 4) (x := 0) dX11_recorded_4 rfl ?_
    refine n_getR (pc := 5) (j := 7) (q := 25) dX11_recorded_5 fl_RX11_54 (by decide) sh_0 rfl rfl rfl ?_
    refine r_aload_n (pc := 8) (x := 0) dX11_recorded_8 rfl ?_
    refine n_getR (pc := 9) (j := 6) (q := 24) dX11_recorded_9 fl_RX11_47 (by decide) sh_0 rfl rfl rfl ?_
    refine n_Vv0 (pc := 12) (S0 := []) (spX3_push (by unfold isA170; decide) h) gmX3_push selX3_push lk_RX11_345 dX11_recorded_12 rfl (by decide) sh_25 ⟨rfl, by decide⟩ rfl ⟨Nat.le_of_ble_eq_true rfl, Nat.le_of_ble_eq_true rfl⟩ (Nat.le_of_ble_eq_true rfl) ⟨Nat.zero_le _, Nat.zero_le _⟩ (fun s1 h => ?_)
    refine r_aload_n (pc := 15) (x := 0) dX11_recorded_15 rfl ?_
    refine r_iconst (pc := 16) (v := 0) dX11_recorded_16 (by decide) ?_
    refine n_putZ (pc := 17) (j := 13) dX11_recorded_17 fl_RX11_84 fw_11_13 (by decide) sh_0 rfl rfl (by decide) ?_
    refine r_iload_n (pc := 20) (x := x1) dX11_recorded_20 rfl ?_
    exact n_iret (pc := 21) dX11_recorded_21 rfl (Nat.le_refl _) (Nat.le_refl _) h
def wX11_tells_184 (x1 : Int32) (x2 : Int32) (Q : Int32 → gS → Prop)  (y4 : Int32) (s : gS) : Prop := wpX11_recorded y4 s (fun r5 s5 => Q r5 s5)
set_option maxRecDepth 20000 in
theorem pX11_tells_184 {l : Launch} {X : gX} {x1 : Int32} {x2 : Int32}  {Q : Int32 → gS → Prop}  (y4 : Int32) (s : gS) (h : wX11_tells_184 x1 x2 Q y4 s)  : Gw l mX11_tells (g_rm 8 0 0) X 184 [some (.ref 0), none, none, none, some (.int y4)] [] (nrm s) 0 0 (g_Z X (q_i Q) 0 0) := by
  refine r_aload_n (pc := 184) (x := 0) dX11_tells_184 rfl ?_
  refine r_iload (pc := 185) (x := y4) dX11_tells_185 rfl ?_
  refine n_Vi0 (pc := 187) (S0 := []) (spX11_recorded h) gmX11_recorded selX11_recorded lk_RX11_142 dX11_tells_187 rfl (by decide) sh_0 ⟨rfl, by decide⟩ rfl ⟨Nat.le_of_ble_eq_true rfl, Nat.le_of_ble_eq_true rfl⟩ (Nat.le_of_ble_eq_true rfl) ⟨Nat.zero_le _, Nat.zero_le _⟩ (fun r5 s5 h => ?_)
  exact n_iret (pc := 190) dX11_tells_190 rfl (Nat.le_refl _) (Nat.le_refl _) h
def wX11_tells_92 (x1 : Int32) (x2 : Int32) (Q : Int32 → gS → Prop)  : Nat → Int32 → gS → Prop
  | 0, _, _ => False
  | n + 1, y4, s => (6 ≤ y4 → wpX2_answer s (fun r9 s9 => (r9 ≤ 0 → wX11_tells_184 x1 x2 Q r9 s9) ∧ (¬ (r9 ≤ 0) → wpX11_saveBefore s9 (fun s10 => wpX8_tell 20 x1 10 s10 (fun s11 => wX11_tells_184 x1 x2 Q r9 s11))))) ∧ (¬ (6 ≤ y4) → wpX8_isIn 20 x2 y4 s (fun r12 s12 => (r12 = 0 → wX11_tells_92 x1 x2 Q n (y4 + 1) s12) ∧ (¬ (r12 = 0) → wpX8_value 20 x2 y4 0 s12 (fun r13 s13 => wpX8_value 20 x2 y4 3 s13 (fun r14 s14 => wpX2_gather r13 r14 s14 (fun s15 => wX11_tells_92 x1 x2 Q n (y4 + 1) s15))))))
set_option maxRecDepth 20000 in
theorem pX11_tells_92 {l : Launch} {X : gX} {x1 : Int32} {x2 : Int32}  {Q : Int32 → gS → Prop}  : ∀ (n : Nat) (y4 : Int32) (s : gS) (h : wX11_tells_92 x1 x2 Q n y4 s) , Gw l mX11_tells (g_rm 8 0 0) X 92 [some (.ref 0), some (.int x1), some (.int x2), none, some (.int y4)] [] (nrm s) 0 0 (g_Z X (q_i Q) 0 0) := by
  intro n
  induction n with
  | zero => intro y4 s h; exact h.elim
  | succ n ih0 =>
    intro y4 s h 
    have ih : ∀ (y4 : Int32) (s : gS), wX11_tells_92 x1 x2 Q n y4 s → Gw l mX11_tells (g_rm 8 0 0) X 92 [some (.ref 0), some (.int x1), some (.int x2), none, some (.int y4)] [] (nrm s) 0 0 (g_Z X (q_i Q) 0 0) := fun y4 s h => ih0 y4 s h 
    refine r_iload (pc := 92) (x := y4) dX11_tells_92 rfl ?_
    refine r_bipush (pc := 94) (v := 6) dX11_tells_94 (by decide) ?_
    refine r_icmp_ge (pc := 96) (tgt := 151) dX11_tells_96 (by decide) (fun c => ?_) (fun c => ?_)
    · replace h := h.1 c
      refine r_aload_n (pc := 151) (x := 0) dX11_tells_151 rfl ?_
      refine n_getR (pc := 152) (j := 2) (q := 9) dX11_tells_152 fl_RX11_26 (by decide) sh_0 rfl rfl rfl ?_
      refine n_Vi0 (pc := 155) (S0 := []) (spX2_answer h) gmX2_answer selX2_answer lk_RX11_128 dX11_tells_155 rfl (by decide) sh_9 ⟨rfl, by decide⟩ rfl ⟨Nat.le_of_ble_eq_true rfl, Nat.le_of_ble_eq_true rfl⟩ (Nat.le_of_ble_eq_true rfl) ⟨Nat.zero_le _, Nat.zero_le _⟩ (fun r9 s9 h => ?_)
      refine r_istore (pc := 158) (L' := [some (.ref 0), some (.int x1), some (.int x2), none, some (.int r9)]) dX11_tells_158 rfl (by decide) rfl ?_
      refine r_iload (pc := 160) (x := r9) dX11_tells_160 rfl ?_
      refine r_if_le (pc := 162) (tgt := 184) dX11_tells_162 (by decide) (fun c => ?_) (fun c => ?_)
      · replace h := h.1 c
        refine n_L (L' := [some (.ref 0), none, none, none, some (.int r9)]) (le_s (le_n (le_n (le_n (le_s (le_e)))))) ?_
        exact pX11_tells_184  _ _ h 
      · replace h := h.2 c
        refine r_aload_n (pc := 165) (x := 0) dX11_tells_165 rfl ?_
        refine n_Vv0 (pc := 166) (S0 := []) (spX11_saveBefore h) gmX11_saveBefore selX11_saveBefore lk_RX11_131 dX11_tells_166 rfl (by decide) sh_0 ⟨rfl, by decide⟩ rfl ⟨Nat.le_of_ble_eq_true rfl, Nat.le_of_ble_eq_true rfl⟩ (Nat.le_of_ble_eq_true rfl) ⟨Nat.zero_le _, Nat.zero_le _⟩ (fun s10 h => ?_)
        refine r_aload_n (pc := 169) (x := 0) dX11_tells_169 rfl ?_
        refine n_getR (pc := 170) (j := 4) (q := 20) dX11_tells_170 fl_RX11_40 (by decide) sh_0 rfl rfl rfl ?_
        refine r_iload_n (pc := 173) (x := x1) dX11_tells_173 rfl ?_
        refine r_aload_n (pc := 174) (x := 0) dX11_tells_174 rfl ?_
        refine n_getR (pc := 175) (j := 2) (q := 9) dX11_tells_175 fl_RX11_26 (by decide) sh_0 rfl rfl rfl ?_
        refine n_getR (pc := 178) (j := 0) (q := 10) dX11_tells_178 fl_RX11_134 (by decide) sh_9 rfl rfl rfl ?_
        refine n_Vv0 (pc := 181) (S0 := []) (spX8_tell isSt_20 isRd_10 h) gmX8_tell selX8_tell lk_RX11_138 dX11_tells_181 rfl (by decide) sh_20 ⟨rfl, by decide⟩ rfl ⟨Nat.le_of_ble_eq_true rfl, Nat.le_of_ble_eq_true rfl⟩ (Nat.le_of_ble_eq_true rfl) ⟨Nat.zero_le _, Nat.zero_le _⟩ (fun s11 h => ?_)
        refine n_L (L' := [some (.ref 0), none, none, none, some (.int r9)]) (le_s (le_n (le_n (le_n (le_s (le_e)))))) ?_
        exact pX11_tells_184  _ _ h 
    · replace h := h.2 c
      refine r_aload_n (pc := 99) (x := 0) dX11_tells_99 rfl ?_
      refine n_getR (pc := 100) (j := 4) (q := 20) dX11_tells_100 fl_RX11_40 (by decide) sh_0 rfl rfl rfl ?_
      refine r_iload_n (pc := 103) (x := x2) dX11_tells_103 rfl ?_
      refine r_iload (pc := 104) (x := y4) dX11_tells_104 rfl ?_
      refine n_Vi0 (pc := 106) (S0 := []) (spX8_isIn isSt_20 h) gmX8_isIn selX8_isIn lk_RX11_120 dX11_tells_106 rfl (by decide) sh_20 ⟨rfl, by decide⟩ rfl ⟨Nat.le_of_ble_eq_true rfl, Nat.le_of_ble_eq_true rfl⟩ (Nat.le_of_ble_eq_true rfl) ⟨Nat.zero_le _, Nat.zero_le _⟩ (fun r12 s12 h => ?_)
      refine r_if_eq (pc := 109) (tgt := 145) dX11_tells_109 (by decide) (fun c => ?_) (fun c => ?_)
      · replace h := h.1 c
        refine n_iinc (pc := 145) (x := y4) (w := 1) (L' := [some (.ref 0), some (.int x1), some (.int x2), none, some (.int (y4 + 1))]) dX11_tells_145 rfl (by decide) rfl (by decide) rfl ?_
        refine r_goto (pc := 148) (tgt := 92) dX11_tells_148 (by decide) ?_
        refine n_L (L' := [some (.ref 0), some (.int x1), some (.int x2), none, some (.int (y4 + 1))]) (le_s (le_s (le_s (le_n (le_s (le_e)))))) ?_
        exact ih _ _ h
      · replace h := h.2 c
        refine r_aload_n (pc := 112) (x := 0) dX11_tells_112 rfl ?_
        refine n_getR (pc := 113) (j := 2) (q := 9) dX11_tells_113 fl_RX11_26 (by decide) sh_0 rfl rfl rfl ?_
        refine r_aload_n (pc := 116) (x := 0) dX11_tells_116 rfl ?_
        refine n_getR (pc := 117) (j := 1) (q := 3) dX11_tells_117 fl_RX11_19 (by decide) sh_0 rfl rfl rfl ?_
        refine r_aload_n (pc := 120) (x := 0) dX11_tells_120 rfl ?_
        refine n_getR (pc := 121) (j := 4) (q := 20) dX11_tells_121 fl_RX11_40 (by decide) sh_0 rfl rfl rfl ?_
        refine r_iload_n (pc := 124) (x := x2) dX11_tells_124 rfl ?_
        refine r_iload (pc := 125) (x := y4) dX11_tells_125 rfl ?_
        refine r_iconst (pc := 127) (v := 0) dX11_tells_127 (by decide) ?_
        refine n_Vi0 (pc := 128) (S0 := [.ref 3, .ref 9]) (spX8_value isSt_20 h) gmX8_value selX8_value lk_RX11_124 dX11_tells_128 rfl (by decide) sh_20 ⟨rfl, by decide⟩ rfl ⟨Nat.le_of_ble_eq_true rfl, Nat.le_of_ble_eq_true rfl⟩ (Nat.le_of_ble_eq_true rfl) ⟨Nat.zero_le _, Nat.zero_le _⟩ (fun r13 s13 h => ?_)
        refine r_aload_n (pc := 131) (x := 0) dX11_tells_131 rfl ?_
        refine n_getR (pc := 132) (j := 4) (q := 20) dX11_tells_132 fl_RX11_40 (by decide) sh_0 rfl rfl rfl ?_
        refine r_iload_n (pc := 135) (x := x2) dX11_tells_135 rfl ?_
        refine r_iload (pc := 136) (x := y4) dX11_tells_136 rfl ?_
        refine r_iconst (pc := 138) (v := 3) dX11_tells_138 (by decide) ?_
        refine n_Vi0 (pc := 139) (S0 := [.int r13, .ref 3, .ref 9]) (spX8_value isSt_20 h) gmX8_value selX8_value lk_RX11_124 dX11_tells_139 rfl (by decide) sh_20 ⟨rfl, by decide⟩ rfl ⟨Nat.le_of_ble_eq_true rfl, Nat.le_of_ble_eq_true rfl⟩ (Nat.le_of_ble_eq_true rfl) ⟨Nat.zero_le _, Nat.zero_le _⟩ (fun r14 s14 h => ?_)
        refine n_Vv0 (pc := 142) (S0 := []) (spX2_gather h) gmX2_gather selX2_gather lk_RX11_116 dX11_tells_142 rfl (by decide) sh_9 ⟨rfl, by decide⟩ rfl ⟨Nat.le_of_ble_eq_true rfl, Nat.le_of_ble_eq_true rfl⟩ (Nat.le_of_ble_eq_true rfl) ⟨Nat.zero_le _, Nat.zero_le _⟩ (fun s15 h => ?_)
        refine n_iinc (pc := 145) (x := y4) (w := 1) (L' := [some (.ref 0), some (.int x1), some (.int x2), none, some (.int (y4 + 1))]) dX11_tells_145 rfl (by decide) rfl (by decide) rfl ?_
        refine r_goto (pc := 148) (tgt := 92) dX11_tells_148 (by decide) ?_
        refine n_L (L' := [some (.ref 0), some (.int x1), some (.int x2), none, some (.int (y4 + 1))]) (le_s (le_s (le_s (le_n (le_s (le_e)))))) ?_
        exact ih _ _ h
def wX11_tells_49 (x1 : Int32) (x2 : Int32) (Q : Int32 → gS → Prop)  (y3 : Int32) (s : gS) : Prop := (y3 = (-1) → wpX2_start s (fun s6 => (¬ x2 = (-1) → ∃ n92, wX11_tells_92 x1 x2 Q n92 0 s6) ∧ (x2 = (-1) → wpX8_refDay 20 s6 (fun r7 s7 => wpX2_gather r7 3 s7 (fun s8 => ∃ n92, wX11_tells_92 x1 x2 Q n92 0 s8))))) ∧ (¬ (y3 = (-1)) → Q ((-1) - y3) s)
set_option maxRecDepth 20000 in
theorem pX11_tells_49 {l : Launch} {X : gX} {x1 : Int32} {x2 : Int32}  {Q : Int32 → gS → Prop}  (y3 : Int32) (s : gS) (h : wX11_tells_49 x1 x2 Q y3 s)  : Gw l mX11_tells (g_rm 8 0 0) X 49 [some (.ref 0), some (.int x1), some (.int x2), some (.int y3), none] [] (nrm s) 0 0 (g_Z X (q_i Q) 0 0) := by
  refine r_iload_n (pc := 49) (x := y3) dX11_tells_49 rfl ?_
  refine r_iconst (pc := 50) (v := (-1)) dX11_tells_50 (by decide) ?_
  refine r_icmp_eq (pc := 51) (tgt := 58) dX11_tells_51 (by decide) (fun c => ?_) (fun c => ?_)
  · replace h := h.1 c
    refine r_aload_n (pc := 58) (x := 0) dX11_tells_58 rfl ?_
    refine n_getR (pc := 59) (j := 2) (q := 9) dX11_tells_59 fl_RX11_26 (by decide) sh_0 rfl rfl rfl ?_
    refine n_Vv0 (pc := 62) (S0 := []) (spX2_start h) gmX2_start selX2_start lk_RX11_109 dX11_tells_62 rfl (by decide) sh_9 ⟨rfl, by decide⟩ rfl ⟨Nat.le_of_ble_eq_true rfl, Nat.le_of_ble_eq_true rfl⟩ (Nat.le_of_ble_eq_true rfl) ⟨Nat.zero_le _, Nat.zero_le _⟩ (fun s6 h => ?_)
    refine r_iload_n (pc := 65) (x := x2) dX11_tells_65 rfl ?_
    refine r_iconst (pc := 66) (v := (-1)) dX11_tells_66 (by decide) ?_
    refine r_icmp_ne (pc := 67) (tgt := 89) dX11_tells_67 (by decide) (fun c => ?_) (fun c => ?_)
    · replace h := h.1 c
      refine r_iconst (pc := 89) (v := 0) dX11_tells_89 (by decide) ?_
      refine r_istore (pc := 90) (L' := [some (.ref 0), some (.int x1), some (.int x2), some (.int y3), some (.int 0)]) dX11_tells_90 rfl (by decide) rfl ?_
      refine n_L (L' := [some (.ref 0), some (.int x1), some (.int x2), none, some (.int 0)]) (le_s (le_s (le_s (le_n (le_s (le_e)))))) ?_
      obtain ⟨n, h⟩ := h
      exact pX11_tells_92  n _ _ h 
    · replace h := h.2 c
      refine r_aload_n (pc := 70) (x := 0) dX11_tells_70 rfl ?_
      refine n_getR (pc := 71) (j := 2) (q := 9) dX11_tells_71 fl_RX11_26 (by decide) sh_0 rfl rfl rfl ?_
      refine r_aload_n (pc := 74) (x := 0) dX11_tells_74 rfl ?_
      refine n_getR (pc := 75) (j := 1) (q := 3) dX11_tells_75 fl_RX11_19 (by decide) sh_0 rfl rfl rfl ?_
      refine r_aload_n (pc := 78) (x := 0) dX11_tells_78 rfl ?_
      refine n_getR (pc := 79) (j := 4) (q := 20) dX11_tells_79 fl_RX11_40 (by decide) sh_0 rfl rfl rfl ?_
      refine n_Vi0 (pc := 82) (S0 := [.ref 3, .ref 9]) (spX8_refDay isSt_20 h) gmX8_refDay selX8_refDay lk_RX11_112 dX11_tells_82 rfl (by decide) sh_20 ⟨rfl, by decide⟩ rfl ⟨Nat.le_of_ble_eq_true rfl, Nat.le_of_ble_eq_true rfl⟩ (Nat.le_of_ble_eq_true rfl) ⟨Nat.zero_le _, Nat.zero_le _⟩ (fun r7 s7 h => ?_)
      refine r_iconst (pc := 85) (v := 3) dX11_tells_85 (by decide) ?_
      refine n_Vv0 (pc := 86) (S0 := []) (spX2_gather h) gmX2_gather selX2_gather lk_RX11_116 dX11_tells_86 rfl (by decide) sh_9 ⟨rfl, by decide⟩ rfl ⟨Nat.le_of_ble_eq_true rfl, Nat.le_of_ble_eq_true rfl⟩ (Nat.le_of_ble_eq_true rfl) ⟨Nat.zero_le _, Nat.zero_le _⟩ (fun s8 h => ?_)
      refine r_iconst (pc := 89) (v := 0) dX11_tells_89 (by decide) ?_
      refine r_istore (pc := 90) (L' := [some (.ref 0), some (.int x1), some (.int x2), some (.int y3), some (.int 0)]) dX11_tells_90 rfl (by decide) rfl ?_
      refine n_L (L' := [some (.ref 0), some (.int x1), some (.int x2), none, some (.int 0)]) (le_s (le_s (le_s (le_n (le_s (le_e)))))) ?_
      obtain ⟨n, h⟩ := h
      exact pX11_tells_92  n _ _ h 
  · replace h := h.2 c
    refine r_iconst (pc := 54) (v := (-1)) dX11_tells_54 (by decide) ?_
    refine r_iload_n (pc := 55) (x := y3) dX11_tells_55 rfl ?_
    refine r_isub (pc := 56) dX11_tells_56 ?_
    exact n_iret (pc := 57) dX11_tells_57 rfl (Nat.le_refl _) (Nat.le_refl _) h
def wpX11_tells (x1 : Int32) (x2 : Int32) (s : gS) (Q : Int32 → gS → Prop) : Prop := wpX4_parse s (fun r1 s1 => wpX9_clear s1 (fun s2 => wpX11_isEvent x1 s2 (fun r3 s3 => (r3 = 0 → Q (-1) s3) ∧ (¬ (r3 = 0) → (x2 = (-1) → wX11_tells_49 x1 x2 Q r1 s3) ∧ (¬ (x2 = (-1)) → (x2 = x1 → Q (-1) s3) ∧ (¬ (x2 = x1) → wpX8_isTold 20 x2 s3 (fun r4 s4 => (¬ r4 = 0 → wX11_tells_49 x1 x2 Q r1 s4) ∧ (r4 = 0 → Q (-1) s4))))))))
set_option maxRecDepth 20000 in
theorem spX11_tells {l : Launch} {x1 : Int32} {x2 : Int32}  {s : gS} {Q : Int32 → gS → Prop} (h : wpX11_tells x1 x2 s Q) : Ct l mX11_tells 8 0 0 [.ref 0, .int x1, .int x2] (nrm s) (q_i Q) := by
  refine Ct.of (by decide) (Nat.le_of_ble_eq_true rfl) (fun X => ?_)
  refine n_L (L' := [some (.ref 0), some (.int x1), some (.int x2), none, none]) (le_s (le_s (le_s (le_p (le_p (le_e)))))) ?_
  refine r_aload_n (pc := 0) (x := 0) dX11_tells_0 rfl ?_
  refine n_getR (pc := 1) (j := 1) (q := 3) dX11_tells_1 fl_RX11_19 (by decide) sh_0 rfl rfl rfl ?_
  refine r_aload_n (pc := 4) (x := 0) dX11_tells_4 rfl ?_
  refine n_getR (pc := 5) (j := 0) (q := 1) dX11_tells_5 fl_RX11_10 (by decide) sh_0 rfl rfl rfl ?_
  refine n_Vi0 (pc := 8) (S0 := []) (spX4_parse h) gmX4_parse selX4_parse lk_RX11_96 dX11_tells_8 rfl (by decide) sh_3 ⟨rfl, by decide⟩ rfl ⟨Nat.le_of_ble_eq_true rfl, Nat.le_of_ble_eq_true rfl⟩ (Nat.le_of_ble_eq_true rfl) ⟨Nat.zero_le _, Nat.zero_le _⟩ (fun r1 s1 h => ?_)
  refine r_istore_n (pc := 11) (L' := [some (.ref 0), some (.int x1), some (.int x2), some (.int r1), none]) dX11_tells_11 rfl (by decide) rfl ?_
  refine r_aload_n (pc := 12) (x := 0) dX11_tells_12 rfl ?_
  refine n_getR (pc := 13) (j := 0) (q := 1) dX11_tells_13 fl_RX11_10 (by decide) sh_0 rfl rfl rfl ?_
  refine n_Vv0 (pc := 16) (S0 := []) (spX9_clear h) gmX9_clear selX9_clear lk_RX11_100 dX11_tells_16 rfl (by decide) sh_1 ⟨rfl, by decide⟩ rfl ⟨Nat.le_of_ble_eq_true rfl, Nat.le_of_ble_eq_true rfl⟩ (Nat.le_of_ble_eq_true rfl) ⟨Nat.zero_le _, Nat.zero_le _⟩ (fun s2 h => ?_)
  refine r_iload_n (pc := 19) (x := x1) dX11_tells_19 rfl ?_
  refine n_Si0 (pc := 20) (S0 := []) (spX11_isEvent h) gmX11_isEvent lk_RX11_103 dX11_tells_20 rfl rfl ⟨Nat.le_of_ble_eq_true rfl, Nat.le_of_ble_eq_true rfl⟩ (Nat.le_of_ble_eq_true rfl) ⟨Nat.zero_le _, Nat.zero_le _⟩ (fun r3 s3 h => ?_)
  refine r_if_eq (pc := 23) (tgt := 47) dX11_tells_23 (by decide) (fun c => ?_) (fun c => ?_)
  · replace h := h.1 c
    refine r_iconst (pc := 47) (v := (-1)) dX11_tells_47 (by decide) ?_
    exact n_iret (pc := 48) dX11_tells_48 rfl (Nat.le_refl _) (Nat.le_refl _) h
  · replace h := h.2 c
    refine r_iload_n (pc := 26) (x := x2) dX11_tells_26 rfl ?_
    refine r_iconst (pc := 27) (v := (-1)) dX11_tells_27 (by decide) ?_
    refine r_icmp_eq (pc := 28) (tgt := 49) dX11_tells_28 (by decide) (fun c => ?_) (fun c => ?_)
    · replace h := h.1 c
      refine n_L (L' := [some (.ref 0), some (.int x1), some (.int x2), some (.int r1), none]) (le_s (le_s (le_s (le_s (le_n (le_e)))))) ?_
      exact pX11_tells_49  _ _ h 
    · replace h := h.2 c
      refine r_iload_n (pc := 31) (x := x2) dX11_tells_31 rfl ?_
      refine r_iload_n (pc := 32) (x := x1) dX11_tells_32 rfl ?_
      refine r_icmp_eq (pc := 33) (tgt := 47) dX11_tells_33 (by decide) (fun c => ?_) (fun c => ?_)
      · replace h := h.1 c
        refine r_iconst (pc := 47) (v := (-1)) dX11_tells_47 (by decide) ?_
        exact n_iret (pc := 48) dX11_tells_48 rfl (Nat.le_refl _) (Nat.le_refl _) h
      · replace h := h.2 c
        refine r_aload_n (pc := 36) (x := 0) dX11_tells_36 rfl ?_
        refine n_getR (pc := 37) (j := 4) (q := 20) dX11_tells_37 fl_RX11_40 (by decide) sh_0 rfl rfl rfl ?_
        refine r_iload_n (pc := 40) (x := x2) dX11_tells_40 rfl ?_
        refine n_Vi0 (pc := 41) (S0 := []) (spX8_isTold isSt_20 h) gmX8_isTold selX8_isTold lk_RX11_106 dX11_tells_41 rfl (by decide) sh_20 ⟨rfl, by decide⟩ rfl ⟨Nat.le_of_ble_eq_true rfl, Nat.le_of_ble_eq_true rfl⟩ (Nat.le_of_ble_eq_true rfl) ⟨Nat.zero_le _, Nat.zero_le _⟩ (fun r4 s4 h => ?_)
        refine r_if_ne (pc := 44) (tgt := 49) dX11_tells_44 (by decide) (fun c => ?_) (fun c => ?_)
        · replace h := h.1 c
          refine n_L (L' := [some (.ref 0), some (.int x1), some (.int x2), some (.int r1), none]) (le_s (le_s (le_s (le_s (le_n (le_e)))))) ?_
          exact pX11_tells_49  _ _ h 
        · replace h := h.2 c
          refine r_iconst (pc := 47) (v := (-1)) dX11_tells_47 (by decide) ?_
          exact n_iret (pc := 48) dX11_tells_48 rfl (Nat.le_refl _) (Nat.le_refl _) h
def wX11_tellFound_25  (Q : gS → Prop) (k9 : Int32 → gS → Prop) : Nat → Int32 → Int32 → gS → Prop
  | 0, _, _, _ => False
  | n + 1, y1, y2, s => (4 ≤ y2 → k9 (y1 + 1) s) ∧ (¬ (4 ≤ y2) → wpX5_value 10 y1 y2 s (fun r2 s2 => wpX6_add r2 s2 (fun s3 => wX11_tellFound_25  Q k9 n y1 (y2 + 1) s3)))
set_option maxRecDepth 20000 in
theorem pX11_tellFound_25 {l : Launch} {X : gX}   {Q : gS → Prop} {k9 : Int32 → gS → Prop} : ∀ (n : Nat) (y1 : Int32) (y2 : Int32) (s : gS) (h : wX11_tellFound_25  Q k9 n y1 y2 s) (hk9 : ∀ (y1 : Int32) (s : gS), k9 y1 s → Gw l mX11_tellFound (g_rm 2 0 0) X 9 [some (.ref 0), some (.int y1), none] [] (nrm s) 0 0 (g_Z X (q_v Q) 0 0)), Gw l mX11_tellFound (g_rm 2 0 0) X 25 [some (.ref 0), some (.int y1), some (.int y2)] [] (nrm s) 0 0 (g_Z X (q_v Q) 0 0) := by
  intro n
  induction n with
  | zero => intro y1 y2 s h; exact h.elim
  | succ n ih0 =>
    intro y1 y2 s h hk9
    have ih : ∀ (y1 : Int32) (y2 : Int32) (s : gS), wX11_tellFound_25  Q k9 n y1 y2 s → Gw l mX11_tellFound (g_rm 2 0 0) X 25 [some (.ref 0), some (.int y1), some (.int y2)] [] (nrm s) 0 0 (g_Z X (q_v Q) 0 0) := fun y1 y2 s h => ih0 y1 y2 s h hk9
    refine r_iload_n (pc := 25) (x := y2) dX11_tellFound_25 rfl ?_
    refine r_iconst (pc := 26) (v := 4) dX11_tellFound_26 (by decide) ?_
    refine r_icmp_ge (pc := 27) (tgt := 55) dX11_tellFound_27 (by decide) (fun c => ?_) (fun c => ?_)
    · replace h := h.1 c
      refine n_iinc (pc := 55) (x := y1) (w := 1) (L' := [some (.ref 0), some (.int (y1 + 1)), some (.int y2)]) dX11_tellFound_55 rfl (by decide) rfl (by decide) rfl ?_
      refine r_goto (pc := 58) (tgt := 9) dX11_tellFound_58 (by decide) ?_
      refine n_L (L' := [some (.ref 0), some (.int (y1 + 1)), none]) (le_s (le_s (le_n (le_e)))) ?_
      exact hk9 _ _ h
    · replace h := h.2 c
      refine r_aload_n (pc := 30) (x := 0) dX11_tellFound_30 rfl ?_
      refine n_getR (pc := 31) (j := 3) (q := 18) dX11_tellFound_31 fl_RX11_33 (by decide) sh_0 rfl rfl rfl ?_
      refine r_aload_n (pc := 34) (x := 0) dX11_tellFound_34 rfl ?_
      refine n_getR (pc := 35) (j := 2) (q := 9) dX11_tellFound_35 fl_RX11_26 (by decide) sh_0 rfl rfl rfl ?_
      refine n_getR (pc := 38) (j := 0) (q := 10) dX11_tellFound_38 fl_RX11_134 (by decide) sh_9 rfl rfl rfl ?_
      refine r_iload_n (pc := 41) (x := y1) dX11_tellFound_41 rfl ?_
      refine r_iload_n (pc := 42) (x := y2) dX11_tellFound_42 rfl ?_
      refine n_Vi0 (pc := 43) (S0 := [.ref 18]) (spX5_value isRd_10 h) gmX5_value selX5_value lk_RX11_343 dX11_tellFound_43 rfl (by decide) sh_10 ⟨rfl, by decide⟩ rfl ⟨Nat.le_of_ble_eq_true rfl, Nat.le_of_ble_eq_true rfl⟩ (Nat.le_of_ble_eq_true rfl) ⟨Nat.zero_le _, Nat.zero_le _⟩ (fun r2 s2 h => ?_)
      refine n_Vv0 (pc := 46) (S0 := []) (spX6_add h) gmX6_add selX6_add lk_RX11_160 dX11_tellFound_46 rfl (by decide) sh_18 ⟨rfl, by decide⟩ rfl ⟨Nat.le_of_ble_eq_true rfl, Nat.le_of_ble_eq_true rfl⟩ (Nat.le_of_ble_eq_true rfl) ⟨Nat.zero_le _, Nat.zero_le _⟩ (fun s3 h => ?_)
      refine n_iinc (pc := 49) (x := y2) (w := 1) (L' := [some (.ref 0), some (.int y1), some (.int (y2 + 1))]) dX11_tellFound_49 rfl (by decide) rfl (by decide) rfl ?_
      refine r_goto (pc := 52) (tgt := 25) dX11_tellFound_52 (by decide) ?_
      refine n_L (L' := [some (.ref 0), some (.int y1), some (.int (y2 + 1))]) (le_s (le_s (le_s (le_e)))) ?_
      exact ih _ _ _ h
def wX11_tellFound_9  (Q : gS → Prop)  : Nat → Int32 → gS → Prop
  | 0, _, _ => False
  | n + 1, y1, s => ((gi s 10 1) ≤ y1 → Q s) ∧ (¬ ((gi s 10 1) ≤ y1) → ∃ n25, wX11_tellFound_25  Q (fun y1 s => wX11_tellFound_9  Q n y1 s) n25 y1 0 s)
set_option maxRecDepth 20000 in
theorem pX11_tellFound_9 {l : Launch} {X : gX}   {Q : gS → Prop}  : ∀ (n : Nat) (y1 : Int32) (s : gS) (h : wX11_tellFound_9  Q n y1 s) , Gw l mX11_tellFound (g_rm 2 0 0) X 9 [some (.ref 0), some (.int y1), none] [] (nrm s) 0 0 (g_Z X (q_v Q) 0 0) := by
  intro n
  induction n with
  | zero => intro y1 s h; exact h.elim
  | succ n ih0 =>
    intro y1 s h 
    have ih : ∀ (y1 : Int32) (s : gS), wX11_tellFound_9  Q n y1 s → Gw l mX11_tellFound (g_rm 2 0 0) X 9 [some (.ref 0), some (.int y1), none] [] (nrm s) 0 0 (g_Z X (q_v Q) 0 0) := fun y1 s h => ih0 y1 s h 
    refine r_iload_n (pc := 9) (x := y1) dX11_tellFound_9 rfl ?_
    refine r_aload_n (pc := 10) (x := 0) dX11_tellFound_10 rfl ?_
    refine n_getR (pc := 11) (j := 2) (q := 9) dX11_tellFound_11 fl_RX11_26 (by decide) sh_0 rfl rfl rfl ?_
    refine n_getR (pc := 14) (j := 0) (q := 10) dX11_tellFound_14 fl_RX11_134 (by decide) sh_9 rfl rfl rfl ?_
    refine n_getI (pc := 17) (j := 1) dX11_tellFound_17 fl_RX11_340 (by decide) sh_10 rfl rfl ?_
    refine r_icmp_ge (pc := 20) (tgt := 61) dX11_tellFound_20 (by decide) (fun c => ?_) (fun c => ?_)
    · replace h := h.1 c
      exact n_vret (pc := 61) dX11_tellFound_61 rfl (Nat.le_refl _) (Nat.le_refl _) h
    · replace h := h.2 c
      refine r_iconst (pc := 23) (v := 0) dX11_tellFound_23 (by decide) ?_
      refine r_istore_n (pc := 24) (L' := [some (.ref 0), some (.int y1), some (.int 0)]) dX11_tellFound_24 rfl (by decide) rfl ?_
      refine n_L (L' := [some (.ref 0), some (.int y1), some (.int 0)]) (le_s (le_s (le_s (le_e)))) ?_
      obtain ⟨n, h⟩ := h
      exact pX11_tellFound_25  n _ _ _ h ih
def wpX11_tellFound  (s : gS) (Q : gS → Prop) : Prop := wpX6_clear s (fun s1 => ∃ n9, wX11_tellFound_9  Q n9 0 s1)
set_option maxRecDepth 20000 in
theorem spX11_tellFound {l : Launch}   {s : gS} {Q : gS → Prop} (h : wpX11_tellFound  s Q) : Ct l mX11_tellFound 2 0 0 [.ref 0] (nrm s) (q_v Q) := by
  refine Ct.of (by decide) (Nat.le_of_ble_eq_true rfl) (fun X => ?_)
  refine n_L (L' := [some (.ref 0), none, none]) (le_s (le_p (le_p (le_e)))) ?_
  refine r_aload_n (pc := 0) (x := 0) dX11_tellFound_0 rfl ?_
  refine n_getR (pc := 1) (j := 3) (q := 18) dX11_tellFound_1 fl_RX11_33 (by decide) sh_0 rfl rfl rfl ?_
  refine n_Vv0 (pc := 4) (S0 := []) (spX6_clear h) gmX6_clear selX6_clear lk_RX11_159 dX11_tellFound_4 rfl (by decide) sh_18 ⟨rfl, by decide⟩ rfl ⟨Nat.le_of_ble_eq_true rfl, Nat.le_of_ble_eq_true rfl⟩ (Nat.le_of_ble_eq_true rfl) ⟨Nat.zero_le _, Nat.zero_le _⟩ (fun s1 h => ?_)
  refine r_iconst (pc := 7) (v := 0) dX11_tellFound_7 (by decide) ?_
  refine r_istore_n (pc := 8) (L' := [some (.ref 0), some (.int 0), none]) dX11_tellFound_8 rfl (by decide) rfl ?_
  refine n_L (L' := [some (.ref 0), some (.int 0), none]) (le_s (le_s (le_n (le_e)))) ?_
  obtain ⟨n, h⟩ := h
  exact pX11_tellFound_9  n _ _ h 
def wpX11_means (x1 : Int32) (s : gS) (Q : Int32 → gS → Prop) : Prop := wpX4_parse s (fun r1 s1 => wpX9_clear s1 (fun s2 => wpX11_isDay x1 s2 (fun r3 s3 => (¬ r3 = 0 → (r1 = (-1) → wpX2_start s3 (fun s4 => wpX2_gather x1 3 s4 (fun s5 => wpX2_answer s5 (fun r6 s6 => (r6 ≤ 0 → Q r6 s6) ∧ (¬ (r6 ≤ 0) → wpX11_tellFound s6 (fun s7 => Q r6 s7)))))) ∧ (¬ (r1 = (-1)) → Q ((-1) - r1) s3)) ∧ (r3 = 0 → Q (-1) s3))))
set_option maxRecDepth 20000 in
theorem spX11_means {l : Launch} {x1 : Int32}  {s : gS} {Q : Int32 → gS → Prop} (h : wpX11_means x1 s Q) : Ct l mX11_means 8 0 0 [.ref 0, .int x1] (nrm s) (q_i Q) := by
  refine Ct.of (by decide) (Nat.le_of_ble_eq_true rfl) (fun X => ?_)
  refine n_L (L' := [some (.ref 0), some (.int x1), none, none]) (le_s (le_s (le_p (le_p (le_e))))) ?_
  refine r_aload_n (pc := 0) (x := 0) dX11_means_0 rfl ?_
  refine n_getR (pc := 1) (j := 1) (q := 3) dX11_means_1 fl_RX11_19 (by decide) sh_0 rfl rfl rfl ?_
  refine r_aload_n (pc := 4) (x := 0) dX11_means_4 rfl ?_
  refine n_getR (pc := 5) (j := 0) (q := 1) dX11_means_5 fl_RX11_10 (by decide) sh_0 rfl rfl rfl ?_
  refine n_Vi0 (pc := 8) (S0 := []) (spX4_parse h) gmX4_parse selX4_parse lk_RX11_96 dX11_means_8 rfl (by decide) sh_3 ⟨rfl, by decide⟩ rfl ⟨Nat.le_of_ble_eq_true rfl, Nat.le_of_ble_eq_true rfl⟩ (Nat.le_of_ble_eq_true rfl) ⟨Nat.zero_le _, Nat.zero_le _⟩ (fun r1 s1 h => ?_)
  refine r_istore_n (pc := 11) (L' := [some (.ref 0), some (.int x1), some (.int r1), none]) dX11_means_11 rfl (by decide) rfl ?_
  refine r_aload_n (pc := 12) (x := 0) dX11_means_12 rfl ?_
  refine n_getR (pc := 13) (j := 0) (q := 1) dX11_means_13 fl_RX11_10 (by decide) sh_0 rfl rfl rfl ?_
  refine n_Vv0 (pc := 16) (S0 := []) (spX9_clear h) gmX9_clear selX9_clear lk_RX11_100 dX11_means_16 rfl (by decide) sh_1 ⟨rfl, by decide⟩ rfl ⟨Nat.le_of_ble_eq_true rfl, Nat.le_of_ble_eq_true rfl⟩ (Nat.le_of_ble_eq_true rfl) ⟨Nat.zero_le _, Nat.zero_le _⟩ (fun s2 h => ?_)
  refine r_iload_n (pc := 19) (x := x1) dX11_means_19 rfl ?_
  refine n_Si0 (pc := 20) (S0 := []) (spX11_isDay h) gmX11_isDay lk_RX11_145 dX11_means_20 rfl rfl ⟨Nat.le_of_ble_eq_true rfl, Nat.le_of_ble_eq_true rfl⟩ (Nat.le_of_ble_eq_true rfl) ⟨Nat.zero_le _, Nat.zero_le _⟩ (fun r3 s3 h => ?_)
  refine r_if_ne (pc := 23) (tgt := 28) dX11_means_23 (by decide) (fun c => ?_) (fun c => ?_)
  · replace h := h.1 c
    refine r_iload_n (pc := 28) (x := r1) dX11_means_28 rfl ?_
    refine r_iconst (pc := 29) (v := (-1)) dX11_means_29 (by decide) ?_
    refine r_icmp_eq (pc := 30) (tgt := 37) dX11_means_30 (by decide) (fun c => ?_) (fun c => ?_)
    · replace h := h.1 c
      refine r_aload_n (pc := 37) (x := 0) dX11_means_37 rfl ?_
      refine n_getR (pc := 38) (j := 2) (q := 9) dX11_means_38 fl_RX11_26 (by decide) sh_0 rfl rfl rfl ?_
      refine n_Vv0 (pc := 41) (S0 := []) (spX2_start h) gmX2_start selX2_start lk_RX11_109 dX11_means_41 rfl (by decide) sh_9 ⟨rfl, by decide⟩ rfl ⟨Nat.le_of_ble_eq_true rfl, Nat.le_of_ble_eq_true rfl⟩ (Nat.le_of_ble_eq_true rfl) ⟨Nat.zero_le _, Nat.zero_le _⟩ (fun s4 h => ?_)
      refine r_aload_n (pc := 44) (x := 0) dX11_means_44 rfl ?_
      refine n_getR (pc := 45) (j := 2) (q := 9) dX11_means_45 fl_RX11_26 (by decide) sh_0 rfl rfl rfl ?_
      refine r_aload_n (pc := 48) (x := 0) dX11_means_48 rfl ?_
      refine n_getR (pc := 49) (j := 1) (q := 3) dX11_means_49 fl_RX11_19 (by decide) sh_0 rfl rfl rfl ?_
      refine r_iload_n (pc := 52) (x := x1) dX11_means_52 rfl ?_
      refine r_iconst (pc := 53) (v := 3) dX11_means_53 (by decide) ?_
      refine n_Vv0 (pc := 54) (S0 := []) (spX2_gather h) gmX2_gather selX2_gather lk_RX11_116 dX11_means_54 rfl (by decide) sh_9 ⟨rfl, by decide⟩ rfl ⟨Nat.le_of_ble_eq_true rfl, Nat.le_of_ble_eq_true rfl⟩ (Nat.le_of_ble_eq_true rfl) ⟨Nat.zero_le _, Nat.zero_le _⟩ (fun s5 h => ?_)
      refine r_aload_n (pc := 57) (x := 0) dX11_means_57 rfl ?_
      refine n_getR (pc := 58) (j := 2) (q := 9) dX11_means_58 fl_RX11_26 (by decide) sh_0 rfl rfl rfl ?_
      refine n_Vi0 (pc := 61) (S0 := []) (spX2_answer h) gmX2_answer selX2_answer lk_RX11_128 dX11_means_61 rfl (by decide) sh_9 ⟨rfl, by decide⟩ rfl ⟨Nat.le_of_ble_eq_true rfl, Nat.le_of_ble_eq_true rfl⟩ (Nat.le_of_ble_eq_true rfl) ⟨Nat.zero_le _, Nat.zero_le _⟩ (fun r6 s6 h => ?_)
      refine r_istore_n (pc := 64) (L' := [some (.ref 0), some (.int x1), some (.int r1), some (.int r6)]) dX11_means_64 rfl (by decide) rfl ?_
      refine r_iload_n (pc := 65) (x := r6) dX11_means_65 rfl ?_
      refine r_if_le (pc := 66) (tgt := 73) dX11_means_66 (by decide) (fun c => ?_) (fun c => ?_)
      · replace h := h.1 c
        refine r_iload_n (pc := 73) (x := r6) dX11_means_73 rfl ?_
        exact n_iret (pc := 74) dX11_means_74 rfl (Nat.le_refl _) (Nat.le_refl _) h
      · replace h := h.2 c
        refine r_aload_n (pc := 69) (x := 0) dX11_means_69 rfl ?_
        refine n_Vv0 (pc := 70) (S0 := []) (spX11_tellFound h) gmX11_tellFound selX11_tellFound lk_RX11_148 dX11_means_70 rfl (by decide) sh_0 ⟨rfl, by decide⟩ rfl ⟨Nat.le_of_ble_eq_true rfl, Nat.le_of_ble_eq_true rfl⟩ (Nat.le_of_ble_eq_true rfl) ⟨Nat.zero_le _, Nat.zero_le _⟩ (fun s7 h => ?_)
        refine r_iload_n (pc := 73) (x := r6) dX11_means_73 rfl ?_
        exact n_iret (pc := 74) dX11_means_74 rfl (Nat.le_refl _) (Nat.le_refl _) h
    · replace h := h.2 c
      refine r_iconst (pc := 33) (v := (-1)) dX11_means_33 (by decide) ?_
      refine r_iload_n (pc := 34) (x := r1) dX11_means_34 rfl ?_
      refine r_isub (pc := 35) dX11_means_35 ?_
      exact n_iret (pc := 36) dX11_means_36 rfl (Nat.le_refl _) (Nat.le_refl _) h
  · replace h := h.2 c
    refine r_iconst (pc := 26) (v := (-1)) dX11_means_26 (by decide) ?_
    exact n_iret (pc := 27) dX11_means_27 rfl (Nat.le_refl _) (Nat.le_refl _) h
def wpX11_day (x1 : Int32) (x2 : Int32) (x3 : Int32) (s : gS) (Q : Int32 → gS → Prop) : Prop := wpX0_dayOf x1 x2 x3 s (fun r1 s1 => Q r1 s1)
set_option maxRecDepth 20000 in
theorem spX11_day {l : Launch} {x1 : Int32} {x2 : Int32} {x3 : Int32}  {s : gS} {Q : Int32 → gS → Prop} (h : wpX11_day x1 x2 x3 s Q) : Ct l mX11_day 4 0 0 [.ref 0, .int x1, .int x2, .int x3] (nrm s) (q_i Q) := by
  refine Ct.of (by decide) (Nat.le_of_ble_eq_true rfl) (fun X => ?_)
  refine n_L (L' := [some (.ref 0), some (.int x1), some (.int x2), some (.int x3)]) (le_s (le_s (le_s (le_s (le_e))))) ?_
  refine r_iload_n (pc := 0) (x := x1) dX11_day_0 rfl ?_
  refine r_iload_n (pc := 1) (x := x2) dX11_day_1 rfl ?_
  refine r_iload_n (pc := 2) (x := x3) dX11_day_2 rfl ?_
  refine n_Si0 (pc := 3) (S0 := []) (spX0_dayOf h) gmX0_dayOf lk_RX11_151 dX11_day_3 rfl rfl ⟨Nat.le_of_ble_eq_true rfl, Nat.le_of_ble_eq_true rfl⟩ (Nat.le_of_ble_eq_true rfl) ⟨Nat.zero_le _, Nat.zero_le _⟩ (fun r1 s1 h => ?_)
  exact n_iret (pc := 6) dX11_day_6 rfl (Nat.le_refl _) (Nat.le_refl _) h
def wpX11_date (x1 : Int32) (s : gS) (Q : Int32 → gS → Prop) : Prop := wpX11_isDay x1 s (fun r1 s1 => (¬ r1 = 0 → wpX0_monthOf x1 s1 (fun r2 s2 => wpX6_clear s2 (fun s3 => wpX6_add ((jrem r2 12) + 1) s3 (fun s4 => wpX0_monthStart r2 s4 (fun r5 s5 => wpX6_add ((x1 - r5) + 1) s5 (fun s6 => wpX0_weekday x1 s6 (fun r7 s7 => wpX6_add r7 s7 (fun s8 => Q (2000 + (r2 / 12)) s8)))))))) ∧ (r1 = 0 → Q (-1) s1))
set_option maxRecDepth 20000 in
theorem spX11_date {l : Launch} {x1 : Int32}  {s : gS} {Q : Int32 → gS → Prop} (h : wpX11_date x1 s Q) : Ct l mX11_date 3 0 0 [.ref 0, .int x1] (nrm s) (q_i Q) := by
  refine Ct.of (by decide) (Nat.le_of_ble_eq_true rfl) (fun X => ?_)
  refine n_L (L' := [some (.ref 0), some (.int x1), none]) (le_s (le_s (le_p (le_e)))) ?_
  refine r_iload_n (pc := 0) (x := x1) dX11_date_0 rfl ?_
  refine n_Si0 (pc := 1) (S0 := []) (spX11_isDay h) gmX11_isDay lk_RX11_145 dX11_date_1 rfl rfl ⟨Nat.le_of_ble_eq_true rfl, Nat.le_of_ble_eq_true rfl⟩ (Nat.le_of_ble_eq_true rfl) ⟨Nat.zero_le _, Nat.zero_le _⟩ (fun r1 s1 h => ?_)
  refine r_if_ne (pc := 4) (tgt := 9) dX11_date_4 (by decide) (fun c => ?_) (fun c => ?_)
  · replace h := h.1 c
    refine r_iload_n (pc := 9) (x := x1) dX11_date_9 rfl ?_
    refine n_Si0 (pc := 10) (S0 := []) (spX0_monthOf h) gmX0_monthOf lk_RX11_156 dX11_date_10 rfl rfl ⟨Nat.le_of_ble_eq_true rfl, Nat.le_of_ble_eq_true rfl⟩ (Nat.le_of_ble_eq_true rfl) ⟨Nat.zero_le _, Nat.zero_le _⟩ (fun r2 s2 h => ?_)
    refine r_istore_n (pc := 13) (L' := [some (.ref 0), some (.int x1), some (.int r2)]) dX11_date_13 rfl (by decide) rfl ?_
    refine r_aload_n (pc := 14) (x := 0) dX11_date_14 rfl ?_
    refine n_getR (pc := 15) (j := 3) (q := 18) dX11_date_15 fl_RX11_33 (by decide) sh_0 rfl rfl rfl ?_
    refine n_Vv0 (pc := 18) (S0 := []) (spX6_clear h) gmX6_clear selX6_clear lk_RX11_159 dX11_date_18 rfl (by decide) sh_18 ⟨rfl, by decide⟩ rfl ⟨Nat.le_of_ble_eq_true rfl, Nat.le_of_ble_eq_true rfl⟩ (Nat.le_of_ble_eq_true rfl) ⟨Nat.zero_le _, Nat.zero_le _⟩ (fun s3 h => ?_)
    refine r_aload_n (pc := 21) (x := 0) dX11_date_21 rfl ?_
    refine n_getR (pc := 22) (j := 3) (q := 18) dX11_date_22 fl_RX11_33 (by decide) sh_0 rfl rfl rfl ?_
    refine r_iload_n (pc := 25) (x := r2) dX11_date_25 rfl ?_
    refine r_bipush (pc := 26) (v := 12) dX11_date_26 (by decide) ?_
    refine n_irem (pc := 28) dX11_date_28 (by decide) ?_
    refine r_iconst (pc := 29) (v := 1) dX11_date_29 (by decide) ?_
    refine r_iadd (pc := 30) dX11_date_30 ?_
    refine n_Vv0 (pc := 31) (S0 := []) (spX6_add h) gmX6_add selX6_add lk_RX11_160 dX11_date_31 rfl (by decide) sh_18 ⟨rfl, by decide⟩ rfl ⟨Nat.le_of_ble_eq_true rfl, Nat.le_of_ble_eq_true rfl⟩ (Nat.le_of_ble_eq_true rfl) ⟨Nat.zero_le _, Nat.zero_le _⟩ (fun s4 h => ?_)
    refine r_aload_n (pc := 34) (x := 0) dX11_date_34 rfl ?_
    refine n_getR (pc := 35) (j := 3) (q := 18) dX11_date_35 fl_RX11_33 (by decide) sh_0 rfl rfl rfl ?_
    refine r_iload_n (pc := 38) (x := x1) dX11_date_38 rfl ?_
    refine r_iload_n (pc := 39) (x := r2) dX11_date_39 rfl ?_
    refine n_Si0 (pc := 40) (S0 := [.int x1, .ref 18]) (spX0_monthStart h) gmX0_monthStart lk_RX11_164 dX11_date_40 rfl rfl ⟨Nat.le_of_ble_eq_true rfl, Nat.le_of_ble_eq_true rfl⟩ (Nat.le_of_ble_eq_true rfl) ⟨Nat.zero_le _, Nat.zero_le _⟩ (fun r5 s5 h => ?_)
    refine r_isub (pc := 43) dX11_date_43 ?_
    refine r_iconst (pc := 44) (v := 1) dX11_date_44 (by decide) ?_
    refine r_iadd (pc := 45) dX11_date_45 ?_
    refine n_Vv0 (pc := 46) (S0 := []) (spX6_add h) gmX6_add selX6_add lk_RX11_160 dX11_date_46 rfl (by decide) sh_18 ⟨rfl, by decide⟩ rfl ⟨Nat.le_of_ble_eq_true rfl, Nat.le_of_ble_eq_true rfl⟩ (Nat.le_of_ble_eq_true rfl) ⟨Nat.zero_le _, Nat.zero_le _⟩ (fun s6 h => ?_)
    refine r_aload_n (pc := 49) (x := 0) dX11_date_49 rfl ?_
    refine n_getR (pc := 50) (j := 3) (q := 18) dX11_date_50 fl_RX11_33 (by decide) sh_0 rfl rfl rfl ?_
    refine r_iload_n (pc := 53) (x := x1) dX11_date_53 rfl ?_
    refine n_Si0 (pc := 54) (S0 := [.ref 18]) (spX0_weekday h) gmX0_weekday lk_RX11_167 dX11_date_54 rfl rfl ⟨Nat.le_of_ble_eq_true rfl, Nat.le_of_ble_eq_true rfl⟩ (Nat.le_of_ble_eq_true rfl) ⟨Nat.zero_le _, Nat.zero_le _⟩ (fun r7 s7 h => ?_)
    refine n_Vv0 (pc := 57) (S0 := []) (spX6_add h) gmX6_add selX6_add lk_RX11_160 dX11_date_57 rfl (by decide) sh_18 ⟨rfl, by decide⟩ rfl ⟨Nat.le_of_ble_eq_true rfl, Nat.le_of_ble_eq_true rfl⟩ (Nat.le_of_ble_eq_true rfl) ⟨Nat.zero_le _, Nat.zero_le _⟩ (fun s8 h => ?_)
    refine r_sipush (pc := 60) (v := 2000) dX11_date_60 (by decide) ?_
    refine r_iload_n (pc := 63) (x := r2) dX11_date_63 rfl ?_
    refine r_bipush (pc := 64) (v := 12) dX11_date_64 (by decide) ?_
    refine r_idiv (pc := 66) dX11_date_66 (by decide) ?_
    refine r_iadd (pc := 67) dX11_date_67 ?_
    exact n_iret (pc := 68) dX11_date_68 rfl (Nat.le_refl _) (Nat.le_refl _) h
  · replace h := h.2 c
    refine r_iconst (pc := 7) (v := (-1)) dX11_date_7 (by decide) ?_
    exact n_iret (pc := 8) dX11_date_8 rfl (Nat.le_refl _) (Nat.le_refl _) h
def wpX11_moved (x1 : Int32) (x2 : Int32) (x3 : Int32) (s : gS) (Q : Int32 → gS → Prop) : Prop := wpX11_isDay x1 s (fun r1 s1 => (r1 = 0 → Q (-1) s1) ∧ (¬ (r1 = 0) → (x2 < 0 → Q (-1) s1) ∧ (¬ (x2 < 0) → (3 < x2 → Q (-1) s1) ∧ (¬ (3 < x2) → (x3 < (-9999) → Q (-1) s1) ∧ (¬ (x3 < (-9999)) → (x3 ≤ 9999 → wpX0_move x1 x2 x3 s1 (fun r2 s2 => (¬ r2 = (-1) → Q r2 s2) ∧ (r2 = (-1) → Q (-2) s2))) ∧ (¬ (x3 ≤ 9999) → Q (-1) s1))))))
set_option maxRecDepth 20000 in
theorem spX11_moved {l : Launch} {x1 : Int32} {x2 : Int32} {x3 : Int32}  {s : gS} {Q : Int32 → gS → Prop} (h : wpX11_moved x1 x2 x3 s Q) : Ct l mX11_moved 4 0 0 [.ref 0, .int x1, .int x2, .int x3] (nrm s) (q_i Q) := by
  refine Ct.of (by decide) (Nat.le_of_ble_eq_true rfl) (fun X => ?_)
  refine n_L (L' := [some (.ref 0), some (.int x1), some (.int x2), some (.int x3), none]) (le_s (le_s (le_s (le_s (le_p (le_e)))))) ?_
  refine r_iload_n (pc := 0) (x := x1) dX11_moved_0 rfl ?_
  refine n_Si0 (pc := 1) (S0 := []) (spX11_isDay h) gmX11_isDay lk_RX11_145 dX11_moved_1 rfl rfl ⟨Nat.le_of_ble_eq_true rfl, Nat.le_of_ble_eq_true rfl⟩ (Nat.le_of_ble_eq_true rfl) ⟨Nat.zero_le _, Nat.zero_le _⟩ (fun r1 s1 h => ?_)
  refine r_if_eq (pc := 4) (tgt := 30) dX11_moved_4 (by decide) (fun c => ?_) (fun c => ?_)
  · replace h := h.1 c
    refine r_iconst (pc := 30) (v := (-1)) dX11_moved_30 (by decide) ?_
    exact n_iret (pc := 31) dX11_moved_31 rfl (Nat.le_refl _) (Nat.le_refl _) h
  · replace h := h.2 c
    refine r_iload_n (pc := 7) (x := x2) dX11_moved_7 rfl ?_
    refine r_if_lt (pc := 8) (tgt := 30) dX11_moved_8 (by decide) (fun c => ?_) (fun c => ?_)
    · replace h := h.1 c
      refine r_iconst (pc := 30) (v := (-1)) dX11_moved_30 (by decide) ?_
      exact n_iret (pc := 31) dX11_moved_31 rfl (Nat.le_refl _) (Nat.le_refl _) h
    · replace h := h.2 c
      refine r_iload_n (pc := 11) (x := x2) dX11_moved_11 rfl ?_
      refine r_iconst (pc := 12) (v := 3) dX11_moved_12 (by decide) ?_
      refine r_icmp_gt (pc := 13) (tgt := 30) dX11_moved_13 (by decide) (fun c => ?_) (fun c => ?_)
      · replace h := h.1 c
        refine r_iconst (pc := 30) (v := (-1)) dX11_moved_30 (by decide) ?_
        exact n_iret (pc := 31) dX11_moved_31 rfl (Nat.le_refl _) (Nat.le_refl _) h
      · replace h := h.2 c
        refine r_iload_n (pc := 16) (x := x3) dX11_moved_16 rfl ?_
        refine r_sipush (pc := 17) (v := (-9999)) dX11_moved_17 (by decide) ?_
        refine r_icmp_lt (pc := 20) (tgt := 30) dX11_moved_20 (by decide) (fun c => ?_) (fun c => ?_)
        · replace h := h.1 c
          refine r_iconst (pc := 30) (v := (-1)) dX11_moved_30 (by decide) ?_
          exact n_iret (pc := 31) dX11_moved_31 rfl (Nat.le_refl _) (Nat.le_refl _) h
        · replace h := h.2 c
          refine r_iload_n (pc := 23) (x := x3) dX11_moved_23 rfl ?_
          refine r_sipush (pc := 24) (v := 9999) dX11_moved_24 (by decide) ?_
          refine r_icmp_le (pc := 27) (tgt := 32) dX11_moved_27 (by decide) (fun c => ?_) (fun c => ?_)
          · replace h := h.1 c
            refine r_iload_n (pc := 32) (x := x1) dX11_moved_32 rfl ?_
            refine r_iload_n (pc := 33) (x := x2) dX11_moved_33 rfl ?_
            refine r_iload_n (pc := 34) (x := x3) dX11_moved_34 rfl ?_
            refine n_Si0 (pc := 35) (S0 := []) (spX0_move h) gmX0_move lk_RX11_170 dX11_moved_35 rfl rfl ⟨Nat.le_of_ble_eq_true rfl, Nat.le_of_ble_eq_true rfl⟩ (Nat.le_of_ble_eq_true rfl) ⟨Nat.zero_le _, Nat.zero_le _⟩ (fun r2 s2 h => ?_)
            refine r_istore (pc := 38) (L' := [some (.ref 0), some (.int x1), some (.int x2), some (.int x3), some (.int r2)]) dX11_moved_38 rfl (by decide) rfl ?_
            refine r_iload (pc := 40) (x := r2) dX11_moved_40 rfl ?_
            refine r_iconst (pc := 42) (v := (-1)) dX11_moved_42 (by decide) ?_
            refine r_icmp_ne (pc := 43) (tgt := 51) dX11_moved_43 (by decide) (fun c => ?_) (fun c => ?_)
            · replace h := h.1 c
              refine r_iload (pc := 51) (x := r2) dX11_moved_51 rfl ?_
              exact n_iret (pc := 53) dX11_moved_53 rfl (Nat.le_refl _) (Nat.le_refl _) h
            · replace h := h.2 c
              refine r_bipush (pc := 46) (v := (-2)) dX11_moved_46 (by decide) ?_
              refine r_goto (pc := 48) (tgt := 53) dX11_moved_48 (by decide) ?_
              exact n_iret (pc := 53) dX11_moved_53 rfl (Nat.le_refl _) (Nat.le_refl _) h
          · replace h := h.2 c
            refine r_iconst (pc := 30) (v := (-1)) dX11_moved_30 (by decide) ?_
            exact n_iret (pc := 31) dX11_moved_31 rfl (Nat.le_refl _) (Nat.le_refl _) h
def wpX11_solved  (s : gS) (Q : gS → Prop) : Prop := (¬ (gi s 0 13) = 0 → Q s) ∧ ((gi s 0 13) = 0 → wpX7_solve 38 20 s (fun s1 => Q (wi s1 0 13 1)))
set_option maxRecDepth 20000 in
theorem spX11_solved {l : Launch}   {s : gS} {Q : gS → Prop} (h : wpX11_solved  s Q) : Ct l mX11_solved 13 0 0 [.ref 0] (nrm s) (q_a 38 Q) := by
  refine Ct.of (by decide) (Nat.le_of_ble_eq_true rfl) (fun X => ?_)
  refine n_L (L' := [some (.ref 0)]) (le_s (le_e)) ?_
  refine r_aload_n (pc := 0) (x := 0) dX11_solved_0 rfl ?_
  refine n_getI (pc := 1) (j := 13) dX11_solved_1 fl_RX11_84 (by decide) sh_0 rfl rfl ?_
  refine r_if_ne (pc := 4) (tgt := 23) dX11_solved_4 (by decide) (fun c => ?_) (fun c => ?_)
  · replace h := h.1 c
    refine r_aload_n (pc := 23) (x := 0) dX11_solved_23 rfl ?_
    refine n_getR (pc := 24) (j := 10) (q := 38) dX11_solved_24 fl_RX11_70 (by decide) sh_0 rfl rfl rfl ?_
    exact n_aret (pc := 27) dX11_solved_27 rfl (Nat.le_refl _) (Nat.le_refl _) h
  · replace h := h.2 c
    refine r_aload_n (pc := 7) (x := 0) dX11_solved_7 rfl ?_
    refine n_getR (pc := 8) (j := 10) (q := 38) dX11_solved_8 fl_RX11_70 (by decide) sh_0 rfl rfl rfl ?_
    refine r_aload_n (pc := 11) (x := 0) dX11_solved_11 rfl ?_
    refine n_getR (pc := 12) (j := 4) (q := 20) dX11_solved_12 fl_RX11_40 (by decide) sh_0 rfl rfl rfl ?_
    refine n_Vv0 (pc := 15) (S0 := []) (spX7_solve isSo_38 isSt_20 h) gmX7_solve selX7_solve lk_RX11_251 dX11_solved_15 rfl (by decide) sh_38 ⟨rfl, by decide⟩ rfl ⟨Nat.le_of_ble_eq_true rfl, Nat.le_of_ble_eq_true rfl⟩ (Nat.le_of_ble_eq_true rfl) ⟨Nat.zero_le _, Nat.zero_le _⟩ (fun s1 h => ?_)
    refine r_aload_n (pc := 18) (x := 0) dX11_solved_18 rfl ?_
    refine r_iconst (pc := 19) (v := 1) dX11_solved_19 (by decide) ?_
    refine n_putZ (pc := 20) (j := 13) dX11_solved_20 fl_RX11_84 fw_11_13 (by decide) sh_0 rfl rfl (by decide) ?_
    refine r_aload_n (pc := 23) (x := 0) dX11_solved_23 rfl ?_
    refine n_getR (pc := 24) (j := 10) (q := 38) dX11_solved_24 fl_RX11_70 (by decide) sh_0 rfl rfl rfl ?_
    exact n_aret (pc := 27) dX11_solved_27 rfl (Nat.le_refl _) (Nat.le_refl _) h
def wpX11_readings (x1 : Int32) (s : gS) (Q : Int32 → gS → Prop) : Prop := wpX11_isEvent x1 s (fun r1 s1 => (¬ r1 = 0 → wpX8_isTold 20 x1 s1 (fun r2 s2 => (¬ r2 = 0 → wpX6_clear s2 (fun s3 => wpX8_inBits 20 x1 s3 (fun r4 s4 => wpX6_add r4 s4 (fun s5 => wpX11_solved s5 (fun s6 => wpX7_leftBits 38 x1 s6 (fun r7 s7 => wpX6_add r7 s7 (fun s8 => wpX8_size 20 x1 s8 (fun r9 s9 => Q r9 s9)))))))) ∧ (r2 = 0 → Q (-2) s2))) ∧ (r1 = 0 → Q (-1) s1))
set_option maxRecDepth 20000 in
theorem spX11_readings {l : Launch} {x1 : Int32}  {s : gS} {Q : Int32 → gS → Prop} (h : wpX11_readings x1 s Q) : Ct l mX11_readings 14 0 0 [.ref 0, .int x1] (nrm s) (q_i Q) := by
  refine Ct.of (by decide) (Nat.le_of_ble_eq_true rfl) (fun X => ?_)
  refine n_L (L' := [some (.ref 0), some (.int x1)]) (le_s (le_s (le_e))) ?_
  refine r_iload_n (pc := 0) (x := x1) dX11_readings_0 rfl ?_
  refine n_Si0 (pc := 1) (S0 := []) (spX11_isEvent h) gmX11_isEvent lk_RX11_103 dX11_readings_1 rfl rfl ⟨Nat.le_of_ble_eq_true rfl, Nat.le_of_ble_eq_true rfl⟩ (Nat.le_of_ble_eq_true rfl) ⟨Nat.zero_le _, Nat.zero_le _⟩ (fun r1 s1 h => ?_)
  refine r_if_ne (pc := 4) (tgt := 9) dX11_readings_4 (by decide) (fun c => ?_) (fun c => ?_)
  · replace h := h.1 c
    refine r_aload_n (pc := 9) (x := 0) dX11_readings_9 rfl ?_
    refine n_getR (pc := 10) (j := 4) (q := 20) dX11_readings_10 fl_RX11_40 (by decide) sh_0 rfl rfl rfl ?_
    refine r_iload_n (pc := 13) (x := x1) dX11_readings_13 rfl ?_
    refine n_Vi0 (pc := 14) (S0 := []) (spX8_isTold isSt_20 h) gmX8_isTold selX8_isTold lk_RX11_106 dX11_readings_14 rfl (by decide) sh_20 ⟨rfl, by decide⟩ rfl ⟨Nat.le_of_ble_eq_true rfl, Nat.le_of_ble_eq_true rfl⟩ (Nat.le_of_ble_eq_true rfl) ⟨Nat.zero_le _, Nat.zero_le _⟩ (fun r2 s2 h => ?_)
    refine r_if_ne (pc := 17) (tgt := 23) dX11_readings_17 (by decide) (fun c => ?_) (fun c => ?_)
    · replace h := h.1 c
      refine r_aload_n (pc := 23) (x := 0) dX11_readings_23 rfl ?_
      refine n_getR (pc := 24) (j := 3) (q := 18) dX11_readings_24 fl_RX11_33 (by decide) sh_0 rfl rfl rfl ?_
      refine n_Vv0 (pc := 27) (S0 := []) (spX6_clear h) gmX6_clear selX6_clear lk_RX11_159 dX11_readings_27 rfl (by decide) sh_18 ⟨rfl, by decide⟩ rfl ⟨Nat.le_of_ble_eq_true rfl, Nat.le_of_ble_eq_true rfl⟩ (Nat.le_of_ble_eq_true rfl) ⟨Nat.zero_le _, Nat.zero_le _⟩ (fun s3 h => ?_)
      refine r_aload_n (pc := 30) (x := 0) dX11_readings_30 rfl ?_
      refine n_getR (pc := 31) (j := 3) (q := 18) dX11_readings_31 fl_RX11_33 (by decide) sh_0 rfl rfl rfl ?_
      refine r_aload_n (pc := 34) (x := 0) dX11_readings_34 rfl ?_
      refine n_getR (pc := 35) (j := 4) (q := 20) dX11_readings_35 fl_RX11_40 (by decide) sh_0 rfl rfl rfl ?_
      refine r_iload_n (pc := 38) (x := x1) dX11_readings_38 rfl ?_
      refine n_Vi0 (pc := 39) (S0 := [.ref 18]) (spX8_inBits isSt_20 h) gmX8_inBits selX8_inBits lk_RX11_173 dX11_readings_39 rfl (by decide) sh_20 ⟨rfl, by decide⟩ rfl ⟨Nat.le_of_ble_eq_true rfl, Nat.le_of_ble_eq_true rfl⟩ (Nat.le_of_ble_eq_true rfl) ⟨Nat.zero_le _, Nat.zero_le _⟩ (fun r4 s4 h => ?_)
      refine n_Vv0 (pc := 42) (S0 := []) (spX6_add h) gmX6_add selX6_add lk_RX11_160 dX11_readings_42 rfl (by decide) sh_18 ⟨rfl, by decide⟩ rfl ⟨Nat.le_of_ble_eq_true rfl, Nat.le_of_ble_eq_true rfl⟩ (Nat.le_of_ble_eq_true rfl) ⟨Nat.zero_le _, Nat.zero_le _⟩ (fun s5 h => ?_)
      refine r_aload_n (pc := 45) (x := 0) dX11_readings_45 rfl ?_
      refine n_getR (pc := 46) (j := 3) (q := 18) dX11_readings_46 fl_RX11_33 (by decide) sh_0 rfl rfl rfl ?_
      refine r_aload_n (pc := 49) (x := 0) dX11_readings_49 rfl ?_
      refine n_Va0 (pc := 50) (S0 := [.ref 18]) (spX11_solved h) gmX11_solved selX11_solved lk_RX11_176 dX11_readings_50 rfl (by decide) sh_0 ⟨rfl, by decide⟩ rfl ⟨Nat.le_of_ble_eq_true rfl, Nat.le_of_ble_eq_true rfl⟩ (Nat.le_of_ble_eq_true rfl) ⟨Nat.zero_le _, Nat.zero_le _⟩ (fun s6 h => ?_)
      refine r_iload_n (pc := 53) (x := x1) dX11_readings_53 rfl ?_
      refine n_Vi0 (pc := 54) (S0 := [.ref 18]) (spX7_leftBits isSo_38 h) gmX7_leftBits selX7_leftBits lk_RX11_180 dX11_readings_54 rfl (by decide) sh_38 ⟨rfl, by decide⟩ rfl ⟨Nat.le_of_ble_eq_true rfl, Nat.le_of_ble_eq_true rfl⟩ (Nat.le_of_ble_eq_true rfl) ⟨Nat.zero_le _, Nat.zero_le _⟩ (fun r7 s7 h => ?_)
      refine n_Vv0 (pc := 57) (S0 := []) (spX6_add h) gmX6_add selX6_add lk_RX11_160 dX11_readings_57 rfl (by decide) sh_18 ⟨rfl, by decide⟩ rfl ⟨Nat.le_of_ble_eq_true rfl, Nat.le_of_ble_eq_true rfl⟩ (Nat.le_of_ble_eq_true rfl) ⟨Nat.zero_le _, Nat.zero_le _⟩ (fun s8 h => ?_)
      refine r_aload_n (pc := 60) (x := 0) dX11_readings_60 rfl ?_
      refine n_getR (pc := 61) (j := 4) (q := 20) dX11_readings_61 fl_RX11_40 (by decide) sh_0 rfl rfl rfl ?_
      refine r_iload_n (pc := 64) (x := x1) dX11_readings_64 rfl ?_
      refine n_Vi0 (pc := 65) (S0 := []) (spX8_size isSt_20 h) gmX8_size selX8_size lk_RX11_183 dX11_readings_65 rfl (by decide) sh_20 ⟨rfl, by decide⟩ rfl ⟨Nat.le_of_ble_eq_true rfl, Nat.le_of_ble_eq_true rfl⟩ (Nat.le_of_ble_eq_true rfl) ⟨Nat.zero_le _, Nat.zero_le _⟩ (fun r9 s9 h => ?_)
      exact n_iret (pc := 68) dX11_readings_68 rfl (Nat.le_refl _) (Nat.le_refl _) h
    · replace h := h.2 c
      refine r_bipush (pc := 20) (v := (-2)) dX11_readings_20 (by decide) ?_
      exact n_iret (pc := 22) dX11_readings_22 rfl (Nat.le_refl _) (Nat.le_refl _) h
  · replace h := h.2 c
    refine r_iconst (pc := 7) (v := (-1)) dX11_readings_7 (by decide) ?_
    exact n_iret (pc := 8) dX11_readings_8 rfl (Nat.le_refl _) (Nat.le_refl _) h
def wX11_hull_35 (x1 : Int32) (Q : Int32 → gS → Prop)  : Nat → Int32 → Int32 → Int32 → Int32 → gS → Prop
  | 0, _, _, _, _, _ => False
  | n + 1, y2, y3, y4, y5, s => (6 ≤ y5 → wpX6_clear s (fun s4 => wpX6_add y3 s4 (fun s5 => wpX6_add y4 s5 (fun s6 => Q ((y4 - y3) + 1) s6)))) ∧ (¬ (6 ≤ y5) → wpX11_hasBit y2 y5 s (fun r7 s7 => (r7 = 0 → wX11_hull_35 x1 Q n y2 y3 y4 (y5 + 1) s7) ∧ (¬ (r7 = 0) → wpX8_value 20 x1 y5 0 s7 (fun r8 s8 => wpX8_value 20 x1 y5 1 s8 (fun r9 s9 => wX11_hull_35 x1 Q n y2 (jmin y3 r8) (jmax y4 r9) (y5 + 1) s9)))))
set_option maxRecDepth 20000 in
theorem pX11_hull_35 {l : Launch} {X : gX} {x1 : Int32}  {Q : Int32 → gS → Prop}  : ∀ (n : Nat) (y2 : Int32) (y3 : Int32) (y4 : Int32) (y5 : Int32) (s : gS) (h : wX11_hull_35 x1 Q n y2 y3 y4 y5 s) , Gw l mX11_hull (g_rm 14 0 0) X 35 [some (.ref 0), some (.int x1), some (.int y2), some (.int y3), some (.int y4), some (.int y5)] [] (nrm s) 0 0 (g_Z X (q_i Q) 0 0) := by
  intro n
  induction n with
  | zero => intro y2 y3 y4 y5 s h; exact h.elim
  | succ n ih0 =>
    intro y2 y3 y4 y5 s h 
    have ih : ∀ (y2 : Int32) (y3 : Int32) (y4 : Int32) (y5 : Int32) (s : gS), wX11_hull_35 x1 Q n y2 y3 y4 y5 s → Gw l mX11_hull (g_rm 14 0 0) X 35 [some (.ref 0), some (.int x1), some (.int y2), some (.int y3), some (.int y4), some (.int y5)] [] (nrm s) 0 0 (g_Z X (q_i Q) 0 0) := fun y2 y3 y4 y5 s h => ih0 y2 y3 y4 y5 s h 
    refine r_iload (pc := 35) (x := y5) dX11_hull_35 rfl ?_
    refine r_bipush (pc := 37) (v := 6) dX11_hull_37 (by decide) ?_
    refine r_icmp_ge (pc := 39) (tgt := 91) dX11_hull_39 (by decide) (fun c => ?_) (fun c => ?_)
    · replace h := h.1 c
      refine r_aload_n (pc := 91) (x := 0) dX11_hull_91 rfl ?_
      refine n_getR (pc := 92) (j := 3) (q := 18) dX11_hull_92 fl_RX11_33 (by decide) sh_0 rfl rfl rfl ?_
      refine n_Vv0 (pc := 95) (S0 := []) (spX6_clear h) gmX6_clear selX6_clear lk_RX11_159 dX11_hull_95 rfl (by decide) sh_18 ⟨rfl, by decide⟩ rfl ⟨Nat.le_of_ble_eq_true rfl, Nat.le_of_ble_eq_true rfl⟩ (Nat.le_of_ble_eq_true rfl) ⟨Nat.zero_le _, Nat.zero_le _⟩ (fun s4 h => ?_)
      refine r_aload_n (pc := 98) (x := 0) dX11_hull_98 rfl ?_
      refine n_getR (pc := 99) (j := 3) (q := 18) dX11_hull_99 fl_RX11_33 (by decide) sh_0 rfl rfl rfl ?_
      refine r_iload_n (pc := 102) (x := y3) dX11_hull_102 rfl ?_
      refine n_Vv0 (pc := 103) (S0 := []) (spX6_add h) gmX6_add selX6_add lk_RX11_160 dX11_hull_103 rfl (by decide) sh_18 ⟨rfl, by decide⟩ rfl ⟨Nat.le_of_ble_eq_true rfl, Nat.le_of_ble_eq_true rfl⟩ (Nat.le_of_ble_eq_true rfl) ⟨Nat.zero_le _, Nat.zero_le _⟩ (fun s5 h => ?_)
      refine r_aload_n (pc := 106) (x := 0) dX11_hull_106 rfl ?_
      refine n_getR (pc := 107) (j := 3) (q := 18) dX11_hull_107 fl_RX11_33 (by decide) sh_0 rfl rfl rfl ?_
      refine r_iload (pc := 110) (x := y4) dX11_hull_110 rfl ?_
      refine n_Vv0 (pc := 112) (S0 := []) (spX6_add h) gmX6_add selX6_add lk_RX11_160 dX11_hull_112 rfl (by decide) sh_18 ⟨rfl, by decide⟩ rfl ⟨Nat.le_of_ble_eq_true rfl, Nat.le_of_ble_eq_true rfl⟩ (Nat.le_of_ble_eq_true rfl) ⟨Nat.zero_le _, Nat.zero_le _⟩ (fun s6 h => ?_)
      refine r_iload (pc := 115) (x := y4) dX11_hull_115 rfl ?_
      refine r_iload_n (pc := 117) (x := y3) dX11_hull_117 rfl ?_
      refine r_isub (pc := 118) dX11_hull_118 ?_
      refine r_iconst (pc := 119) (v := 1) dX11_hull_119 (by decide) ?_
      refine r_iadd (pc := 120) dX11_hull_120 ?_
      exact n_iret (pc := 121) dX11_hull_121 rfl (Nat.le_refl _) (Nat.le_refl _) h
    · replace h := h.2 c
      refine r_iload_n (pc := 42) (x := y2) dX11_hull_42 rfl ?_
      refine r_iload (pc := 43) (x := y5) dX11_hull_43 rfl ?_
      refine n_Si0 (pc := 45) (S0 := []) (spX11_hasBit h) gmX11_hasBit lk_RX11_196 dX11_hull_45 rfl rfl ⟨Nat.le_of_ble_eq_true rfl, Nat.le_of_ble_eq_true rfl⟩ (Nat.le_of_ble_eq_true rfl) ⟨Nat.zero_le _, Nat.zero_le _⟩ (fun r7 s7 h => ?_)
      refine r_if_eq (pc := 48) (tgt := 85) dX11_hull_48 (by decide) (fun c => ?_) (fun c => ?_)
      · replace h := h.1 c
        refine n_iinc (pc := 85) (x := y5) (w := 1) (L' := [some (.ref 0), some (.int x1), some (.int y2), some (.int y3), some (.int y4), some (.int (y5 + 1))]) dX11_hull_85 rfl (by decide) rfl (by decide) rfl ?_
        refine r_goto (pc := 88) (tgt := 35) dX11_hull_88 (by decide) ?_
        refine n_L (L' := [some (.ref 0), some (.int x1), some (.int y2), some (.int y3), some (.int y4), some (.int (y5 + 1))]) (le_s (le_s (le_s (le_s (le_s (le_s (le_e))))))) ?_
        exact ih _ _ _ _ _ h
      · replace h := h.2 c
        refine r_iload_n (pc := 51) (x := y3) dX11_hull_51 rfl ?_
        refine r_aload_n (pc := 52) (x := 0) dX11_hull_52 rfl ?_
        refine n_getR (pc := 53) (j := 4) (q := 20) dX11_hull_53 fl_RX11_40 (by decide) sh_0 rfl rfl rfl ?_
        refine r_iload_n (pc := 56) (x := x1) dX11_hull_56 rfl ?_
        refine r_iload (pc := 57) (x := y5) dX11_hull_57 rfl ?_
        refine r_iconst (pc := 59) (v := 0) dX11_hull_59 (by decide) ?_
        refine n_Vi0 (pc := 60) (S0 := [.int y3]) (spX8_value isSt_20 h) gmX8_value selX8_value lk_RX11_124 dX11_hull_60 rfl (by decide) sh_20 ⟨rfl, by decide⟩ rfl ⟨Nat.le_of_ble_eq_true rfl, Nat.le_of_ble_eq_true rfl⟩ (Nat.le_of_ble_eq_true rfl) ⟨Nat.zero_le _, Nat.zero_le _⟩ (fun r8 s8 h => ?_)
        refine n_min (pc := 63) dX11_hull_63 lk_RX11_199 ⟨Nat.le_of_ble_eq_true rfl, Nat.le_of_ble_eq_true rfl⟩ ⟨Nat.zero_le _, Nat.zero_le _⟩ ?_
        refine r_istore_n (pc := 66) (L' := [some (.ref 0), some (.int x1), some (.int y2), some (.int (jmin y3 r8)), some (.int y4), some (.int y5)]) dX11_hull_66 rfl (by decide) rfl ?_
        refine r_iload (pc := 67) (x := y4) dX11_hull_67 rfl ?_
        refine r_aload_n (pc := 69) (x := 0) dX11_hull_69 rfl ?_
        refine n_getR (pc := 70) (j := 4) (q := 20) dX11_hull_70 fl_RX11_40 (by decide) sh_0 rfl rfl rfl ?_
        refine r_iload_n (pc := 73) (x := x1) dX11_hull_73 rfl ?_
        refine r_iload (pc := 74) (x := y5) dX11_hull_74 rfl ?_
        refine r_iconst (pc := 76) (v := 1) dX11_hull_76 (by decide) ?_
        refine n_Vi0 (pc := 77) (S0 := [.int y4]) (spX8_value isSt_20 h) gmX8_value selX8_value lk_RX11_124 dX11_hull_77 rfl (by decide) sh_20 ⟨rfl, by decide⟩ rfl ⟨Nat.le_of_ble_eq_true rfl, Nat.le_of_ble_eq_true rfl⟩ (Nat.le_of_ble_eq_true rfl) ⟨Nat.zero_le _, Nat.zero_le _⟩ (fun r9 s9 h => ?_)
        refine n_max (pc := 80) dX11_hull_80 lk_RX11_205 ⟨Nat.le_of_ble_eq_true rfl, Nat.le_of_ble_eq_true rfl⟩ ⟨Nat.zero_le _, Nat.zero_le _⟩ ?_
        refine r_istore (pc := 83) (L' := [some (.ref 0), some (.int x1), some (.int y2), some (.int (jmin y3 r8)), some (.int (jmax y4 r9)), some (.int y5)]) dX11_hull_83 rfl (by decide) rfl ?_
        refine n_iinc (pc := 85) (x := y5) (w := 1) (L' := [some (.ref 0), some (.int x1), some (.int y2), some (.int (jmin y3 r8)), some (.int (jmax y4 r9)), some (.int (y5 + 1))]) dX11_hull_85 rfl (by decide) rfl (by decide) rfl ?_
        refine r_goto (pc := 88) (tgt := 35) dX11_hull_88 (by decide) ?_
        refine n_L (L' := [some (.ref 0), some (.int x1), some (.int y2), some (.int (jmin y3 r8)), some (.int (jmax y4 r9)), some (.int (y5 + 1))]) (le_s (le_s (le_s (le_s (le_s (le_s (le_e))))))) ?_
        exact ih _ _ _ _ _ h
def wpX11_hull (x1 : Int32) (s : gS) (Q : Int32 → gS → Prop) : Prop := wpX11_isEvent x1 s (fun r1 s1 => (¬ r1 = 0 → wpX11_solved s1 (fun s2 => wpX7_leftBits 38 x1 s2 (fun r3 s3 => (¬ r3 = 0 → ∃ n35, wX11_hull_35 x1 Q n35 r3 9999 0 0 s3) ∧ (r3 = 0 → Q (-2) s3)))) ∧ (r1 = 0 → Q (-1) s1))
set_option maxRecDepth 20000 in
theorem spX11_hull {l : Launch} {x1 : Int32}  {s : gS} {Q : Int32 → gS → Prop} (h : wpX11_hull x1 s Q) : Ct l mX11_hull 14 0 0 [.ref 0, .int x1] (nrm s) (q_i Q) := by
  refine Ct.of (by decide) (Nat.le_of_ble_eq_true rfl) (fun X => ?_)
  refine n_L (L' := [some (.ref 0), some (.int x1), none, none, none, none]) (le_s (le_s (le_p (le_p (le_p (le_p (le_e))))))) ?_
  refine r_iload_n (pc := 0) (x := x1) dX11_hull_0 rfl ?_
  refine n_Si0 (pc := 1) (S0 := []) (spX11_isEvent h) gmX11_isEvent lk_RX11_103 dX11_hull_1 rfl rfl ⟨Nat.le_of_ble_eq_true rfl, Nat.le_of_ble_eq_true rfl⟩ (Nat.le_of_ble_eq_true rfl) ⟨Nat.zero_le _, Nat.zero_le _⟩ (fun r1 s1 h => ?_)
  refine r_if_ne (pc := 4) (tgt := 9) dX11_hull_4 (by decide) (fun c => ?_) (fun c => ?_)
  · replace h := h.1 c
    refine r_aload_n (pc := 9) (x := 0) dX11_hull_9 rfl ?_
    refine n_Va0 (pc := 10) (S0 := []) (spX11_solved h) gmX11_solved selX11_solved lk_RX11_176 dX11_hull_10 rfl (by decide) sh_0 ⟨rfl, by decide⟩ rfl ⟨Nat.le_of_ble_eq_true rfl, Nat.le_of_ble_eq_true rfl⟩ (Nat.le_of_ble_eq_true rfl) ⟨Nat.zero_le _, Nat.zero_le _⟩ (fun s2 h => ?_)
    refine r_iload_n (pc := 13) (x := x1) dX11_hull_13 rfl ?_
    refine n_Vi0 (pc := 14) (S0 := []) (spX7_leftBits isSo_38 h) gmX7_leftBits selX7_leftBits lk_RX11_180 dX11_hull_14 rfl (by decide) sh_38 ⟨rfl, by decide⟩ rfl ⟨Nat.le_of_ble_eq_true rfl, Nat.le_of_ble_eq_true rfl⟩ (Nat.le_of_ble_eq_true rfl) ⟨Nat.zero_le _, Nat.zero_le _⟩ (fun r3 s3 h => ?_)
    refine r_istore_n (pc := 17) (L' := [some (.ref 0), some (.int x1), some (.int r3), none, none, none]) dX11_hull_17 rfl (by decide) rfl ?_
    refine r_iload_n (pc := 18) (x := r3) dX11_hull_18 rfl ?_
    refine r_if_ne (pc := 19) (tgt := 25) dX11_hull_19 (by decide) (fun c => ?_) (fun c => ?_)
    · replace h := h.1 c
      refine r_sipush (pc := 25) (v := 9999) dX11_hull_25 (by decide) ?_
      refine r_istore_n (pc := 28) (L' := [some (.ref 0), some (.int x1), some (.int r3), some (.int 9999), none, none]) dX11_hull_28 rfl (by decide) rfl ?_
      refine r_iconst (pc := 29) (v := 0) dX11_hull_29 (by decide) ?_
      refine r_istore (pc := 30) (L' := [some (.ref 0), some (.int x1), some (.int r3), some (.int 9999), some (.int 0), none]) dX11_hull_30 rfl (by decide) rfl ?_
      refine r_iconst (pc := 32) (v := 0) dX11_hull_32 (by decide) ?_
      refine r_istore (pc := 33) (L' := [some (.ref 0), some (.int x1), some (.int r3), some (.int 9999), some (.int 0), some (.int 0)]) dX11_hull_33 rfl (by decide) rfl ?_
      refine n_L (L' := [some (.ref 0), some (.int x1), some (.int r3), some (.int 9999), some (.int 0), some (.int 0)]) (le_s (le_s (le_s (le_s (le_s (le_s (le_e))))))) ?_
      obtain ⟨n, h⟩ := h
      exact pX11_hull_35  n _ _ _ _ _ h 
    · replace h := h.2 c
      refine r_bipush (pc := 22) (v := (-2)) dX11_hull_22 (by decide) ?_
      exact n_iret (pc := 24) dX11_hull_24 rfl (Nat.le_refl _) (Nat.le_refl _) h
  · replace h := h.2 c
    refine r_iconst (pc := 7) (v := (-1)) dX11_hull_7 (by decide) ?_
    exact n_iret (pc := 8) dX11_hull_8 rfl (Nat.le_refl _) (Nat.le_refl _) h
def wpX11_order (x1 : Int32) (x2 : Int32) (x3 : Int32) (s : gS) (Q : Int32 → gS → Prop) : Prop := wpX11_saveBefore s (fun s1 => wpX8_addOrder 20 x1 x2 x3 10 s1 (fun r2 s2 => wpX11_recorded r2 s2 (fun r3 s3 => Q r3 s3)))
set_option maxRecDepth 20000 in
theorem spX11_order {l : Launch} {x1 : Int32} {x2 : Int32} {x3 : Int32}  {s : gS} {Q : Int32 → gS → Prop} (h : wpX11_order x1 x2 x3 s Q) : Ct l mX11_order 4 0 0 [.ref 0, .int x1, .int x2, .int x3] (nrm s) (q_i Q) := by
  refine Ct.of (by decide) (Nat.le_of_ble_eq_true rfl) (fun X => ?_)
  refine n_L (L' := [some (.ref 0), some (.int x1), some (.int x2), some (.int x3)]) (le_s (le_s (le_s (le_s (le_e))))) ?_
  refine r_aload_n (pc := 0) (x := 0) dX11_order_0 rfl ?_
  refine n_Vv0 (pc := 1) (S0 := []) (spX11_saveBefore h) gmX11_saveBefore selX11_saveBefore lk_RX11_131 dX11_order_1 rfl (by decide) sh_0 ⟨rfl, by decide⟩ rfl ⟨Nat.le_of_ble_eq_true rfl, Nat.le_of_ble_eq_true rfl⟩ (Nat.le_of_ble_eq_true rfl) ⟨Nat.zero_le _, Nat.zero_le _⟩ (fun s1 h => ?_)
  refine r_aload_n (pc := 4) (x := 0) dX11_order_4 rfl ?_
  refine r_aload_n (pc := 5) (x := 0) dX11_order_5 rfl ?_
  refine n_getR (pc := 6) (j := 4) (q := 20) dX11_order_6 fl_RX11_40 (by decide) sh_0 rfl rfl rfl ?_
  refine r_iload_n (pc := 9) (x := x1) dX11_order_9 rfl ?_
  refine r_iload_n (pc := 10) (x := x2) dX11_order_10 rfl ?_
  refine r_iload_n (pc := 11) (x := x3) dX11_order_11 rfl ?_
  refine r_bipush (pc := 12) (v := 10) dX11_order_12 (by decide) ?_
  refine n_Vi0 (pc := 14) (S0 := [.ref 0]) (spX8_addOrder isSt_20 h) gmX8_addOrder selX8_addOrder lk_RX11_208 dX11_order_14 rfl (by decide) sh_20 ⟨rfl, by decide⟩ rfl ⟨Nat.le_of_ble_eq_true rfl, Nat.le_of_ble_eq_true rfl⟩ (Nat.le_of_ble_eq_true rfl) ⟨Nat.zero_le _, Nat.zero_le _⟩ (fun r2 s2 h => ?_)
  refine n_Vi0 (pc := 17) (S0 := []) (spX11_recorded h) gmX11_recorded selX11_recorded lk_RX11_142 dX11_order_17 rfl (by decide) sh_0 ⟨rfl, by decide⟩ rfl ⟨Nat.le_of_ble_eq_true rfl, Nat.le_of_ble_eq_true rfl⟩ (Nat.le_of_ble_eq_true rfl) ⟨Nat.zero_le _, Nat.zero_le _⟩ (fun r3 s3 h => ?_)
  exact n_iret (pc := 20) dX11_order_20 rfl (Nat.le_refl _) (Nat.le_refl _) h
def wX11_told_39 (x1 : Int32) (Q : Int32 → gS → Prop)  (z0 : Int32) (s : gS) : Prop := wpX6_add z0 s (fun s4 => wpX8_pairsThatHold 20 x1 s4 (fun r5 s5 => wpX6_add r5 s5 (fun s6 => wpX8_code 20 x1 s6 (fun r7 s7 => Q r7 s7))))
set_option maxRecDepth 20000 in
theorem pX11_told_39 {l : Launch} {X : gX} {x1 : Int32}  {Q : Int32 → gS → Prop}  (z0 : Int32) (s : gS) (h : wX11_told_39 x1 Q z0 s)  : Gw l mX11_told (g_rm 14 0 0) X 39 [some (.ref 0), some (.int x1)] [.int z0, .ref 18] (nrm s) 0 0 (g_Z X (q_i Q) 0 0) := by
  refine n_Vv0 (pc := 39) (S0 := []) (spX6_add h) gmX6_add selX6_add lk_RX11_160 dX11_told_39 rfl (by decide) sh_18 ⟨rfl, by decide⟩ rfl ⟨Nat.le_of_ble_eq_true rfl, Nat.le_of_ble_eq_true rfl⟩ (Nat.le_of_ble_eq_true rfl) ⟨Nat.zero_le _, Nat.zero_le _⟩ (fun s4 h => ?_)
  refine r_aload_n (pc := 42) (x := 0) dX11_told_42 rfl ?_
  refine n_getR (pc := 43) (j := 3) (q := 18) dX11_told_43 fl_RX11_33 (by decide) sh_0 rfl rfl rfl ?_
  refine r_aload_n (pc := 46) (x := 0) dX11_told_46 rfl ?_
  refine n_getR (pc := 47) (j := 4) (q := 20) dX11_told_47 fl_RX11_40 (by decide) sh_0 rfl rfl rfl ?_
  refine r_iload_n (pc := 50) (x := x1) dX11_told_50 rfl ?_
  refine n_Vi0 (pc := 51) (S0 := [.ref 18]) (spX8_pairsThatHold isSt_20 h) gmX8_pairsThatHold selX8_pairsThatHold lk_RX11_218 dX11_told_51 rfl (by decide) sh_20 ⟨rfl, by decide⟩ rfl ⟨Nat.le_of_ble_eq_true rfl, Nat.le_of_ble_eq_true rfl⟩ (Nat.le_of_ble_eq_true rfl) ⟨Nat.zero_le _, Nat.zero_le _⟩ (fun r5 s5 h => ?_)
  refine n_Vv0 (pc := 54) (S0 := []) (spX6_add h) gmX6_add selX6_add lk_RX11_160 dX11_told_54 rfl (by decide) sh_18 ⟨rfl, by decide⟩ rfl ⟨Nat.le_of_ble_eq_true rfl, Nat.le_of_ble_eq_true rfl⟩ (Nat.le_of_ble_eq_true rfl) ⟨Nat.zero_le _, Nat.zero_le _⟩ (fun s6 h => ?_)
  refine r_aload_n (pc := 57) (x := 0) dX11_told_57 rfl ?_
  refine n_getR (pc := 58) (j := 4) (q := 20) dX11_told_58 fl_RX11_40 (by decide) sh_0 rfl rfl rfl ?_
  refine r_iload_n (pc := 61) (x := x1) dX11_told_61 rfl ?_
  refine n_Vi0 (pc := 62) (S0 := []) (spX8_code isSt_20 h) gmX8_code selX8_code lk_RX11_221 dX11_told_62 rfl (by decide) sh_20 ⟨rfl, by decide⟩ rfl ⟨Nat.le_of_ble_eq_true rfl, Nat.le_of_ble_eq_true rfl⟩ (Nat.le_of_ble_eq_true rfl) ⟨Nat.zero_le _, Nat.zero_le _⟩ (fun r7 s7 h => ?_)
  exact n_iret (pc := 65) dX11_told_65 rfl (Nat.le_refl _) (Nat.le_refl _) h
def wpX11_told (x1 : Int32) (s : gS) (Q : Int32 → gS → Prop) : Prop := wpX8_hasOrder 20 x1 s (fun r1 s1 => (¬ r1 = 0 → wpX6_clear s1 (fun s2 => wpX11_solved s2 (fun s3 => ((gi s3 38 8) ≤ 0 → wX11_told_39 x1 Q 2 s3) ∧ (¬ ((gi s3 38 8) ≤ 0) → wX11_told_39 x1 Q 1 s3)))) ∧ (r1 = 0 → Q (-1) s1))
set_option maxRecDepth 20000 in
theorem spX11_told {l : Launch} {x1 : Int32}  {s : gS} {Q : Int32 → gS → Prop} (h : wpX11_told x1 s Q) : Ct l mX11_told 14 0 0 [.ref 0, .int x1] (nrm s) (q_i Q) := by
  refine Ct.of (by decide) (Nat.le_of_ble_eq_true rfl) (fun X => ?_)
  refine n_L (L' := [some (.ref 0), some (.int x1)]) (le_s (le_s (le_e))) ?_
  refine r_aload_n (pc := 0) (x := 0) dX11_told_0 rfl ?_
  refine n_getR (pc := 1) (j := 4) (q := 20) dX11_told_1 fl_RX11_40 (by decide) sh_0 rfl rfl rfl ?_
  refine r_iload_n (pc := 4) (x := x1) dX11_told_4 rfl ?_
  refine n_Vi0 (pc := 5) (S0 := []) (spX8_hasOrder isSt_20 h) gmX8_hasOrder selX8_hasOrder lk_RX11_212 dX11_told_5 rfl (by decide) sh_20 ⟨rfl, by decide⟩ rfl ⟨Nat.le_of_ble_eq_true rfl, Nat.le_of_ble_eq_true rfl⟩ (Nat.le_of_ble_eq_true rfl) ⟨Nat.zero_le _, Nat.zero_le _⟩ (fun r1 s1 h => ?_)
  refine r_if_ne (pc := 8) (tgt := 13) dX11_told_8 (by decide) (fun c => ?_) (fun c => ?_)
  · replace h := h.1 c
    refine r_aload_n (pc := 13) (x := 0) dX11_told_13 rfl ?_
    refine n_getR (pc := 14) (j := 3) (q := 18) dX11_told_14 fl_RX11_33 (by decide) sh_0 rfl rfl rfl ?_
    refine n_Vv0 (pc := 17) (S0 := []) (spX6_clear h) gmX6_clear selX6_clear lk_RX11_159 dX11_told_17 rfl (by decide) sh_18 ⟨rfl, by decide⟩ rfl ⟨Nat.le_of_ble_eq_true rfl, Nat.le_of_ble_eq_true rfl⟩ (Nat.le_of_ble_eq_true rfl) ⟨Nat.zero_le _, Nat.zero_le _⟩ (fun s2 h => ?_)
    refine r_aload_n (pc := 20) (x := 0) dX11_told_20 rfl ?_
    refine n_getR (pc := 21) (j := 3) (q := 18) dX11_told_21 fl_RX11_33 (by decide) sh_0 rfl rfl rfl ?_
    refine r_aload_n (pc := 24) (x := 0) dX11_told_24 rfl ?_
    refine n_Va0 (pc := 25) (S0 := [.ref 18]) (spX11_solved h) gmX11_solved selX11_solved lk_RX11_176 dX11_told_25 rfl (by decide) sh_0 ⟨rfl, by decide⟩ rfl ⟨Nat.le_of_ble_eq_true rfl, Nat.le_of_ble_eq_true rfl⟩ (Nat.le_of_ble_eq_true rfl) ⟨Nat.zero_le _, Nat.zero_le _⟩ (fun s3 h => ?_)
    refine n_getI (pc := 28) (j := 8) dX11_told_28 fl_RX11_215 (by decide) sh_38 rfl rfl ?_
    refine r_if_le (pc := 31) (tgt := 38) dX11_told_31 (by decide) (fun c => ?_) (fun c => ?_)
    · replace h := h.1 c
      refine r_iconst (pc := 38) (v := 2) dX11_told_38 (by decide) ?_
      refine n_L (L' := [some (.ref 0), some (.int x1)]) (le_s (le_s (le_e))) ?_
      exact pX11_told_39  _ _ h 
    · replace h := h.2 c
      refine r_iconst (pc := 34) (v := 1) dX11_told_34 (by decide) ?_
      refine r_goto (pc := 35) (tgt := 39) dX11_told_35 (by decide) ?_
      refine n_L (L' := [some (.ref 0), some (.int x1)]) (le_s (le_s (le_e))) ?_
      exact pX11_told_39  _ _ h 
  · replace h := h.2 c
    refine r_iconst (pc := 11) (v := (-1)) dX11_told_11 (by decide) ?_
    exact n_iret (pc := 12) dX11_told_12 rfl (Nat.le_refl _) (Nat.le_refl _) h
def wpX11_choices  (s : gS) (Q : Int32 → gS → Prop) : Prop := wpX6_clear s (fun s1 => wpX8_choicesWithoutOrders 20 s1 (fun r2 s2 => wpX6_add r2 s2 (fun s3 => wpX11_solved s3 (fun s4 => Q (gi s4 38 8) s4))))
set_option maxRecDepth 20000 in
theorem spX11_choices {l : Launch}   {s : gS} {Q : Int32 → gS → Prop} (h : wpX11_choices  s Q) : Ct l mX11_choices 14 0 0 [.ref 0] (nrm s) (q_i Q) := by
  refine Ct.of (by decide) (Nat.le_of_ble_eq_true rfl) (fun X => ?_)
  refine n_L (L' := [some (.ref 0)]) (le_s (le_e)) ?_
  refine r_aload_n (pc := 0) (x := 0) dX11_choices_0 rfl ?_
  refine n_getR (pc := 1) (j := 3) (q := 18) dX11_choices_1 fl_RX11_33 (by decide) sh_0 rfl rfl rfl ?_
  refine n_Vv0 (pc := 4) (S0 := []) (spX6_clear h) gmX6_clear selX6_clear lk_RX11_159 dX11_choices_4 rfl (by decide) sh_18 ⟨rfl, by decide⟩ rfl ⟨Nat.le_of_ble_eq_true rfl, Nat.le_of_ble_eq_true rfl⟩ (Nat.le_of_ble_eq_true rfl) ⟨Nat.zero_le _, Nat.zero_le _⟩ (fun s1 h => ?_)
  refine r_aload_n (pc := 7) (x := 0) dX11_choices_7 rfl ?_
  refine n_getR (pc := 8) (j := 3) (q := 18) dX11_choices_8 fl_RX11_33 (by decide) sh_0 rfl rfl rfl ?_
  refine r_aload_n (pc := 11) (x := 0) dX11_choices_11 rfl ?_
  refine n_getR (pc := 12) (j := 4) (q := 20) dX11_choices_12 fl_RX11_40 (by decide) sh_0 rfl rfl rfl ?_
  refine n_Vi0 (pc := 15) (S0 := [.ref 18]) (spX8_choicesWithoutOrders isSt_20 h) gmX8_choicesWithoutOrders selX8_choicesWithoutOrders lk_RX11_224 dX11_choices_15 rfl (by decide) sh_20 ⟨rfl, by decide⟩ rfl ⟨Nat.le_of_ble_eq_true rfl, Nat.le_of_ble_eq_true rfl⟩ (Nat.le_of_ble_eq_true rfl) ⟨Nat.zero_le _, Nat.zero_le _⟩ (fun r2 s2 h => ?_)
  refine n_Vv0 (pc := 18) (S0 := []) (spX6_add h) gmX6_add selX6_add lk_RX11_160 dX11_choices_18 rfl (by decide) sh_18 ⟨rfl, by decide⟩ rfl ⟨Nat.le_of_ble_eq_true rfl, Nat.le_of_ble_eq_true rfl⟩ (Nat.le_of_ble_eq_true rfl) ⟨Nat.zero_le _, Nat.zero_le _⟩ (fun s3 h => ?_)
  refine r_aload_n (pc := 21) (x := 0) dX11_choices_21 rfl ?_
  refine n_Va0 (pc := 22) (S0 := []) (spX11_solved h) gmX11_solved selX11_solved lk_RX11_176 dX11_choices_22 rfl (by decide) sh_0 ⟨rfl, by decide⟩ rfl ⟨Nat.le_of_ble_eq_true rfl, Nat.le_of_ble_eq_true rfl⟩ (Nat.le_of_ble_eq_true rfl) ⟨Nat.zero_le _, Nat.zero_le _⟩ (fun s4 h => ?_)
  refine n_getI (pc := 25) (j := 8) dX11_choices_25 fl_RX11_215 (by decide) sh_38 rfl rfl ?_
  exact n_iret (pc := 28) dX11_choices_28 rfl (Nat.le_refl _) (Nat.le_refl _) h
def wX11_tellBest_9 (a1 : Nat) (Q : gS → Prop)  : Nat → Int32 → gS → Prop
  | 0, _, _ => False
  | n + 1, y2, s => (6 ≤ y2 → Q s) ∧ (¬ (6 ≤ y2) → wpX7_bestReading a1 y2 s (fun r2 s2 => wpX6_add r2 s2 (fun s3 => wX11_tellBest_9 a1 Q n (y2 + 1) s3)))
set_option maxRecDepth 20000 in
theorem pX11_tellBest_9 {l : Launch} {X : gX} {a1 : Nat} (ha1 : isSo a1) {Q : gS → Prop}  : ∀ (n : Nat) (y2 : Int32) (s : gS) (h : wX11_tellBest_9 a1 Q n y2 s) , Gw l mX11_tellBest (g_rm 2 0 0) X 9 [some (.ref 0), some (.ref a1), some (.int y2)] [] (nrm s) 0 0 (g_Z X (q_v Q) 0 0) := by
  intro n
  induction n with
  | zero => intro y2 s h; exact h.elim
  | succ n ih0 =>
    intro y2 s h 
    have ih : ∀ (y2 : Int32) (s : gS), wX11_tellBest_9 a1 Q n y2 s → Gw l mX11_tellBest (g_rm 2 0 0) X 9 [some (.ref 0), some (.ref a1), some (.int y2)] [] (nrm s) 0 0 (g_Z X (q_v Q) 0 0) := fun y2 s h => ih0 y2 s h 
    refine r_iload_n (pc := 9) (x := y2) dX11_tellBest_9 rfl ?_
    refine r_bipush (pc := 10) (v := 6) dX11_tellBest_10 (by decide) ?_
    refine r_icmp_ge (pc := 12) (tgt := 33) dX11_tellBest_12 (by decide) (fun c => ?_) (fun c => ?_)
    · replace h := h.1 c
      exact n_vret (pc := 33) dX11_tellBest_33 rfl (Nat.le_refl _) (Nat.le_refl _) h
    · replace h := h.2 c
      refine r_aload_n (pc := 15) (x := 0) dX11_tellBest_15 rfl ?_
      refine n_getR (pc := 16) (j := 3) (q := 18) dX11_tellBest_16 fl_RX11_33 (by decide) sh_0 rfl rfl rfl ?_
      refine r_aload_n (pc := 19) (x := a1) dX11_tellBest_19 rfl ?_
      refine r_iload_n (pc := 20) (x := y2) dX11_tellBest_20 rfl ?_
      refine n_Vi0 (pc := 21) (S0 := [.ref 18]) (spX7_bestReading ha1 h) gmX7_bestReading selX7_bestReading lk_RX11_244 dX11_tellBest_21 rfl (lt_So ha1) (sh_So ha1) ⟨rfl, by decide⟩ rfl ⟨Nat.le_of_ble_eq_true rfl, Nat.le_of_ble_eq_true rfl⟩ (Nat.le_of_ble_eq_true rfl) ⟨Nat.zero_le _, Nat.zero_le _⟩ (fun r2 s2 h => ?_)
      refine n_Vv0 (pc := 24) (S0 := []) (spX6_add h) gmX6_add selX6_add lk_RX11_160 dX11_tellBest_24 rfl (by decide) sh_18 ⟨rfl, by decide⟩ rfl ⟨Nat.le_of_ble_eq_true rfl, Nat.le_of_ble_eq_true rfl⟩ (Nat.le_of_ble_eq_true rfl) ⟨Nat.zero_le _, Nat.zero_le _⟩ (fun s3 h => ?_)
      refine n_iinc (pc := 27) (x := y2) (w := 1) (L' := [some (.ref 0), some (.ref a1), some (.int (y2 + 1))]) dX11_tellBest_27 rfl (by decide) rfl (by decide) rfl ?_
      refine r_goto (pc := 30) (tgt := 9) dX11_tellBest_30 (by decide) ?_
      refine n_L (L' := [some (.ref 0), some (.ref a1), some (.int (y2 + 1))]) (le_s (le_s (le_s (le_e)))) ?_
      exact ih _ _ h
def wpX11_tellBest (a1 : Nat) (s : gS) (Q : gS → Prop) : Prop := wpX6_clear s (fun s1 => ∃ n9, wX11_tellBest_9 a1 Q n9 0 s1)
set_option maxRecDepth 20000 in
theorem spX11_tellBest {l : Launch} {a1 : Nat} (ha1 : isSo a1) {s : gS} {Q : gS → Prop} (h : wpX11_tellBest a1 s Q) : Ct l mX11_tellBest 2 0 0 [.ref 0, .ref a1] (nrm s) (q_v Q) := by
  refine Ct.of (by decide) (Nat.le_of_ble_eq_true rfl) (fun X => ?_)
  refine n_L (L' := [some (.ref 0), some (.ref a1), none]) (le_s (le_s (le_p (le_e)))) ?_
  refine r_aload_n (pc := 0) (x := 0) dX11_tellBest_0 rfl ?_
  refine n_getR (pc := 1) (j := 3) (q := 18) dX11_tellBest_1 fl_RX11_33 (by decide) sh_0 rfl rfl rfl ?_
  refine n_Vv0 (pc := 4) (S0 := []) (spX6_clear h) gmX6_clear selX6_clear lk_RX11_159 dX11_tellBest_4 rfl (by decide) sh_18 ⟨rfl, by decide⟩ rfl ⟨Nat.le_of_ble_eq_true rfl, Nat.le_of_ble_eq_true rfl⟩ (Nat.le_of_ble_eq_true rfl) ⟨Nat.zero_le _, Nat.zero_le _⟩ (fun s1 h => ?_)
  refine r_iconst (pc := 7) (v := 0) dX11_tellBest_7 (by decide) ?_
  refine r_istore_n (pc := 8) (L' := [some (.ref 0), some (.ref a1), some (.int 0)]) dX11_tellBest_8 rfl (by decide) rfl ?_
  refine n_L (L' := [some (.ref 0), some (.ref a1), some (.int 0)]) (le_s (le_s (le_s (le_e)))) ?_
  obtain ⟨n, h⟩ := h
  exact pX11_tellBest_9 ha1 n _ _ h 
def wpX11_best  (s : gS) (Q : Int32 → gS → Prop) : Prop := wpX11_solved s (fun s1 => (¬ (gi s1 38 8) = 0 → wpX11_tellBest 38 s1 (fun s2 => Q (gi s2 38 9) s2)) ∧ ((gi s1 38 8) = 0 → Q (-2) s1))
set_option maxRecDepth 20000 in
theorem spX11_best {l : Launch}   {s : gS} {Q : Int32 → gS → Prop} (h : wpX11_best  s Q) : Ct l mX11_best 14 0 0 [.ref 0] (nrm s) (q_i Q) := by
  refine Ct.of (by decide) (Nat.le_of_ble_eq_true rfl) (fun X => ?_)
  refine n_L (L' := [some (.ref 0), none]) (le_s (le_p (le_e))) ?_
  refine r_aload_n (pc := 0) (x := 0) dX11_best_0 rfl ?_
  refine n_Va0 (pc := 1) (S0 := []) (spX11_solved h) gmX11_solved selX11_solved lk_RX11_176 dX11_best_1 rfl (by decide) sh_0 ⟨rfl, by decide⟩ rfl ⟨Nat.le_of_ble_eq_true rfl, Nat.le_of_ble_eq_true rfl⟩ (Nat.le_of_ble_eq_true rfl) ⟨Nat.zero_le _, Nat.zero_le _⟩ (fun s1 h => ?_)
  refine r_astore_n (pc := 4) (L' := [some (.ref 0), some (.ref 38)]) dX11_best_4 rfl (by decide) rfl ?_
  refine r_aload_n (pc := 5) (x := 38) dX11_best_5 rfl ?_
  refine n_getI (pc := 6) (j := 8) dX11_best_6 fl_RX11_215 (by decide) sh_38 rfl rfl ?_
  refine r_if_ne (pc := 9) (tgt := 15) dX11_best_9 (by decide) (fun c => ?_) (fun c => ?_)
  · replace h := h.1 c
    refine r_aload_n (pc := 15) (x := 0) dX11_best_15 rfl ?_
    refine r_aload_n (pc := 16) (x := 38) dX11_best_16 rfl ?_
    refine n_Vv0 (pc := 17) (S0 := []) (spX11_tellBest isSo_38 h) gmX11_tellBest selX11_tellBest lk_RX11_227 dX11_best_17 rfl (by decide) sh_0 ⟨rfl, by decide⟩ rfl ⟨Nat.le_of_ble_eq_true rfl, Nat.le_of_ble_eq_true rfl⟩ (Nat.le_of_ble_eq_true rfl) ⟨Nat.zero_le _, Nat.zero_le _⟩ (fun s2 h => ?_)
    refine r_aload_n (pc := 20) (x := 38) dX11_best_20 rfl ?_
    refine n_getI (pc := 21) (j := 9) dX11_best_21 fl_RX11_231 (by decide) sh_38 rfl rfl ?_
    exact n_iret (pc := 24) dX11_best_24 rfl (Nat.le_refl _) (Nat.le_refl _) h
  · replace h := h.2 c
    refine r_bipush (pc := 12) (v := (-2)) dX11_best_12 (by decide) ?_
    exact n_iret (pc := 14) dX11_best_14 rfl (Nat.le_refl _) (Nat.le_refl _) h
def wX11_other_23  (Q : Int32 → gS → Prop)  : Nat → Int32 → Int32 → gS → Prop
  | 0, _, _, _ => False
  | n + 1, y2, y3, s => (6 ≤ y3 → (¬ y2 = 0 → wpX7_solve 88 22 s (fun s3 => (¬ (gi s3 88 8) = 0 → wpX11_tellBest 88 s3 (fun s4 => Q (gi s4 88 9) s4)) ∧ ((gi s3 88 8) = 0 → Q (-2) s3))) ∧ (y2 = 0 → Q (-2) s)) ∧ (¬ (6 ≤ y3) → wpX7_hasOpenQuestion 38 y3 s (fun r5 s5 => (r5 = 0 → wX11_other_23  Q n y2 (y3 + 1) s5) ∧ (¬ (r5 = 0) → wpX7_bestReading 38 y3 s5 (fun r6 s6 => wpX8_ruleOut 22 y3 r6 1 s6 (fun r7 s7 => wX11_other_23  Q n 1 (y3 + 1) s7)))))
set_option maxRecDepth 20000 in
theorem pX11_other_23 {l : Launch} {X : gX}   {Q : Int32 → gS → Prop}  : ∀ (n : Nat) (y2 : Int32) (y3 : Int32) (s : gS) (h : wX11_other_23  Q n y2 y3 s) , Gw l mX11_other (g_rm 14 0 0) X 23 [some (.ref 0), some (.ref 38), some (.int y2), some (.int y3)] [] (nrm s) 0 0 (g_Z X (q_i Q) 0 0) := by
  intro n
  induction n with
  | zero => intro y2 y3 s h; exact h.elim
  | succ n ih0 =>
    intro y2 y3 s h 
    have ih : ∀ (y2 : Int32) (y3 : Int32) (s : gS), wX11_other_23  Q n y2 y3 s → Gw l mX11_other (g_rm 14 0 0) X 23 [some (.ref 0), some (.ref 38), some (.int y2), some (.int y3)] [] (nrm s) 0 0 (g_Z X (q_i Q) 0 0) := fun y2 y3 s h => ih0 y2 y3 s h 
    refine r_iload_n (pc := 23) (x := y3) dX11_other_23 rfl ?_
    refine r_bipush (pc := 24) (v := 6) dX11_other_24 (by decide) ?_
    refine r_icmp_ge (pc := 26) (tgt := 60) dX11_other_26 (by decide) (fun c => ?_) (fun c => ?_)
    · replace h := h.1 c
      refine r_iload_n (pc := 60) (x := y2) dX11_other_60 rfl ?_
      refine r_if_ne (pc := 61) (tgt := 67) dX11_other_61 (by decide) (fun c => ?_) (fun c => ?_)
      · replace h := h.1 c
        refine r_aload_n (pc := 67) (x := 0) dX11_other_67 rfl ?_
        refine n_getR (pc := 68) (j := 11) (q := 88) dX11_other_68 fl_RX11_74 (by decide) sh_0 rfl rfl rfl ?_
        refine r_aload_n (pc := 71) (x := 0) dX11_other_71 rfl ?_
        refine n_getR (pc := 72) (j := 5) (q := 22) dX11_other_72 fl_RX11_44 (by decide) sh_0 rfl rfl rfl ?_
        refine n_Vv0 (pc := 75) (S0 := []) (spX7_solve isSo_88 isSt_22 h) gmX7_solve selX7_solve lk_RX11_251 dX11_other_75 rfl (by decide) sh_88 ⟨rfl, by decide⟩ rfl ⟨Nat.le_of_ble_eq_true rfl, Nat.le_of_ble_eq_true rfl⟩ (Nat.le_of_ble_eq_true rfl) ⟨Nat.zero_le _, Nat.zero_le _⟩ (fun s3 h => ?_)
        refine r_aload_n (pc := 78) (x := 0) dX11_other_78 rfl ?_
        refine n_getR (pc := 79) (j := 11) (q := 88) dX11_other_79 fl_RX11_74 (by decide) sh_0 rfl rfl rfl ?_
        refine n_getI (pc := 82) (j := 8) dX11_other_82 fl_RX11_215 (by decide) sh_88 rfl rfl ?_
        refine r_if_ne (pc := 85) (tgt := 91) dX11_other_85 (by decide) (fun c => ?_) (fun c => ?_)
        · replace h := h.1 c
          refine r_aload_n (pc := 91) (x := 0) dX11_other_91 rfl ?_
          refine r_aload_n (pc := 92) (x := 0) dX11_other_92 rfl ?_
          refine n_getR (pc := 93) (j := 11) (q := 88) dX11_other_93 fl_RX11_74 (by decide) sh_0 rfl rfl rfl ?_
          refine n_Vv0 (pc := 96) (S0 := []) (spX11_tellBest isSo_88 h) gmX11_tellBest selX11_tellBest lk_RX11_227 dX11_other_96 rfl (by decide) sh_0 ⟨rfl, by decide⟩ rfl ⟨Nat.le_of_ble_eq_true rfl, Nat.le_of_ble_eq_true rfl⟩ (Nat.le_of_ble_eq_true rfl) ⟨Nat.zero_le _, Nat.zero_le _⟩ (fun s4 h => ?_)
          refine r_aload_n (pc := 99) (x := 0) dX11_other_99 rfl ?_
          refine n_getR (pc := 100) (j := 11) (q := 88) dX11_other_100 fl_RX11_74 (by decide) sh_0 rfl rfl rfl ?_
          refine n_getI (pc := 103) (j := 9) dX11_other_103 fl_RX11_231 (by decide) sh_88 rfl rfl ?_
          exact n_iret (pc := 106) dX11_other_106 rfl (Nat.le_refl _) (Nat.le_refl _) h
        · replace h := h.2 c
          refine r_bipush (pc := 88) (v := (-2)) dX11_other_88 (by decide) ?_
          exact n_iret (pc := 90) dX11_other_90 rfl (Nat.le_refl _) (Nat.le_refl _) h
      · replace h := h.2 c
        refine r_bipush (pc := 64) (v := (-2)) dX11_other_64 (by decide) ?_
        exact n_iret (pc := 66) dX11_other_66 rfl (Nat.le_refl _) (Nat.le_refl _) h
    · replace h := h.2 c
      refine r_aload_n (pc := 29) (x := 38) dX11_other_29 rfl ?_
      refine r_iload_n (pc := 30) (x := y3) dX11_other_30 rfl ?_
      refine n_Vi0 (pc := 31) (S0 := []) (spX7_hasOpenQuestion isSo_38 h) gmX7_hasOpenQuestion selX7_hasOpenQuestion lk_RX11_241 dX11_other_31 rfl (by decide) sh_38 ⟨rfl, by decide⟩ rfl ⟨Nat.le_of_ble_eq_true rfl, Nat.le_of_ble_eq_true rfl⟩ (Nat.le_of_ble_eq_true rfl) ⟨Nat.zero_le _, Nat.zero_le _⟩ (fun r5 s5 h => ?_)
      refine r_if_eq (pc := 34) (tgt := 54) dX11_other_34 (by decide) (fun c => ?_) (fun c => ?_)
      · replace h := h.1 c
        refine n_iinc (pc := 54) (x := y3) (w := 1) (L' := [some (.ref 0), some (.ref 38), some (.int y2), some (.int (y3 + 1))]) dX11_other_54 rfl (by decide) rfl (by decide) rfl ?_
        refine r_goto (pc := 57) (tgt := 23) dX11_other_57 (by decide) ?_
        refine n_L (L' := [some (.ref 0), some (.ref 38), some (.int y2), some (.int (y3 + 1))]) (le_s (le_s (le_s (le_s (le_e))))) ?_
        exact ih _ _ _ h
      · replace h := h.2 c
        refine r_aload_n (pc := 37) (x := 0) dX11_other_37 rfl ?_
        refine n_getR (pc := 38) (j := 5) (q := 22) dX11_other_38 fl_RX11_44 (by decide) sh_0 rfl rfl rfl ?_
        refine r_iload_n (pc := 41) (x := y3) dX11_other_41 rfl ?_
        refine r_aload_n (pc := 42) (x := 38) dX11_other_42 rfl ?_
        refine r_iload_n (pc := 43) (x := y3) dX11_other_43 rfl ?_
        refine n_Vi0 (pc := 44) (S0 := [.int y3, .ref 22]) (spX7_bestReading isSo_38 h) gmX7_bestReading selX7_bestReading lk_RX11_244 dX11_other_44 rfl (by decide) sh_38 ⟨rfl, by decide⟩ rfl ⟨Nat.le_of_ble_eq_true rfl, Nat.le_of_ble_eq_true rfl⟩ (Nat.le_of_ble_eq_true rfl) ⟨Nat.zero_le _, Nat.zero_le _⟩ (fun r6 s6 h => ?_)
        refine r_iconst (pc := 47) (v := 1) dX11_other_47 (by decide) ?_
        refine n_Vi0 (pc := 48) (S0 := []) (spX8_ruleOut isSt_22 h) gmX8_ruleOut selX8_ruleOut lk_RX11_247 dX11_other_48 rfl (by decide) sh_22 ⟨rfl, by decide⟩ rfl ⟨Nat.le_of_ble_eq_true rfl, Nat.le_of_ble_eq_true rfl⟩ (Nat.le_of_ble_eq_true rfl) ⟨Nat.zero_le _, Nat.zero_le _⟩ (fun r7 s7 h => ?_)
        refine r_pop (pc := 51) dX11_other_51 rfl ?_
        refine r_iconst (pc := 52) (v := 1) dX11_other_52 (by decide) ?_
        refine r_istore_n (pc := 53) (L' := [some (.ref 0), some (.ref 38), some (.int 1), some (.int y3)]) dX11_other_53 rfl (by decide) rfl ?_
        refine n_iinc (pc := 54) (x := y3) (w := 1) (L' := [some (.ref 0), some (.ref 38), some (.int 1), some (.int (y3 + 1))]) dX11_other_54 rfl (by decide) rfl (by decide) rfl ?_
        refine r_goto (pc := 57) (tgt := 23) dX11_other_57 (by decide) ?_
        refine n_L (L' := [some (.ref 0), some (.ref 38), some (.int 1), some (.int (y3 + 1))]) (le_s (le_s (le_s (le_s (le_e))))) ?_
        exact ih _ _ _ h
def wpX11_other  (s : gS) (Q : Int32 → gS → Prop) : Prop := wpX11_solved s (fun s1 => wpX8_load 22 21 s1 (fun s2 => ∃ n23, wX11_other_23  Q n23 0 0 s2))
set_option maxRecDepth 20000 in
theorem spX11_other {l : Launch}   {s : gS} {Q : Int32 → gS → Prop} (h : wpX11_other  s Q) : Ct l mX11_other 14 0 0 [.ref 0] (nrm s) (q_i Q) := by
  refine Ct.of (by decide) (Nat.le_of_ble_eq_true rfl) (fun X => ?_)
  refine n_L (L' := [some (.ref 0), none, none, none]) (le_s (le_p (le_p (le_p (le_e))))) ?_
  refine r_aload_n (pc := 0) (x := 0) dX11_other_0 rfl ?_
  refine n_Va0 (pc := 1) (S0 := []) (spX11_solved h) gmX11_solved selX11_solved lk_RX11_176 dX11_other_1 rfl (by decide) sh_0 ⟨rfl, by decide⟩ rfl ⟨Nat.le_of_ble_eq_true rfl, Nat.le_of_ble_eq_true rfl⟩ (Nat.le_of_ble_eq_true rfl) ⟨Nat.zero_le _, Nat.zero_le _⟩ (fun s1 h => ?_)
  refine r_astore_n (pc := 4) (L' := [some (.ref 0), some (.ref 38), none, none]) dX11_other_4 rfl (by decide) rfl ?_
  refine r_aload_n (pc := 5) (x := 0) dX11_other_5 rfl ?_
  refine n_getR (pc := 6) (j := 5) (q := 22) dX11_other_6 fl_RX11_44 (by decide) sh_0 rfl rfl rfl ?_
  refine r_aload_n (pc := 9) (x := 0) dX11_other_9 rfl ?_
  refine n_getR (pc := 10) (j := 4) (q := 20) dX11_other_10 fl_RX11_40 (by decide) sh_0 rfl rfl rfl ?_
  refine n_getR (pc := 13) (j := 0) (q := 21) dX11_other_13 fl_RX11_234 (by decide) sh_20 rfl rfl rfl ?_
  refine n_Vv0 (pc := 16) (S0 := []) (spX8_load isSt_22 (by unfold isA170; decide) h) gmX8_load selX8_load lk_RX11_237 dX11_other_16 rfl (by decide) sh_22 ⟨rfl, by decide⟩ rfl ⟨Nat.le_of_ble_eq_true rfl, Nat.le_of_ble_eq_true rfl⟩ (Nat.le_of_ble_eq_true rfl) ⟨Nat.zero_le _, Nat.zero_le _⟩ (fun s2 h => ?_)
  refine r_iconst (pc := 19) (v := 0) dX11_other_19 (by decide) ?_
  refine r_istore_n (pc := 20) (L' := [some (.ref 0), some (.ref 38), some (.int 0), none]) dX11_other_20 rfl (by decide) rfl ?_
  refine r_iconst (pc := 21) (v := 0) dX11_other_21 (by decide) ?_
  refine r_istore_n (pc := 22) (L' := [some (.ref 0), some (.ref 38), some (.int 0), some (.int 0)]) dX11_other_22 rfl (by decide) rfl ?_
  refine n_L (L' := [some (.ref 0), some (.ref 38), some (.int 0), some (.int 0)]) (le_s (le_s (le_s (le_s (le_e))))) ?_
  obtain ⟨n, h⟩ := h
  exact pX11_other_23  n _ _ _ h 
def wpX11_conflict  (s : gS) (Q : Int32 → gS → Prop) : Prop := wpX8_choicesWithoutOrders 20 s (fun r1 s1 => (¬ r1 = 0 → wpX11_solved s1 (fun s2 => ((gi s2 38 8) ≤ 0 → wpX1_find 20 s2 (fun s3 => wpX6_clear s3 (fun s4 => wpX6_add (gi s4 138 3) s4 (fun s5 => Q (gi s5 138 2) s5)))) ∧ (¬ ((gi s2 38 8) ≤ 0) → Q (-2) s2))) ∧ (r1 = 0 → Q (-3) s1))
set_option maxRecDepth 20000 in
theorem spX11_conflict {l : Launch}   {s : gS} {Q : Int32 → gS → Prop} (h : wpX11_conflict  s Q) : Ct l mX11_conflict 14 0 0 [.ref 0] (nrm s) (q_i Q) := by
  refine Ct.of (by decide) (Nat.le_of_ble_eq_true rfl) (fun X => ?_)
  refine n_L (L' := [some (.ref 0)]) (le_s (le_e)) ?_
  refine r_aload_n (pc := 0) (x := 0) dX11_conflict_0 rfl ?_
  refine n_getR (pc := 1) (j := 4) (q := 20) dX11_conflict_1 fl_RX11_40 (by decide) sh_0 rfl rfl rfl ?_
  refine n_Vi0 (pc := 4) (S0 := []) (spX8_choicesWithoutOrders isSt_20 h) gmX8_choicesWithoutOrders selX8_choicesWithoutOrders lk_RX11_224 dX11_conflict_4 rfl (by decide) sh_20 ⟨rfl, by decide⟩ rfl ⟨Nat.le_of_ble_eq_true rfl, Nat.le_of_ble_eq_true rfl⟩ (Nat.le_of_ble_eq_true rfl) ⟨Nat.zero_le _, Nat.zero_le _⟩ (fun r1 s1 h => ?_)
  refine r_if_ne (pc := 7) (tgt := 13) dX11_conflict_7 (by decide) (fun c => ?_) (fun c => ?_)
  · replace h := h.1 c
    refine r_aload_n (pc := 13) (x := 0) dX11_conflict_13 rfl ?_
    refine n_Va0 (pc := 14) (S0 := []) (spX11_solved h) gmX11_solved selX11_solved lk_RX11_176 dX11_conflict_14 rfl (by decide) sh_0 ⟨rfl, by decide⟩ rfl ⟨Nat.le_of_ble_eq_true rfl, Nat.le_of_ble_eq_true rfl⟩ (Nat.le_of_ble_eq_true rfl) ⟨Nat.zero_le _, Nat.zero_le _⟩ (fun s2 h => ?_)
    refine n_getI (pc := 17) (j := 8) dX11_conflict_17 fl_RX11_215 (by decide) sh_38 rfl rfl ?_
    refine r_if_le (pc := 20) (tgt := 26) dX11_conflict_20 (by decide) (fun c => ?_) (fun c => ?_)
    · replace h := h.1 c
      refine r_aload_n (pc := 26) (x := 0) dX11_conflict_26 rfl ?_
      refine n_getR (pc := 27) (j := 12) (q := 138) dX11_conflict_27 fl_RX11_80 (by decide) sh_0 rfl rfl rfl ?_
      refine r_aload_n (pc := 30) (x := 0) dX11_conflict_30 rfl ?_
      refine n_getR (pc := 31) (j := 4) (q := 20) dX11_conflict_31 fl_RX11_40 (by decide) sh_0 rfl rfl rfl ?_
      refine n_Vv0 (pc := 34) (S0 := []) (spX1_find isSt_20 h) gmX1_find selX1_find lk_RX11_255 dX11_conflict_34 rfl (by decide) sh_138 ⟨rfl, by decide⟩ rfl ⟨Nat.le_of_ble_eq_true rfl, Nat.le_of_ble_eq_true rfl⟩ (Nat.le_of_ble_eq_true rfl) ⟨Nat.zero_le _, Nat.zero_le _⟩ (fun s3 h => ?_)
      refine r_aload_n (pc := 37) (x := 0) dX11_conflict_37 rfl ?_
      refine n_getR (pc := 38) (j := 3) (q := 18) dX11_conflict_38 fl_RX11_33 (by decide) sh_0 rfl rfl rfl ?_
      refine n_Vv0 (pc := 41) (S0 := []) (spX6_clear h) gmX6_clear selX6_clear lk_RX11_159 dX11_conflict_41 rfl (by decide) sh_18 ⟨rfl, by decide⟩ rfl ⟨Nat.le_of_ble_eq_true rfl, Nat.le_of_ble_eq_true rfl⟩ (Nat.le_of_ble_eq_true rfl) ⟨Nat.zero_le _, Nat.zero_le _⟩ (fun s4 h => ?_)
      refine r_aload_n (pc := 44) (x := 0) dX11_conflict_44 rfl ?_
      refine n_getR (pc := 45) (j := 3) (q := 18) dX11_conflict_45 fl_RX11_33 (by decide) sh_0 rfl rfl rfl ?_
      refine r_aload_n (pc := 48) (x := 0) dX11_conflict_48 rfl ?_
      refine n_getR (pc := 49) (j := 12) (q := 138) dX11_conflict_49 fl_RX11_80 (by decide) sh_0 rfl rfl rfl ?_
      refine n_getI (pc := 52) (j := 3) dX11_conflict_52 fl_RX11_258 (by decide) sh_138 rfl rfl ?_
      refine n_Vv0 (pc := 55) (S0 := []) (spX6_add h) gmX6_add selX6_add lk_RX11_160 dX11_conflict_55 rfl (by decide) sh_18 ⟨rfl, by decide⟩ rfl ⟨Nat.le_of_ble_eq_true rfl, Nat.le_of_ble_eq_true rfl⟩ (Nat.le_of_ble_eq_true rfl) ⟨Nat.zero_le _, Nat.zero_le _⟩ (fun s5 h => ?_)
      refine r_aload_n (pc := 58) (x := 0) dX11_conflict_58 rfl ?_
      refine n_getR (pc := 59) (j := 12) (q := 138) dX11_conflict_59 fl_RX11_80 (by decide) sh_0 rfl rfl rfl ?_
      refine n_getI (pc := 62) (j := 2) dX11_conflict_62 fl_RX11_261 (by decide) sh_138 rfl rfl ?_
      exact n_iret (pc := 65) dX11_conflict_65 rfl (Nat.le_refl _) (Nat.le_refl _) h
    · replace h := h.2 c
      refine r_bipush (pc := 23) (v := (-2)) dX11_conflict_23 (by decide) ?_
      exact n_iret (pc := 25) dX11_conflict_25 rfl (Nat.le_refl _) (Nat.le_refl _) h
  · replace h := h.2 c
    refine r_bipush (pc := 10) (v := (-3)) dX11_conflict_10 (by decide) ?_
    exact n_iret (pc := 12) dX11_conflict_12 rfl (Nat.le_refl _) (Nat.le_refl _) h
def wpX11_without (x1 : Int32) (s : gS) (Q : Int32 → gS → Prop) : Prop := wpX8_hasOrder 20 x1 s (fun r1 s1 => (¬ r1 = 0 → wpX8_load 22 21 s1 (fun s2 => wpX8_removeOrder 22 x1 s2 (fun r3 s3 => wpX7_solve 88 22 s3 (fun s4 => wpX6_clear s4 (fun s5 => wpX7_leftOfAll 88 s5 (fun r6 s6 => wpX11_solved s6 (fun s7 => wpX7_leftOfAll 38 s7 (fun r8 s8 => wpX6_add (r6 - r8) s8 (fun s9 => Q (gi s9 88 8) s9))))))))) ∧ (r1 = 0 → Q (-1) s1))
set_option maxRecDepth 20000 in
theorem spX11_without {l : Launch} {x1 : Int32}  {s : gS} {Q : Int32 → gS → Prop} (h : wpX11_without x1 s Q) : Ct l mX11_without 14 0 0 [.ref 0, .int x1] (nrm s) (q_i Q) := by
  refine Ct.of (by decide) (Nat.le_of_ble_eq_true rfl) (fun X => ?_)
  refine n_L (L' := [some (.ref 0), some (.int x1)]) (le_s (le_s (le_e))) ?_
  refine r_aload_n (pc := 0) (x := 0) dX11_without_0 rfl ?_
  refine n_getR (pc := 1) (j := 4) (q := 20) dX11_without_1 fl_RX11_40 (by decide) sh_0 rfl rfl rfl ?_
  refine r_iload_n (pc := 4) (x := x1) dX11_without_4 rfl ?_
  refine n_Vi0 (pc := 5) (S0 := []) (spX8_hasOrder isSt_20 h) gmX8_hasOrder selX8_hasOrder lk_RX11_212 dX11_without_5 rfl (by decide) sh_20 ⟨rfl, by decide⟩ rfl ⟨Nat.le_of_ble_eq_true rfl, Nat.le_of_ble_eq_true rfl⟩ (Nat.le_of_ble_eq_true rfl) ⟨Nat.zero_le _, Nat.zero_le _⟩ (fun r1 s1 h => ?_)
  refine r_if_ne (pc := 8) (tgt := 13) dX11_without_8 (by decide) (fun c => ?_) (fun c => ?_)
  · replace h := h.1 c
    refine r_aload_n (pc := 13) (x := 0) dX11_without_13 rfl ?_
    refine n_getR (pc := 14) (j := 5) (q := 22) dX11_without_14 fl_RX11_44 (by decide) sh_0 rfl rfl rfl ?_
    refine r_aload_n (pc := 17) (x := 0) dX11_without_17 rfl ?_
    refine n_getR (pc := 18) (j := 4) (q := 20) dX11_without_18 fl_RX11_40 (by decide) sh_0 rfl rfl rfl ?_
    refine n_getR (pc := 21) (j := 0) (q := 21) dX11_without_21 fl_RX11_234 (by decide) sh_20 rfl rfl rfl ?_
    refine n_Vv0 (pc := 24) (S0 := []) (spX8_load isSt_22 (by unfold isA170; decide) h) gmX8_load selX8_load lk_RX11_237 dX11_without_24 rfl (by decide) sh_22 ⟨rfl, by decide⟩ rfl ⟨Nat.le_of_ble_eq_true rfl, Nat.le_of_ble_eq_true rfl⟩ (Nat.le_of_ble_eq_true rfl) ⟨Nat.zero_le _, Nat.zero_le _⟩ (fun s2 h => ?_)
    refine r_aload_n (pc := 27) (x := 0) dX11_without_27 rfl ?_
    refine n_getR (pc := 28) (j := 5) (q := 22) dX11_without_28 fl_RX11_44 (by decide) sh_0 rfl rfl rfl ?_
    refine r_iload_n (pc := 31) (x := x1) dX11_without_31 rfl ?_
    refine n_Vi0 (pc := 32) (S0 := []) (spX8_removeOrder isSt_22 h) gmX8_removeOrder selX8_removeOrder lk_RX11_264 dX11_without_32 rfl (by decide) sh_22 ⟨rfl, by decide⟩ rfl ⟨Nat.le_of_ble_eq_true rfl, Nat.le_of_ble_eq_true rfl⟩ (Nat.le_of_ble_eq_true rfl) ⟨Nat.zero_le _, Nat.zero_le _⟩ (fun r3 s3 h => ?_)
    refine r_pop (pc := 35) dX11_without_35 rfl ?_
    refine r_aload_n (pc := 36) (x := 0) dX11_without_36 rfl ?_
    refine n_getR (pc := 37) (j := 11) (q := 88) dX11_without_37 fl_RX11_74 (by decide) sh_0 rfl rfl rfl ?_
    refine r_aload_n (pc := 40) (x := 0) dX11_without_40 rfl ?_
    refine n_getR (pc := 41) (j := 5) (q := 22) dX11_without_41 fl_RX11_44 (by decide) sh_0 rfl rfl rfl ?_
    refine n_Vv0 (pc := 44) (S0 := []) (spX7_solve isSo_88 isSt_22 h) gmX7_solve selX7_solve lk_RX11_251 dX11_without_44 rfl (by decide) sh_88 ⟨rfl, by decide⟩ rfl ⟨Nat.le_of_ble_eq_true rfl, Nat.le_of_ble_eq_true rfl⟩ (Nat.le_of_ble_eq_true rfl) ⟨Nat.zero_le _, Nat.zero_le _⟩ (fun s4 h => ?_)
    refine r_aload_n (pc := 47) (x := 0) dX11_without_47 rfl ?_
    refine n_getR (pc := 48) (j := 3) (q := 18) dX11_without_48 fl_RX11_33 (by decide) sh_0 rfl rfl rfl ?_
    refine n_Vv0 (pc := 51) (S0 := []) (spX6_clear h) gmX6_clear selX6_clear lk_RX11_159 dX11_without_51 rfl (by decide) sh_18 ⟨rfl, by decide⟩ rfl ⟨Nat.le_of_ble_eq_true rfl, Nat.le_of_ble_eq_true rfl⟩ (Nat.le_of_ble_eq_true rfl) ⟨Nat.zero_le _, Nat.zero_le _⟩ (fun s5 h => ?_)
    refine r_aload_n (pc := 54) (x := 0) dX11_without_54 rfl ?_
    refine n_getR (pc := 55) (j := 3) (q := 18) dX11_without_55 fl_RX11_33 (by decide) sh_0 rfl rfl rfl ?_
    refine r_aload_n (pc := 58) (x := 0) dX11_without_58 rfl ?_
    refine n_getR (pc := 59) (j := 11) (q := 88) dX11_without_59 fl_RX11_74 (by decide) sh_0 rfl rfl rfl ?_
    refine n_Vi0 (pc := 62) (S0 := [.ref 18]) (spX7_leftOfAll isSo_88 h) gmX7_leftOfAll selX7_leftOfAll lk_RX11_267 dX11_without_62 rfl (by decide) sh_88 ⟨rfl, by decide⟩ rfl ⟨Nat.le_of_ble_eq_true rfl, Nat.le_of_ble_eq_true rfl⟩ (Nat.le_of_ble_eq_true rfl) ⟨Nat.zero_le _, Nat.zero_le _⟩ (fun r6 s6 h => ?_)
    refine r_aload_n (pc := 65) (x := 0) dX11_without_65 rfl ?_
    refine n_Va0 (pc := 66) (S0 := [.int r6, .ref 18]) (spX11_solved h) gmX11_solved selX11_solved lk_RX11_176 dX11_without_66 rfl (by decide) sh_0 ⟨rfl, by decide⟩ rfl ⟨Nat.le_of_ble_eq_true rfl, Nat.le_of_ble_eq_true rfl⟩ (Nat.le_of_ble_eq_true rfl) ⟨Nat.zero_le _, Nat.zero_le _⟩ (fun s7 h => ?_)
    refine n_Vi0 (pc := 69) (S0 := [.int r6, .ref 18]) (spX7_leftOfAll isSo_38 h) gmX7_leftOfAll selX7_leftOfAll lk_RX11_267 dX11_without_69 rfl (by decide) sh_38 ⟨rfl, by decide⟩ rfl ⟨Nat.le_of_ble_eq_true rfl, Nat.le_of_ble_eq_true rfl⟩ (Nat.le_of_ble_eq_true rfl) ⟨Nat.zero_le _, Nat.zero_le _⟩ (fun r8 s8 h => ?_)
    refine r_isub (pc := 72) dX11_without_72 ?_
    refine n_Vv0 (pc := 73) (S0 := []) (spX6_add h) gmX6_add selX6_add lk_RX11_160 dX11_without_73 rfl (by decide) sh_18 ⟨rfl, by decide⟩ rfl ⟨Nat.le_of_ble_eq_true rfl, Nat.le_of_ble_eq_true rfl⟩ (Nat.le_of_ble_eq_true rfl) ⟨Nat.zero_le _, Nat.zero_le _⟩ (fun s9 h => ?_)
    refine r_aload_n (pc := 76) (x := 0) dX11_without_76 rfl ?_
    refine n_getR (pc := 77) (j := 11) (q := 88) dX11_without_77 fl_RX11_74 (by decide) sh_0 rfl rfl rfl ?_
    refine n_getI (pc := 80) (j := 8) dX11_without_80 fl_RX11_215 (by decide) sh_88 rfl rfl ?_
    exact n_iret (pc := 83) dX11_without_83 rfl (Nat.le_refl _) (Nat.le_refl _) h
  · replace h := h.2 c
    refine r_iconst (pc := 11) (v := (-1)) dX11_without_11 (by decide) ?_
    exact n_iret (pc := 12) dX11_without_12 rfl (Nat.le_refl _) (Nat.le_refl _) h
def wpX11_with (x1 : Int32) (x2 : Int32) (x3 : Int32) (s : gS) (Q : Int32 → gS → Prop) : Prop := wpX8_load 22 21 s (fun s1 => wpX8_addOrder 22 x1 x2 x3 11 s1 (fun r2 s2 => (0 ≤ r2 → wpX7_solve 88 22 s2 (fun s3 => wpX6_clear s3 (fun s4 => wpX11_solved s4 (fun s5 => wpX7_leftOfAll 38 s5 (fun r6 s6 => wpX7_leftOfAll 88 s6 (fun r7 s7 => wpX6_add (r6 - r7) s7 (fun s8 => Q (gi s8 88 8) s8))))))) ∧ (¬ (0 ≤ r2) → Q r2 s2)))
set_option maxRecDepth 20000 in
theorem spX11_with {l : Launch} {x1 : Int32} {x2 : Int32} {x3 : Int32}  {s : gS} {Q : Int32 → gS → Prop} (h : wpX11_with x1 x2 x3 s Q) : Ct l mX11_with 14 0 0 [.ref 0, .int x1, .int x2, .int x3] (nrm s) (q_i Q) := by
  refine Ct.of (by decide) (Nat.le_of_ble_eq_true rfl) (fun X => ?_)
  refine n_L (L' := [some (.ref 0), some (.int x1), some (.int x2), some (.int x3), none]) (le_s (le_s (le_s (le_s (le_p (le_e)))))) ?_
  refine r_aload_n (pc := 0) (x := 0) dX11_with_0 rfl ?_
  refine n_getR (pc := 1) (j := 5) (q := 22) dX11_with_1 fl_RX11_44 (by decide) sh_0 rfl rfl rfl ?_
  refine r_aload_n (pc := 4) (x := 0) dX11_with_4 rfl ?_
  refine n_getR (pc := 5) (j := 4) (q := 20) dX11_with_5 fl_RX11_40 (by decide) sh_0 rfl rfl rfl ?_
  refine n_getR (pc := 8) (j := 0) (q := 21) dX11_with_8 fl_RX11_234 (by decide) sh_20 rfl rfl rfl ?_
  refine n_Vv0 (pc := 11) (S0 := []) (spX8_load isSt_22 (by unfold isA170; decide) h) gmX8_load selX8_load lk_RX11_237 dX11_with_11 rfl (by decide) sh_22 ⟨rfl, by decide⟩ rfl ⟨Nat.le_of_ble_eq_true rfl, Nat.le_of_ble_eq_true rfl⟩ (Nat.le_of_ble_eq_true rfl) ⟨Nat.zero_le _, Nat.zero_le _⟩ (fun s1 h => ?_)
  refine r_aload_n (pc := 14) (x := 0) dX11_with_14 rfl ?_
  refine n_getR (pc := 15) (j := 5) (q := 22) dX11_with_15 fl_RX11_44 (by decide) sh_0 rfl rfl rfl ?_
  refine r_iload_n (pc := 18) (x := x1) dX11_with_18 rfl ?_
  refine r_iload_n (pc := 19) (x := x2) dX11_with_19 rfl ?_
  refine r_iload_n (pc := 20) (x := x3) dX11_with_20 rfl ?_
  refine r_bipush (pc := 21) (v := 11) dX11_with_21 (by decide) ?_
  refine n_Vi0 (pc := 23) (S0 := []) (spX8_addOrder isSt_22 h) gmX8_addOrder selX8_addOrder lk_RX11_208 dX11_with_23 rfl (by decide) sh_22 ⟨rfl, by decide⟩ rfl ⟨Nat.le_of_ble_eq_true rfl, Nat.le_of_ble_eq_true rfl⟩ (Nat.le_of_ble_eq_true rfl) ⟨Nat.zero_le _, Nat.zero_le _⟩ (fun r2 s2 h => ?_)
  refine r_istore (pc := 26) (L' := [some (.ref 0), some (.int x1), some (.int x2), some (.int x3), some (.int r2)]) dX11_with_26 rfl (by decide) rfl ?_
  refine r_iload (pc := 28) (x := r2) dX11_with_28 rfl ?_
  refine r_if_ge (pc := 30) (tgt := 36) dX11_with_30 (by decide) (fun c => ?_) (fun c => ?_)
  · replace h := h.1 c
    refine r_aload_n (pc := 36) (x := 0) dX11_with_36 rfl ?_
    refine n_getR (pc := 37) (j := 11) (q := 88) dX11_with_37 fl_RX11_74 (by decide) sh_0 rfl rfl rfl ?_
    refine r_aload_n (pc := 40) (x := 0) dX11_with_40 rfl ?_
    refine n_getR (pc := 41) (j := 5) (q := 22) dX11_with_41 fl_RX11_44 (by decide) sh_0 rfl rfl rfl ?_
    refine n_Vv0 (pc := 44) (S0 := []) (spX7_solve isSo_88 isSt_22 h) gmX7_solve selX7_solve lk_RX11_251 dX11_with_44 rfl (by decide) sh_88 ⟨rfl, by decide⟩ rfl ⟨Nat.le_of_ble_eq_true rfl, Nat.le_of_ble_eq_true rfl⟩ (Nat.le_of_ble_eq_true rfl) ⟨Nat.zero_le _, Nat.zero_le _⟩ (fun s3 h => ?_)
    refine r_aload_n (pc := 47) (x := 0) dX11_with_47 rfl ?_
    refine n_getR (pc := 48) (j := 3) (q := 18) dX11_with_48 fl_RX11_33 (by decide) sh_0 rfl rfl rfl ?_
    refine n_Vv0 (pc := 51) (S0 := []) (spX6_clear h) gmX6_clear selX6_clear lk_RX11_159 dX11_with_51 rfl (by decide) sh_18 ⟨rfl, by decide⟩ rfl ⟨Nat.le_of_ble_eq_true rfl, Nat.le_of_ble_eq_true rfl⟩ (Nat.le_of_ble_eq_true rfl) ⟨Nat.zero_le _, Nat.zero_le _⟩ (fun s4 h => ?_)
    refine r_aload_n (pc := 54) (x := 0) dX11_with_54 rfl ?_
    refine n_getR (pc := 55) (j := 3) (q := 18) dX11_with_55 fl_RX11_33 (by decide) sh_0 rfl rfl rfl ?_
    refine r_aload_n (pc := 58) (x := 0) dX11_with_58 rfl ?_
    refine n_Va0 (pc := 59) (S0 := [.ref 18]) (spX11_solved h) gmX11_solved selX11_solved lk_RX11_176 dX11_with_59 rfl (by decide) sh_0 ⟨rfl, by decide⟩ rfl ⟨Nat.le_of_ble_eq_true rfl, Nat.le_of_ble_eq_true rfl⟩ (Nat.le_of_ble_eq_true rfl) ⟨Nat.zero_le _, Nat.zero_le _⟩ (fun s5 h => ?_)
    refine n_Vi0 (pc := 62) (S0 := [.ref 18]) (spX7_leftOfAll isSo_38 h) gmX7_leftOfAll selX7_leftOfAll lk_RX11_267 dX11_with_62 rfl (by decide) sh_38 ⟨rfl, by decide⟩ rfl ⟨Nat.le_of_ble_eq_true rfl, Nat.le_of_ble_eq_true rfl⟩ (Nat.le_of_ble_eq_true rfl) ⟨Nat.zero_le _, Nat.zero_le _⟩ (fun r6 s6 h => ?_)
    refine r_aload_n (pc := 65) (x := 0) dX11_with_65 rfl ?_
    refine n_getR (pc := 66) (j := 11) (q := 88) dX11_with_66 fl_RX11_74 (by decide) sh_0 rfl rfl rfl ?_
    refine n_Vi0 (pc := 69) (S0 := [.int r6, .ref 18]) (spX7_leftOfAll isSo_88 h) gmX7_leftOfAll selX7_leftOfAll lk_RX11_267 dX11_with_69 rfl (by decide) sh_88 ⟨rfl, by decide⟩ rfl ⟨Nat.le_of_ble_eq_true rfl, Nat.le_of_ble_eq_true rfl⟩ (Nat.le_of_ble_eq_true rfl) ⟨Nat.zero_le _, Nat.zero_le _⟩ (fun r7 s7 h => ?_)
    refine r_isub (pc := 72) dX11_with_72 ?_
    refine n_Vv0 (pc := 73) (S0 := []) (spX6_add h) gmX6_add selX6_add lk_RX11_160 dX11_with_73 rfl (by decide) sh_18 ⟨rfl, by decide⟩ rfl ⟨Nat.le_of_ble_eq_true rfl, Nat.le_of_ble_eq_true rfl⟩ (Nat.le_of_ble_eq_true rfl) ⟨Nat.zero_le _, Nat.zero_le _⟩ (fun s8 h => ?_)
    refine r_aload_n (pc := 76) (x := 0) dX11_with_76 rfl ?_
    refine n_getR (pc := 77) (j := 11) (q := 88) dX11_with_77 fl_RX11_74 (by decide) sh_0 rfl rfl rfl ?_
    refine n_getI (pc := 80) (j := 8) dX11_with_80 fl_RX11_215 (by decide) sh_88 rfl rfl ?_
    exact n_iret (pc := 83) dX11_with_83 rfl (Nat.le_refl _) (Nat.le_refl _) h
  · replace h := h.2 c
    refine r_iload (pc := 33) (x := r2) dX11_with_33 rfl ?_
    exact n_iret (pc := 35) dX11_with_35 rfl (Nat.le_refl _) (Nat.le_refl _) h
def wX11_asks_52  (Q : Int32 → gS → Prop) (k13 : Int32 → Int32 → Int32 → gS → Prop) (y4 : Int32) (y5 : Int32) (s : gS) : Prop := k13 y4 y5 (y4 + 1) s
set_option maxRecDepth 20000 in
theorem pX11_asks_52 {l : Launch} {X : gX}   {Q : Int32 → gS → Prop} {k13 : Int32 → Int32 → Int32 → gS → Prop} (y4 : Int32) (y5 : Int32) (s : gS) (h : wX11_asks_52  Q k13 y4 y5 s) (hk13 : ∀ (y2 : Int32) (y3 : Int32) (y4 : Int32) (s : gS), k13 y2 y3 y4 s → Gw l mX11_asks (g_rm 14 0 0) X 13 [some (.ref 0), some (.ref 38), some (.int y2), some (.int y3), some (.int y4), none] [] (nrm s) 0 0 (g_Z X (q_i Q) 0 0)) : Gw l mX11_asks (g_rm 14 0 0) X 52 [some (.ref 0), some (.ref 38), none, none, some (.int y4), some (.int y5)] [] (nrm s) 0 0 (g_Z X (q_i Q) 0 0) := by
  refine r_iload (pc := 52) (x := y4) dX11_asks_52 rfl ?_
  refine r_istore_n (pc := 54) (L' := [some (.ref 0), some (.ref 38), some (.int y4), none, some (.int y4), some (.int y5)]) dX11_asks_54 rfl (by decide) rfl ?_
  refine r_iload (pc := 55) (x := y5) dX11_asks_55 rfl ?_
  refine r_istore_n (pc := 57) (L' := [some (.ref 0), some (.ref 38), some (.int y4), some (.int y5), some (.int y4), some (.int y5)]) dX11_asks_57 rfl (by decide) rfl ?_
  refine n_iinc (pc := 58) (x := y4) (w := 1) (L' := [some (.ref 0), some (.ref 38), some (.int y4), some (.int y5), some (.int (y4 + 1)), some (.int y5)]) dX11_asks_58 rfl (by decide) rfl (by decide) rfl ?_
  refine r_goto (pc := 61) (tgt := 13) dX11_asks_61 (by decide) ?_
  refine n_L (L' := [some (.ref 0), some (.ref 38), some (.int y4), some (.int y5), some (.int (y4 + 1)), none]) (le_s (le_s (le_s (le_s (le_s (le_n (le_e))))))) ?_
  exact hk13 _ _ _ _ h
def wX11_asks_13  (Q : Int32 → gS → Prop)  : Nat → Int32 → Int32 → Int32 → gS → Prop
  | 0, _, _, _, _ => False
  | n + 1, y2, y3, y4, s => (6 ≤ y4 → (y2 = (-2) → Q y2 s) ∧ (¬ (y2 = (-2)) → wpX6_clear s (fun s2 => wpX6_add y3 s2 (fun s3 => Q y2 s3)))) ∧ (¬ (6 ≤ y4) → wpX7_hasOpenQuestion 38 y4 s (fun r4 s4 => (¬ r4 = 0 → wpX7_mostWithOneReading 38 y4 s4 (fun r5 s5 => (y2 = (-2) → wX11_asks_52  Q (fun y2 y3 y4 s => wX11_asks_13  Q n y2 y3 y4 s) y4 r5 s5) ∧ (¬ (y2 = (-2)) → (y3 ≤ r5 → wX11_asks_13  Q n y2 y3 (y4 + 1) s5) ∧ (¬ (y3 ≤ r5) → wX11_asks_52  Q (fun y2 y3 y4 s => wX11_asks_13  Q n y2 y3 y4 s) y4 r5 s5)))) ∧ (r4 = 0 → wX11_asks_13  Q n y2 y3 (y4 + 1) s4)))
set_option maxRecDepth 20000 in
theorem pX11_asks_13 {l : Launch} {X : gX}   {Q : Int32 → gS → Prop}  : ∀ (n : Nat) (y2 : Int32) (y3 : Int32) (y4 : Int32) (s : gS) (h : wX11_asks_13  Q n y2 y3 y4 s) , Gw l mX11_asks (g_rm 14 0 0) X 13 [some (.ref 0), some (.ref 38), some (.int y2), some (.int y3), some (.int y4), none] [] (nrm s) 0 0 (g_Z X (q_i Q) 0 0) := by
  intro n
  induction n with
  | zero => intro y2 y3 y4 s h; exact h.elim
  | succ n ih0 =>
    intro y2 y3 y4 s h 
    have ih : ∀ (y2 : Int32) (y3 : Int32) (y4 : Int32) (s : gS), wX11_asks_13  Q n y2 y3 y4 s → Gw l mX11_asks (g_rm 14 0 0) X 13 [some (.ref 0), some (.ref 38), some (.int y2), some (.int y3), some (.int y4), none] [] (nrm s) 0 0 (g_Z X (q_i Q) 0 0) := fun y2 y3 y4 s h => ih0 y2 y3 y4 s h 
    refine r_iload (pc := 13) (x := y4) dX11_asks_13 rfl ?_
    refine r_bipush (pc := 15) (v := 6) dX11_asks_15 (by decide) ?_
    refine r_icmp_ge (pc := 17) (tgt := 64) dX11_asks_17 (by decide) (fun c => ?_) (fun c => ?_)
    · replace h := h.1 c
      refine r_iload_n (pc := 64) (x := y2) dX11_asks_64 rfl ?_
      refine r_bipush (pc := 65) (v := (-2)) dX11_asks_65 (by decide) ?_
      refine r_icmp_eq (pc := 67) (tgt := 85) dX11_asks_67 (by decide) (fun c => ?_) (fun c => ?_)
      · replace h := h.1 c
        refine r_iload_n (pc := 85) (x := y2) dX11_asks_85 rfl ?_
        exact n_iret (pc := 86) dX11_asks_86 rfl (Nat.le_refl _) (Nat.le_refl _) h
      · replace h := h.2 c
        refine r_aload_n (pc := 70) (x := 0) dX11_asks_70 rfl ?_
        refine n_getR (pc := 71) (j := 3) (q := 18) dX11_asks_71 fl_RX11_33 (by decide) sh_0 rfl rfl rfl ?_
        refine n_Vv0 (pc := 74) (S0 := []) (spX6_clear h) gmX6_clear selX6_clear lk_RX11_159 dX11_asks_74 rfl (by decide) sh_18 ⟨rfl, by decide⟩ rfl ⟨Nat.le_of_ble_eq_true rfl, Nat.le_of_ble_eq_true rfl⟩ (Nat.le_of_ble_eq_true rfl) ⟨Nat.zero_le _, Nat.zero_le _⟩ (fun s2 h => ?_)
        refine r_aload_n (pc := 77) (x := 0) dX11_asks_77 rfl ?_
        refine n_getR (pc := 78) (j := 3) (q := 18) dX11_asks_78 fl_RX11_33 (by decide) sh_0 rfl rfl rfl ?_
        refine r_iload_n (pc := 81) (x := y3) dX11_asks_81 rfl ?_
        refine n_Vv0 (pc := 82) (S0 := []) (spX6_add h) gmX6_add selX6_add lk_RX11_160 dX11_asks_82 rfl (by decide) sh_18 ⟨rfl, by decide⟩ rfl ⟨Nat.le_of_ble_eq_true rfl, Nat.le_of_ble_eq_true rfl⟩ (Nat.le_of_ble_eq_true rfl) ⟨Nat.zero_le _, Nat.zero_le _⟩ (fun s3 h => ?_)
        refine r_iload_n (pc := 85) (x := y2) dX11_asks_85 rfl ?_
        exact n_iret (pc := 86) dX11_asks_86 rfl (Nat.le_refl _) (Nat.le_refl _) h
    · replace h := h.2 c
      refine r_aload_n (pc := 20) (x := 38) dX11_asks_20 rfl ?_
      refine r_iload (pc := 21) (x := y4) dX11_asks_21 rfl ?_
      refine n_Vi0 (pc := 23) (S0 := []) (spX7_hasOpenQuestion isSo_38 h) gmX7_hasOpenQuestion selX7_hasOpenQuestion lk_RX11_241 dX11_asks_23 rfl (by decide) sh_38 ⟨rfl, by decide⟩ rfl ⟨Nat.le_of_ble_eq_true rfl, Nat.le_of_ble_eq_true rfl⟩ (Nat.le_of_ble_eq_true rfl) ⟨Nat.zero_le _, Nat.zero_le _⟩ (fun r4 s4 h => ?_)
      refine r_if_ne (pc := 26) (tgt := 32) dX11_asks_26 (by decide) (fun c => ?_) (fun c => ?_)
      · replace h := h.1 c
        refine r_aload_n (pc := 32) (x := 38) dX11_asks_32 rfl ?_
        refine r_iload (pc := 33) (x := y4) dX11_asks_33 rfl ?_
        refine n_Vi0 (pc := 35) (S0 := []) (spX7_mostWithOneReading isSo_38 h) gmX7_mostWithOneReading selX7_mostWithOneReading lk_RX11_270 dX11_asks_35 rfl (by decide) sh_38 ⟨rfl, by decide⟩ rfl ⟨Nat.le_of_ble_eq_true rfl, Nat.le_of_ble_eq_true rfl⟩ (Nat.le_of_ble_eq_true rfl) ⟨Nat.zero_le _, Nat.zero_le _⟩ (fun r5 s5 h => ?_)
        refine r_istore (pc := 38) (L' := [some (.ref 0), some (.ref 38), some (.int y2), some (.int y3), some (.int y4), some (.int r5)]) dX11_asks_38 rfl (by decide) rfl ?_
        refine r_iload_n (pc := 40) (x := y2) dX11_asks_40 rfl ?_
        refine r_bipush (pc := 41) (v := (-2)) dX11_asks_41 (by decide) ?_
        refine r_icmp_eq (pc := 43) (tgt := 52) dX11_asks_43 (by decide) (fun c => ?_) (fun c => ?_)
        · replace h := h.1 c
          refine n_L (L' := [some (.ref 0), some (.ref 38), none, none, some (.int y4), some (.int r5)]) (le_s (le_s (le_n (le_n (le_s (le_s (le_e))))))) ?_
          exact pX11_asks_52  _ _ _ h ih
        · replace h := h.2 c
          refine r_iload (pc := 46) (x := r5) dX11_asks_46 rfl ?_
          refine r_iload_n (pc := 48) (x := y3) dX11_asks_48 rfl ?_
          refine r_icmp_ge (pc := 49) (tgt := 58) dX11_asks_49 (by decide) (fun c => ?_) (fun c => ?_)
          · replace h := h.1 c
            refine n_iinc (pc := 58) (x := y4) (w := 1) (L' := [some (.ref 0), some (.ref 38), some (.int y2), some (.int y3), some (.int (y4 + 1)), some (.int r5)]) dX11_asks_58 rfl (by decide) rfl (by decide) rfl ?_
            refine r_goto (pc := 61) (tgt := 13) dX11_asks_61 (by decide) ?_
            refine n_L (L' := [some (.ref 0), some (.ref 38), some (.int y2), some (.int y3), some (.int (y4 + 1)), none]) (le_s (le_s (le_s (le_s (le_s (le_n (le_e))))))) ?_
            exact ih _ _ _ _ h
          · replace h := h.2 c
            refine n_L (L' := [some (.ref 0), some (.ref 38), none, none, some (.int y4), some (.int r5)]) (le_s (le_s (le_n (le_n (le_s (le_s (le_e))))))) ?_
            exact pX11_asks_52  _ _ _ h ih
      · replace h := h.2 c
        refine r_goto (pc := 29) (tgt := 58) dX11_asks_29 (by decide) ?_
        refine n_iinc (pc := 58) (x := y4) (w := 1) (L' := [some (.ref 0), some (.ref 38), some (.int y2), some (.int y3), some (.int (y4 + 1)), none]) dX11_asks_58 rfl (by decide) rfl (by decide) rfl ?_
        refine r_goto (pc := 61) (tgt := 13) dX11_asks_61 (by decide) ?_
        refine n_L (L' := [some (.ref 0), some (.ref 38), some (.int y2), some (.int y3), some (.int (y4 + 1)), none]) (le_s (le_s (le_s (le_s (le_s (le_n (le_e))))))) ?_
        exact ih _ _ _ _ h
def wpX11_asks  (s : gS) (Q : Int32 → gS → Prop) : Prop := wpX11_solved s (fun s1 => ∃ n13, wX11_asks_13  Q n13 (-2) 0 0 s1)
set_option maxRecDepth 20000 in
theorem spX11_asks {l : Launch}   {s : gS} {Q : Int32 → gS → Prop} (h : wpX11_asks  s Q) : Ct l mX11_asks 14 0 0 [.ref 0] (nrm s) (q_i Q) := by
  refine Ct.of (by decide) (Nat.le_of_ble_eq_true rfl) (fun X => ?_)
  refine n_L (L' := [some (.ref 0), none, none, none, none, none]) (le_s (le_p (le_p (le_p (le_p (le_p (le_e))))))) ?_
  refine r_aload_n (pc := 0) (x := 0) dX11_asks_0 rfl ?_
  refine n_Va0 (pc := 1) (S0 := []) (spX11_solved h) gmX11_solved selX11_solved lk_RX11_176 dX11_asks_1 rfl (by decide) sh_0 ⟨rfl, by decide⟩ rfl ⟨Nat.le_of_ble_eq_true rfl, Nat.le_of_ble_eq_true rfl⟩ (Nat.le_of_ble_eq_true rfl) ⟨Nat.zero_le _, Nat.zero_le _⟩ (fun s1 h => ?_)
  refine r_astore_n (pc := 4) (L' := [some (.ref 0), some (.ref 38), none, none, none, none]) dX11_asks_4 rfl (by decide) rfl ?_
  refine r_bipush (pc := 5) (v := (-2)) dX11_asks_5 (by decide) ?_
  refine r_istore_n (pc := 7) (L' := [some (.ref 0), some (.ref 38), some (.int (-2)), none, none, none]) dX11_asks_7 rfl (by decide) rfl ?_
  refine r_iconst (pc := 8) (v := 0) dX11_asks_8 (by decide) ?_
  refine r_istore_n (pc := 9) (L' := [some (.ref 0), some (.ref 38), some (.int (-2)), some (.int 0), none, none]) dX11_asks_9 rfl (by decide) rfl ?_
  refine r_iconst (pc := 10) (v := 0) dX11_asks_10 (by decide) ?_
  refine r_istore (pc := 11) (L' := [some (.ref 0), some (.ref 38), some (.int (-2)), some (.int 0), some (.int 0), none]) dX11_asks_11 rfl (by decide) rfl ?_
  refine n_L (L' := [some (.ref 0), some (.ref 38), some (.int (-2)), some (.int 0), some (.int 0), none]) (le_s (le_s (le_s (le_s (le_s (le_n (le_e))))))) ?_
  obtain ⟨n, h⟩ := h
  exact pX11_asks_13  n _ _ _ _ h 
def wX11_on_22 (x1 : Int32) (Q : Int32 → gS → Prop)  : Nat → Int32 → Int32 → Int32 → gS → Prop
  | 0, _, _, _, _ => False
  | n + 1, y3, y4, y5, s => (6 ≤ y5 → wpX6_clear s (fun s3 => wpX6_add y4 s3 (fun s4 => Q y3 s4))) ∧ (¬ (6 ≤ y5) → wpX7_leftBits 38 y5 s (fun r5 s5 => wpX8_bitsThatMeet 20 y5 r5 x1 x1 s5 (fun r6 s6 => (r6 = 0 → wX11_on_22 x1 Q n y3 y4 (y5 + 1) s6) ∧ (¬ (r6 = 0) → (¬ r6 = r5 → wX11_on_22 x1 Q n (y3 ||| (jshl 1 y5)) (y4 ||| 0) (y5 + 1) s6) ∧ (r6 = r5 → wX11_on_22 x1 Q n (y3 ||| (jshl 1 y5)) (y4 ||| (jshl 1 y5)) (y5 + 1) s6)))))
set_option maxRecDepth 20000 in
theorem pX11_on_22 {l : Launch} {X : gX} {x1 : Int32}  {Q : Int32 → gS → Prop}  : ∀ (n : Nat) (y3 : Int32) (y4 : Int32) (y5 : Int32) (s : gS) (h : wX11_on_22 x1 Q n y3 y4 y5 s) , Gw l mX11_on (g_rm 14 0 0) X 22 [some (.ref 0), some (.int x1), some (.ref 38), some (.int y3), some (.int y4), some (.int y5), none, none] [] (nrm s) 0 0 (g_Z X (q_i Q) 0 0) := by
  intro n
  induction n with
  | zero => intro y3 y4 y5 s h; exact h.elim
  | succ n ih0 =>
    intro y3 y4 y5 s h 
    have ih : ∀ (y3 : Int32) (y4 : Int32) (y5 : Int32) (s : gS), wX11_on_22 x1 Q n y3 y4 y5 s → Gw l mX11_on (g_rm 14 0 0) X 22 [some (.ref 0), some (.int x1), some (.ref 38), some (.int y3), some (.int y4), some (.int y5), none, none] [] (nrm s) 0 0 (g_Z X (q_i Q) 0 0) := fun y3 y4 y5 s h => ih0 y3 y4 y5 s h 
    refine r_iload (pc := 22) (x := y5) dX11_on_22 rfl ?_
    refine r_bipush (pc := 24) (v := 6) dX11_on_24 (by decide) ?_
    refine r_icmp_ge (pc := 26) (tgt := 90) dX11_on_26 (by decide) (fun c => ?_) (fun c => ?_)
    · replace h := h.1 c
      refine r_aload_n (pc := 90) (x := 0) dX11_on_90 rfl ?_
      refine n_getR (pc := 91) (j := 3) (q := 18) dX11_on_91 fl_RX11_33 (by decide) sh_0 rfl rfl rfl ?_
      refine n_Vv0 (pc := 94) (S0 := []) (spX6_clear h) gmX6_clear selX6_clear lk_RX11_159 dX11_on_94 rfl (by decide) sh_18 ⟨rfl, by decide⟩ rfl ⟨Nat.le_of_ble_eq_true rfl, Nat.le_of_ble_eq_true rfl⟩ (Nat.le_of_ble_eq_true rfl) ⟨Nat.zero_le _, Nat.zero_le _⟩ (fun s3 h => ?_)
      refine r_aload_n (pc := 97) (x := 0) dX11_on_97 rfl ?_
      refine n_getR (pc := 98) (j := 3) (q := 18) dX11_on_98 fl_RX11_33 (by decide) sh_0 rfl rfl rfl ?_
      refine r_iload (pc := 101) (x := y4) dX11_on_101 rfl ?_
      refine n_Vv0 (pc := 103) (S0 := []) (spX6_add h) gmX6_add selX6_add lk_RX11_160 dX11_on_103 rfl (by decide) sh_18 ⟨rfl, by decide⟩ rfl ⟨Nat.le_of_ble_eq_true rfl, Nat.le_of_ble_eq_true rfl⟩ (Nat.le_of_ble_eq_true rfl) ⟨Nat.zero_le _, Nat.zero_le _⟩ (fun s4 h => ?_)
      refine r_iload_n (pc := 106) (x := y3) dX11_on_106 rfl ?_
      exact n_iret (pc := 107) dX11_on_107 rfl (Nat.le_refl _) (Nat.le_refl _) h
    · replace h := h.2 c
      refine r_aload_n (pc := 29) (x := 38) dX11_on_29 rfl ?_
      refine r_iload (pc := 30) (x := y5) dX11_on_30 rfl ?_
      refine n_Vi0 (pc := 32) (S0 := []) (spX7_leftBits isSo_38 h) gmX7_leftBits selX7_leftBits lk_RX11_180 dX11_on_32 rfl (by decide) sh_38 ⟨rfl, by decide⟩ rfl ⟨Nat.le_of_ble_eq_true rfl, Nat.le_of_ble_eq_true rfl⟩ (Nat.le_of_ble_eq_true rfl) ⟨Nat.zero_le _, Nat.zero_le _⟩ (fun r5 s5 h => ?_)
      refine r_istore (pc := 35) (L' := [some (.ref 0), some (.int x1), some (.ref 38), some (.int y3), some (.int y4), some (.int y5), some (.int r5), none]) dX11_on_35 rfl (by decide) rfl ?_
      refine r_aload_n (pc := 37) (x := 0) dX11_on_37 rfl ?_
      refine n_getR (pc := 38) (j := 4) (q := 20) dX11_on_38 fl_RX11_40 (by decide) sh_0 rfl rfl rfl ?_
      refine r_iload (pc := 41) (x := y5) dX11_on_41 rfl ?_
      refine r_iload (pc := 43) (x := r5) dX11_on_43 rfl ?_
      refine r_iload_n (pc := 45) (x := x1) dX11_on_45 rfl ?_
      refine r_iload_n (pc := 46) (x := x1) dX11_on_46 rfl ?_
      refine n_Vi0 (pc := 47) (S0 := []) (spX8_bitsThatMeet isSt_20 h) gmX8_bitsThatMeet selX8_bitsThatMeet lk_RX11_273 dX11_on_47 rfl (by decide) sh_20 ⟨rfl, by decide⟩ rfl ⟨Nat.le_of_ble_eq_true rfl, Nat.le_of_ble_eq_true rfl⟩ (Nat.le_of_ble_eq_true rfl) ⟨Nat.zero_le _, Nat.zero_le _⟩ (fun r6 s6 h => ?_)
      refine r_istore (pc := 50) (L' := [some (.ref 0), some (.int x1), some (.ref 38), some (.int y3), some (.int y4), some (.int y5), some (.int r5), some (.int r6)]) dX11_on_50 rfl (by decide) rfl ?_
      refine r_iload (pc := 52) (x := r6) dX11_on_52 rfl ?_
      refine r_if_eq (pc := 54) (tgt := 84) dX11_on_54 (by decide) (fun c => ?_) (fun c => ?_)
      · replace h := h.1 c
        refine n_iinc (pc := 84) (x := y5) (w := 1) (L' := [some (.ref 0), some (.int x1), some (.ref 38), some (.int y3), some (.int y4), some (.int (y5 + 1)), some (.int r5), some (.int r6)]) dX11_on_84 rfl (by decide) rfl (by decide) rfl ?_
        refine r_goto (pc := 87) (tgt := 22) dX11_on_87 (by decide) ?_
        refine n_L (L' := [some (.ref 0), some (.int x1), some (.ref 38), some (.int y3), some (.int y4), some (.int (y5 + 1)), none, none]) (le_s (le_s (le_s (le_s (le_s (le_s (le_n (le_n (le_e))))))))) ?_
        exact ih _ _ _ _ h
      · replace h := h.2 c
        refine r_iload_n (pc := 57) (x := y3) dX11_on_57 rfl ?_
        refine r_iconst (pc := 58) (v := 1) dX11_on_58 (by decide) ?_
        refine r_iload (pc := 59) (x := y5) dX11_on_59 rfl ?_
        refine n_ishl (pc := 61) dX11_on_61 ?_
        refine r_ior (pc := 62) dX11_on_62 ?_
        refine r_istore_n (pc := 63) (L' := [some (.ref 0), some (.int x1), some (.ref 38), some (.int (y3 ||| (jshl 1 y5))), some (.int y4), some (.int y5), some (.int r5), some (.int r6)]) dX11_on_63 rfl (by decide) rfl ?_
        refine r_iload (pc := 64) (x := y4) dX11_on_64 rfl ?_
        refine r_iload (pc := 66) (x := r6) dX11_on_66 rfl ?_
        refine r_iload (pc := 68) (x := r5) dX11_on_68 rfl ?_
        refine r_icmp_ne (pc := 70) (tgt := 80) dX11_on_70 (by decide) (fun c => ?_) (fun c => ?_)
        · replace h := h.1 c
          refine r_iconst (pc := 80) (v := 0) dX11_on_80 (by decide) ?_
          refine r_ior (pc := 81) dX11_on_81 ?_
          refine r_istore (pc := 82) (L' := [some (.ref 0), some (.int x1), some (.ref 38), some (.int (y3 ||| (jshl 1 y5))), some (.int (y4 ||| 0)), some (.int y5), some (.int r5), some (.int r6)]) dX11_on_82 rfl (by decide) rfl ?_
          refine n_iinc (pc := 84) (x := y5) (w := 1) (L' := [some (.ref 0), some (.int x1), some (.ref 38), some (.int (y3 ||| (jshl 1 y5))), some (.int (y4 ||| 0)), some (.int (y5 + 1)), some (.int r5), some (.int r6)]) dX11_on_84 rfl (by decide) rfl (by decide) rfl ?_
          refine r_goto (pc := 87) (tgt := 22) dX11_on_87 (by decide) ?_
          refine n_L (L' := [some (.ref 0), some (.int x1), some (.ref 38), some (.int (y3 ||| (jshl 1 y5))), some (.int (y4 ||| 0)), some (.int (y5 + 1)), none, none]) (le_s (le_s (le_s (le_s (le_s (le_s (le_n (le_n (le_e))))))))) ?_
          exact ih _ _ _ _ h
        · replace h := h.2 c
          refine r_iconst (pc := 73) (v := 1) dX11_on_73 (by decide) ?_
          refine r_iload (pc := 74) (x := y5) dX11_on_74 rfl ?_
          refine n_ishl (pc := 76) dX11_on_76 ?_
          refine r_goto (pc := 77) (tgt := 81) dX11_on_77 (by decide) ?_
          refine r_ior (pc := 81) dX11_on_81 ?_
          refine r_istore (pc := 82) (L' := [some (.ref 0), some (.int x1), some (.ref 38), some (.int (y3 ||| (jshl 1 y5))), some (.int (y4 ||| (jshl 1 y5))), some (.int y5), some (.int r5), some (.int r6)]) dX11_on_82 rfl (by decide) rfl ?_
          refine n_iinc (pc := 84) (x := y5) (w := 1) (L' := [some (.ref 0), some (.int x1), some (.ref 38), some (.int (y3 ||| (jshl 1 y5))), some (.int (y4 ||| (jshl 1 y5))), some (.int (y5 + 1)), some (.int r5), some (.int r6)]) dX11_on_84 rfl (by decide) rfl (by decide) rfl ?_
          refine r_goto (pc := 87) (tgt := 22) dX11_on_87 (by decide) ?_
          refine n_L (L' := [some (.ref 0), some (.int x1), some (.ref 38), some (.int (y3 ||| (jshl 1 y5))), some (.int (y4 ||| (jshl 1 y5))), some (.int (y5 + 1)), none, none]) (le_s (le_s (le_s (le_s (le_s (le_s (le_n (le_n (le_e))))))))) ?_
          exact ih _ _ _ _ h
def wpX11_on (x1 : Int32) (s : gS) (Q : Int32 → gS → Prop) : Prop := wpX11_isDay x1 s (fun r1 s1 => (¬ r1 = 0 → wpX11_solved s1 (fun s2 => ∃ n22, wX11_on_22 x1 Q n22 0 0 0 s2)) ∧ (r1 = 0 → Q (-1) s1))
set_option maxRecDepth 20000 in
theorem spX11_on {l : Launch} {x1 : Int32}  {s : gS} {Q : Int32 → gS → Prop} (h : wpX11_on x1 s Q) : Ct l mX11_on 14 0 0 [.ref 0, .int x1] (nrm s) (q_i Q) := by
  refine Ct.of (by decide) (Nat.le_of_ble_eq_true rfl) (fun X => ?_)
  refine n_L (L' := [some (.ref 0), some (.int x1), none, none, none, none, none, none]) (le_s (le_s (le_p (le_p (le_p (le_p (le_p (le_p (le_e))))))))) ?_
  refine r_iload_n (pc := 0) (x := x1) dX11_on_0 rfl ?_
  refine n_Si0 (pc := 1) (S0 := []) (spX11_isDay h) gmX11_isDay lk_RX11_145 dX11_on_1 rfl rfl ⟨Nat.le_of_ble_eq_true rfl, Nat.le_of_ble_eq_true rfl⟩ (Nat.le_of_ble_eq_true rfl) ⟨Nat.zero_le _, Nat.zero_le _⟩ (fun r1 s1 h => ?_)
  refine r_if_ne (pc := 4) (tgt := 9) dX11_on_4 (by decide) (fun c => ?_) (fun c => ?_)
  · replace h := h.1 c
    refine r_aload_n (pc := 9) (x := 0) dX11_on_9 rfl ?_
    refine n_Va0 (pc := 10) (S0 := []) (spX11_solved h) gmX11_solved selX11_solved lk_RX11_176 dX11_on_10 rfl (by decide) sh_0 ⟨rfl, by decide⟩ rfl ⟨Nat.le_of_ble_eq_true rfl, Nat.le_of_ble_eq_true rfl⟩ (Nat.le_of_ble_eq_true rfl) ⟨Nat.zero_le _, Nat.zero_le _⟩ (fun s2 h => ?_)
    refine r_astore_n (pc := 13) (L' := [some (.ref 0), some (.int x1), some (.ref 38), none, none, none, none, none]) dX11_on_13 rfl (by decide) rfl ?_
    refine r_iconst (pc := 14) (v := 0) dX11_on_14 (by decide) ?_
    refine r_istore_n (pc := 15) (L' := [some (.ref 0), some (.int x1), some (.ref 38), some (.int 0), none, none, none, none]) dX11_on_15 rfl (by decide) rfl ?_
    refine r_iconst (pc := 16) (v := 0) dX11_on_16 (by decide) ?_
    refine r_istore (pc := 17) (L' := [some (.ref 0), some (.int x1), some (.ref 38), some (.int 0), some (.int 0), none, none, none]) dX11_on_17 rfl (by decide) rfl ?_
    refine r_iconst (pc := 19) (v := 0) dX11_on_19 (by decide) ?_
    refine r_istore (pc := 20) (L' := [some (.ref 0), some (.int x1), some (.ref 38), some (.int 0), some (.int 0), some (.int 0), none, none]) dX11_on_20 rfl (by decide) rfl ?_
    refine n_L (L' := [some (.ref 0), some (.int x1), some (.ref 38), some (.int 0), some (.int 0), some (.int 0), none, none]) (le_s (le_s (le_s (le_s (le_s (le_s (le_n (le_n (le_e))))))))) ?_
    obtain ⟨n, h⟩ := h
    exact pX11_on_22  n _ _ _ _ h 
  · replace h := h.2 c
    refine r_iconst (pc := 7) (v := (-1)) dX11_on_7 (by decide) ?_
    exact n_iret (pc := 8) dX11_on_8 rfl (Nat.le_refl _) (Nat.le_refl _) h
def wX11_eventsThatMayHave_4 (x1 : Int32) (Q : Int32 → gS → Prop)  : Nat → Int32 → Int32 → gS → Prop
  | 0, _, _, _ => False
  | n + 1, y2, y3, s => (6 ≤ y3 → Q y2 s) ∧ (¬ (6 ≤ y3) → wpX11_solved s (fun s1 => wpX7_leftBits 38 y3 s1 (fun r2 s2 => wpX8_bitsThatMeet 20 y3 r2 x1 x1 s2 (fun r3 s3 => (r3 = 0 → wX11_eventsThatMayHave_4 x1 Q n y2 (y3 + 1) s3) ∧ (¬ (r3 = 0) → wX11_eventsThatMayHave_4 x1 Q n (y2 + 1) (y3 + 1) s3)))))
set_option maxRecDepth 20000 in
theorem pX11_eventsThatMayHave_4 {l : Launch} {X : gX} {x1 : Int32}  {Q : Int32 → gS → Prop}  : ∀ (n : Nat) (y2 : Int32) (y3 : Int32) (s : gS) (h : wX11_eventsThatMayHave_4 x1 Q n y2 y3 s) , Gw l mX11_eventsThatMayHave (g_rm 14 0 0) X 4 [some (.ref 0), some (.int x1), some (.int y2), some (.int y3)] [] (nrm s) 0 0 (g_Z X (q_i Q) 0 0) := by
  intro n
  induction n with
  | zero => intro y2 y3 s h; exact h.elim
  | succ n ih0 =>
    intro y2 y3 s h 
    have ih : ∀ (y2 : Int32) (y3 : Int32) (s : gS), wX11_eventsThatMayHave_4 x1 Q n y2 y3 s → Gw l mX11_eventsThatMayHave (g_rm 14 0 0) X 4 [some (.ref 0), some (.int x1), some (.int y2), some (.int y3)] [] (nrm s) 0 0 (g_Z X (q_i Q) 0 0) := fun y2 y3 s h => ih0 y2 y3 s h 
    refine r_iload_n (pc := 4) (x := y3) dX11_eventsThatMayHave_4 rfl ?_
    refine r_bipush (pc := 5) (v := 6) dX11_eventsThatMayHave_5 (by decide) ?_
    refine r_icmp_ge (pc := 7) (tgt := 40) dX11_eventsThatMayHave_7 (by decide) (fun c => ?_) (fun c => ?_)
    · replace h := h.1 c
      refine r_iload_n (pc := 40) (x := y2) dX11_eventsThatMayHave_40 rfl ?_
      exact n_iret (pc := 41) dX11_eventsThatMayHave_41 rfl (Nat.le_refl _) (Nat.le_refl _) h
    · replace h := h.2 c
      refine r_aload_n (pc := 10) (x := 0) dX11_eventsThatMayHave_10 rfl ?_
      refine n_getR (pc := 11) (j := 4) (q := 20) dX11_eventsThatMayHave_11 fl_RX11_40 (by decide) sh_0 rfl rfl rfl ?_
      refine r_iload_n (pc := 14) (x := y3) dX11_eventsThatMayHave_14 rfl ?_
      refine r_aload_n (pc := 15) (x := 0) dX11_eventsThatMayHave_15 rfl ?_
      refine n_Va0 (pc := 16) (S0 := [.int y3, .ref 20]) (spX11_solved h) gmX11_solved selX11_solved lk_RX11_176 dX11_eventsThatMayHave_16 rfl (by decide) sh_0 ⟨rfl, by decide⟩ rfl ⟨Nat.le_of_ble_eq_true rfl, Nat.le_of_ble_eq_true rfl⟩ (Nat.le_of_ble_eq_true rfl) ⟨Nat.zero_le _, Nat.zero_le _⟩ (fun s1 h => ?_)
      refine r_iload_n (pc := 19) (x := y3) dX11_eventsThatMayHave_19 rfl ?_
      refine n_Vi0 (pc := 20) (S0 := [.int y3, .ref 20]) (spX7_leftBits isSo_38 h) gmX7_leftBits selX7_leftBits lk_RX11_180 dX11_eventsThatMayHave_20 rfl (by decide) sh_38 ⟨rfl, by decide⟩ rfl ⟨Nat.le_of_ble_eq_true rfl, Nat.le_of_ble_eq_true rfl⟩ (Nat.le_of_ble_eq_true rfl) ⟨Nat.zero_le _, Nat.zero_le _⟩ (fun r2 s2 h => ?_)
      refine r_iload_n (pc := 23) (x := x1) dX11_eventsThatMayHave_23 rfl ?_
      refine r_iload_n (pc := 24) (x := x1) dX11_eventsThatMayHave_24 rfl ?_
      refine n_Vi0 (pc := 25) (S0 := []) (spX8_bitsThatMeet isSt_20 h) gmX8_bitsThatMeet selX8_bitsThatMeet lk_RX11_273 dX11_eventsThatMayHave_25 rfl (by decide) sh_20 ⟨rfl, by decide⟩ rfl ⟨Nat.le_of_ble_eq_true rfl, Nat.le_of_ble_eq_true rfl⟩ (Nat.le_of_ble_eq_true rfl) ⟨Nat.zero_le _, Nat.zero_le _⟩ (fun r3 s3 h => ?_)
      refine r_if_eq (pc := 28) (tgt := 34) dX11_eventsThatMayHave_28 (by decide) (fun c => ?_) (fun c => ?_)
      · replace h := h.1 c
        refine n_iinc (pc := 34) (x := y3) (w := 1) (L' := [some (.ref 0), some (.int x1), some (.int y2), some (.int (y3 + 1))]) dX11_eventsThatMayHave_34 rfl (by decide) rfl (by decide) rfl ?_
        refine r_goto (pc := 37) (tgt := 4) dX11_eventsThatMayHave_37 (by decide) ?_
        refine n_L (L' := [some (.ref 0), some (.int x1), some (.int y2), some (.int (y3 + 1))]) (le_s (le_s (le_s (le_s (le_e))))) ?_
        exact ih _ _ _ h
      · replace h := h.2 c
        refine n_iinc (pc := 31) (x := y2) (w := 1) (L' := [some (.ref 0), some (.int x1), some (.int (y2 + 1)), some (.int y3)]) dX11_eventsThatMayHave_31 rfl (by decide) rfl (by decide) rfl ?_
        refine n_iinc (pc := 34) (x := y3) (w := 1) (L' := [some (.ref 0), some (.int x1), some (.int (y2 + 1)), some (.int (y3 + 1))]) dX11_eventsThatMayHave_34 rfl (by decide) rfl (by decide) rfl ?_
        refine r_goto (pc := 37) (tgt := 4) dX11_eventsThatMayHave_37 (by decide) ?_
        refine n_L (L' := [some (.ref 0), some (.int x1), some (.int (y2 + 1)), some (.int (y3 + 1))]) (le_s (le_s (le_s (le_s (le_e))))) ?_
        exact ih _ _ _ h
def wpX11_eventsThatMayHave (x1 : Int32) (s : gS) (Q : Int32 → gS → Prop) : Prop := ∃ n4, wX11_eventsThatMayHave_4 x1 Q n4 0 0 s
set_option maxRecDepth 20000 in
theorem spX11_eventsThatMayHave {l : Launch} {x1 : Int32}  {s : gS} {Q : Int32 → gS → Prop} (h : wpX11_eventsThatMayHave x1 s Q) : Ct l mX11_eventsThatMayHave 14 0 0 [.ref 0, .int x1] (nrm s) (q_i Q) := by
  refine Ct.of (by decide) (Nat.le_of_ble_eq_true rfl) (fun X => ?_)
  refine n_L (L' := [some (.ref 0), some (.int x1), none, none]) (le_s (le_s (le_p (le_p (le_e))))) ?_
  refine r_iconst (pc := 0) (v := 0) dX11_eventsThatMayHave_0 (by decide) ?_
  refine r_istore_n (pc := 1) (L' := [some (.ref 0), some (.int x1), some (.int 0), none]) dX11_eventsThatMayHave_1 rfl (by decide) rfl ?_
  refine r_iconst (pc := 2) (v := 0) dX11_eventsThatMayHave_2 (by decide) ?_
  refine r_istore_n (pc := 3) (L' := [some (.ref 0), some (.int x1), some (.int 0), some (.int 0)]) dX11_eventsThatMayHave_3 rfl (by decide) rfl ?_
  refine n_L (L' := [some (.ref 0), some (.int x1), some (.int 0), some (.int 0)]) (le_s (le_s (le_s (le_s (le_e))))) ?_
  obtain ⟨n, h⟩ := h
  exact pX11_eventsThatMayHave_4  n _ _ _ h 
def wX11_busiest_91  (Q : Int32 → gS → Prop) (k31 : Int32 → Int32 → Int32 → Int32 → Int32 → gS → Prop) (y4 : Int32) (y5 : Int32) (y6 : Int32) (y7 : Int32) (y8 : Int32) (s : gS) : Prop := k31 y7 y8 y4 y5 (y6 + 1) s
set_option maxRecDepth 20000 in
theorem pX11_busiest_91 {l : Launch} {X : gX}   {Q : Int32 → gS → Prop} {k31 : Int32 → Int32 → Int32 → Int32 → Int32 → gS → Prop} (y4 : Int32) (y5 : Int32) (y6 : Int32) (y7 : Int32) (y8 : Int32) (s : gS) (h : wX11_busiest_91  Q k31 y4 y5 y6 y7 y8 s) (hk31 : ∀ (y2 : Int32) (y3 : Int32) (y4 : Int32) (y5 : Int32) (y6 : Int32) (s : gS), k31 y2 y3 y4 y5 y6 s → Gw l mX11_busiest (g_rm 15 0 0) X 31 [some (.ref 0), some (.ref 38), some (.int y2), some (.int y3), some (.int y4), some (.int y5), some (.int y6), none, none] [] (nrm s) 0 0 (g_Z X (q_i Q) 0 0)) : Gw l mX11_busiest (g_rm 15 0 0) X 91 [some (.ref 0), some (.ref 38), none, none, some (.int y4), some (.int y5), some (.int y6), some (.int y7), some (.int y8)] [] (nrm s) 0 0 (g_Z X (q_i Q) 0 0) := by
  refine r_iload (pc := 91) (x := y7) dX11_busiest_91 rfl ?_
  refine r_istore_n (pc := 93) (L' := [some (.ref 0), some (.ref 38), some (.int y7), none, some (.int y4), some (.int y5), some (.int y6), some (.int y7), some (.int y8)]) dX11_busiest_93 rfl (by decide) rfl ?_
  refine r_iload (pc := 94) (x := y8) dX11_busiest_94 rfl ?_
  refine r_istore_n (pc := 96) (L' := [some (.ref 0), some (.ref 38), some (.int y7), some (.int y8), some (.int y4), some (.int y5), some (.int y6), some (.int y7), some (.int y8)]) dX11_busiest_96 rfl (by decide) rfl ?_
  refine n_iinc (pc := 97) (x := y6) (w := 1) (L' := [some (.ref 0), some (.ref 38), some (.int y7), some (.int y8), some (.int y4), some (.int y5), some (.int (y6 + 1)), some (.int y7), some (.int y8)]) dX11_busiest_97 rfl (by decide) rfl (by decide) rfl ?_
  refine r_goto (pc := 100) (tgt := 31) dX11_busiest_100 (by decide) ?_
  refine n_L (L' := [some (.ref 0), some (.ref 38), some (.int y7), some (.int y8), some (.int y4), some (.int y5), some (.int (y6 + 1)), none, none]) (le_s (le_s (le_s (le_s (le_s (le_s (le_s (le_n (le_n (le_e)))))))))) ?_
  exact hk31 _ _ _ _ _ _ h
def wX11_busiest_31  (Q : Int32 → gS → Prop) (k13 : Int32 → Int32 → Int32 → gS → Prop) : Nat → Int32 → Int32 → Int32 → Int32 → Int32 → gS → Prop
  | 0, _, _, _, _, _, _ => False
  | n + 1, y2, y3, y4, y5, y6, s => (6 ≤ y6 → k13 y2 y3 (y4 + 1) s) ∧ (¬ (6 ≤ y6) → wpX11_hasBit y5 y6 s (fun r5 s5 => (¬ r5 = 0 → wpX8_value 20 y4 y6 0 s5 (fun r6 s6 => wpX11_eventsThatMayHave r6 s6 (fun r7 s7 => (y3 < r7 → wX11_busiest_91  Q (fun y2 y3 y4 y5 y6 s => wX11_busiest_31  Q k13 n y2 y3 y4 y5 y6 s) y4 y5 y6 r6 r7 s7) ∧ (¬ (y3 < r7) → (¬ r7 = y3 → wX11_busiest_31  Q k13 n y2 y3 y4 y5 (y6 + 1) s7) ∧ (r7 = y3 → (y2 ≤ r6 → wX11_busiest_31  Q k13 n y2 y3 y4 y5 (y6 + 1) s7) ∧ (¬ (y2 ≤ r6) → wX11_busiest_91  Q (fun y2 y3 y4 y5 y6 s => wX11_busiest_31  Q k13 n y2 y3 y4 y5 y6 s) y4 y5 y6 r6 r7 s7)))))) ∧ (r5 = 0 → wX11_busiest_31  Q k13 n y2 y3 y4 y5 (y6 + 1) s5)))
set_option maxRecDepth 20000 in
theorem pX11_busiest_31 {l : Launch} {X : gX}   {Q : Int32 → gS → Prop} {k13 : Int32 → Int32 → Int32 → gS → Prop} : ∀ (n : Nat) (y2 : Int32) (y3 : Int32) (y4 : Int32) (y5 : Int32) (y6 : Int32) (s : gS) (h : wX11_busiest_31  Q k13 n y2 y3 y4 y5 y6 s) (hk13 : ∀ (y2 : Int32) (y3 : Int32) (y4 : Int32) (s : gS), k13 y2 y3 y4 s → Gw l mX11_busiest (g_rm 15 0 0) X 13 [some (.ref 0), some (.ref 38), some (.int y2), some (.int y3), some (.int y4), none, none, none, none] [] (nrm s) 0 0 (g_Z X (q_i Q) 0 0)), Gw l mX11_busiest (g_rm 15 0 0) X 31 [some (.ref 0), some (.ref 38), some (.int y2), some (.int y3), some (.int y4), some (.int y5), some (.int y6), none, none] [] (nrm s) 0 0 (g_Z X (q_i Q) 0 0) := by
  intro n
  induction n with
  | zero => intro y2 y3 y4 y5 y6 s h; exact h.elim
  | succ n ih0 =>
    intro y2 y3 y4 y5 y6 s h hk13
    have ih : ∀ (y2 : Int32) (y3 : Int32) (y4 : Int32) (y5 : Int32) (y6 : Int32) (s : gS), wX11_busiest_31  Q k13 n y2 y3 y4 y5 y6 s → Gw l mX11_busiest (g_rm 15 0 0) X 31 [some (.ref 0), some (.ref 38), some (.int y2), some (.int y3), some (.int y4), some (.int y5), some (.int y6), none, none] [] (nrm s) 0 0 (g_Z X (q_i Q) 0 0) := fun y2 y3 y4 y5 y6 s h => ih0 y2 y3 y4 y5 y6 s h hk13
    refine r_iload (pc := 31) (x := y6) dX11_busiest_31 rfl ?_
    refine r_bipush (pc := 33) (v := 6) dX11_busiest_33 (by decide) ?_
    refine r_icmp_ge (pc := 35) (tgt := 103) dX11_busiest_35 (by decide) (fun c => ?_) (fun c => ?_)
    · replace h := h.1 c
      refine n_iinc (pc := 103) (x := y4) (w := 1) (L' := [some (.ref 0), some (.ref 38), some (.int y2), some (.int y3), some (.int (y4 + 1)), some (.int y5), some (.int y6), none, none]) dX11_busiest_103 rfl (by decide) rfl (by decide) rfl ?_
      refine r_goto (pc := 106) (tgt := 13) dX11_busiest_106 (by decide) ?_
      refine n_L (L' := [some (.ref 0), some (.ref 38), some (.int y2), some (.int y3), some (.int (y4 + 1)), none, none, none, none]) (le_s (le_s (le_s (le_s (le_s (le_n (le_n (le_n (le_n (le_e)))))))))) ?_
      exact hk13 _ _ _ _ h
    · replace h := h.2 c
      refine r_iload (pc := 38) (x := y5) dX11_busiest_38 rfl ?_
      refine r_iload (pc := 40) (x := y6) dX11_busiest_40 rfl ?_
      refine n_Si0 (pc := 42) (S0 := []) (spX11_hasBit h) gmX11_hasBit lk_RX11_196 dX11_busiest_42 rfl rfl ⟨Nat.le_of_ble_eq_true rfl, Nat.le_of_ble_eq_true rfl⟩ (Nat.le_of_ble_eq_true rfl) ⟨Nat.zero_le _, Nat.zero_le _⟩ (fun r5 s5 h => ?_)
      refine r_if_ne (pc := 45) (tgt := 51) dX11_busiest_45 (by decide) (fun c => ?_) (fun c => ?_)
      · replace h := h.1 c
        refine r_aload_n (pc := 51) (x := 0) dX11_busiest_51 rfl ?_
        refine n_getR (pc := 52) (j := 4) (q := 20) dX11_busiest_52 fl_RX11_40 (by decide) sh_0 rfl rfl rfl ?_
        refine r_iload (pc := 55) (x := y4) dX11_busiest_55 rfl ?_
        refine r_iload (pc := 57) (x := y6) dX11_busiest_57 rfl ?_
        refine r_iconst (pc := 59) (v := 0) dX11_busiest_59 (by decide) ?_
        refine n_Vi0 (pc := 60) (S0 := []) (spX8_value isSt_20 h) gmX8_value selX8_value lk_RX11_124 dX11_busiest_60 rfl (by decide) sh_20 ⟨rfl, by decide⟩ rfl ⟨Nat.le_of_ble_eq_true rfl, Nat.le_of_ble_eq_true rfl⟩ (Nat.le_of_ble_eq_true rfl) ⟨Nat.zero_le _, Nat.zero_le _⟩ (fun r6 s6 h => ?_)
        refine r_istore (pc := 63) (L' := [some (.ref 0), some (.ref 38), some (.int y2), some (.int y3), some (.int y4), some (.int y5), some (.int y6), some (.int r6), none]) dX11_busiest_63 rfl (by decide) rfl ?_
        refine r_aload_n (pc := 65) (x := 0) dX11_busiest_65 rfl ?_
        refine r_iload (pc := 66) (x := r6) dX11_busiest_66 rfl ?_
        refine n_Vi0 (pc := 68) (S0 := []) (spX11_eventsThatMayHave h) gmX11_eventsThatMayHave selX11_eventsThatMayHave lk_RX11_276 dX11_busiest_68 rfl (by decide) sh_0 ⟨rfl, by decide⟩ rfl ⟨Nat.le_of_ble_eq_true rfl, Nat.le_of_ble_eq_true rfl⟩ (Nat.le_of_ble_eq_true rfl) ⟨Nat.zero_le _, Nat.zero_le _⟩ (fun r7 s7 h => ?_)
        refine r_istore (pc := 71) (L' := [some (.ref 0), some (.ref 38), some (.int y2), some (.int y3), some (.int y4), some (.int y5), some (.int y6), some (.int r6), some (.int r7)]) dX11_busiest_71 rfl (by decide) rfl ?_
        refine r_iload (pc := 73) (x := r7) dX11_busiest_73 rfl ?_
        refine r_iload_n (pc := 75) (x := y3) dX11_busiest_75 rfl ?_
        refine r_icmp_gt (pc := 76) (tgt := 91) dX11_busiest_76 (by decide) (fun c => ?_) (fun c => ?_)
        · replace h := h.1 c
          refine n_L (L' := [some (.ref 0), some (.ref 38), none, none, some (.int y4), some (.int y5), some (.int y6), some (.int r6), some (.int r7)]) (le_s (le_s (le_n (le_n (le_s (le_s (le_s (le_s (le_s (le_e)))))))))) ?_
          exact pX11_busiest_91  _ _ _ _ _ _ h ih
        · replace h := h.2 c
          refine r_iload (pc := 79) (x := r7) dX11_busiest_79 rfl ?_
          refine r_iload_n (pc := 81) (x := y3) dX11_busiest_81 rfl ?_
          refine r_icmp_ne (pc := 82) (tgt := 97) dX11_busiest_82 (by decide) (fun c => ?_) (fun c => ?_)
          · replace h := h.1 c
            refine n_iinc (pc := 97) (x := y6) (w := 1) (L' := [some (.ref 0), some (.ref 38), some (.int y2), some (.int y3), some (.int y4), some (.int y5), some (.int (y6 + 1)), some (.int r6), some (.int r7)]) dX11_busiest_97 rfl (by decide) rfl (by decide) rfl ?_
            refine r_goto (pc := 100) (tgt := 31) dX11_busiest_100 (by decide) ?_
            refine n_L (L' := [some (.ref 0), some (.ref 38), some (.int y2), some (.int y3), some (.int y4), some (.int y5), some (.int (y6 + 1)), none, none]) (le_s (le_s (le_s (le_s (le_s (le_s (le_s (le_n (le_n (le_e)))))))))) ?_
            exact ih _ _ _ _ _ _ h
          · replace h := h.2 c
            refine r_iload (pc := 85) (x := r6) dX11_busiest_85 rfl ?_
            refine r_iload_n (pc := 87) (x := y2) dX11_busiest_87 rfl ?_
            refine r_icmp_ge (pc := 88) (tgt := 97) dX11_busiest_88 (by decide) (fun c => ?_) (fun c => ?_)
            · replace h := h.1 c
              refine n_iinc (pc := 97) (x := y6) (w := 1) (L' := [some (.ref 0), some (.ref 38), some (.int y2), some (.int y3), some (.int y4), some (.int y5), some (.int (y6 + 1)), some (.int r6), some (.int r7)]) dX11_busiest_97 rfl (by decide) rfl (by decide) rfl ?_
              refine r_goto (pc := 100) (tgt := 31) dX11_busiest_100 (by decide) ?_
              refine n_L (L' := [some (.ref 0), some (.ref 38), some (.int y2), some (.int y3), some (.int y4), some (.int y5), some (.int (y6 + 1)), none, none]) (le_s (le_s (le_s (le_s (le_s (le_s (le_s (le_n (le_n (le_e)))))))))) ?_
              exact ih _ _ _ _ _ _ h
            · replace h := h.2 c
              refine n_L (L' := [some (.ref 0), some (.ref 38), none, none, some (.int y4), some (.int y5), some (.int y6), some (.int r6), some (.int r7)]) (le_s (le_s (le_n (le_n (le_s (le_s (le_s (le_s (le_s (le_e)))))))))) ?_
              exact pX11_busiest_91  _ _ _ _ _ _ h ih
      · replace h := h.2 c
        refine r_goto (pc := 48) (tgt := 97) dX11_busiest_48 (by decide) ?_
        refine n_iinc (pc := 97) (x := y6) (w := 1) (L' := [some (.ref 0), some (.ref 38), some (.int y2), some (.int y3), some (.int y4), some (.int y5), some (.int (y6 + 1)), none, none]) dX11_busiest_97 rfl (by decide) rfl (by decide) rfl ?_
        refine r_goto (pc := 100) (tgt := 31) dX11_busiest_100 (by decide) ?_
        refine n_L (L' := [some (.ref 0), some (.ref 38), some (.int y2), some (.int y3), some (.int y4), some (.int y5), some (.int (y6 + 1)), none, none]) (le_s (le_s (le_s (le_s (le_s (le_s (le_s (le_n (le_n (le_e)))))))))) ?_
        exact ih _ _ _ _ _ _ h
def wX11_busiest_13  (Q : Int32 → gS → Prop)  : Nat → Int32 → Int32 → Int32 → gS → Prop
  | 0, _, _, _, _ => False
  | n + 1, y2, y3, y4, s => (6 ≤ y4 → (y2 = (-2) → Q y2 s) ∧ (¬ (y2 = (-2)) → wpX6_clear s (fun s2 => wpX6_add y3 s2 (fun s3 => Q y2 s3)))) ∧ (¬ (6 ≤ y4) → wpX7_leftBits 38 y4 s (fun r4 s4 => ∃ n31, wX11_busiest_31  Q (fun y2 y3 y4 s => wX11_busiest_13  Q n y2 y3 y4 s) n31 y2 y3 y4 r4 0 s4))
set_option maxRecDepth 20000 in
theorem pX11_busiest_13 {l : Launch} {X : gX}   {Q : Int32 → gS → Prop}  : ∀ (n : Nat) (y2 : Int32) (y3 : Int32) (y4 : Int32) (s : gS) (h : wX11_busiest_13  Q n y2 y3 y4 s) , Gw l mX11_busiest (g_rm 15 0 0) X 13 [some (.ref 0), some (.ref 38), some (.int y2), some (.int y3), some (.int y4), none, none, none, none] [] (nrm s) 0 0 (g_Z X (q_i Q) 0 0) := by
  intro n
  induction n with
  | zero => intro y2 y3 y4 s h; exact h.elim
  | succ n ih0 =>
    intro y2 y3 y4 s h 
    have ih : ∀ (y2 : Int32) (y3 : Int32) (y4 : Int32) (s : gS), wX11_busiest_13  Q n y2 y3 y4 s → Gw l mX11_busiest (g_rm 15 0 0) X 13 [some (.ref 0), some (.ref 38), some (.int y2), some (.int y3), some (.int y4), none, none, none, none] [] (nrm s) 0 0 (g_Z X (q_i Q) 0 0) := fun y2 y3 y4 s h => ih0 y2 y3 y4 s h 
    refine r_iload (pc := 13) (x := y4) dX11_busiest_13 rfl ?_
    refine r_bipush (pc := 15) (v := 6) dX11_busiest_15 (by decide) ?_
    refine r_icmp_ge (pc := 17) (tgt := 109) dX11_busiest_17 (by decide) (fun c => ?_) (fun c => ?_)
    · replace h := h.1 c
      refine r_iload_n (pc := 109) (x := y2) dX11_busiest_109 rfl ?_
      refine r_bipush (pc := 110) (v := (-2)) dX11_busiest_110 (by decide) ?_
      refine r_icmp_eq (pc := 112) (tgt := 130) dX11_busiest_112 (by decide) (fun c => ?_) (fun c => ?_)
      · replace h := h.1 c
        refine r_iload_n (pc := 130) (x := y2) dX11_busiest_130 rfl ?_
        exact n_iret (pc := 131) dX11_busiest_131 rfl (Nat.le_refl _) (Nat.le_refl _) h
      · replace h := h.2 c
        refine r_aload_n (pc := 115) (x := 0) dX11_busiest_115 rfl ?_
        refine n_getR (pc := 116) (j := 3) (q := 18) dX11_busiest_116 fl_RX11_33 (by decide) sh_0 rfl rfl rfl ?_
        refine n_Vv0 (pc := 119) (S0 := []) (spX6_clear h) gmX6_clear selX6_clear lk_RX11_159 dX11_busiest_119 rfl (by decide) sh_18 ⟨rfl, by decide⟩ rfl ⟨Nat.le_of_ble_eq_true rfl, Nat.le_of_ble_eq_true rfl⟩ (Nat.le_of_ble_eq_true rfl) ⟨Nat.zero_le _, Nat.zero_le _⟩ (fun s2 h => ?_)
        refine r_aload_n (pc := 122) (x := 0) dX11_busiest_122 rfl ?_
        refine n_getR (pc := 123) (j := 3) (q := 18) dX11_busiest_123 fl_RX11_33 (by decide) sh_0 rfl rfl rfl ?_
        refine r_iload_n (pc := 126) (x := y3) dX11_busiest_126 rfl ?_
        refine n_Vv0 (pc := 127) (S0 := []) (spX6_add h) gmX6_add selX6_add lk_RX11_160 dX11_busiest_127 rfl (by decide) sh_18 ⟨rfl, by decide⟩ rfl ⟨Nat.le_of_ble_eq_true rfl, Nat.le_of_ble_eq_true rfl⟩ (Nat.le_of_ble_eq_true rfl) ⟨Nat.zero_le _, Nat.zero_le _⟩ (fun s3 h => ?_)
        refine r_iload_n (pc := 130) (x := y2) dX11_busiest_130 rfl ?_
        exact n_iret (pc := 131) dX11_busiest_131 rfl (Nat.le_refl _) (Nat.le_refl _) h
    · replace h := h.2 c
      refine r_aload_n (pc := 20) (x := 38) dX11_busiest_20 rfl ?_
      refine r_iload (pc := 21) (x := y4) dX11_busiest_21 rfl ?_
      refine n_Vi0 (pc := 23) (S0 := []) (spX7_leftBits isSo_38 h) gmX7_leftBits selX7_leftBits lk_RX11_180 dX11_busiest_23 rfl (by decide) sh_38 ⟨rfl, by decide⟩ rfl ⟨Nat.le_of_ble_eq_true rfl, Nat.le_of_ble_eq_true rfl⟩ (Nat.le_of_ble_eq_true rfl) ⟨Nat.zero_le _, Nat.zero_le _⟩ (fun r4 s4 h => ?_)
      refine r_istore (pc := 26) (L' := [some (.ref 0), some (.ref 38), some (.int y2), some (.int y3), some (.int y4), some (.int r4), none, none, none]) dX11_busiest_26 rfl (by decide) rfl ?_
      refine r_iconst (pc := 28) (v := 0) dX11_busiest_28 (by decide) ?_
      refine r_istore (pc := 29) (L' := [some (.ref 0), some (.ref 38), some (.int y2), some (.int y3), some (.int y4), some (.int r4), some (.int 0), none, none]) dX11_busiest_29 rfl (by decide) rfl ?_
      refine n_L (L' := [some (.ref 0), some (.ref 38), some (.int y2), some (.int y3), some (.int y4), some (.int r4), some (.int 0), none, none]) (le_s (le_s (le_s (le_s (le_s (le_s (le_s (le_n (le_n (le_e)))))))))) ?_
      obtain ⟨n, h⟩ := h
      exact pX11_busiest_31  n _ _ _ _ _ _ h ih
def wpX11_busiest  (s : gS) (Q : Int32 → gS → Prop) : Prop := wpX11_solved s (fun s1 => ∃ n13, wX11_busiest_13  Q n13 (-2) 0 0 s1)
set_option maxRecDepth 20000 in
theorem spX11_busiest {l : Launch}   {s : gS} {Q : Int32 → gS → Prop} (h : wpX11_busiest  s Q) : Ct l mX11_busiest 15 0 0 [.ref 0] (nrm s) (q_i Q) := by
  refine Ct.of (by decide) (Nat.le_of_ble_eq_true rfl) (fun X => ?_)
  refine n_L (L' := [some (.ref 0), none, none, none, none, none, none, none, none]) (le_s (le_p (le_p (le_p (le_p (le_p (le_p (le_p (le_p (le_e)))))))))) ?_
  refine r_aload_n (pc := 0) (x := 0) dX11_busiest_0 rfl ?_
  refine n_Va0 (pc := 1) (S0 := []) (spX11_solved h) gmX11_solved selX11_solved lk_RX11_176 dX11_busiest_1 rfl (by decide) sh_0 ⟨rfl, by decide⟩ rfl ⟨Nat.le_of_ble_eq_true rfl, Nat.le_of_ble_eq_true rfl⟩ (Nat.le_of_ble_eq_true rfl) ⟨Nat.zero_le _, Nat.zero_le _⟩ (fun s1 h => ?_)
  refine r_astore_n (pc := 4) (L' := [some (.ref 0), some (.ref 38), none, none, none, none, none, none, none]) dX11_busiest_4 rfl (by decide) rfl ?_
  refine r_bipush (pc := 5) (v := (-2)) dX11_busiest_5 (by decide) ?_
  refine r_istore_n (pc := 7) (L' := [some (.ref 0), some (.ref 38), some (.int (-2)), none, none, none, none, none, none]) dX11_busiest_7 rfl (by decide) rfl ?_
  refine r_iconst (pc := 8) (v := 0) dX11_busiest_8 (by decide) ?_
  refine r_istore_n (pc := 9) (L' := [some (.ref 0), some (.ref 38), some (.int (-2)), some (.int 0), none, none, none, none, none]) dX11_busiest_9 rfl (by decide) rfl ?_
  refine r_iconst (pc := 10) (v := 0) dX11_busiest_10 (by decide) ?_
  refine r_istore (pc := 11) (L' := [some (.ref 0), some (.ref 38), some (.int (-2)), some (.int 0), some (.int 0), none, none, none, none]) dX11_busiest_11 rfl (by decide) rfl ?_
  refine n_L (L' := [some (.ref 0), some (.ref 38), some (.int (-2)), some (.int 0), some (.int 0), none, none, none, none]) (le_s (le_s (le_s (le_s (le_s (le_n (le_n (le_n (le_n (le_e)))))))))) ?_
  obtain ⟨n, h⟩ := h
  exact pX11_busiest_13  n _ _ _ _ h 
def wX11_lastDayOfThoseThatMeet_37 (x1 : Int32) (x2 : Int32) (Q : Int32 → gS → Prop) (k5 : Int32 → Int32 → gS → Prop) : Nat → Int32 → Int32 → Int32 → Int32 → gS → Prop
  | 0, _, _, _, _, _ => False
  | n + 1, y3, y4, y5, y6, s => (6 ≤ y6 → k5 y3 (y4 + 1) s) ∧ (¬ (6 ≤ y6) → wpX11_hasBit y5 y6 s (fun r4 s4 => (r4 = 0 → wX11_lastDayOfThoseThatMeet_37 x1 x2 Q k5 n y3 y4 y5 (y6 + 1) s4) ∧ (¬ (r4 = 0) → wpX8_value 20 y4 y6 1 s4 (fun r5 s5 => wX11_lastDayOfThoseThatMeet_37 x1 x2 Q k5 n (jmax y3 r5) y4 y5 (y6 + 1) s5))))
set_option maxRecDepth 20000 in
theorem pX11_lastDayOfThoseThatMeet_37 {l : Launch} {X : gX} {x1 : Int32} {x2 : Int32}  {Q : Int32 → gS → Prop} {k5 : Int32 → Int32 → gS → Prop} : ∀ (n : Nat) (y3 : Int32) (y4 : Int32) (y5 : Int32) (y6 : Int32) (s : gS) (h : wX11_lastDayOfThoseThatMeet_37 x1 x2 Q k5 n y3 y4 y5 y6 s) (hk5 : ∀ (y3 : Int32) (y4 : Int32) (s : gS), k5 y3 y4 s → Gw l mX11_lastDayOfThoseThatMeet (g_rm 14 0 0) X 5 [some (.ref 0), some (.int x1), some (.int x2), some (.int y3), some (.int y4), none, none] [] (nrm s) 0 0 (g_Z X (q_i Q) 0 0)), Gw l mX11_lastDayOfThoseThatMeet (g_rm 14 0 0) X 37 [some (.ref 0), some (.int x1), some (.int x2), some (.int y3), some (.int y4), some (.int y5), some (.int y6)] [] (nrm s) 0 0 (g_Z X (q_i Q) 0 0) := by
  intro n
  induction n with
  | zero => intro y3 y4 y5 y6 s h; exact h.elim
  | succ n ih0 =>
    intro y3 y4 y5 y6 s h hk5
    have ih : ∀ (y3 : Int32) (y4 : Int32) (y5 : Int32) (y6 : Int32) (s : gS), wX11_lastDayOfThoseThatMeet_37 x1 x2 Q k5 n y3 y4 y5 y6 s → Gw l mX11_lastDayOfThoseThatMeet (g_rm 14 0 0) X 37 [some (.ref 0), some (.int x1), some (.int x2), some (.int y3), some (.int y4), some (.int y5), some (.int y6)] [] (nrm s) 0 0 (g_Z X (q_i Q) 0 0) := fun y3 y4 y5 y6 s h => ih0 y3 y4 y5 y6 s h hk5
    refine r_iload (pc := 37) (x := y6) dX11_lastDayOfThoseThatMeet_37 rfl ?_
    refine r_bipush (pc := 39) (v := 6) dX11_lastDayOfThoseThatMeet_39 (by decide) ?_
    refine r_icmp_ge (pc := 41) (tgt := 77) dX11_lastDayOfThoseThatMeet_41 (by decide) (fun c => ?_) (fun c => ?_)
    · replace h := h.1 c
      refine n_iinc (pc := 77) (x := y4) (w := 1) (L' := [some (.ref 0), some (.int x1), some (.int x2), some (.int y3), some (.int (y4 + 1)), some (.int y5), some (.int y6)]) dX11_lastDayOfThoseThatMeet_77 rfl (by decide) rfl (by decide) rfl ?_
      refine r_goto (pc := 80) (tgt := 5) dX11_lastDayOfThoseThatMeet_80 (by decide) ?_
      refine n_L (L' := [some (.ref 0), some (.int x1), some (.int x2), some (.int y3), some (.int (y4 + 1)), none, none]) (le_s (le_s (le_s (le_s (le_s (le_n (le_n (le_e)))))))) ?_
      exact hk5 _ _ _ h
    · replace h := h.2 c
      refine r_iload (pc := 44) (x := y5) dX11_lastDayOfThoseThatMeet_44 rfl ?_
      refine r_iload (pc := 46) (x := y6) dX11_lastDayOfThoseThatMeet_46 rfl ?_
      refine n_Si0 (pc := 48) (S0 := []) (spX11_hasBit h) gmX11_hasBit lk_RX11_196 dX11_lastDayOfThoseThatMeet_48 rfl rfl ⟨Nat.le_of_ble_eq_true rfl, Nat.le_of_ble_eq_true rfl⟩ (Nat.le_of_ble_eq_true rfl) ⟨Nat.zero_le _, Nat.zero_le _⟩ (fun r4 s4 h => ?_)
      refine r_if_eq (pc := 51) (tgt := 71) dX11_lastDayOfThoseThatMeet_51 (by decide) (fun c => ?_) (fun c => ?_)
      · replace h := h.1 c
        refine n_iinc (pc := 71) (x := y6) (w := 1) (L' := [some (.ref 0), some (.int x1), some (.int x2), some (.int y3), some (.int y4), some (.int y5), some (.int (y6 + 1))]) dX11_lastDayOfThoseThatMeet_71 rfl (by decide) rfl (by decide) rfl ?_
        refine r_goto (pc := 74) (tgt := 37) dX11_lastDayOfThoseThatMeet_74 (by decide) ?_
        refine n_L (L' := [some (.ref 0), some (.int x1), some (.int x2), some (.int y3), some (.int y4), some (.int y5), some (.int (y6 + 1))]) (le_s (le_s (le_s (le_s (le_s (le_s (le_s (le_e)))))))) ?_
        exact ih _ _ _ _ _ h
      · replace h := h.2 c
        refine r_iload_n (pc := 54) (x := y3) dX11_lastDayOfThoseThatMeet_54 rfl ?_
        refine r_aload_n (pc := 55) (x := 0) dX11_lastDayOfThoseThatMeet_55 rfl ?_
        refine n_getR (pc := 56) (j := 4) (q := 20) dX11_lastDayOfThoseThatMeet_56 fl_RX11_40 (by decide) sh_0 rfl rfl rfl ?_
        refine r_iload (pc := 59) (x := y4) dX11_lastDayOfThoseThatMeet_59 rfl ?_
        refine r_iload (pc := 61) (x := y6) dX11_lastDayOfThoseThatMeet_61 rfl ?_
        refine r_iconst (pc := 63) (v := 1) dX11_lastDayOfThoseThatMeet_63 (by decide) ?_
        refine n_Vi0 (pc := 64) (S0 := [.int y3]) (spX8_value isSt_20 h) gmX8_value selX8_value lk_RX11_124 dX11_lastDayOfThoseThatMeet_64 rfl (by decide) sh_20 ⟨rfl, by decide⟩ rfl ⟨Nat.le_of_ble_eq_true rfl, Nat.le_of_ble_eq_true rfl⟩ (Nat.le_of_ble_eq_true rfl) ⟨Nat.zero_le _, Nat.zero_le _⟩ (fun r5 s5 h => ?_)
        refine n_max (pc := 67) dX11_lastDayOfThoseThatMeet_67 lk_RX11_205 ⟨Nat.le_of_ble_eq_true rfl, Nat.le_of_ble_eq_true rfl⟩ ⟨Nat.zero_le _, Nat.zero_le _⟩ ?_
        refine r_istore_n (pc := 70) (L' := [some (.ref 0), some (.int x1), some (.int x2), some (.int (jmax y3 r5)), some (.int y4), some (.int y5), some (.int y6)]) dX11_lastDayOfThoseThatMeet_70 rfl (by decide) rfl ?_
        refine n_iinc (pc := 71) (x := y6) (w := 1) (L' := [some (.ref 0), some (.int x1), some (.int x2), some (.int (jmax y3 r5)), some (.int y4), some (.int y5), some (.int (y6 + 1))]) dX11_lastDayOfThoseThatMeet_71 rfl (by decide) rfl (by decide) rfl ?_
        refine r_goto (pc := 74) (tgt := 37) dX11_lastDayOfThoseThatMeet_74 (by decide) ?_
        refine n_L (L' := [some (.ref 0), some (.int x1), some (.int x2), some (.int (jmax y3 r5)), some (.int y4), some (.int y5), some (.int (y6 + 1))]) (le_s (le_s (le_s (le_s (le_s (le_s (le_s (le_e)))))))) ?_
        exact ih _ _ _ _ _ h
def wX11_lastDayOfThoseThatMeet_5 (x1 : Int32) (x2 : Int32) (Q : Int32 → gS → Prop)  : Nat → Int32 → Int32 → gS → Prop
  | 0, _, _, _ => False
  | n + 1, y3, y4, s => (6 ≤ y4 → Q y3 s) ∧ (¬ (6 ≤ y4) → wpX11_solved s (fun s1 => wpX7_leftBits 38 y4 s1 (fun r2 s2 => wpX8_bitsThatMeet 20 y4 r2 x1 x2 s2 (fun r3 s3 => ∃ n37, wX11_lastDayOfThoseThatMeet_37 x1 x2 Q (fun y3 y4 s => wX11_lastDayOfThoseThatMeet_5 x1 x2 Q n y3 y4 s) n37 y3 y4 r3 0 s3))))
set_option maxRecDepth 20000 in
theorem pX11_lastDayOfThoseThatMeet_5 {l : Launch} {X : gX} {x1 : Int32} {x2 : Int32}  {Q : Int32 → gS → Prop}  : ∀ (n : Nat) (y3 : Int32) (y4 : Int32) (s : gS) (h : wX11_lastDayOfThoseThatMeet_5 x1 x2 Q n y3 y4 s) , Gw l mX11_lastDayOfThoseThatMeet (g_rm 14 0 0) X 5 [some (.ref 0), some (.int x1), some (.int x2), some (.int y3), some (.int y4), none, none] [] (nrm s) 0 0 (g_Z X (q_i Q) 0 0) := by
  intro n
  induction n with
  | zero => intro y3 y4 s h; exact h.elim
  | succ n ih0 =>
    intro y3 y4 s h 
    have ih : ∀ (y3 : Int32) (y4 : Int32) (s : gS), wX11_lastDayOfThoseThatMeet_5 x1 x2 Q n y3 y4 s → Gw l mX11_lastDayOfThoseThatMeet (g_rm 14 0 0) X 5 [some (.ref 0), some (.int x1), some (.int x2), some (.int y3), some (.int y4), none, none] [] (nrm s) 0 0 (g_Z X (q_i Q) 0 0) := fun y3 y4 s h => ih0 y3 y4 s h 
    refine r_iload (pc := 5) (x := y4) dX11_lastDayOfThoseThatMeet_5 rfl ?_
    refine r_bipush (pc := 7) (v := 6) dX11_lastDayOfThoseThatMeet_7 (by decide) ?_
    refine r_icmp_ge (pc := 9) (tgt := 83) dX11_lastDayOfThoseThatMeet_9 (by decide) (fun c => ?_) (fun c => ?_)
    · replace h := h.1 c
      refine r_iload_n (pc := 83) (x := y3) dX11_lastDayOfThoseThatMeet_83 rfl ?_
      exact n_iret (pc := 84) dX11_lastDayOfThoseThatMeet_84 rfl (Nat.le_refl _) (Nat.le_refl _) h
    · replace h := h.2 c
      refine r_aload_n (pc := 12) (x := 0) dX11_lastDayOfThoseThatMeet_12 rfl ?_
      refine n_getR (pc := 13) (j := 4) (q := 20) dX11_lastDayOfThoseThatMeet_13 fl_RX11_40 (by decide) sh_0 rfl rfl rfl ?_
      refine r_iload (pc := 16) (x := y4) dX11_lastDayOfThoseThatMeet_16 rfl ?_
      refine r_aload_n (pc := 18) (x := 0) dX11_lastDayOfThoseThatMeet_18 rfl ?_
      refine n_Va0 (pc := 19) (S0 := [.int y4, .ref 20]) (spX11_solved h) gmX11_solved selX11_solved lk_RX11_176 dX11_lastDayOfThoseThatMeet_19 rfl (by decide) sh_0 ⟨rfl, by decide⟩ rfl ⟨Nat.le_of_ble_eq_true rfl, Nat.le_of_ble_eq_true rfl⟩ (Nat.le_of_ble_eq_true rfl) ⟨Nat.zero_le _, Nat.zero_le _⟩ (fun s1 h => ?_)
      refine r_iload (pc := 22) (x := y4) dX11_lastDayOfThoseThatMeet_22 rfl ?_
      refine n_Vi0 (pc := 24) (S0 := [.int y4, .ref 20]) (spX7_leftBits isSo_38 h) gmX7_leftBits selX7_leftBits lk_RX11_180 dX11_lastDayOfThoseThatMeet_24 rfl (by decide) sh_38 ⟨rfl, by decide⟩ rfl ⟨Nat.le_of_ble_eq_true rfl, Nat.le_of_ble_eq_true rfl⟩ (Nat.le_of_ble_eq_true rfl) ⟨Nat.zero_le _, Nat.zero_le _⟩ (fun r2 s2 h => ?_)
      refine r_iload_n (pc := 27) (x := x1) dX11_lastDayOfThoseThatMeet_27 rfl ?_
      refine r_iload_n (pc := 28) (x := x2) dX11_lastDayOfThoseThatMeet_28 rfl ?_
      refine n_Vi0 (pc := 29) (S0 := []) (spX8_bitsThatMeet isSt_20 h) gmX8_bitsThatMeet selX8_bitsThatMeet lk_RX11_273 dX11_lastDayOfThoseThatMeet_29 rfl (by decide) sh_20 ⟨rfl, by decide⟩ rfl ⟨Nat.le_of_ble_eq_true rfl, Nat.le_of_ble_eq_true rfl⟩ (Nat.le_of_ble_eq_true rfl) ⟨Nat.zero_le _, Nat.zero_le _⟩ (fun r3 s3 h => ?_)
      refine r_istore (pc := 32) (L' := [some (.ref 0), some (.int x1), some (.int x2), some (.int y3), some (.int y4), some (.int r3), none]) dX11_lastDayOfThoseThatMeet_32 rfl (by decide) rfl ?_
      refine r_iconst (pc := 34) (v := 0) dX11_lastDayOfThoseThatMeet_34 (by decide) ?_
      refine r_istore (pc := 35) (L' := [some (.ref 0), some (.int x1), some (.int x2), some (.int y3), some (.int y4), some (.int r3), some (.int 0)]) dX11_lastDayOfThoseThatMeet_35 rfl (by decide) rfl ?_
      refine n_L (L' := [some (.ref 0), some (.int x1), some (.int x2), some (.int y3), some (.int y4), some (.int r3), some (.int 0)]) (le_s (le_s (le_s (le_s (le_s (le_s (le_s (le_e)))))))) ?_
      obtain ⟨n, h⟩ := h
      exact pX11_lastDayOfThoseThatMeet_37  n _ _ _ _ _ h ih
def wpX11_lastDayOfThoseThatMeet (x1 : Int32) (x2 : Int32) (s : gS) (Q : Int32 → gS → Prop) : Prop := ∃ n5, wX11_lastDayOfThoseThatMeet_5 x1 x2 Q n5 (-1) 0 s
set_option maxRecDepth 20000 in
theorem spX11_lastDayOfThoseThatMeet {l : Launch} {x1 : Int32} {x2 : Int32}  {s : gS} {Q : Int32 → gS → Prop} (h : wpX11_lastDayOfThoseThatMeet x1 x2 s Q) : Ct l mX11_lastDayOfThoseThatMeet 14 0 0 [.ref 0, .int x1, .int x2] (nrm s) (q_i Q) := by
  refine Ct.of (by decide) (Nat.le_of_ble_eq_true rfl) (fun X => ?_)
  refine n_L (L' := [some (.ref 0), some (.int x1), some (.int x2), none, none, none, none]) (le_s (le_s (le_s (le_p (le_p (le_p (le_p (le_e)))))))) ?_
  refine r_iconst (pc := 0) (v := (-1)) dX11_lastDayOfThoseThatMeet_0 (by decide) ?_
  refine r_istore_n (pc := 1) (L' := [some (.ref 0), some (.int x1), some (.int x2), some (.int (-1)), none, none, none]) dX11_lastDayOfThoseThatMeet_1 rfl (by decide) rfl ?_
  refine r_iconst (pc := 2) (v := 0) dX11_lastDayOfThoseThatMeet_2 (by decide) ?_
  refine r_istore (pc := 3) (L' := [some (.ref 0), some (.int x1), some (.int x2), some (.int (-1)), some (.int 0), none, none]) dX11_lastDayOfThoseThatMeet_3 rfl (by decide) rfl ?_
  refine n_L (L' := [some (.ref 0), some (.int x1), some (.int x2), some (.int (-1)), some (.int 0), none, none]) (le_s (le_s (le_s (le_s (le_s (le_n (le_n (le_e)))))))) ?_
  obtain ⟨n, h⟩ := h
  exact pX11_lastDayOfThoseThatMeet_5  n _ _ _ h 
def wX11_free_25 (x1 : Int32) (x2 : Int32) (Q : Int32 → gS → Prop)  : Nat → Int32 → Int32 → gS → Prop
  | 0, _, _, _ => False
  | n + 1, y3, y4, s => (36 < y4 → Q (-2) s) ∧ (¬ (36 < y4) → wpX11_lastDayOfThoseThatMeet y3 ((y3 + x2) - 1) s (fun r2 s2 => (¬ r2 = (-1) → wX11_free_25 x1 x2 Q n (r2 + 1) (y4 + 1) s2) ∧ (r2 = (-1) → (9999 < ((y3 + x2) - 1) → Q (-2) s2) ∧ (¬ (9999 < ((y3 + x2) - 1)) → Q y3 s2))))
set_option maxRecDepth 20000 in
theorem pX11_free_25 {l : Launch} {X : gX} {x1 : Int32} {x2 : Int32}  {Q : Int32 → gS → Prop}  : ∀ (n : Nat) (y3 : Int32) (y4 : Int32) (s : gS) (h : wX11_free_25 x1 x2 Q n y3 y4 s) , Gw l mX11_free (g_rm 15 0 0) X 25 [some (.ref 0), none, some (.int x2), some (.int y3), some (.int y4), none] [] (nrm s) 0 0 (g_Z X (q_i Q) 0 0) := by
  intro n
  induction n with
  | zero => intro y3 y4 s h; exact h.elim
  | succ n ih0 =>
    intro y3 y4 s h 
    have ih : ∀ (y3 : Int32) (y4 : Int32) (s : gS), wX11_free_25 x1 x2 Q n y3 y4 s → Gw l mX11_free (g_rm 15 0 0) X 25 [some (.ref 0), none, some (.int x2), some (.int y3), some (.int y4), none] [] (nrm s) 0 0 (g_Z X (q_i Q) 0 0) := fun y3 y4 s h => ih0 y3 y4 s h 
    refine r_iload (pc := 25) (x := y4) dX11_free_25 rfl ?_
    refine r_bipush (pc := 27) (v := 36) dX11_free_27 (by decide) ?_
    refine r_icmp_gt (pc := 29) (tgt := 79) dX11_free_29 (by decide) (fun c => ?_) (fun c => ?_)
    · replace h := h.1 c
      refine r_bipush (pc := 79) (v := (-2)) dX11_free_79 (by decide) ?_
      exact n_iret (pc := 81) dX11_free_81 rfl (Nat.le_refl _) (Nat.le_refl _) h
    · replace h := h.2 c
      refine r_aload_n (pc := 32) (x := 0) dX11_free_32 rfl ?_
      refine r_iload_n (pc := 33) (x := y3) dX11_free_33 rfl ?_
      refine r_iload_n (pc := 34) (x := y3) dX11_free_34 rfl ?_
      refine r_iload_n (pc := 35) (x := x2) dX11_free_35 rfl ?_
      refine r_iadd (pc := 36) dX11_free_36 ?_
      refine r_iconst (pc := 37) (v := 1) dX11_free_37 (by decide) ?_
      refine r_isub (pc := 38) dX11_free_38 ?_
      refine n_Vi0 (pc := 39) (S0 := []) (spX11_lastDayOfThoseThatMeet h) gmX11_lastDayOfThoseThatMeet selX11_lastDayOfThoseThatMeet lk_RX11_279 dX11_free_39 rfl (by decide) sh_0 ⟨rfl, by decide⟩ rfl ⟨Nat.le_of_ble_eq_true rfl, Nat.le_of_ble_eq_true rfl⟩ (Nat.le_of_ble_eq_true rfl) ⟨Nat.zero_le _, Nat.zero_le _⟩ (fun r2 s2 h => ?_)
      refine r_istore (pc := 42) (L' := [some (.ref 0), none, some (.int x2), some (.int y3), some (.int y4), some (.int r2)]) dX11_free_42 rfl (by decide) rfl ?_
      refine r_iload (pc := 44) (x := r2) dX11_free_44 rfl ?_
      refine r_iconst (pc := 46) (v := (-1)) dX11_free_46 (by decide) ?_
      refine r_icmp_ne (pc := 47) (tgt := 68) dX11_free_47 (by decide) (fun c => ?_) (fun c => ?_)
      · replace h := h.1 c
        refine r_iload (pc := 68) (x := r2) dX11_free_68 rfl ?_
        refine r_iconst (pc := 70) (v := 1) dX11_free_70 (by decide) ?_
        refine r_iadd (pc := 71) dX11_free_71 ?_
        refine r_istore_n (pc := 72) (L' := [some (.ref 0), none, some (.int x2), some (.int (r2 + 1)), some (.int y4), some (.int r2)]) dX11_free_72 rfl (by decide) rfl ?_
        refine n_iinc (pc := 73) (x := y4) (w := 1) (L' := [some (.ref 0), none, some (.int x2), some (.int (r2 + 1)), some (.int (y4 + 1)), some (.int r2)]) dX11_free_73 rfl (by decide) rfl (by decide) rfl ?_
        refine r_goto (pc := 76) (tgt := 25) dX11_free_76 (by decide) ?_
        refine n_L (L' := [some (.ref 0), none, some (.int x2), some (.int (r2 + 1)), some (.int (y4 + 1)), none]) (le_s (le_n (le_s (le_s (le_s (le_n (le_e))))))) ?_
        exact ih _ _ _ h
      · replace h := h.2 c
        refine r_iload_n (pc := 50) (x := y3) dX11_free_50 rfl ?_
        refine r_iload_n (pc := 51) (x := x2) dX11_free_51 rfl ?_
        refine r_iadd (pc := 52) dX11_free_52 ?_
        refine r_iconst (pc := 53) (v := 1) dX11_free_53 (by decide) ?_
        refine r_isub (pc := 54) dX11_free_54 ?_
        refine r_sipush (pc := 55) (v := 9999) dX11_free_55 (by decide) ?_
        refine r_icmp_gt (pc := 58) (tgt := 65) dX11_free_58 (by decide) (fun c => ?_) (fun c => ?_)
        · replace h := h.1 c
          refine r_bipush (pc := 65) (v := (-2)) dX11_free_65 (by decide) ?_
          exact n_iret (pc := 67) dX11_free_67 rfl (Nat.le_refl _) (Nat.le_refl _) h
        · replace h := h.2 c
          refine r_iload_n (pc := 61) (x := y3) dX11_free_61 rfl ?_
          refine r_goto (pc := 62) (tgt := 67) dX11_free_62 (by decide) ?_
          exact n_iret (pc := 67) dX11_free_67 rfl (Nat.le_refl _) (Nat.le_refl _) h
def wpX11_free (x1 : Int32) (x2 : Int32) (s : gS) (Q : Int32 → gS → Prop) : Prop := wpX11_isDay x1 s (fun r1 s1 => (r1 = 0 → Q (-1) s1) ∧ (¬ (r1 = 0) → (x2 < 1 → Q (-1) s1) ∧ (¬ (x2 < 1) → (x2 ≤ 99 → ∃ n25, wX11_free_25 x1 x2 Q n25 x1 0 s1) ∧ (¬ (x2 ≤ 99) → Q (-1) s1))))
set_option maxRecDepth 20000 in
theorem spX11_free {l : Launch} {x1 : Int32} {x2 : Int32}  {s : gS} {Q : Int32 → gS → Prop} (h : wpX11_free x1 x2 s Q) : Ct l mX11_free 15 0 0 [.ref 0, .int x1, .int x2] (nrm s) (q_i Q) := by
  refine Ct.of (by decide) (Nat.le_of_ble_eq_true rfl) (fun X => ?_)
  refine n_L (L' := [some (.ref 0), some (.int x1), some (.int x2), none, none, none]) (le_s (le_s (le_s (le_p (le_p (le_p (le_e))))))) ?_
  refine r_iload_n (pc := 0) (x := x1) dX11_free_0 rfl ?_
  refine n_Si0 (pc := 1) (S0 := []) (spX11_isDay h) gmX11_isDay lk_RX11_145 dX11_free_1 rfl rfl ⟨Nat.le_of_ble_eq_true rfl, Nat.le_of_ble_eq_true rfl⟩ (Nat.le_of_ble_eq_true rfl) ⟨Nat.zero_le _, Nat.zero_le _⟩ (fun r1 s1 h => ?_)
  refine r_if_eq (pc := 4) (tgt := 18) dX11_free_4 (by decide) (fun c => ?_) (fun c => ?_)
  · replace h := h.1 c
    refine r_iconst (pc := 18) (v := (-1)) dX11_free_18 (by decide) ?_
    exact n_iret (pc := 19) dX11_free_19 rfl (Nat.le_refl _) (Nat.le_refl _) h
  · replace h := h.2 c
    refine r_iload_n (pc := 7) (x := x2) dX11_free_7 rfl ?_
    refine r_iconst (pc := 8) (v := 1) dX11_free_8 (by decide) ?_
    refine r_icmp_lt (pc := 9) (tgt := 18) dX11_free_9 (by decide) (fun c => ?_) (fun c => ?_)
    · replace h := h.1 c
      refine r_iconst (pc := 18) (v := (-1)) dX11_free_18 (by decide) ?_
      exact n_iret (pc := 19) dX11_free_19 rfl (Nat.le_refl _) (Nat.le_refl _) h
    · replace h := h.2 c
      refine r_iload_n (pc := 12) (x := x2) dX11_free_12 rfl ?_
      refine r_bipush (pc := 13) (v := 99) dX11_free_13 (by decide) ?_
      refine r_icmp_le (pc := 15) (tgt := 20) dX11_free_15 (by decide) (fun c => ?_) (fun c => ?_)
      · replace h := h.1 c
        refine r_iload_n (pc := 20) (x := x1) dX11_free_20 rfl ?_
        refine r_istore_n (pc := 21) (L' := [some (.ref 0), some (.int x1), some (.int x2), some (.int x1), none, none]) dX11_free_21 rfl (by decide) rfl ?_
        refine r_iconst (pc := 22) (v := 0) dX11_free_22 (by decide) ?_
        refine r_istore (pc := 23) (L' := [some (.ref 0), some (.int x1), some (.int x2), some (.int x1), some (.int 0), none]) dX11_free_23 rfl (by decide) rfl ?_
        refine n_L (L' := [some (.ref 0), none, some (.int x2), some (.int x1), some (.int 0), none]) (le_s (le_n (le_s (le_s (le_s (le_n (le_e))))))) ?_
        obtain ⟨n, h⟩ := h
        exact pX11_free_25  n _ _ _ h 
      · replace h := h.2 c
        refine r_iconst (pc := 18) (v := (-1)) dX11_free_18 (by decide) ?_
        exact n_iret (pc := 19) dX11_free_19 rfl (Nat.le_refl _) (Nat.le_refl _) h
def wpX11_ref (x1 : Int32) (s : gS) (Q : Int32 → gS → Prop) : Prop := wpX11_saveBefore s (fun s1 => wpX8_changeRef 20 x1 s1 (fun r2 s2 => wpX11_recorded r2 s2 (fun r3 s3 => Q r3 s3)))
set_option maxRecDepth 20000 in
theorem spX11_ref {l : Launch} {x1 : Int32}  {s : gS} {Q : Int32 → gS → Prop} (h : wpX11_ref x1 s Q) : Ct l mX11_ref 4 0 0 [.ref 0, .int x1] (nrm s) (q_i Q) := by
  refine Ct.of (by decide) (Nat.le_of_ble_eq_true rfl) (fun X => ?_)
  refine n_L (L' := [some (.ref 0), some (.int x1)]) (le_s (le_s (le_e))) ?_
  refine r_aload_n (pc := 0) (x := 0) dX11_ref_0 rfl ?_
  refine n_Vv0 (pc := 1) (S0 := []) (spX11_saveBefore h) gmX11_saveBefore selX11_saveBefore lk_RX11_131 dX11_ref_1 rfl (by decide) sh_0 ⟨rfl, by decide⟩ rfl ⟨Nat.le_of_ble_eq_true rfl, Nat.le_of_ble_eq_true rfl⟩ (Nat.le_of_ble_eq_true rfl) ⟨Nat.zero_le _, Nat.zero_le _⟩ (fun s1 h => ?_)
  refine r_aload_n (pc := 4) (x := 0) dX11_ref_4 rfl ?_
  refine r_aload_n (pc := 5) (x := 0) dX11_ref_5 rfl ?_
  refine n_getR (pc := 6) (j := 4) (q := 20) dX11_ref_6 fl_RX11_40 (by decide) sh_0 rfl rfl rfl ?_
  refine r_iload_n (pc := 9) (x := x1) dX11_ref_9 rfl ?_
  refine n_Vi0 (pc := 10) (S0 := [.ref 0]) (spX8_changeRef isSt_20 h) gmX8_changeRef selX8_changeRef lk_RX11_282 dX11_ref_10 rfl (by decide) sh_20 ⟨rfl, by decide⟩ rfl ⟨Nat.le_of_ble_eq_true rfl, Nat.le_of_ble_eq_true rfl⟩ (Nat.le_of_ble_eq_true rfl) ⟨Nat.zero_le _, Nat.zero_le _⟩ (fun r2 s2 h => ?_)
  refine n_Vi0 (pc := 13) (S0 := []) (spX11_recorded h) gmX11_recorded selX11_recorded lk_RX11_142 dX11_ref_13 rfl (by decide) sh_0 ⟨rfl, by decide⟩ rfl ⟨Nat.le_of_ble_eq_true rfl, Nat.le_of_ble_eq_true rfl⟩ (Nat.le_of_ble_eq_true rfl) ⟨Nat.zero_le _, Nat.zero_le _⟩ (fun r3 s3 h => ?_)
  exact n_iret (pc := 16) dX11_ref_16 rfl (Nat.le_refl _) (Nat.le_refl _) h
def wpX11_rules (x1 : Int32) (x2 : Int32) (x3 : Int32) (s : gS) (Q : Int32 → gS → Prop) : Prop := wpX11_saveBefore s (fun s1 => wpX8_ruleOut 20 x1 x2 x3 s1 (fun r2 s2 => wpX11_recorded r2 s2 (fun r3 s3 => Q r3 s3)))
set_option maxRecDepth 20000 in
theorem spX11_rules {l : Launch} {x1 : Int32} {x2 : Int32} {x3 : Int32}  {s : gS} {Q : Int32 → gS → Prop} (h : wpX11_rules x1 x2 x3 s Q) : Ct l mX11_rules 5 0 0 [.ref 0, .int x1, .int x2, .int x3] (nrm s) (q_i Q) := by
  refine Ct.of (by decide) (Nat.le_of_ble_eq_true rfl) (fun X => ?_)
  refine n_L (L' := [some (.ref 0), some (.int x1), some (.int x2), some (.int x3)]) (le_s (le_s (le_s (le_s (le_e))))) ?_
  refine r_aload_n (pc := 0) (x := 0) dX11_rules_0 rfl ?_
  refine n_Vv0 (pc := 1) (S0 := []) (spX11_saveBefore h) gmX11_saveBefore selX11_saveBefore lk_RX11_131 dX11_rules_1 rfl (by decide) sh_0 ⟨rfl, by decide⟩ rfl ⟨Nat.le_of_ble_eq_true rfl, Nat.le_of_ble_eq_true rfl⟩ (Nat.le_of_ble_eq_true rfl) ⟨Nat.zero_le _, Nat.zero_le _⟩ (fun s1 h => ?_)
  refine r_aload_n (pc := 4) (x := 0) dX11_rules_4 rfl ?_
  refine r_aload_n (pc := 5) (x := 0) dX11_rules_5 rfl ?_
  refine n_getR (pc := 6) (j := 4) (q := 20) dX11_rules_6 fl_RX11_40 (by decide) sh_0 rfl rfl rfl ?_
  refine r_iload_n (pc := 9) (x := x1) dX11_rules_9 rfl ?_
  refine r_iload_n (pc := 10) (x := x2) dX11_rules_10 rfl ?_
  refine r_iload_n (pc := 11) (x := x3) dX11_rules_11 rfl ?_
  refine n_Vi0 (pc := 12) (S0 := [.ref 0]) (spX8_ruleOut isSt_20 h) gmX8_ruleOut selX8_ruleOut lk_RX11_247 dX11_rules_12 rfl (by decide) sh_20 ⟨rfl, by decide⟩ rfl ⟨Nat.le_of_ble_eq_true rfl, Nat.le_of_ble_eq_true rfl⟩ (Nat.le_of_ble_eq_true rfl) ⟨Nat.zero_le _, Nat.zero_le _⟩ (fun r2 s2 h => ?_)
  refine n_Vi0 (pc := 15) (S0 := []) (spX11_recorded h) gmX11_recorded selX11_recorded lk_RX11_142 dX11_rules_15 rfl (by decide) sh_0 ⟨rfl, by decide⟩ rfl ⟨Nat.le_of_ble_eq_true rfl, Nat.le_of_ble_eq_true rfl⟩ (Nat.le_of_ble_eq_true rfl) ⟨Nat.zero_le _, Nat.zero_le _⟩ (fun r3 s3 h => ?_)
  exact n_iret (pc := 18) dX11_rules_18 rfl (Nat.le_refl _) (Nat.le_refl _) h
def wpX11_narrows  (s : gS) (Q : Int32 → gS → Prop) : Prop := wpX11_saveBefore s (fun s1 => wpX11_solved s1 (fun s2 => wpX8_keepOnlyLeft 20 38 s2 (fun r3 s3 => wpX11_recorded r3 s3 (fun r4 s4 => Q r4 s4))))
set_option maxRecDepth 20000 in
theorem spX11_narrows {l : Launch}   {s : gS} {Q : Int32 → gS → Prop} (h : wpX11_narrows  s Q) : Ct l mX11_narrows 14 0 0 [.ref 0] (nrm s) (q_i Q) := by
  refine Ct.of (by decide) (Nat.le_of_ble_eq_true rfl) (fun X => ?_)
  refine n_L (L' := [some (.ref 0)]) (le_s (le_e)) ?_
  refine r_aload_n (pc := 0) (x := 0) dX11_narrows_0 rfl ?_
  refine n_Vv0 (pc := 1) (S0 := []) (spX11_saveBefore h) gmX11_saveBefore selX11_saveBefore lk_RX11_131 dX11_narrows_1 rfl (by decide) sh_0 ⟨rfl, by decide⟩ rfl ⟨Nat.le_of_ble_eq_true rfl, Nat.le_of_ble_eq_true rfl⟩ (Nat.le_of_ble_eq_true rfl) ⟨Nat.zero_le _, Nat.zero_le _⟩ (fun s1 h => ?_)
  refine r_aload_n (pc := 4) (x := 0) dX11_narrows_4 rfl ?_
  refine r_aload_n (pc := 5) (x := 0) dX11_narrows_5 rfl ?_
  refine n_getR (pc := 6) (j := 4) (q := 20) dX11_narrows_6 fl_RX11_40 (by decide) sh_0 rfl rfl rfl ?_
  refine r_aload_n (pc := 9) (x := 0) dX11_narrows_9 rfl ?_
  refine n_Va0 (pc := 10) (S0 := [.ref 20, .ref 0]) (spX11_solved h) gmX11_solved selX11_solved lk_RX11_176 dX11_narrows_10 rfl (by decide) sh_0 ⟨rfl, by decide⟩ rfl ⟨Nat.le_of_ble_eq_true rfl, Nat.le_of_ble_eq_true rfl⟩ (Nat.le_of_ble_eq_true rfl) ⟨Nat.zero_le _, Nat.zero_le _⟩ (fun s2 h => ?_)
  refine n_Vi0 (pc := 13) (S0 := [.ref 0]) (spX8_keepOnlyLeft isSt_20 isSo_38 h) gmX8_keepOnlyLeft selX8_keepOnlyLeft lk_RX11_285 dX11_narrows_13 rfl (by decide) sh_20 ⟨rfl, by decide⟩ rfl ⟨Nat.le_of_ble_eq_true rfl, Nat.le_of_ble_eq_true rfl⟩ (Nat.le_of_ble_eq_true rfl) ⟨Nat.zero_le _, Nat.zero_le _⟩ (fun r3 s3 h => ?_)
  refine n_Vi0 (pc := 16) (S0 := []) (spX11_recorded h) gmX11_recorded selX11_recorded lk_RX11_142 dX11_narrows_16 rfl (by decide) sh_0 ⟨rfl, by decide⟩ rfl ⟨Nat.le_of_ble_eq_true rfl, Nat.le_of_ble_eq_true rfl⟩ (Nat.le_of_ble_eq_true rfl) ⟨Nat.zero_le _, Nat.zero_le _⟩ (fun r4 s4 h => ?_)
  exact n_iret (pc := 19) dX11_narrows_19 rfl (Nat.le_refl _) (Nat.le_refl _) h
def wpX11_drops (x1 : Int32) (s : gS) (Q : Int32 → gS → Prop) : Prop := wpX11_saveBefore s (fun s1 => wpX8_drop 20 x1 s1 (fun r2 s2 => wpX11_recorded r2 s2 (fun r3 s3 => Q r3 s3)))
set_option maxRecDepth 20000 in
theorem spX11_drops {l : Launch} {x1 : Int32}  {s : gS} {Q : Int32 → gS → Prop} (h : wpX11_drops x1 s Q) : Ct l mX11_drops 4 0 0 [.ref 0, .int x1] (nrm s) (q_i Q) := by
  refine Ct.of (by decide) (Nat.le_of_ble_eq_true rfl) (fun X => ?_)
  refine n_L (L' := [some (.ref 0), some (.int x1)]) (le_s (le_s (le_e))) ?_
  refine r_aload_n (pc := 0) (x := 0) dX11_drops_0 rfl ?_
  refine n_Vv0 (pc := 1) (S0 := []) (spX11_saveBefore h) gmX11_saveBefore selX11_saveBefore lk_RX11_131 dX11_drops_1 rfl (by decide) sh_0 ⟨rfl, by decide⟩ rfl ⟨Nat.le_of_ble_eq_true rfl, Nat.le_of_ble_eq_true rfl⟩ (Nat.le_of_ble_eq_true rfl) ⟨Nat.zero_le _, Nat.zero_le _⟩ (fun s1 h => ?_)
  refine r_aload_n (pc := 4) (x := 0) dX11_drops_4 rfl ?_
  refine r_aload_n (pc := 5) (x := 0) dX11_drops_5 rfl ?_
  refine n_getR (pc := 6) (j := 4) (q := 20) dX11_drops_6 fl_RX11_40 (by decide) sh_0 rfl rfl rfl ?_
  refine r_iload_n (pc := 9) (x := x1) dX11_drops_9 rfl ?_
  refine n_Vi0 (pc := 10) (S0 := [.ref 0]) (spX8_drop isSt_20 h) gmX8_drop selX8_drop lk_RX11_289 dX11_drops_10 rfl (by decide) sh_20 ⟨rfl, by decide⟩ rfl ⟨Nat.le_of_ble_eq_true rfl, Nat.le_of_ble_eq_true rfl⟩ (Nat.le_of_ble_eq_true rfl) ⟨Nat.zero_le _, Nat.zero_le _⟩ (fun r2 s2 h => ?_)
  refine n_Vi0 (pc := 13) (S0 := []) (spX11_recorded h) gmX11_recorded selX11_recorded lk_RX11_142 dX11_drops_13 rfl (by decide) sh_0 ⟨rfl, by decide⟩ rfl ⟨Nat.le_of_ble_eq_true rfl, Nat.le_of_ble_eq_true rfl⟩ (Nat.le_of_ble_eq_true rfl) ⟨Nat.zero_le _, Nat.zero_le _⟩ (fun r3 s3 h => ?_)
  exact n_iret (pc := 16) dX11_drops_16 rfl (Nat.le_refl _) (Nat.le_refl _) h
def wpX11_goes (x1 : Int32) (s : gS) (Q : Int32 → gS → Prop) : Prop := wpX11_saveBefore s (fun s1 => wpX8_removeOrder 20 x1 s1 (fun r2 s2 => wpX11_recorded r2 s2 (fun r3 s3 => Q r3 s3)))
set_option maxRecDepth 20000 in
theorem spX11_goes {l : Launch} {x1 : Int32}  {s : gS} {Q : Int32 → gS → Prop} (h : wpX11_goes x1 s Q) : Ct l mX11_goes 4 0 0 [.ref 0, .int x1] (nrm s) (q_i Q) := by
  refine Ct.of (by decide) (Nat.le_of_ble_eq_true rfl) (fun X => ?_)
  refine n_L (L' := [some (.ref 0), some (.int x1)]) (le_s (le_s (le_e))) ?_
  refine r_aload_n (pc := 0) (x := 0) dX11_goes_0 rfl ?_
  refine n_Vv0 (pc := 1) (S0 := []) (spX11_saveBefore h) gmX11_saveBefore selX11_saveBefore lk_RX11_131 dX11_goes_1 rfl (by decide) sh_0 ⟨rfl, by decide⟩ rfl ⟨Nat.le_of_ble_eq_true rfl, Nat.le_of_ble_eq_true rfl⟩ (Nat.le_of_ble_eq_true rfl) ⟨Nat.zero_le _, Nat.zero_le _⟩ (fun s1 h => ?_)
  refine r_aload_n (pc := 4) (x := 0) dX11_goes_4 rfl ?_
  refine r_aload_n (pc := 5) (x := 0) dX11_goes_5 rfl ?_
  refine n_getR (pc := 6) (j := 4) (q := 20) dX11_goes_6 fl_RX11_40 (by decide) sh_0 rfl rfl rfl ?_
  refine r_iload_n (pc := 9) (x := x1) dX11_goes_9 rfl ?_
  refine n_Vi0 (pc := 10) (S0 := [.ref 0]) (spX8_removeOrder isSt_20 h) gmX8_removeOrder selX8_removeOrder lk_RX11_264 dX11_goes_10 rfl (by decide) sh_20 ⟨rfl, by decide⟩ rfl ⟨Nat.le_of_ble_eq_true rfl, Nat.le_of_ble_eq_true rfl⟩ (Nat.le_of_ble_eq_true rfl) ⟨Nat.zero_le _, Nat.zero_le _⟩ (fun r2 s2 h => ?_)
  refine n_Vi0 (pc := 13) (S0 := []) (spX11_recorded h) gmX11_recorded selX11_recorded lk_RX11_142 dX11_goes_13 rfl (by decide) sh_0 ⟨rfl, by decide⟩ rfl ⟨Nat.le_of_ble_eq_true rfl, Nat.le_of_ble_eq_true rfl⟩ (Nat.le_of_ble_eq_true rfl) ⟨Nat.zero_le _, Nat.zero_le _⟩ (fun r3 s3 h => ?_)
  exact n_iret (pc := 16) dX11_goes_16 rfl (Nat.le_refl _) (Nat.le_refl _) h
def wpX11_digitsOfAct (x0 : Int32) (s : gS) (Q : Int32 → gS → Prop) : Prop := (x0 = 100 → Q 1 s) ∧ (x0 = 102 → Q 4 s) ∧ (x0 = 103 → Q 1 s) ∧ (x0 = 105 → Q 2 s) ∧ (x0 = 110 → Q 0 s) ∧ (x0 = 111 → Q 3 s) ∧ (x0 = 114 → Q 2 s) ∧ (¬ x0 = 100 → ¬ x0 = 102 → ¬ x0 = 103 → ¬ x0 = 105 → ¬ x0 = 110 → ¬ x0 = 111 → ¬ x0 = 114 → Q (-1) s)
set_option maxRecDepth 20000 in
theorem spX11_digitsOfAct {l : Launch} {x0 : Int32}  {s : gS} {Q : Int32 → gS → Prop} (h : wpX11_digitsOfAct x0 s Q) : Ct l mX11_digitsOfAct 1 0 0 [.int x0] (nrm s) (q_i Q) := by
  refine Ct.of (by decide) (Nat.le_of_ble_eq_true rfl) (fun X => ?_)
  refine n_L (L' := [some (.int x0)]) (le_s (le_e)) ?_
  refine r_iload_n (pc := 0) (x := x0) dX11_digitsOfAct_0 rfl ?_
  by_cases c1_0 : x0 = 100
  · replace h := h.1 c1_0
    refine r_tableIn (pc := 1) (off := 85) (tgt := 86) dX11_digitsOfAct_1 (by rw [c1_0]; decide) (by rw [c1_0]; decide) (by rw [c1_0]; decide) (by decide) ?_
    refine r_iconst (pc := 86) (v := 1) dX11_digitsOfAct_86 (by decide) ?_
    exact n_iret (pc := 87) dX11_digitsOfAct_87 rfl (Nat.le_refl _) (Nat.le_refl _) h
  by_cases c1_1 : x0 = 102
  · replace h := h.2.1 c1_1
    refine r_tableIn (pc := 1) (off := 87) (tgt := 88) dX11_digitsOfAct_1 (by rw [c1_1]; decide) (by rw [c1_1]; decide) (by rw [c1_1]; decide) (by decide) ?_
    refine r_iconst (pc := 88) (v := 4) dX11_digitsOfAct_88 (by decide) ?_
    exact n_iret (pc := 89) dX11_digitsOfAct_89 rfl (Nat.le_refl _) (Nat.le_refl _) h
  by_cases c1_2 : x0 = 103
  · replace h := h.2.2.1 c1_2
    refine r_tableIn (pc := 1) (off := 77) (tgt := 78) dX11_digitsOfAct_1 (by rw [c1_2]; decide) (by rw [c1_2]; decide) (by rw [c1_2]; decide) (by decide) ?_
    refine r_iconst (pc := 78) (v := 1) dX11_digitsOfAct_78 (by decide) ?_
    exact n_iret (pc := 79) dX11_digitsOfAct_79 rfl (Nat.le_refl _) (Nat.le_refl _) h
  by_cases c1_3 : x0 = 105
  · replace h := h.2.2.2.1 c1_3
    refine r_tableIn (pc := 1) (off := 81) (tgt := 82) dX11_digitsOfAct_1 (by rw [c1_3]; decide) (by rw [c1_3]; decide) (by rw [c1_3]; decide) (by decide) ?_
    refine r_iconst (pc := 82) (v := 2) dX11_digitsOfAct_82 (by decide) ?_
    exact n_iret (pc := 83) dX11_digitsOfAct_83 rfl (Nat.le_refl _) (Nat.le_refl _) h
  by_cases c1_4 : x0 = 110
  · replace h := h.2.2.2.2.1 c1_4
    refine r_tableIn (pc := 1) (off := 83) (tgt := 84) dX11_digitsOfAct_1 (by rw [c1_4]; decide) (by rw [c1_4]; decide) (by rw [c1_4]; decide) (by decide) ?_
    refine r_iconst (pc := 84) (v := 0) dX11_digitsOfAct_84 (by decide) ?_
    exact n_iret (pc := 85) dX11_digitsOfAct_85 rfl (Nat.le_refl _) (Nat.le_refl _) h
  by_cases c1_5 : x0 = 111
  · replace h := h.2.2.2.2.2.1 c1_5
    refine r_tableIn (pc := 1) (off := 75) (tgt := 76) dX11_digitsOfAct_1 (by rw [c1_5]; decide) (by rw [c1_5]; decide) (by rw [c1_5]; decide) (by decide) ?_
    refine r_iconst (pc := 76) (v := 3) dX11_digitsOfAct_76 (by decide) ?_
    exact n_iret (pc := 77) dX11_digitsOfAct_77 rfl (Nat.le_refl _) (Nat.le_refl _) h
  by_cases c1_6 : x0 = 114
  · replace h := h.2.2.2.2.2.2.1 c1_6
    refine r_tableIn (pc := 1) (off := 79) (tgt := 80) dX11_digitsOfAct_1 (by rw [c1_6]; decide) (by rw [c1_6]; decide) (by rw [c1_6]; decide) (by decide) ?_
    refine r_iconst (pc := 80) (v := 2) dX11_digitsOfAct_80 (by decide) ?_
    exact n_iret (pc := 81) dX11_digitsOfAct_81 rfl (Nat.le_refl _) (Nat.le_refl _) h
  replace h := h.2.2.2.2.2.2.2 c1_0 c1_1 c1_2 c1_3 c1_4 c1_5 c1_6
  by_cases g1_0 : x0 = 101
  · refine r_tableIn (pc := 1) (off := 89) (tgt := 90) dX11_digitsOfAct_1 (by rw [g1_0]; decide) (by rw [g1_0]; decide) (by rw [g1_0]; decide) (by decide) ?_
    refine r_iconst (pc := 90) (v := (-1)) dX11_digitsOfAct_90 (by decide) ?_
    exact n_iret (pc := 91) dX11_digitsOfAct_91 rfl (Nat.le_refl _) (Nat.le_refl _) h
  by_cases g1_1 : x0 = 104
  · refine r_tableIn (pc := 1) (off := 89) (tgt := 90) dX11_digitsOfAct_1 (by rw [g1_1]; decide) (by rw [g1_1]; decide) (by rw [g1_1]; decide) (by decide) ?_
    refine r_iconst (pc := 90) (v := (-1)) dX11_digitsOfAct_90 (by decide) ?_
    exact n_iret (pc := 91) dX11_digitsOfAct_91 rfl (Nat.le_refl _) (Nat.le_refl _) h
  by_cases g1_2 : x0 = 106
  · refine r_tableIn (pc := 1) (off := 89) (tgt := 90) dX11_digitsOfAct_1 (by rw [g1_2]; decide) (by rw [g1_2]; decide) (by rw [g1_2]; decide) (by decide) ?_
    refine r_iconst (pc := 90) (v := (-1)) dX11_digitsOfAct_90 (by decide) ?_
    exact n_iret (pc := 91) dX11_digitsOfAct_91 rfl (Nat.le_refl _) (Nat.le_refl _) h
  by_cases g1_3 : x0 = 107
  · refine r_tableIn (pc := 1) (off := 89) (tgt := 90) dX11_digitsOfAct_1 (by rw [g1_3]; decide) (by rw [g1_3]; decide) (by rw [g1_3]; decide) (by decide) ?_
    refine r_iconst (pc := 90) (v := (-1)) dX11_digitsOfAct_90 (by decide) ?_
    exact n_iret (pc := 91) dX11_digitsOfAct_91 rfl (Nat.le_refl _) (Nat.le_refl _) h
  by_cases g1_4 : x0 = 108
  · refine r_tableIn (pc := 1) (off := 89) (tgt := 90) dX11_digitsOfAct_1 (by rw [g1_4]; decide) (by rw [g1_4]; decide) (by rw [g1_4]; decide) (by decide) ?_
    refine r_iconst (pc := 90) (v := (-1)) dX11_digitsOfAct_90 (by decide) ?_
    exact n_iret (pc := 91) dX11_digitsOfAct_91 rfl (Nat.le_refl _) (Nat.le_refl _) h
  by_cases g1_5 : x0 = 109
  · refine r_tableIn (pc := 1) (off := 89) (tgt := 90) dX11_digitsOfAct_1 (by rw [g1_5]; decide) (by rw [g1_5]; decide) (by rw [g1_5]; decide) (by decide) ?_
    refine r_iconst (pc := 90) (v := (-1)) dX11_digitsOfAct_90 (by decide) ?_
    exact n_iret (pc := 91) dX11_digitsOfAct_91 rfl (Nat.le_refl _) (Nat.le_refl _) h
  by_cases g1_6 : x0 = 112
  · refine r_tableIn (pc := 1) (off := 89) (tgt := 90) dX11_digitsOfAct_1 (by rw [g1_6]; decide) (by rw [g1_6]; decide) (by rw [g1_6]; decide) (by decide) ?_
    refine r_iconst (pc := 90) (v := (-1)) dX11_digitsOfAct_90 (by decide) ?_
    exact n_iret (pc := 91) dX11_digitsOfAct_91 rfl (Nat.le_refl _) (Nat.le_refl _) h
  by_cases g1_7 : x0 = 113
  · refine r_tableIn (pc := 1) (off := 89) (tgt := 90) dX11_digitsOfAct_1 (by rw [g1_7]; decide) (by rw [g1_7]; decide) (by rw [g1_7]; decide) (by decide) ?_
    refine r_iconst (pc := 90) (v := (-1)) dX11_digitsOfAct_90 (by decide) ?_
    exact n_iret (pc := 91) dX11_digitsOfAct_91 rfl (Nat.le_refl _) (Nat.le_refl _) h
  refine r_tableOut (pc := 1) (tgt := 90) dX11_digitsOfAct_1 (by have e0 := lv_neT c1_0 (show (100 : Int32).toInt = 100 by decide); have e1 := lv_neT c1_1 (show (102 : Int32).toInt = 102 by decide); have e2 := lv_neT c1_2 (show (103 : Int32).toInt = 103 by decide); have e3 := lv_neT c1_3 (show (105 : Int32).toInt = 105 by decide); have e4 := lv_neT c1_4 (show (110 : Int32).toInt = 110 by decide); have e5 := lv_neT c1_5 (show (111 : Int32).toInt = 111 by decide); have e6 := lv_neT c1_6 (show (114 : Int32).toInt = 114 by decide); have f0 := lv_neT g1_0 (show (101 : Int32).toInt = 101 by decide);  have f1 := lv_neT g1_1 (show (104 : Int32).toInt = 104 by decide);  have f2 := lv_neT g1_2 (show (106 : Int32).toInt = 106 by decide);  have f3 := lv_neT g1_3 (show (107 : Int32).toInt = 107 by decide);  have f4 := lv_neT g1_4 (show (108 : Int32).toInt = 108 by decide);  have f5 := lv_neT g1_5 (show (109 : Int32).toInt = 109 by decide);  have f6 := lv_neT g1_6 (show (112 : Int32).toInt = 112 by decide);  have f7 := lv_neT g1_7 (show (113 : Int32).toInt = 113 by decide); omega) (by decide) ?_
  refine r_iconst (pc := 90) (v := (-1)) dX11_digitsOfAct_90 (by decide) ?_
  exact n_iret (pc := 91) dX11_digitsOfAct_91 rfl (Nat.le_refl _) (Nat.le_refl _) h
def wX11_faultOfWork_4  (Q : Int32 → gS → Prop)  : Nat → Int32 → Int32 → gS → Prop
  | 0, _, _, _ => False
  | n + 1, y1, y2, s => ((gi s 1 1) ≤ y2 → (y1 ≤ 0 → Q (-1) s) ∧ (¬ (y1 ≤ 0) → Q (gi s 1 1) s)) ∧ (¬ ((gi s 1 1) ≤ y2) → (y1 ≤ 0 → wpX9_signAt y2 s (fun r1 s1 => wpX11_digitsOfAct r1 s1 (fun r2 s2 => (¬ r2 = (-1) → wX11_faultOfWork_4  Q n r2 (y2 + 1) s2) ∧ (r2 = (-1) → Q y2 s2)))) ∧ (¬ (y1 ≤ 0) → wpX9_isDigit y2 s (fun r3 s3 => (¬ r3 = 0 → wX11_faultOfWork_4  Q n (y1 + (-1)) (y2 + 1) s3) ∧ (r3 = 0 → Q y2 s3))))
set_option maxRecDepth 20000 in
theorem pX11_faultOfWork_4 {l : Launch} {X : gX}   {Q : Int32 → gS → Prop}  : ∀ (n : Nat) (y1 : Int32) (y2 : Int32) (s : gS) (h : wX11_faultOfWork_4  Q n y1 y2 s) , Gw l mX11_faultOfWork (g_rm 3 0 0) X 4 [some (.ref 0), some (.int y1), some (.int y2)] [] (nrm s) 0 0 (g_Z X (q_i Q) 0 0) := by
  intro n
  induction n with
  | zero => intro y1 y2 s h; exact h.elim
  | succ n ih0 =>
    intro y1 y2 s h 
    have ih : ∀ (y1 : Int32) (y2 : Int32) (s : gS), wX11_faultOfWork_4  Q n y1 y2 s → Gw l mX11_faultOfWork (g_rm 3 0 0) X 4 [some (.ref 0), some (.int y1), some (.int y2)] [] (nrm s) 0 0 (g_Z X (q_i Q) 0 0) := fun y1 y2 s h => ih0 y1 y2 s h 
    refine r_iload_n (pc := 4) (x := y2) dX11_faultOfWork_4 rfl ?_
    refine r_aload_n (pc := 5) (x := 0) dX11_faultOfWork_5 rfl ?_
    refine n_getR (pc := 6) (j := 0) (q := 1) dX11_faultOfWork_6 fl_RX11_10 (by decide) sh_0 rfl rfl rfl ?_
    refine n_getI (pc := 9) (j := 1) dX11_faultOfWork_9 fl_RX11_295 (by decide) sh_1 rfl rfl ?_
    refine r_icmp_ge (pc := 12) (tgt := 63) dX11_faultOfWork_12 (by decide) (fun c => ?_) (fun c => ?_)
    · replace h := h.1 c
      refine r_iload_n (pc := 63) (x := y1) dX11_faultOfWork_63 rfl ?_
      refine r_if_le (pc := 64) (tgt := 77) dX11_faultOfWork_64 (by decide) (fun c => ?_) (fun c => ?_)
      · replace h := h.1 c
        refine r_iconst (pc := 77) (v := (-1)) dX11_faultOfWork_77 (by decide) ?_
        exact n_iret (pc := 78) dX11_faultOfWork_78 rfl (Nat.le_refl _) (Nat.le_refl _) h
      · replace h := h.2 c
        refine r_aload_n (pc := 67) (x := 0) dX11_faultOfWork_67 rfl ?_
        refine n_getR (pc := 68) (j := 0) (q := 1) dX11_faultOfWork_68 fl_RX11_10 (by decide) sh_0 rfl rfl rfl ?_
        refine n_getI (pc := 71) (j := 1) dX11_faultOfWork_71 fl_RX11_295 (by decide) sh_1 rfl rfl ?_
        refine r_goto (pc := 74) (tgt := 78) dX11_faultOfWork_74 (by decide) ?_
        exact n_iret (pc := 78) dX11_faultOfWork_78 rfl (Nat.le_refl _) (Nat.le_refl _) h
    · replace h := h.2 c
      refine r_iload_n (pc := 15) (x := y1) dX11_faultOfWork_15 rfl ?_
      refine r_if_le (pc := 16) (tgt := 38) dX11_faultOfWork_16 (by decide) (fun c => ?_) (fun c => ?_)
      · replace h := h.1 c
        refine r_aload_n (pc := 38) (x := 0) dX11_faultOfWork_38 rfl ?_
        refine n_getR (pc := 39) (j := 0) (q := 1) dX11_faultOfWork_39 fl_RX11_10 (by decide) sh_0 rfl rfl rfl ?_
        refine r_iload_n (pc := 42) (x := y2) dX11_faultOfWork_42 rfl ?_
        refine n_Vi0 (pc := 43) (S0 := []) (spX9_signAt h) gmX9_signAt selX9_signAt lk_RX11_301 dX11_faultOfWork_43 rfl (by decide) sh_1 ⟨rfl, by decide⟩ rfl ⟨Nat.le_of_ble_eq_true rfl, Nat.le_of_ble_eq_true rfl⟩ (Nat.le_of_ble_eq_true rfl) ⟨Nat.zero_le _, Nat.zero_le _⟩ (fun r1 s1 h => ?_)
        refine n_Si0 (pc := 46) (S0 := []) (spX11_digitsOfAct h) gmX11_digitsOfAct lk_RX11_304 dX11_faultOfWork_46 rfl rfl ⟨Nat.le_of_ble_eq_true rfl, Nat.le_of_ble_eq_true rfl⟩ (Nat.le_of_ble_eq_true rfl) ⟨Nat.zero_le _, Nat.zero_le _⟩ (fun r2 s2 h => ?_)
        refine r_istore_n (pc := 49) (L' := [some (.ref 0), some (.int r2), some (.int y2)]) dX11_faultOfWork_49 rfl (by decide) rfl ?_
        refine r_iload_n (pc := 50) (x := r2) dX11_faultOfWork_50 rfl ?_
        refine r_iconst (pc := 51) (v := (-1)) dX11_faultOfWork_51 (by decide) ?_
        refine r_icmp_ne (pc := 52) (tgt := 57) dX11_faultOfWork_52 (by decide) (fun c => ?_) (fun c => ?_)
        · replace h := h.1 c
          refine n_iinc (pc := 57) (x := y2) (w := 1) (L' := [some (.ref 0), some (.int r2), some (.int (y2 + 1))]) dX11_faultOfWork_57 rfl (by decide) rfl (by decide) rfl ?_
          refine r_goto (pc := 60) (tgt := 4) dX11_faultOfWork_60 (by decide) ?_
          refine n_L (L' := [some (.ref 0), some (.int r2), some (.int (y2 + 1))]) (le_s (le_s (le_s (le_e)))) ?_
          exact ih _ _ _ h
        · replace h := h.2 c
          refine r_iload_n (pc := 55) (x := y2) dX11_faultOfWork_55 rfl ?_
          exact n_iret (pc := 56) dX11_faultOfWork_56 rfl (Nat.le_refl _) (Nat.le_refl _) h
      · replace h := h.2 c
        refine r_aload_n (pc := 19) (x := 0) dX11_faultOfWork_19 rfl ?_
        refine n_getR (pc := 20) (j := 0) (q := 1) dX11_faultOfWork_20 fl_RX11_10 (by decide) sh_0 rfl rfl rfl ?_
        refine r_iload_n (pc := 23) (x := y2) dX11_faultOfWork_23 rfl ?_
        refine n_Vi0 (pc := 24) (S0 := []) (spX9_isDigit h) gmX9_isDigit selX9_isDigit lk_RX11_348 dX11_faultOfWork_24 rfl (by decide) sh_1 ⟨rfl, by decide⟩ rfl ⟨Nat.le_of_ble_eq_true rfl, Nat.le_of_ble_eq_true rfl⟩ (Nat.le_of_ble_eq_true rfl) ⟨Nat.zero_le _, Nat.zero_le _⟩ (fun r3 s3 h => ?_)
        refine r_if_ne (pc := 27) (tgt := 32) dX11_faultOfWork_27 (by decide) (fun c => ?_) (fun c => ?_)
        · replace h := h.1 c
          refine n_iinc (pc := 32) (x := y1) (w := (-1)) (L' := [some (.ref 0), some (.int (y1 + (-1))), some (.int y2)]) dX11_faultOfWork_32 rfl (by decide) rfl (by decide) rfl ?_
          refine r_goto (pc := 35) (tgt := 57) dX11_faultOfWork_35 (by decide) ?_
          refine n_iinc (pc := 57) (x := y2) (w := 1) (L' := [some (.ref 0), some (.int (y1 + (-1))), some (.int (y2 + 1))]) dX11_faultOfWork_57 rfl (by decide) rfl (by decide) rfl ?_
          refine r_goto (pc := 60) (tgt := 4) dX11_faultOfWork_60 (by decide) ?_
          refine n_L (L' := [some (.ref 0), some (.int (y1 + (-1))), some (.int (y2 + 1))]) (le_s (le_s (le_s (le_e)))) ?_
          exact ih _ _ _ h
        · replace h := h.2 c
          refine r_iload_n (pc := 30) (x := y2) dX11_faultOfWork_30 rfl ?_
          exact n_iret (pc := 31) dX11_faultOfWork_31 rfl (Nat.le_refl _) (Nat.le_refl _) h
def wpX11_faultOfWork  (s : gS) (Q : Int32 → gS → Prop) : Prop := ∃ n4, wX11_faultOfWork_4  Q n4 0 0 s
set_option maxRecDepth 20000 in
theorem spX11_faultOfWork {l : Launch}   {s : gS} {Q : Int32 → gS → Prop} (h : wpX11_faultOfWork  s Q) : Ct l mX11_faultOfWork 3 0 0 [.ref 0] (nrm s) (q_i Q) := by
  refine Ct.of (by decide) (Nat.le_of_ble_eq_true rfl) (fun X => ?_)
  refine n_L (L' := [some (.ref 0), none, none]) (le_s (le_p (le_p (le_e)))) ?_
  refine r_iconst (pc := 0) (v := 0) dX11_faultOfWork_0 (by decide) ?_
  refine r_istore_n (pc := 1) (L' := [some (.ref 0), some (.int 0), none]) dX11_faultOfWork_1 rfl (by decide) rfl ?_
  refine r_iconst (pc := 2) (v := 0) dX11_faultOfWork_2 (by decide) ?_
  refine r_istore_n (pc := 3) (L' := [some (.ref 0), some (.int 0), some (.int 0)]) dX11_faultOfWork_3 rfl (by decide) rfl ?_
  refine n_L (L' := [some (.ref 0), some (.int 0), some (.int 0)]) (le_s (le_s (le_s (le_e)))) ?_
  obtain ⟨n, h⟩ := h
  exact pX11_faultOfWork_4  n _ _ _ h 
def wpX11_act (x1 : Int32) (s : gS) (Q : Int32 → gS → Prop) : Prop := wpX9_digitAt (x1 + 1) s (fun r1 s1 => wpX9_digitAt (x1 + 2) s1 (fun r2 s2 => wpX9_digitAt (x1 + 3) s2 (fun r3 s3 => wpX9_signAt x1 s3 (fun r4 s4 => (r4 = 100 → wpX8_drop 20 r1 s4 (fun r5 s5 => Q r5 s5)) ∧ (r4 = 102 → wpX9_digitAt (x1 + 4) s4 (fun r6 s6 => wpX8_changeRef 20 ((((r1 * 1000) + (r2 * 100)) + (r3 * 10)) + r6) s6 (fun r7 s7 => Q r7 s7))) ∧ (r4 = 103 → wpX8_removeOrder 20 r1 s4 (fun r8 s8 => Q r8 s8)) ∧ (r4 = 105 → wpX8_ruleOut 20 r1 r2 0 s4 (fun r9 s9 => Q r9 s9)) ∧ (r4 = 110 → wpX11_solved s4 (fun s10 => wpX8_keepOnlyLeft 20 38 s10 (fun r11 s11 => Q r11 s11))) ∧ (r4 = 111 → wpX8_addOrder 20 r1 r2 r3 10 s4 (fun r12 s12 => Q r12 s12)) ∧ (r4 = 114 → wpX8_ruleOut 20 r1 r2 1 s4 (fun r13 s13 => Q r13 s13)) ∧ (¬ r4 = 100 → ¬ r4 = 102 → ¬ r4 = 103 → ¬ r4 = 105 → ¬ r4 = 110 → ¬ r4 = 111 → ¬ r4 = 114 → Q (-1) s4)))))
set_option maxRecDepth 20000 in
theorem spX11_act {l : Launch} {x1 : Int32}  {s : gS} {Q : Int32 → gS → Prop} (h : wpX11_act x1 s Q) : Ct l mX11_act 14 0 0 [.ref 0, .int x1] (nrm s) (q_i Q) := by
  refine Ct.of (by decide) (Nat.le_of_ble_eq_true rfl) (fun X => ?_)
  refine n_L (L' := [some (.ref 0), some (.int x1), none, none, none]) (le_s (le_s (le_p (le_p (le_p (le_e)))))) ?_
  refine r_aload_n (pc := 0) (x := 0) dX11_act_0 rfl ?_
  refine n_getR (pc := 1) (j := 0) (q := 1) dX11_act_1 fl_RX11_10 (by decide) sh_0 rfl rfl rfl ?_
  refine r_iload_n (pc := 4) (x := x1) dX11_act_4 rfl ?_
  refine r_iconst (pc := 5) (v := 1) dX11_act_5 (by decide) ?_
  refine r_iadd (pc := 6) dX11_act_6 ?_
  refine n_Vi0 (pc := 7) (S0 := []) (spX9_digitAt h) gmX9_digitAt selX9_digitAt lk_RX11_351 dX11_act_7 rfl (by decide) sh_1 ⟨rfl, by decide⟩ rfl ⟨Nat.le_of_ble_eq_true rfl, Nat.le_of_ble_eq_true rfl⟩ (Nat.le_of_ble_eq_true rfl) ⟨Nat.zero_le _, Nat.zero_le _⟩ (fun r1 s1 h => ?_)
  refine r_istore_n (pc := 10) (L' := [some (.ref 0), some (.int x1), some (.int r1), none, none]) dX11_act_10 rfl (by decide) rfl ?_
  refine r_aload_n (pc := 11) (x := 0) dX11_act_11 rfl ?_
  refine n_getR (pc := 12) (j := 0) (q := 1) dX11_act_12 fl_RX11_10 (by decide) sh_0 rfl rfl rfl ?_
  refine r_iload_n (pc := 15) (x := x1) dX11_act_15 rfl ?_
  refine r_iconst (pc := 16) (v := 2) dX11_act_16 (by decide) ?_
  refine r_iadd (pc := 17) dX11_act_17 ?_
  refine n_Vi0 (pc := 18) (S0 := []) (spX9_digitAt h) gmX9_digitAt selX9_digitAt lk_RX11_351 dX11_act_18 rfl (by decide) sh_1 ⟨rfl, by decide⟩ rfl ⟨Nat.le_of_ble_eq_true rfl, Nat.le_of_ble_eq_true rfl⟩ (Nat.le_of_ble_eq_true rfl) ⟨Nat.zero_le _, Nat.zero_le _⟩ (fun r2 s2 h => ?_)
  refine r_istore_n (pc := 21) (L' := [some (.ref 0), some (.int x1), some (.int r1), some (.int r2), none]) dX11_act_21 rfl (by decide) rfl ?_
  refine r_aload_n (pc := 22) (x := 0) dX11_act_22 rfl ?_
  refine n_getR (pc := 23) (j := 0) (q := 1) dX11_act_23 fl_RX11_10 (by decide) sh_0 rfl rfl rfl ?_
  refine r_iload_n (pc := 26) (x := x1) dX11_act_26 rfl ?_
  refine r_iconst (pc := 27) (v := 3) dX11_act_27 (by decide) ?_
  refine r_iadd (pc := 28) dX11_act_28 ?_
  refine n_Vi0 (pc := 29) (S0 := []) (spX9_digitAt h) gmX9_digitAt selX9_digitAt lk_RX11_351 dX11_act_29 rfl (by decide) sh_1 ⟨rfl, by decide⟩ rfl ⟨Nat.le_of_ble_eq_true rfl, Nat.le_of_ble_eq_true rfl⟩ (Nat.le_of_ble_eq_true rfl) ⟨Nat.zero_le _, Nat.zero_le _⟩ (fun r3 s3 h => ?_)
  refine r_istore (pc := 32) (L' := [some (.ref 0), some (.int x1), some (.int r1), some (.int r2), some (.int r3)]) dX11_act_32 rfl (by decide) rfl ?_
  refine r_aload_n (pc := 34) (x := 0) dX11_act_34 rfl ?_
  refine n_getR (pc := 35) (j := 0) (q := 1) dX11_act_35 fl_RX11_10 (by decide) sh_0 rfl rfl rfl ?_
  refine r_iload_n (pc := 38) (x := x1) dX11_act_38 rfl ?_
  refine n_Vi0 (pc := 39) (S0 := []) (spX9_signAt h) gmX9_signAt selX9_signAt lk_RX11_301 dX11_act_39 rfl (by decide) sh_1 ⟨rfl, by decide⟩ rfl ⟨Nat.le_of_ble_eq_true rfl, Nat.le_of_ble_eq_true rfl⟩ (Nat.le_of_ble_eq_true rfl) ⟨Nat.zero_le _, Nat.zero_le _⟩ (fun r4 s4 h => ?_)
  by_cases c14_0 : r4 = 100
  · replace h := h.1 c14_0
    refine r_tableIn (pc := 42) (off := 131) (tgt := 173) dX11_act_42 (by rw [c14_0]; decide) (by rw [c14_0]; decide) (by rw [c14_0]; decide) (by decide) ?_
    refine r_aload_n (pc := 173) (x := 0) dX11_act_173 rfl ?_
    refine n_getR (pc := 174) (j := 4) (q := 20) dX11_act_174 fl_RX11_40 (by decide) sh_0 rfl rfl rfl ?_
    refine r_iload_n (pc := 177) (x := r1) dX11_act_177 rfl ?_
    refine n_Vi0 (pc := 178) (S0 := []) (spX8_drop isSt_20 h) gmX8_drop selX8_drop lk_RX11_289 dX11_act_178 rfl (by decide) sh_20 ⟨rfl, by decide⟩ rfl ⟨Nat.le_of_ble_eq_true rfl, Nat.le_of_ble_eq_true rfl⟩ (Nat.le_of_ble_eq_true rfl) ⟨Nat.zero_le _, Nat.zero_le _⟩ (fun r5 s5 h => ?_)
    exact n_iret (pc := 181) dX11_act_181 rfl (Nat.le_refl _) (Nat.le_refl _) h
  by_cases c14_1 : r4 = 102
  · replace h := h.2.1 c14_1
    refine r_tableIn (pc := 42) (off := 140) (tgt := 182) dX11_act_42 (by rw [c14_1]; decide) (by rw [c14_1]; decide) (by rw [c14_1]; decide) (by decide) ?_
    refine r_aload_n (pc := 182) (x := 0) dX11_act_182 rfl ?_
    refine n_getR (pc := 183) (j := 4) (q := 20) dX11_act_183 fl_RX11_40 (by decide) sh_0 rfl rfl rfl ?_
    refine r_iload_n (pc := 186) (x := r1) dX11_act_186 rfl ?_
    refine r_sipush (pc := 187) (v := 1000) dX11_act_187 (by decide) ?_
    refine r_imul (pc := 190) dX11_act_190 ?_
    refine r_iload_n (pc := 191) (x := r2) dX11_act_191 rfl ?_
    refine r_bipush (pc := 192) (v := 100) dX11_act_192 (by decide) ?_
    refine r_imul (pc := 194) dX11_act_194 ?_
    refine r_iadd (pc := 195) dX11_act_195 ?_
    refine r_iload (pc := 196) (x := r3) dX11_act_196 rfl ?_
    refine r_bipush (pc := 198) (v := 10) dX11_act_198 (by decide) ?_
    refine r_imul (pc := 200) dX11_act_200 ?_
    refine r_iadd (pc := 201) dX11_act_201 ?_
    refine r_aload_n (pc := 202) (x := 0) dX11_act_202 rfl ?_
    refine n_getR (pc := 203) (j := 0) (q := 1) dX11_act_203 fl_RX11_10 (by decide) sh_0 rfl rfl rfl ?_
    refine r_iload_n (pc := 206) (x := x1) dX11_act_206 rfl ?_
    refine r_iconst (pc := 207) (v := 4) dX11_act_207 (by decide) ?_
    refine r_iadd (pc := 208) dX11_act_208 ?_
    refine n_Vi0 (pc := 209) (S0 := [.int (((r1 * 1000) + (r2 * 100)) + (r3 * 10)), .ref 20]) (spX9_digitAt h) gmX9_digitAt selX9_digitAt lk_RX11_351 dX11_act_209 rfl (by decide) sh_1 ⟨rfl, by decide⟩ rfl ⟨Nat.le_of_ble_eq_true rfl, Nat.le_of_ble_eq_true rfl⟩ (Nat.le_of_ble_eq_true rfl) ⟨Nat.zero_le _, Nat.zero_le _⟩ (fun r6 s6 h => ?_)
    refine r_iadd (pc := 212) dX11_act_212 ?_
    refine n_Vi0 (pc := 213) (S0 := []) (spX8_changeRef isSt_20 h) gmX8_changeRef selX8_changeRef lk_RX11_282 dX11_act_213 rfl (by decide) sh_20 ⟨rfl, by decide⟩ rfl ⟨Nat.le_of_ble_eq_true rfl, Nat.le_of_ble_eq_true rfl⟩ (Nat.le_of_ble_eq_true rfl) ⟨Nat.zero_le _, Nat.zero_le _⟩ (fun r7 s7 h => ?_)
    exact n_iret (pc := 216) dX11_act_216 rfl (Nat.le_refl _) (Nat.le_refl _) h
  by_cases c14_2 : r4 = 103
  · replace h := h.2.2.1 c14_2
    refine r_tableIn (pc := 42) (off := 88) (tgt := 130) dX11_act_42 (by rw [c14_2]; decide) (by rw [c14_2]; decide) (by rw [c14_2]; decide) (by decide) ?_
    refine r_aload_n (pc := 130) (x := 0) dX11_act_130 rfl ?_
    refine n_getR (pc := 131) (j := 4) (q := 20) dX11_act_131 fl_RX11_40 (by decide) sh_0 rfl rfl rfl ?_
    refine r_iload_n (pc := 134) (x := r1) dX11_act_134 rfl ?_
    refine n_Vi0 (pc := 135) (S0 := []) (spX8_removeOrder isSt_20 h) gmX8_removeOrder selX8_removeOrder lk_RX11_264 dX11_act_135 rfl (by decide) sh_20 ⟨rfl, by decide⟩ rfl ⟨Nat.le_of_ble_eq_true rfl, Nat.le_of_ble_eq_true rfl⟩ (Nat.le_of_ble_eq_true rfl) ⟨Nat.zero_le _, Nat.zero_le _⟩ (fun r8 s8 h => ?_)
    exact n_iret (pc := 138) dX11_act_138 rfl (Nat.le_refl _) (Nat.le_refl _) h
  by_cases c14_3 : r4 = 105
  · replace h := h.2.2.2.1 c14_3
    refine r_tableIn (pc := 42) (off := 108) (tgt := 150) dX11_act_42 (by rw [c14_3]; decide) (by rw [c14_3]; decide) (by rw [c14_3]; decide) (by decide) ?_
    refine r_aload_n (pc := 150) (x := 0) dX11_act_150 rfl ?_
    refine n_getR (pc := 151) (j := 4) (q := 20) dX11_act_151 fl_RX11_40 (by decide) sh_0 rfl rfl rfl ?_
    refine r_iload_n (pc := 154) (x := r1) dX11_act_154 rfl ?_
    refine r_iload_n (pc := 155) (x := r2) dX11_act_155 rfl ?_
    refine r_iconst (pc := 156) (v := 0) dX11_act_156 (by decide) ?_
    refine n_Vi0 (pc := 157) (S0 := []) (spX8_ruleOut isSt_20 h) gmX8_ruleOut selX8_ruleOut lk_RX11_247 dX11_act_157 rfl (by decide) sh_20 ⟨rfl, by decide⟩ rfl ⟨Nat.le_of_ble_eq_true rfl, Nat.le_of_ble_eq_true rfl⟩ (Nat.le_of_ble_eq_true rfl) ⟨Nat.zero_le _, Nat.zero_le _⟩ (fun r9 s9 h => ?_)
    exact n_iret (pc := 160) dX11_act_160 rfl (Nat.le_refl _) (Nat.le_refl _) h
  by_cases c14_4 : r4 = 110
  · replace h := h.2.2.2.2.1 c14_4
    refine r_tableIn (pc := 42) (off := 119) (tgt := 161) dX11_act_42 (by rw [c14_4]; decide) (by rw [c14_4]; decide) (by rw [c14_4]; decide) (by decide) ?_
    refine r_aload_n (pc := 161) (x := 0) dX11_act_161 rfl ?_
    refine n_getR (pc := 162) (j := 4) (q := 20) dX11_act_162 fl_RX11_40 (by decide) sh_0 rfl rfl rfl ?_
    refine r_aload_n (pc := 165) (x := 0) dX11_act_165 rfl ?_
    refine n_Va0 (pc := 166) (S0 := [.ref 20]) (spX11_solved h) gmX11_solved selX11_solved lk_RX11_176 dX11_act_166 rfl (by decide) sh_0 ⟨rfl, by decide⟩ rfl ⟨Nat.le_of_ble_eq_true rfl, Nat.le_of_ble_eq_true rfl⟩ (Nat.le_of_ble_eq_true rfl) ⟨Nat.zero_le _, Nat.zero_le _⟩ (fun s10 h => ?_)
    refine n_Vi0 (pc := 169) (S0 := []) (spX8_keepOnlyLeft isSt_20 isSo_38 h) gmX8_keepOnlyLeft selX8_keepOnlyLeft lk_RX11_285 dX11_act_169 rfl (by decide) sh_20 ⟨rfl, by decide⟩ rfl ⟨Nat.le_of_ble_eq_true rfl, Nat.le_of_ble_eq_true rfl⟩ (Nat.le_of_ble_eq_true rfl) ⟨Nat.zero_le _, Nat.zero_le _⟩ (fun r11 s11 h => ?_)
    exact n_iret (pc := 172) dX11_act_172 rfl (Nat.le_refl _) (Nat.le_refl _) h
  by_cases c14_5 : r4 = 111
  · replace h := h.2.2.2.2.2.1 c14_5
    refine r_tableIn (pc := 42) (off := 74) (tgt := 116) dX11_act_42 (by rw [c14_5]; decide) (by rw [c14_5]; decide) (by rw [c14_5]; decide) (by decide) ?_
    refine r_aload_n (pc := 116) (x := 0) dX11_act_116 rfl ?_
    refine n_getR (pc := 117) (j := 4) (q := 20) dX11_act_117 fl_RX11_40 (by decide) sh_0 rfl rfl rfl ?_
    refine r_iload_n (pc := 120) (x := r1) dX11_act_120 rfl ?_
    refine r_iload_n (pc := 121) (x := r2) dX11_act_121 rfl ?_
    refine r_iload (pc := 122) (x := r3) dX11_act_122 rfl ?_
    refine r_bipush (pc := 124) (v := 10) dX11_act_124 (by decide) ?_
    refine n_Vi0 (pc := 126) (S0 := []) (spX8_addOrder isSt_20 h) gmX8_addOrder selX8_addOrder lk_RX11_208 dX11_act_126 rfl (by decide) sh_20 ⟨rfl, by decide⟩ rfl ⟨Nat.le_of_ble_eq_true rfl, Nat.le_of_ble_eq_true rfl⟩ (Nat.le_of_ble_eq_true rfl) ⟨Nat.zero_le _, Nat.zero_le _⟩ (fun r12 s12 h => ?_)
    exact n_iret (pc := 129) dX11_act_129 rfl (Nat.le_refl _) (Nat.le_refl _) h
  by_cases c14_6 : r4 = 114
  · replace h := h.2.2.2.2.2.2.1 c14_6
    refine r_tableIn (pc := 42) (off := 97) (tgt := 139) dX11_act_42 (by rw [c14_6]; decide) (by rw [c14_6]; decide) (by rw [c14_6]; decide) (by decide) ?_
    refine r_aload_n (pc := 139) (x := 0) dX11_act_139 rfl ?_
    refine n_getR (pc := 140) (j := 4) (q := 20) dX11_act_140 fl_RX11_40 (by decide) sh_0 rfl rfl rfl ?_
    refine r_iload_n (pc := 143) (x := r1) dX11_act_143 rfl ?_
    refine r_iload_n (pc := 144) (x := r2) dX11_act_144 rfl ?_
    refine r_iconst (pc := 145) (v := 1) dX11_act_145 (by decide) ?_
    refine n_Vi0 (pc := 146) (S0 := []) (spX8_ruleOut isSt_20 h) gmX8_ruleOut selX8_ruleOut lk_RX11_247 dX11_act_146 rfl (by decide) sh_20 ⟨rfl, by decide⟩ rfl ⟨Nat.le_of_ble_eq_true rfl, Nat.le_of_ble_eq_true rfl⟩ (Nat.le_of_ble_eq_true rfl) ⟨Nat.zero_le _, Nat.zero_le _⟩ (fun r13 s13 h => ?_)
    exact n_iret (pc := 149) dX11_act_149 rfl (Nat.le_refl _) (Nat.le_refl _) h
  replace h := h.2.2.2.2.2.2.2 c14_0 c14_1 c14_2 c14_3 c14_4 c14_5 c14_6
  by_cases g14_0 : r4 = 101
  · refine r_tableIn (pc := 42) (off := 175) (tgt := 217) dX11_act_42 (by rw [g14_0]; decide) (by rw [g14_0]; decide) (by rw [g14_0]; decide) (by decide) ?_
    refine r_iconst (pc := 217) (v := (-1)) dX11_act_217 (by decide) ?_
    exact n_iret (pc := 218) dX11_act_218 rfl (Nat.le_refl _) (Nat.le_refl _) h
  by_cases g14_1 : r4 = 104
  · refine r_tableIn (pc := 42) (off := 175) (tgt := 217) dX11_act_42 (by rw [g14_1]; decide) (by rw [g14_1]; decide) (by rw [g14_1]; decide) (by decide) ?_
    refine r_iconst (pc := 217) (v := (-1)) dX11_act_217 (by decide) ?_
    exact n_iret (pc := 218) dX11_act_218 rfl (Nat.le_refl _) (Nat.le_refl _) h
  by_cases g14_2 : r4 = 106
  · refine r_tableIn (pc := 42) (off := 175) (tgt := 217) dX11_act_42 (by rw [g14_2]; decide) (by rw [g14_2]; decide) (by rw [g14_2]; decide) (by decide) ?_
    refine r_iconst (pc := 217) (v := (-1)) dX11_act_217 (by decide) ?_
    exact n_iret (pc := 218) dX11_act_218 rfl (Nat.le_refl _) (Nat.le_refl _) h
  by_cases g14_3 : r4 = 107
  · refine r_tableIn (pc := 42) (off := 175) (tgt := 217) dX11_act_42 (by rw [g14_3]; decide) (by rw [g14_3]; decide) (by rw [g14_3]; decide) (by decide) ?_
    refine r_iconst (pc := 217) (v := (-1)) dX11_act_217 (by decide) ?_
    exact n_iret (pc := 218) dX11_act_218 rfl (Nat.le_refl _) (Nat.le_refl _) h
  by_cases g14_4 : r4 = 108
  · refine r_tableIn (pc := 42) (off := 175) (tgt := 217) dX11_act_42 (by rw [g14_4]; decide) (by rw [g14_4]; decide) (by rw [g14_4]; decide) (by decide) ?_
    refine r_iconst (pc := 217) (v := (-1)) dX11_act_217 (by decide) ?_
    exact n_iret (pc := 218) dX11_act_218 rfl (Nat.le_refl _) (Nat.le_refl _) h
  by_cases g14_5 : r4 = 109
  · refine r_tableIn (pc := 42) (off := 175) (tgt := 217) dX11_act_42 (by rw [g14_5]; decide) (by rw [g14_5]; decide) (by rw [g14_5]; decide) (by decide) ?_
    refine r_iconst (pc := 217) (v := (-1)) dX11_act_217 (by decide) ?_
    exact n_iret (pc := 218) dX11_act_218 rfl (Nat.le_refl _) (Nat.le_refl _) h
  by_cases g14_6 : r4 = 112
  · refine r_tableIn (pc := 42) (off := 175) (tgt := 217) dX11_act_42 (by rw [g14_6]; decide) (by rw [g14_6]; decide) (by rw [g14_6]; decide) (by decide) ?_
    refine r_iconst (pc := 217) (v := (-1)) dX11_act_217 (by decide) ?_
    exact n_iret (pc := 218) dX11_act_218 rfl (Nat.le_refl _) (Nat.le_refl _) h
  by_cases g14_7 : r4 = 113
  · refine r_tableIn (pc := 42) (off := 175) (tgt := 217) dX11_act_42 (by rw [g14_7]; decide) (by rw [g14_7]; decide) (by rw [g14_7]; decide) (by decide) ?_
    refine r_iconst (pc := 217) (v := (-1)) dX11_act_217 (by decide) ?_
    exact n_iret (pc := 218) dX11_act_218 rfl (Nat.le_refl _) (Nat.le_refl _) h
  refine r_tableOut (pc := 42) (tgt := 217) dX11_act_42 (by have e0 := lv_neT c14_0 (show (100 : Int32).toInt = 100 by decide); have e1 := lv_neT c14_1 (show (102 : Int32).toInt = 102 by decide); have e2 := lv_neT c14_2 (show (103 : Int32).toInt = 103 by decide); have e3 := lv_neT c14_3 (show (105 : Int32).toInt = 105 by decide); have e4 := lv_neT c14_4 (show (110 : Int32).toInt = 110 by decide); have e5 := lv_neT c14_5 (show (111 : Int32).toInt = 111 by decide); have e6 := lv_neT c14_6 (show (114 : Int32).toInt = 114 by decide); have f0 := lv_neT g14_0 (show (101 : Int32).toInt = 101 by decide);  have f1 := lv_neT g14_1 (show (104 : Int32).toInt = 104 by decide);  have f2 := lv_neT g14_2 (show (106 : Int32).toInt = 106 by decide);  have f3 := lv_neT g14_3 (show (107 : Int32).toInt = 107 by decide);  have f4 := lv_neT g14_4 (show (108 : Int32).toInt = 108 by decide);  have f5 := lv_neT g14_5 (show (109 : Int32).toInt = 109 by decide);  have f6 := lv_neT g14_6 (show (112 : Int32).toInt = 112 by decide);  have f7 := lv_neT g14_7 (show (113 : Int32).toInt = 113 by decide); omega) (by decide) ?_
  refine r_iconst (pc := 217) (v := (-1)) dX11_act_217 (by decide) ?_
  exact n_iret (pc := 218) dX11_act_218 rfl (Nat.le_refl _) (Nat.le_refl _) h
def wX11_work_126  (Q : Int32 → gS → Prop)  (y2 : Int32) (y3 : Int32) (s : gS) : Prop := wpX6_clear s (fun s9 => wpX6_add y3 s9 (fun s10 => wpX11_solved s10 (fun s11 => wpX6_add (gi s11 38 8) s11 (fun s12 => Q y2 s12))))
set_option maxRecDepth 20000 in
theorem pX11_work_126 {l : Launch} {X : gX}   {Q : Int32 → gS → Prop}  (y2 : Int32) (y3 : Int32) (s : gS) (h : wX11_work_126  Q y2 y3 s)  : Gw l mX11_work (g_rm 15 0 0) X 126 [some (.ref 0), none, some (.int y2), some (.int y3), none, none] [] (nrm s) 0 0 (g_Z X (q_i Q) 0 0) := by
  refine r_aload_n (pc := 126) (x := 0) dX11_work_126 rfl ?_
  refine n_getR (pc := 127) (j := 3) (q := 18) dX11_work_127 fl_RX11_33 (by decide) sh_0 rfl rfl rfl ?_
  refine n_Vv0 (pc := 130) (S0 := []) (spX6_clear h) gmX6_clear selX6_clear lk_RX11_159 dX11_work_130 rfl (by decide) sh_18 ⟨rfl, by decide⟩ rfl ⟨Nat.le_of_ble_eq_true rfl, Nat.le_of_ble_eq_true rfl⟩ (Nat.le_of_ble_eq_true rfl) ⟨Nat.zero_le _, Nat.zero_le _⟩ (fun s9 h => ?_)
  refine r_aload_n (pc := 133) (x := 0) dX11_work_133 rfl ?_
  refine n_getR (pc := 134) (j := 3) (q := 18) dX11_work_134 fl_RX11_33 (by decide) sh_0 rfl rfl rfl ?_
  refine r_iload_n (pc := 137) (x := y3) dX11_work_137 rfl ?_
  refine n_Vv0 (pc := 138) (S0 := []) (spX6_add h) gmX6_add selX6_add lk_RX11_160 dX11_work_138 rfl (by decide) sh_18 ⟨rfl, by decide⟩ rfl ⟨Nat.le_of_ble_eq_true rfl, Nat.le_of_ble_eq_true rfl⟩ (Nat.le_of_ble_eq_true rfl) ⟨Nat.zero_le _, Nat.zero_le _⟩ (fun s10 h => ?_)
  refine r_aload_n (pc := 141) (x := 0) dX11_work_141 rfl ?_
  refine n_getR (pc := 142) (j := 3) (q := 18) dX11_work_142 fl_RX11_33 (by decide) sh_0 rfl rfl rfl ?_
  refine r_aload_n (pc := 145) (x := 0) dX11_work_145 rfl ?_
  refine n_Va0 (pc := 146) (S0 := [.ref 18]) (spX11_solved h) gmX11_solved selX11_solved lk_RX11_176 dX11_work_146 rfl (by decide) sh_0 ⟨rfl, by decide⟩ rfl ⟨Nat.le_of_ble_eq_true rfl, Nat.le_of_ble_eq_true rfl⟩ (Nat.le_of_ble_eq_true rfl) ⟨Nat.zero_le _, Nat.zero_le _⟩ (fun s11 h => ?_)
  refine n_getI (pc := 149) (j := 8) dX11_work_149 fl_RX11_215 (by decide) sh_38 rfl rfl ?_
  refine n_Vv0 (pc := 152) (S0 := []) (spX6_add h) gmX6_add selX6_add lk_RX11_160 dX11_work_152 rfl (by decide) sh_18 ⟨rfl, by decide⟩ rfl ⟨Nat.le_of_ble_eq_true rfl, Nat.le_of_ble_eq_true rfl⟩ (Nat.le_of_ble_eq_true rfl) ⟨Nat.zero_le _, Nat.zero_le _⟩ (fun s12 h => ?_)
  refine r_iload_n (pc := 155) (x := y2) dX11_work_155 rfl ?_
  exact n_iret (pc := 156) dX11_work_156 rfl (Nat.le_refl _) (Nat.le_refl _) h
def wX11_work_72  (Q : Int32 → gS → Prop) (k35 : Int32 → Int32 → Int32 → Int32 → gS → Prop) (y2 : Int32) (y4 : Int32) (y5 : Int32) (z0 : Int32) (s : gS) : Prop := wpX9_signAt y4 (wi s 0 13 0) (fun r4 s4 => wpX11_digitsOfAct r4 s4 (fun r5 s5 => k35 (y2 + (1 - z0)) z0 (y4 + (1 + r5)) (y5 + 1) s5))
set_option maxRecDepth 20000 in
theorem pX11_work_72 {l : Launch} {X : gX}   {Q : Int32 → gS → Prop} {k35 : Int32 → Int32 → Int32 → Int32 → gS → Prop} (y2 : Int32) (y4 : Int32) (y5 : Int32) (z0 : Int32) (s : gS) (h : wX11_work_72  Q k35 y2 y4 y5 z0 s) (hk35 : ∀ (y2 : Int32) (y3 : Int32) (y4 : Int32) (y5 : Int32) (s : gS), k35 y2 y3 y4 y5 s → Gw l mX11_work (g_rm 15 0 0) X 35 [some (.ref 0), none, some (.int y2), some (.int y3), some (.int y4), some (.int y5)] [] (nrm s) 0 0 (g_Z X (q_i Q) 0 0)) : Gw l mX11_work (g_rm 15 0 0) X 72 [some (.ref 0), none, some (.int y2), none, some (.int y4), some (.int y5)] [.int z0] (nrm s) 0 0 (g_Z X (q_i Q) 0 0) := by
  refine r_istore_n (pc := 72) (L' := [some (.ref 0), none, some (.int y2), some (.int z0), some (.int y4), some (.int y5)]) dX11_work_72 rfl (by decide) rfl ?_
  refine r_aload_n (pc := 73) (x := 0) dX11_work_73 rfl ?_
  refine r_iconst (pc := 74) (v := 0) dX11_work_74 (by decide) ?_
  refine n_putZ (pc := 75) (j := 13) dX11_work_75 fl_RX11_84 fw_11_13 (by decide) sh_0 rfl rfl (by decide) ?_
  refine r_iload_n (pc := 78) (x := y2) dX11_work_78 rfl ?_
  refine r_iconst (pc := 79) (v := 1) dX11_work_79 (by decide) ?_
  refine r_iload_n (pc := 80) (x := z0) dX11_work_80 rfl ?_
  refine r_isub (pc := 81) dX11_work_81 ?_
  refine r_iadd (pc := 82) dX11_work_82 ?_
  refine r_istore_n (pc := 83) (L' := [some (.ref 0), none, some (.int (y2 + (1 - z0))), some (.int z0), some (.int y4), some (.int y5)]) dX11_work_83 rfl (by decide) rfl ?_
  refine r_iload (pc := 84) (x := y4) dX11_work_84 rfl ?_
  refine r_iconst (pc := 86) (v := 1) dX11_work_86 (by decide) ?_
  refine r_aload_n (pc := 87) (x := 0) dX11_work_87 rfl ?_
  refine n_getR (pc := 88) (j := 0) (q := 1) dX11_work_88 fl_RX11_10 (by decide) sh_0 rfl rfl rfl ?_
  refine r_iload (pc := 91) (x := y4) dX11_work_91 rfl ?_
  refine n_Vi0 (pc := 93) (S0 := [.int 1, .int y4]) (spX9_signAt h) gmX9_signAt selX9_signAt lk_RX11_301 dX11_work_93 rfl (by decide) sh_1 ⟨rfl, by decide⟩ rfl ⟨Nat.le_of_ble_eq_true rfl, Nat.le_of_ble_eq_true rfl⟩ (Nat.le_of_ble_eq_true rfl) ⟨Nat.zero_le _, Nat.zero_le _⟩ (fun r4 s4 h => ?_)
  refine n_Si0 (pc := 96) (S0 := [.int 1, .int y4]) (spX11_digitsOfAct h) gmX11_digitsOfAct lk_RX11_304 dX11_work_96 rfl rfl ⟨Nat.le_of_ble_eq_true rfl, Nat.le_of_ble_eq_true rfl⟩ (Nat.le_of_ble_eq_true rfl) ⟨Nat.zero_le _, Nat.zero_le _⟩ (fun r5 s5 h => ?_)
  refine r_iadd (pc := 99) dX11_work_99 ?_
  refine r_iadd (pc := 100) dX11_work_100 ?_
  refine r_istore (pc := 101) (L' := [some (.ref 0), none, some (.int (y2 + (1 - z0))), some (.int z0), some (.int (y4 + (1 + r5))), some (.int y5)]) dX11_work_101 rfl (by decide) rfl ?_
  refine n_iinc (pc := 103) (x := y5) (w := 1) (L' := [some (.ref 0), none, some (.int (y2 + (1 - z0))), some (.int z0), some (.int (y4 + (1 + r5))), some (.int (y5 + 1))]) dX11_work_103 rfl (by decide) rfl (by decide) rfl ?_
  refine r_goto (pc := 106) (tgt := 35) dX11_work_106 (by decide) ?_
  refine n_L (L' := [some (.ref 0), none, some (.int (y2 + (1 - z0))), some (.int z0), some (.int (y4 + (1 + r5))), some (.int (y5 + 1))]) (le_s (le_n (le_s (le_s (le_s (le_s (le_e))))))) ?_
  exact hk35 _ _ _ _ _ h
def wX11_work_109  (Q : Int32 → gS → Prop)  (y2 : Int32) (y3 : Int32) (s : gS) : Prop := wpX9_clear s (fun s7 => (y2 ≤ 0 → wX11_work_126  Q y2 y3 s7) ∧ (¬ (y2 ≤ 0) → wpX11_recorded y2 s7 (fun r8 s8 => wX11_work_126  Q y2 y3 s8)))
set_option maxRecDepth 20000 in
theorem pX11_work_109 {l : Launch} {X : gX}   {Q : Int32 → gS → Prop}  (y2 : Int32) (y3 : Int32) (s : gS) (h : wX11_work_109  Q y2 y3 s)  : Gw l mX11_work (g_rm 15 0 0) X 109 [some (.ref 0), none, some (.int y2), some (.int y3), none, none] [] (nrm s) 0 0 (g_Z X (q_i Q) 0 0) := by
  refine r_aload_n (pc := 109) (x := 0) dX11_work_109 rfl ?_
  refine n_getR (pc := 110) (j := 0) (q := 1) dX11_work_110 fl_RX11_10 (by decide) sh_0 rfl rfl rfl ?_
  refine n_Vv0 (pc := 113) (S0 := []) (spX9_clear h) gmX9_clear selX9_clear lk_RX11_100 dX11_work_113 rfl (by decide) sh_1 ⟨rfl, by decide⟩ rfl ⟨Nat.le_of_ble_eq_true rfl, Nat.le_of_ble_eq_true rfl⟩ (Nat.le_of_ble_eq_true rfl) ⟨Nat.zero_le _, Nat.zero_le _⟩ (fun s7 h => ?_)
  refine r_iload_n (pc := 116) (x := y2) dX11_work_116 rfl ?_
  refine r_if_le (pc := 117) (tgt := 126) dX11_work_117 (by decide) (fun c => ?_) (fun c => ?_)
  · replace h := h.1 c
    refine n_L (L' := [some (.ref 0), none, some (.int y2), some (.int y3), none, none]) (le_s (le_n (le_s (le_s (le_n (le_n (le_e))))))) ?_
    exact pX11_work_126  _ _ _ h 
  · replace h := h.2 c
    refine r_aload_n (pc := 120) (x := 0) dX11_work_120 rfl ?_
    refine r_iload_n (pc := 121) (x := y2) dX11_work_121 rfl ?_
    refine n_Vi0 (pc := 122) (S0 := []) (spX11_recorded h) gmX11_recorded selX11_recorded lk_RX11_142 dX11_work_122 rfl (by decide) sh_0 ⟨rfl, by decide⟩ rfl ⟨Nat.le_of_ble_eq_true rfl, Nat.le_of_ble_eq_true rfl⟩ (Nat.le_of_ble_eq_true rfl) ⟨Nat.zero_le _, Nat.zero_le _⟩ (fun r8 s8 h => ?_)
    refine r_pop (pc := 125) dX11_work_125 rfl ?_
    refine n_L (L' := [some (.ref 0), none, some (.int y2), some (.int y3), none, none]) (le_s (le_n (le_s (le_s (le_n (le_n (le_e))))))) ?_
    exact pX11_work_126  _ _ _ h 
def wX11_work_35  (Q : Int32 → gS → Prop)  : Nat → Int32 → Int32 → Int32 → Int32 → gS → Prop
  | 0, _, _, _, _, _ => False
  | n + 1, y2, y3, y4, y5, s => (80 ≤ y5 → wX11_work_109  Q y2 y3 s) ∧ (¬ (80 ≤ y5) → ((gi s 1 1) ≤ y4 → wX11_work_109  Q y2 y3 s) ∧ (¬ ((gi s 1 1) ≤ y4) → (¬ y3 = 0 → wX11_work_109  Q y2 y3 s) ∧ (y3 = 0 → wpX11_act y4 s (fun r6 s6 => (0 ≤ r6 → wX11_work_72  Q (fun y2 y3 y4 y5 s => wX11_work_35  Q n y2 y3 y4 y5 s) y2 y4 y5 0 s6) ∧ (¬ (0 ≤ r6) → wX11_work_72  Q (fun y2 y3 y4 y5 s => wX11_work_35  Q n y2 y3 y4 y5 s) y2 y4 y5 1 s6)))))
set_option maxRecDepth 20000 in
theorem pX11_work_35 {l : Launch} {X : gX}   {Q : Int32 → gS → Prop}  : ∀ (n : Nat) (y2 : Int32) (y3 : Int32) (y4 : Int32) (y5 : Int32) (s : gS) (h : wX11_work_35  Q n y2 y3 y4 y5 s) , Gw l mX11_work (g_rm 15 0 0) X 35 [some (.ref 0), none, some (.int y2), some (.int y3), some (.int y4), some (.int y5)] [] (nrm s) 0 0 (g_Z X (q_i Q) 0 0) := by
  intro n
  induction n with
  | zero => intro y2 y3 y4 y5 s h; exact h.elim
  | succ n ih0 =>
    intro y2 y3 y4 y5 s h 
    have ih : ∀ (y2 : Int32) (y3 : Int32) (y4 : Int32) (y5 : Int32) (s : gS), wX11_work_35  Q n y2 y3 y4 y5 s → Gw l mX11_work (g_rm 15 0 0) X 35 [some (.ref 0), none, some (.int y2), some (.int y3), some (.int y4), some (.int y5)] [] (nrm s) 0 0 (g_Z X (q_i Q) 0 0) := fun y2 y3 y4 y5 s h => ih0 y2 y3 y4 y5 s h 
    refine r_iload (pc := 35) (x := y5) dX11_work_35 rfl ?_
    refine r_bipush (pc := 37) (v := 80) dX11_work_37 (by decide) ?_
    refine r_icmp_ge (pc := 39) (tgt := 109) dX11_work_39 (by decide) (fun c => ?_) (fun c => ?_)
    · replace h := h.1 c
      refine n_L (L' := [some (.ref 0), none, some (.int y2), some (.int y3), none, none]) (le_s (le_n (le_s (le_s (le_n (le_n (le_e))))))) ?_
      exact pX11_work_109  _ _ _ h 
    · replace h := h.2 c
      refine r_iload (pc := 42) (x := y4) dX11_work_42 rfl ?_
      refine r_aload_n (pc := 44) (x := 0) dX11_work_44 rfl ?_
      refine n_getR (pc := 45) (j := 0) (q := 1) dX11_work_45 fl_RX11_10 (by decide) sh_0 rfl rfl rfl ?_
      refine n_getI (pc := 48) (j := 1) dX11_work_48 fl_RX11_295 (by decide) sh_1 rfl rfl ?_
      refine r_icmp_ge (pc := 51) (tgt := 109) dX11_work_51 (by decide) (fun c => ?_) (fun c => ?_)
      · replace h := h.1 c
        refine n_L (L' := [some (.ref 0), none, some (.int y2), some (.int y3), none, none]) (le_s (le_n (le_s (le_s (le_n (le_n (le_e))))))) ?_
        exact pX11_work_109  _ _ _ h 
      · replace h := h.2 c
        refine r_iload_n (pc := 54) (x := y3) dX11_work_54 rfl ?_
        refine r_if_ne (pc := 55) (tgt := 109) dX11_work_55 (by decide) (fun c => ?_) (fun c => ?_)
        · replace h := h.1 c
          refine n_L (L' := [some (.ref 0), none, some (.int y2), some (.int y3), none, none]) (le_s (le_n (le_s (le_s (le_n (le_n (le_e))))))) ?_
          exact pX11_work_109  _ _ _ h 
        · replace h := h.2 c
          refine r_aload_n (pc := 58) (x := 0) dX11_work_58 rfl ?_
          refine r_iload (pc := 59) (x := y4) dX11_work_59 rfl ?_
          refine n_Vi0 (pc := 61) (S0 := []) (spX11_act h) gmX11_act selX11_act lk_RX11_298 dX11_work_61 rfl (by decide) sh_0 ⟨rfl, by decide⟩ rfl ⟨Nat.le_of_ble_eq_true rfl, Nat.le_of_ble_eq_true rfl⟩ (Nat.le_of_ble_eq_true rfl) ⟨Nat.zero_le _, Nat.zero_le _⟩ (fun r6 s6 h => ?_)
          refine r_if_ge (pc := 64) (tgt := 71) dX11_work_64 (by decide) (fun c => ?_) (fun c => ?_)
          · replace h := h.1 c
            refine r_iconst (pc := 71) (v := 0) dX11_work_71 (by decide) ?_
            refine n_L (L' := [some (.ref 0), none, some (.int y2), none, some (.int y4), some (.int y5)]) (le_s (le_n (le_s (le_n (le_s (le_s (le_e))))))) ?_
            exact pX11_work_72  _ _ _ _ _ h ih
          · replace h := h.2 c
            refine r_iconst (pc := 67) (v := 1) dX11_work_67 (by decide) ?_
            refine r_goto (pc := 68) (tgt := 72) dX11_work_68 (by decide) ?_
            refine n_L (L' := [some (.ref 0), none, some (.int y2), none, some (.int y4), some (.int y5)]) (le_s (le_n (le_s (le_n (le_s (le_s (le_e))))))) ?_
            exact pX11_work_72  _ _ _ _ _ h ih
def wpX11_work  (s : gS) (Q : Int32 → gS → Prop) : Prop := wpX11_faultOfWork s (fun r1 s1 => (r1 = (-1) → wpX11_saveBefore s1 (fun s2 => ∃ n35, wX11_work_35  Q n35 0 0 0 0 s2)) ∧ (¬ (r1 = (-1)) → wpX9_clear s1 (fun s3 => Q ((-1) - r1) s3)))
set_option maxRecDepth 20000 in
theorem spX11_work {l : Launch}   {s : gS} {Q : Int32 → gS → Prop} (h : wpX11_work  s Q) : Ct l mX11_work 15 0 0 [.ref 0] (nrm s) (q_i Q) := by
  refine Ct.of (by decide) (Nat.le_of_ble_eq_true rfl) (fun X => ?_)
  refine n_L (L' := [some (.ref 0), none, none, none, none, none]) (le_s (le_p (le_p (le_p (le_p (le_p (le_e))))))) ?_
  refine r_aload_n (pc := 0) (x := 0) dX11_work_0 rfl ?_
  refine n_Vi0 (pc := 1) (S0 := []) (spX11_faultOfWork h) gmX11_faultOfWork selX11_faultOfWork lk_RX11_292 dX11_work_1 rfl (by decide) sh_0 ⟨rfl, by decide⟩ rfl ⟨Nat.le_of_ble_eq_true rfl, Nat.le_of_ble_eq_true rfl⟩ (Nat.le_of_ble_eq_true rfl) ⟨Nat.zero_le _, Nat.zero_le _⟩ (fun r1 s1 h => ?_)
  refine r_istore_n (pc := 4) (L' := [some (.ref 0), some (.int r1), none, none, none, none]) dX11_work_4 rfl (by decide) rfl ?_
  refine r_iload_n (pc := 5) (x := r1) dX11_work_5 rfl ?_
  refine r_iconst (pc := 6) (v := (-1)) dX11_work_6 (by decide) ?_
  refine r_icmp_eq (pc := 7) (tgt := 21) dX11_work_7 (by decide) (fun c => ?_) (fun c => ?_)
  · replace h := h.1 c
    refine r_aload_n (pc := 21) (x := 0) dX11_work_21 rfl ?_
    refine n_Vv0 (pc := 22) (S0 := []) (spX11_saveBefore h) gmX11_saveBefore selX11_saveBefore lk_RX11_131 dX11_work_22 rfl (by decide) sh_0 ⟨rfl, by decide⟩ rfl ⟨Nat.le_of_ble_eq_true rfl, Nat.le_of_ble_eq_true rfl⟩ (Nat.le_of_ble_eq_true rfl) ⟨Nat.zero_le _, Nat.zero_le _⟩ (fun s2 h => ?_)
    refine r_iconst (pc := 25) (v := 0) dX11_work_25 (by decide) ?_
    refine r_istore_n (pc := 26) (L' := [some (.ref 0), some (.int r1), some (.int 0), none, none, none]) dX11_work_26 rfl (by decide) rfl ?_
    refine r_iconst (pc := 27) (v := 0) dX11_work_27 (by decide) ?_
    refine r_istore_n (pc := 28) (L' := [some (.ref 0), some (.int r1), some (.int 0), some (.int 0), none, none]) dX11_work_28 rfl (by decide) rfl ?_
    refine r_iconst (pc := 29) (v := 0) dX11_work_29 (by decide) ?_
    refine r_istore (pc := 30) (L' := [some (.ref 0), some (.int r1), some (.int 0), some (.int 0), some (.int 0), none]) dX11_work_30 rfl (by decide) rfl ?_
    refine r_iconst (pc := 32) (v := 0) dX11_work_32 (by decide) ?_
    refine r_istore (pc := 33) (L' := [some (.ref 0), some (.int r1), some (.int 0), some (.int 0), some (.int 0), some (.int 0)]) dX11_work_33 rfl (by decide) rfl ?_
    refine n_L (L' := [some (.ref 0), none, some (.int 0), some (.int 0), some (.int 0), some (.int 0)]) (le_s (le_n (le_s (le_s (le_s (le_s (le_e))))))) ?_
    obtain ⟨n, h⟩ := h
    exact pX11_work_35  n _ _ _ _ _ h 
  · replace h := h.2 c
    refine r_aload_n (pc := 10) (x := 0) dX11_work_10 rfl ?_
    refine n_getR (pc := 11) (j := 0) (q := 1) dX11_work_11 fl_RX11_10 (by decide) sh_0 rfl rfl rfl ?_
    refine n_Vv0 (pc := 14) (S0 := []) (spX9_clear h) gmX9_clear selX9_clear lk_RX11_100 dX11_work_14 rfl (by decide) sh_1 ⟨rfl, by decide⟩ rfl ⟨Nat.le_of_ble_eq_true rfl, Nat.le_of_ble_eq_true rfl⟩ (Nat.le_of_ble_eq_true rfl) ⟨Nat.zero_le _, Nat.zero_le _⟩ (fun s3 h => ?_)
    refine r_iconst (pc := 17) (v := (-1)) dX11_work_17 (by decide) ?_
    refine r_iload_n (pc := 18) (x := r1) dX11_work_18 rfl ?_
    refine r_isub (pc := 19) dX11_work_19 ?_
    exact n_iret (pc := 20) dX11_work_20 rfl (Nat.le_refl _) (Nat.le_refl _) h
def wpX11_undo  (s : gS) (Q : Int32 → gS → Prop) : Prop := (¬ (gi s 25 2) = 0 → wpX3_pop 21 s (fun s1 => Q (gi (wi s1 0 13 0) 25 2) (wi s1 0 13 0))) ∧ ((gi s 25 2) = 0 → Q (-1) s)
set_option maxRecDepth 20000 in
theorem spX11_undo {l : Launch}   {s : gS} {Q : Int32 → gS → Prop} (h : wpX11_undo  s Q) : Ct l mX11_undo 3 0 0 [.ref 0] (nrm s) (q_i Q) := by
  refine Ct.of (by decide) (Nat.le_of_ble_eq_true rfl) (fun X => ?_)
  refine n_L (L' := [some (.ref 0)]) (le_s (le_e)) ?_
  refine r_aload_n (pc := 0) (x := 0) dX11_undo_0 rfl ?_
  refine n_getR (pc := 1) (j := 7) (q := 25) dX11_undo_1 fl_RX11_54 (by decide) sh_0 rfl rfl rfl ?_
  refine n_getI (pc := 4) (j := 2) dX11_undo_4 fl_RX11_307 (by decide) sh_25 rfl rfl ?_
  refine r_if_ne (pc := 7) (tgt := 12) dX11_undo_7 (by decide) (fun c => ?_) (fun c => ?_)
  · replace h := h.1 c
    refine r_aload_n (pc := 12) (x := 0) dX11_undo_12 rfl ?_
    refine n_getR (pc := 13) (j := 7) (q := 25) dX11_undo_13 fl_RX11_54 (by decide) sh_0 rfl rfl rfl ?_
    refine r_aload_n (pc := 16) (x := 0) dX11_undo_16 rfl ?_
    refine n_getR (pc := 17) (j := 4) (q := 20) dX11_undo_17 fl_RX11_40 (by decide) sh_0 rfl rfl rfl ?_
    refine n_getR (pc := 20) (j := 0) (q := 21) dX11_undo_20 fl_RX11_234 (by decide) sh_20 rfl rfl rfl ?_
    refine n_Vv0 (pc := 23) (S0 := []) (spX3_pop (by unfold isA170; decide) h) gmX3_pop selX3_pop lk_RX11_309 dX11_undo_23 rfl (by decide) sh_25 ⟨rfl, by decide⟩ rfl ⟨Nat.le_of_ble_eq_true rfl, Nat.le_of_ble_eq_true rfl⟩ (Nat.le_of_ble_eq_true rfl) ⟨Nat.zero_le _, Nat.zero_le _⟩ (fun s1 h => ?_)
    refine r_aload_n (pc := 26) (x := 0) dX11_undo_26 rfl ?_
    refine r_iconst (pc := 27) (v := 0) dX11_undo_27 (by decide) ?_
    refine n_putZ (pc := 28) (j := 13) dX11_undo_28 fl_RX11_84 fw_11_13 (by decide) sh_0 rfl rfl (by decide) ?_
    refine r_aload_n (pc := 31) (x := 0) dX11_undo_31 rfl ?_
    refine n_getR (pc := 32) (j := 7) (q := 25) dX11_undo_32 fl_RX11_54 (by decide) sh_0 rfl rfl rfl ?_
    refine n_getI (pc := 35) (j := 2) dX11_undo_35 fl_RX11_307 (by decide) sh_25 rfl rfl ?_
    exact n_iret (pc := 38) dX11_undo_38 rfl (Nat.le_refl _) (Nat.le_refl _) h
  · replace h := h.2 c
    refine r_iconst (pc := 10) (v := (-1)) dX11_undo_10 (by decide) ?_
    exact n_iret (pc := 11) dX11_undo_11 rfl (Nat.le_refl _) (Nat.le_refl _) h
def wpX11_nextDrawn (x0 : Int32) (s : gS) (Q : Int32 → gS → Prop) : Prop := Q ((x0 * 1103515245) + 12345) s
set_option maxRecDepth 20000 in
theorem spX11_nextDrawn {l : Launch} {x0 : Int32}  {s : gS} {Q : Int32 → gS → Prop} (h : wpX11_nextDrawn x0 s Q) : Ct l mX11_nextDrawn 1 0 0 [.int x0] (nrm s) (q_i Q) := by
  refine Ct.of (by decide) (Nat.le_of_ble_eq_true rfl) (fun X => ?_)
  refine n_L (L' := [some (.int x0)]) (le_s (le_e)) ?_
  refine r_iload_n (pc := 0) (x := x0) dX11_nextDrawn_0 rfl ?_
  refine n_ldc_wi (pc := 1) (v := 1103515245) dX11_nextDrawn_1 kc_RX11_354 ?_
  refine r_imul (pc := 4) dX11_nextDrawn_4 ?_
  refine r_sipush (pc := 5) (v := 12345) dX11_nextDrawn_5 (by decide) ?_
  refine r_iadd (pc := 8) dX11_nextDrawn_8 ?_
  exact n_iret (pc := 9) dX11_nextDrawn_9 rfl (Nat.le_refl _) (Nat.le_refl _) h
def wpX11_drawOf (x0 : Int32) (x1 : Int32) (s : gS) (Q : Int32 → gS → Prop) : Prop := (1 ≤ x1 → ¬ x1 = 0 ∧ (Q (jrem (jushr x0 16) x1) s)) ∧ (¬ (1 ≤ x1) → Q 0 s)
set_option maxRecDepth 20000 in
theorem spX11_drawOf {l : Launch} {x0 : Int32} {x1 : Int32}  {s : gS} {Q : Int32 → gS → Prop} (h : wpX11_drawOf x0 x1 s Q) : Ct l mX11_drawOf 1 0 0 [.int x0, .int x1] (nrm s) (q_i Q) := by
  refine Ct.of (by decide) (Nat.le_of_ble_eq_true rfl) (fun X => ?_)
  refine n_L (L' := [some (.int x0), some (.int x1)]) (le_s (le_s (le_e))) ?_
  refine r_iload_n (pc := 0) (x := x1) dX11_drawOf_0 rfl ?_
  refine r_iconst (pc := 1) (v := 1) dX11_drawOf_1 (by decide) ?_
  refine r_icmp_ge (pc := 2) (tgt := 9) dX11_drawOf_2 (by decide) (fun c => ?_) (fun c => ?_)
  · replace h := h.1 c
    refine r_iload_n (pc := 9) (x := x0) dX11_drawOf_9 rfl ?_
    refine r_bipush (pc := 10) (v := 16) dX11_drawOf_10 (by decide) ?_
    refine n_iushr (pc := 12) dX11_drawOf_12 ?_
    refine r_iload_n (pc := 13) (x := x1) dX11_drawOf_13 rfl ?_
    obtain ⟨b1, h⟩ := h
    refine n_irem (pc := 14) dX11_drawOf_14 b1 ?_
    exact n_iret (pc := 15) dX11_drawOf_15 rfl (Nat.le_refl _) (Nat.le_refl _) h
  · replace h := h.2 c
    refine r_iconst (pc := 5) (v := 0) dX11_drawOf_5 (by decide) ?_
    refine r_goto (pc := 6) (tgt := 15) dX11_drawOf_6 (by decide) ?_
    exact n_iret (pc := 15) dX11_drawOf_15 rfl (Nat.le_refl _) (Nat.le_refl _) h
def wX11_years_32 (x1 : Int32) (x2 : Int32) (Q : Int32 → gS → Prop)  : Nat → Int32 → Int32 → gS → Prop
  | 0, _, _, _ => False
  | n + 1, y3, y4, s => (x2 ≤ y4 → wpX7_solve 88 22 s (fun s2 => wpX6_clear s2 (fun s3 => wpX8_orders 22 s3 (fun r4 s4 => wpX6_add r4 s4 (fun s5 => wpX7_leftOfAll 88 s5 (fun r6 s6 => wpX6_add r6 s6 (fun s7 => Q (gi s7 88 8) s7))))))) ∧ (¬ (x2 ≤ y4) → wpX11_nextDrawn y3 s (fun r8 s8 => wpX11_drawOf r8 5 s8 (fun r9 s9 => wpX11_nextDrawn r8 s9 (fun r10 s10 => wpX11_drawOf r10 6 s10 (fun r11 s11 => wpX11_nextDrawn r10 s11 (fun r12 s12 => wpX11_drawOf r12 6 s12 (fun r13 s13 => wpX8_addOrder 22 r9 r11 r13 10 s13 (fun r14 s14 => wX11_years_32 x1 x2 Q n r12 (y4 + 1) s14))))))))
set_option maxRecDepth 20000 in
theorem pX11_years_32 {l : Launch} {X : gX} {x1 : Int32} {x2 : Int32}  {Q : Int32 → gS → Prop}  : ∀ (n : Nat) (y3 : Int32) (y4 : Int32) (s : gS) (h : wX11_years_32 x1 x2 Q n y3 y4 s) , Gw l mX11_years (g_rm 13 0 0) X 32 [some (.ref 0), none, some (.int x2), some (.int y3), some (.int y4), none, none, none] [] (nrm s) 0 0 (g_Z X (q_i Q) 0 0) := by
  intro n
  induction n with
  | zero => intro y3 y4 s h; exact h.elim
  | succ n ih0 =>
    intro y3 y4 s h 
    have ih : ∀ (y3 : Int32) (y4 : Int32) (s : gS), wX11_years_32 x1 x2 Q n y3 y4 s → Gw l mX11_years (g_rm 13 0 0) X 32 [some (.ref 0), none, some (.int x2), some (.int y3), some (.int y4), none, none, none] [] (nrm s) 0 0 (g_Z X (q_i Q) 0 0) := fun y3 y4 s h => ih0 y3 y4 s h 
    refine r_iload (pc := 32) (x := y4) dX11_years_32 rfl ?_
    refine r_iload_n (pc := 34) (x := x2) dX11_years_34 rfl ?_
    refine r_icmp_ge (pc := 35) (tgt := 98) dX11_years_35 (by decide) (fun c => ?_) (fun c => ?_)
    · replace h := h.1 c
      refine r_aload_n (pc := 98) (x := 0) dX11_years_98 rfl ?_
      refine n_getR (pc := 99) (j := 11) (q := 88) dX11_years_99 fl_RX11_74 (by decide) sh_0 rfl rfl rfl ?_
      refine r_aload_n (pc := 102) (x := 0) dX11_years_102 rfl ?_
      refine n_getR (pc := 103) (j := 5) (q := 22) dX11_years_103 fl_RX11_44 (by decide) sh_0 rfl rfl rfl ?_
      refine n_Vv0 (pc := 106) (S0 := []) (spX7_solve isSo_88 isSt_22 h) gmX7_solve selX7_solve lk_RX11_251 dX11_years_106 rfl (by decide) sh_88 ⟨rfl, by decide⟩ rfl ⟨Nat.le_of_ble_eq_true rfl, Nat.le_of_ble_eq_true rfl⟩ (Nat.le_of_ble_eq_true rfl) ⟨Nat.zero_le _, Nat.zero_le _⟩ (fun s2 h => ?_)
      refine r_aload_n (pc := 109) (x := 0) dX11_years_109 rfl ?_
      refine n_getR (pc := 110) (j := 3) (q := 18) dX11_years_110 fl_RX11_33 (by decide) sh_0 rfl rfl rfl ?_
      refine n_Vv0 (pc := 113) (S0 := []) (spX6_clear h) gmX6_clear selX6_clear lk_RX11_159 dX11_years_113 rfl (by decide) sh_18 ⟨rfl, by decide⟩ rfl ⟨Nat.le_of_ble_eq_true rfl, Nat.le_of_ble_eq_true rfl⟩ (Nat.le_of_ble_eq_true rfl) ⟨Nat.zero_le _, Nat.zero_le _⟩ (fun s3 h => ?_)
      refine r_aload_n (pc := 116) (x := 0) dX11_years_116 rfl ?_
      refine n_getR (pc := 117) (j := 3) (q := 18) dX11_years_117 fl_RX11_33 (by decide) sh_0 rfl rfl rfl ?_
      refine r_aload_n (pc := 120) (x := 0) dX11_years_120 rfl ?_
      refine n_getR (pc := 121) (j := 5) (q := 22) dX11_years_121 fl_RX11_44 (by decide) sh_0 rfl rfl rfl ?_
      refine n_Vi0 (pc := 124) (S0 := [.ref 18]) (spX8_orders isSt_22 h) gmX8_orders selX8_orders lk_RX11_318 dX11_years_124 rfl (by decide) sh_22 ⟨rfl, by decide⟩ rfl ⟨Nat.le_of_ble_eq_true rfl, Nat.le_of_ble_eq_true rfl⟩ (Nat.le_of_ble_eq_true rfl) ⟨Nat.zero_le _, Nat.zero_le _⟩ (fun r4 s4 h => ?_)
      refine n_Vv0 (pc := 127) (S0 := []) (spX6_add h) gmX6_add selX6_add lk_RX11_160 dX11_years_127 rfl (by decide) sh_18 ⟨rfl, by decide⟩ rfl ⟨Nat.le_of_ble_eq_true rfl, Nat.le_of_ble_eq_true rfl⟩ (Nat.le_of_ble_eq_true rfl) ⟨Nat.zero_le _, Nat.zero_le _⟩ (fun s5 h => ?_)
      refine r_aload_n (pc := 130) (x := 0) dX11_years_130 rfl ?_
      refine n_getR (pc := 131) (j := 3) (q := 18) dX11_years_131 fl_RX11_33 (by decide) sh_0 rfl rfl rfl ?_
      refine r_aload_n (pc := 134) (x := 0) dX11_years_134 rfl ?_
      refine n_getR (pc := 135) (j := 11) (q := 88) dX11_years_135 fl_RX11_74 (by decide) sh_0 rfl rfl rfl ?_
      refine n_Vi0 (pc := 138) (S0 := [.ref 18]) (spX7_leftOfAll isSo_88 h) gmX7_leftOfAll selX7_leftOfAll lk_RX11_267 dX11_years_138 rfl (by decide) sh_88 ⟨rfl, by decide⟩ rfl ⟨Nat.le_of_ble_eq_true rfl, Nat.le_of_ble_eq_true rfl⟩ (Nat.le_of_ble_eq_true rfl) ⟨Nat.zero_le _, Nat.zero_le _⟩ (fun r6 s6 h => ?_)
      refine n_Vv0 (pc := 141) (S0 := []) (spX6_add h) gmX6_add selX6_add lk_RX11_160 dX11_years_141 rfl (by decide) sh_18 ⟨rfl, by decide⟩ rfl ⟨Nat.le_of_ble_eq_true rfl, Nat.le_of_ble_eq_true rfl⟩ (Nat.le_of_ble_eq_true rfl) ⟨Nat.zero_le _, Nat.zero_le _⟩ (fun s7 h => ?_)
      refine r_aload_n (pc := 144) (x := 0) dX11_years_144 rfl ?_
      refine n_getR (pc := 145) (j := 11) (q := 88) dX11_years_145 fl_RX11_74 (by decide) sh_0 rfl rfl rfl ?_
      refine n_getI (pc := 148) (j := 8) dX11_years_148 fl_RX11_215 (by decide) sh_88 rfl rfl ?_
      exact n_iret (pc := 151) dX11_years_151 rfl (Nat.le_refl _) (Nat.le_refl _) h
    · replace h := h.2 c
      refine r_iload_n (pc := 38) (x := y3) dX11_years_38 rfl ?_
      refine n_Si0 (pc := 39) (S0 := []) (spX11_nextDrawn h) gmX11_nextDrawn lk_RX11_312 dX11_years_39 rfl rfl ⟨Nat.le_of_ble_eq_true rfl, Nat.le_of_ble_eq_true rfl⟩ (Nat.le_of_ble_eq_true rfl) ⟨Nat.zero_le _, Nat.zero_le _⟩ (fun r8 s8 h => ?_)
      refine r_istore_n (pc := 42) (L' := [some (.ref 0), none, some (.int x2), some (.int r8), some (.int y4), none, none, none]) dX11_years_42 rfl (by decide) rfl ?_
      refine r_iload_n (pc := 43) (x := r8) dX11_years_43 rfl ?_
      refine r_iconst (pc := 44) (v := 5) dX11_years_44 (by decide) ?_
      refine n_Si0 (pc := 45) (S0 := []) (spX11_drawOf h) gmX11_drawOf lk_RX11_315 dX11_years_45 rfl rfl ⟨Nat.le_of_ble_eq_true rfl, Nat.le_of_ble_eq_true rfl⟩ (Nat.le_of_ble_eq_true rfl) ⟨Nat.zero_le _, Nat.zero_le _⟩ (fun r9 s9 h => ?_)
      refine r_istore (pc := 48) (L' := [some (.ref 0), none, some (.int x2), some (.int r8), some (.int y4), some (.int r9), none, none]) dX11_years_48 rfl (by decide) rfl ?_
      refine r_iload_n (pc := 50) (x := r8) dX11_years_50 rfl ?_
      refine n_Si0 (pc := 51) (S0 := []) (spX11_nextDrawn h) gmX11_nextDrawn lk_RX11_312 dX11_years_51 rfl rfl ⟨Nat.le_of_ble_eq_true rfl, Nat.le_of_ble_eq_true rfl⟩ (Nat.le_of_ble_eq_true rfl) ⟨Nat.zero_le _, Nat.zero_le _⟩ (fun r10 s10 h => ?_)
      refine r_istore_n (pc := 54) (L' := [some (.ref 0), none, some (.int x2), some (.int r10), some (.int y4), some (.int r9), none, none]) dX11_years_54 rfl (by decide) rfl ?_
      refine r_iload_n (pc := 55) (x := r10) dX11_years_55 rfl ?_
      refine r_bipush (pc := 56) (v := 6) dX11_years_56 (by decide) ?_
      refine n_Si0 (pc := 58) (S0 := []) (spX11_drawOf h) gmX11_drawOf lk_RX11_315 dX11_years_58 rfl rfl ⟨Nat.le_of_ble_eq_true rfl, Nat.le_of_ble_eq_true rfl⟩ (Nat.le_of_ble_eq_true rfl) ⟨Nat.zero_le _, Nat.zero_le _⟩ (fun r11 s11 h => ?_)
      refine r_istore (pc := 61) (L' := [some (.ref 0), none, some (.int x2), some (.int r10), some (.int y4), some (.int r9), some (.int r11), none]) dX11_years_61 rfl (by decide) rfl ?_
      refine r_iload_n (pc := 63) (x := r10) dX11_years_63 rfl ?_
      refine n_Si0 (pc := 64) (S0 := []) (spX11_nextDrawn h) gmX11_nextDrawn lk_RX11_312 dX11_years_64 rfl rfl ⟨Nat.le_of_ble_eq_true rfl, Nat.le_of_ble_eq_true rfl⟩ (Nat.le_of_ble_eq_true rfl) ⟨Nat.zero_le _, Nat.zero_le _⟩ (fun r12 s12 h => ?_)
      refine r_istore_n (pc := 67) (L' := [some (.ref 0), none, some (.int x2), some (.int r12), some (.int y4), some (.int r9), some (.int r11), none]) dX11_years_67 rfl (by decide) rfl ?_
      refine r_iload_n (pc := 68) (x := r12) dX11_years_68 rfl ?_
      refine r_bipush (pc := 69) (v := 6) dX11_years_69 (by decide) ?_
      refine n_Si0 (pc := 71) (S0 := []) (spX11_drawOf h) gmX11_drawOf lk_RX11_315 dX11_years_71 rfl rfl ⟨Nat.le_of_ble_eq_true rfl, Nat.le_of_ble_eq_true rfl⟩ (Nat.le_of_ble_eq_true rfl) ⟨Nat.zero_le _, Nat.zero_le _⟩ (fun r13 s13 h => ?_)
      refine r_istore (pc := 74) (L' := [some (.ref 0), none, some (.int x2), some (.int r12), some (.int y4), some (.int r9), some (.int r11), some (.int r13)]) dX11_years_74 rfl (by decide) rfl ?_
      refine r_aload_n (pc := 76) (x := 0) dX11_years_76 rfl ?_
      refine n_getR (pc := 77) (j := 5) (q := 22) dX11_years_77 fl_RX11_44 (by decide) sh_0 rfl rfl rfl ?_
      refine r_iload (pc := 80) (x := r9) dX11_years_80 rfl ?_
      refine r_iload (pc := 82) (x := r11) dX11_years_82 rfl ?_
      refine r_iload (pc := 84) (x := r13) dX11_years_84 rfl ?_
      refine r_bipush (pc := 86) (v := 10) dX11_years_86 (by decide) ?_
      refine n_Vi0 (pc := 88) (S0 := []) (spX8_addOrder isSt_22 h) gmX8_addOrder selX8_addOrder lk_RX11_208 dX11_years_88 rfl (by decide) sh_22 ⟨rfl, by decide⟩ rfl ⟨Nat.le_of_ble_eq_true rfl, Nat.le_of_ble_eq_true rfl⟩ (Nat.le_of_ble_eq_true rfl) ⟨Nat.zero_le _, Nat.zero_le _⟩ (fun r14 s14 h => ?_)
      refine r_pop (pc := 91) dX11_years_91 rfl ?_
      refine n_iinc (pc := 92) (x := y4) (w := 1) (L' := [some (.ref 0), none, some (.int x2), some (.int r12), some (.int (y4 + 1)), some (.int r9), some (.int r11), some (.int r13)]) dX11_years_92 rfl (by decide) rfl (by decide) rfl ?_
      refine r_goto (pc := 95) (tgt := 32) dX11_years_95 (by decide) ?_
      refine n_L (L' := [some (.ref 0), none, some (.int x2), some (.int r12), some (.int (y4 + 1)), none, none, none]) (le_s (le_n (le_s (le_s (le_s (le_n (le_n (le_n (le_e))))))))) ?_
      exact ih _ _ _ h
def wpX11_years (x1 : Int32) (x2 : Int32) (s : gS) (Q : Int32 → gS → Prop) : Prop := (x2 < 1 → Q (-1) s) ∧ (¬ (x2 < 1) → (x2 ≤ 20 → wpX8_load 22 21 s (fun s1 => ∃ n32, wX11_years_32 x1 x2 Q n32 x1 0 s1)) ∧ (¬ (x2 ≤ 20) → Q (-1) s))
set_option maxRecDepth 20000 in
theorem spX11_years {l : Launch} {x1 : Int32} {x2 : Int32}  {s : gS} {Q : Int32 → gS → Prop} (h : wpX11_years x1 x2 s Q) : Ct l mX11_years 13 0 0 [.ref 0, .int x1, .int x2] (nrm s) (q_i Q) := by
  refine Ct.of (by decide) (Nat.le_of_ble_eq_true rfl) (fun X => ?_)
  refine n_L (L' := [some (.ref 0), some (.int x1), some (.int x2), none, none, none, none, none]) (le_s (le_s (le_s (le_p (le_p (le_p (le_p (le_p (le_e))))))))) ?_
  refine r_iload_n (pc := 0) (x := x2) dX11_years_0 rfl ?_
  refine r_iconst (pc := 1) (v := 1) dX11_years_1 (by decide) ?_
  refine r_icmp_lt (pc := 2) (tgt := 11) dX11_years_2 (by decide) (fun c => ?_) (fun c => ?_)
  · replace h := h.1 c
    refine r_iconst (pc := 11) (v := (-1)) dX11_years_11 (by decide) ?_
    exact n_iret (pc := 12) dX11_years_12 rfl (Nat.le_refl _) (Nat.le_refl _) h
  · replace h := h.2 c
    refine r_iload_n (pc := 5) (x := x2) dX11_years_5 rfl ?_
    refine r_bipush (pc := 6) (v := 20) dX11_years_6 (by decide) ?_
    refine r_icmp_le (pc := 8) (tgt := 13) dX11_years_8 (by decide) (fun c => ?_) (fun c => ?_)
    · replace h := h.1 c
      refine r_aload_n (pc := 13) (x := 0) dX11_years_13 rfl ?_
      refine n_getR (pc := 14) (j := 5) (q := 22) dX11_years_14 fl_RX11_44 (by decide) sh_0 rfl rfl rfl ?_
      refine r_aload_n (pc := 17) (x := 0) dX11_years_17 rfl ?_
      refine n_getR (pc := 18) (j := 4) (q := 20) dX11_years_18 fl_RX11_40 (by decide) sh_0 rfl rfl rfl ?_
      refine n_getR (pc := 21) (j := 0) (q := 21) dX11_years_21 fl_RX11_234 (by decide) sh_20 rfl rfl rfl ?_
      refine n_Vv0 (pc := 24) (S0 := []) (spX8_load isSt_22 (by unfold isA170; decide) h) gmX8_load selX8_load lk_RX11_237 dX11_years_24 rfl (by decide) sh_22 ⟨rfl, by decide⟩ rfl ⟨Nat.le_of_ble_eq_true rfl, Nat.le_of_ble_eq_true rfl⟩ (Nat.le_of_ble_eq_true rfl) ⟨Nat.zero_le _, Nat.zero_le _⟩ (fun s1 h => ?_)
      refine r_iload_n (pc := 27) (x := x1) dX11_years_27 rfl ?_
      refine r_istore_n (pc := 28) (L' := [some (.ref 0), some (.int x1), some (.int x2), some (.int x1), none, none, none, none]) dX11_years_28 rfl (by decide) rfl ?_
      refine r_iconst (pc := 29) (v := 0) dX11_years_29 (by decide) ?_
      refine r_istore (pc := 30) (L' := [some (.ref 0), some (.int x1), some (.int x2), some (.int x1), some (.int 0), none, none, none]) dX11_years_30 rfl (by decide) rfl ?_
      refine n_L (L' := [some (.ref 0), none, some (.int x2), some (.int x1), some (.int 0), none, none, none]) (le_s (le_n (le_s (le_s (le_s (le_n (le_n (le_n (le_e))))))))) ?_
      obtain ⟨n, h⟩ := h
      exact pX11_years_32  n _ _ _ h 
    · replace h := h.2 c
      refine r_iconst (pc := 11) (v := (-1)) dX11_years_11 (by decide) ?_
      exact n_iret (pc := 12) dX11_years_12 rfl (Nat.le_refl _) (Nat.le_refl _) h
def wpX11_keep (x1 : Int32) (s : gS) (Q : Int32 → gS → Prop) : Prop := (x1 < 0 → Q 0 s) ∧ (¬ (x1 < 0) → (x1 < 2 → vp_in x1 2 ∧ (wpX8_save 20 (35 + 1 + (ix x1)) s (fun s2 => Q 1 (wi s2 0 9 ((gi s2 0 9) ||| (jshl 1 x1)))))) ∧ (¬ (x1 < 2) → Q 0 s))
set_option maxRecDepth 20000 in
theorem spX11_keep {l : Launch} {x1 : Int32}  {s : gS} {Q : Int32 → gS → Prop} (h : wpX11_keep x1 s Q) : Ct l mX11_keep 3 0 0 [.ref 0, .int x1] (nrm s) (q_i Q) := by
  refine Ct.of (by decide) (Nat.le_of_ble_eq_true rfl) (fun X => ?_)
  refine n_L (L' := [some (.ref 0), some (.int x1)]) (le_s (le_s (le_e))) ?_
  refine r_iload_n (pc := 0) (x := x1) dX11_keep_0 rfl ?_
  refine r_if_lt (pc := 1) (tgt := 9) dX11_keep_1 (by decide) (fun c => ?_) (fun c => ?_)
  · replace h := h.1 c
    refine r_iconst (pc := 9) (v := 0) dX11_keep_9 (by decide) ?_
    exact n_zret (pc := 10) dX11_keep_10 rfl (by decide) (Nat.le_refl _) (Nat.le_refl _) h
  · replace h := h.2 c
    refine r_iload_n (pc := 4) (x := x1) dX11_keep_4 rfl ?_
    refine r_iconst (pc := 5) (v := 2) dX11_keep_5 (by decide) ?_
    refine r_icmp_lt (pc := 6) (tgt := 11) dX11_keep_6 (by decide) (fun c => ?_) (fun c => ?_)
    · replace h := h.1 c
      refine r_aload_n (pc := 11) (x := 0) dX11_keep_11 rfl ?_
      refine n_getR (pc := 12) (j := 4) (q := 20) dX11_keep_12 fl_RX11_40 (by decide) sh_0 rfl rfl rfl ?_
      refine r_aload_n (pc := 15) (x := 0) dX11_keep_15 rfl ?_
      refine n_getR (pc := 16) (j := 8) (q := 35) dX11_keep_16 fl_RX11_60 (by decide) sh_0 rfl rfl rfl ?_
      refine r_iload_n (pc := 19) (x := x1) dX11_keep_19 rfl ?_
      obtain ⟨b1, h⟩ := h
      refine n_aald (pc := 20) (j := (ix x1)) (q := (35 + 1 + (ix x1))) dX11_keep_20 (by decide) sh_35 b1 rfl (ro_35 (vp_lt b1)) ?_
      refine n_Vv0 (pc := 21) (S0 := []) (spX8_save isSt_20 (ilr_35 (vp_lt b1)) h) gmX8_save selX8_save lk_RX11_321 dX11_keep_21 rfl (by decide) sh_20 ⟨rfl, by decide⟩ rfl ⟨Nat.le_of_ble_eq_true rfl, Nat.le_of_ble_eq_true rfl⟩ (Nat.le_of_ble_eq_true rfl) ⟨Nat.zero_le _, Nat.zero_le _⟩ (fun s2 h => ?_)
      refine r_aload_n (pc := 24) (x := 0) dX11_keep_24 rfl ?_
      refine r_dup (pc := 25) dX11_keep_25 rfl ?_
      refine n_getI (pc := 26) (j := 9) dX11_keep_26 fl_RX11_63 (by decide) sh_0 rfl rfl ?_
      refine r_iconst (pc := 29) (v := 1) dX11_keep_29 (by decide) ?_
      refine r_iload_n (pc := 30) (x := x1) dX11_keep_30 rfl ?_
      refine n_ishl (pc := 31) dX11_keep_31 ?_
      refine r_ior (pc := 32) dX11_keep_32 ?_
      refine n_putI (pc := 33) (j := 9) dX11_keep_33 fl_RX11_63 fw_11_9 (by decide) sh_0 rfl rfl ?_
      refine r_iconst (pc := 36) (v := 1) dX11_keep_36 (by decide) ?_
      exact n_zret (pc := 37) dX11_keep_37 rfl (by decide) (Nat.le_refl _) (Nat.le_refl _) h
    · replace h := h.2 c
      refine r_iconst (pc := 9) (v := 0) dX11_keep_9 (by decide) ?_
      exact n_zret (pc := 10) dX11_keep_10 rfl (by decide) (Nat.le_refl _) (Nat.le_refl _) h
def wpX11_again (x1 : Int32) (s : gS) (Q : Int32 → gS → Prop) : Prop := (x1 < 0 → Q 0 s) ∧ (¬ (x1 < 0) → (2 ≤ x1 → Q 0 s) ∧ (¬ (2 ≤ x1) → wpX11_hasBit (gi s 0 9) x1 s (fun r1 s1 => (¬ r1 = 0 → vp_in x1 2 ∧ (wpX8_load 20 (35 + 1 + (ix x1)) s1 (fun s3 => wpX3_clear (wi s3 0 13 0) (fun s4 => Q 1 s4)))) ∧ (r1 = 0 → Q 0 s1))))
set_option maxRecDepth 20000 in
theorem spX11_again {l : Launch} {x1 : Int32}  {s : gS} {Q : Int32 → gS → Prop} (h : wpX11_again x1 s Q) : Ct l mX11_again 3 0 0 [.ref 0, .int x1] (nrm s) (q_i Q) := by
  refine Ct.of (by decide) (Nat.le_of_ble_eq_true rfl) (fun X => ?_)
  refine n_L (L' := [some (.ref 0), some (.int x1)]) (le_s (le_s (le_e))) ?_
  refine r_iload_n (pc := 0) (x := x1) dX11_again_0 rfl ?_
  refine r_if_lt (pc := 1) (tgt := 20) dX11_again_1 (by decide) (fun c => ?_) (fun c => ?_)
  · replace h := h.1 c
    refine r_iconst (pc := 20) (v := 0) dX11_again_20 (by decide) ?_
    exact n_zret (pc := 21) dX11_again_21 rfl (by decide) (Nat.le_refl _) (Nat.le_refl _) h
  · replace h := h.2 c
    refine r_iload_n (pc := 4) (x := x1) dX11_again_4 rfl ?_
    refine r_iconst (pc := 5) (v := 2) dX11_again_5 (by decide) ?_
    refine r_icmp_ge (pc := 6) (tgt := 20) dX11_again_6 (by decide) (fun c => ?_) (fun c => ?_)
    · replace h := h.1 c
      refine r_iconst (pc := 20) (v := 0) dX11_again_20 (by decide) ?_
      exact n_zret (pc := 21) dX11_again_21 rfl (by decide) (Nat.le_refl _) (Nat.le_refl _) h
    · replace h := h.2 c
      refine r_aload_n (pc := 9) (x := 0) dX11_again_9 rfl ?_
      refine n_getI (pc := 10) (j := 9) dX11_again_10 fl_RX11_63 (by decide) sh_0 rfl rfl ?_
      refine r_iload_n (pc := 13) (x := x1) dX11_again_13 rfl ?_
      refine n_Si0 (pc := 14) (S0 := []) (spX11_hasBit h) gmX11_hasBit lk_RX11_196 dX11_again_14 rfl rfl ⟨Nat.le_of_ble_eq_true rfl, Nat.le_of_ble_eq_true rfl⟩ (Nat.le_of_ble_eq_true rfl) ⟨Nat.zero_le _, Nat.zero_le _⟩ (fun r1 s1 h => ?_)
      refine r_if_ne (pc := 17) (tgt := 22) dX11_again_17 (by decide) (fun c => ?_) (fun c => ?_)
      · replace h := h.1 c
        refine r_aload_n (pc := 22) (x := 0) dX11_again_22 rfl ?_
        refine n_getR (pc := 23) (j := 4) (q := 20) dX11_again_23 fl_RX11_40 (by decide) sh_0 rfl rfl rfl ?_
        refine r_aload_n (pc := 26) (x := 0) dX11_again_26 rfl ?_
        refine n_getR (pc := 27) (j := 8) (q := 35) dX11_again_27 fl_RX11_60 (by decide) sh_0 rfl rfl rfl ?_
        refine r_iload_n (pc := 30) (x := x1) dX11_again_30 rfl ?_
        obtain ⟨b2, h⟩ := h
        refine n_aald (pc := 31) (j := (ix x1)) (q := (35 + 1 + (ix x1))) dX11_again_31 (by decide) sh_35 b2 rfl (ro_35 (vp_lt b2)) ?_
        refine n_Vv0 (pc := 32) (S0 := []) (spX8_load isSt_20 (ilr_35 (vp_lt b2)) h) gmX8_load selX8_load lk_RX11_237 dX11_again_32 rfl (by decide) sh_20 ⟨rfl, by decide⟩ rfl ⟨Nat.le_of_ble_eq_true rfl, Nat.le_of_ble_eq_true rfl⟩ (Nat.le_of_ble_eq_true rfl) ⟨Nat.zero_le _, Nat.zero_le _⟩ (fun s3 h => ?_)
        refine r_aload_n (pc := 35) (x := 0) dX11_again_35 rfl ?_
        refine r_iconst (pc := 36) (v := 0) dX11_again_36 (by decide) ?_
        refine n_putZ (pc := 37) (j := 13) dX11_again_37 fl_RX11_84 fw_11_13 (by decide) sh_0 rfl rfl (by decide) ?_
        refine r_aload_n (pc := 40) (x := 0) dX11_again_40 rfl ?_
        refine n_getR (pc := 41) (j := 7) (q := 25) dX11_again_41 fl_RX11_54 (by decide) sh_0 rfl rfl rfl ?_
        refine n_Vv0 (pc := 44) (S0 := []) (spX3_clear h) gmX3_clear selX3_clear lk_RX11_324 dX11_again_44 rfl (by decide) sh_25 ⟨rfl, by decide⟩ rfl ⟨Nat.le_of_ble_eq_true rfl, Nat.le_of_ble_eq_true rfl⟩ (Nat.le_of_ble_eq_true rfl) ⟨Nat.zero_le _, Nat.zero_le _⟩ (fun s4 h => ?_)
        refine r_iconst (pc := 47) (v := 1) dX11_again_47 (by decide) ?_
        exact n_zret (pc := 48) dX11_again_48 rfl (by decide) (Nat.le_refl _) (Nat.le_refl _) h
      · replace h := h.2 c
        refine r_iconst (pc := 20) (v := 0) dX11_again_20 (by decide) ?_
        exact n_zret (pc := 21) dX11_again_21 rfl (by decide) (Nat.le_refl _) (Nat.le_refl _) h
def wpX11_count (x1 : Int32) (s : gS) (Q : Int32 → gS → Prop) : Prop := (x1 = 0 → wpX8_toldBits 20 s (fun r1 s1 => Q r1 s1)) ∧ (x1 = 1 → wpX8_orders 20 s (fun r2 s2 => Q r2 s2)) ∧ (x1 = 2 → wpX8_refDay 20 s (fun r3 s3 => Q r3 s3)) ∧ (x1 = 3 → wpX8_readingsOfAll 20 s (fun r4 s4 => Q r4 s4)) ∧ (x1 = 4 → wpX8_inOfAll 20 s (fun r5 s5 => Q r5 s5)) ∧ (x1 = 5 → wpX11_solved s (fun s6 => wpX7_leftOfAll 38 s6 (fun r7 s7 => Q r7 s7))) ∧ (x1 = 6 → Q (gi s 25 2) s) ∧ (x1 = 7 → Q (gi s 18 1) s) ∧ (x1 = 8 → Q (gi s 1 1) s) ∧ (¬ x1 = 0 → ¬ x1 = 1 → ¬ x1 = 2 → ¬ x1 = 3 → ¬ x1 = 4 → ¬ x1 = 5 → ¬ x1 = 6 → ¬ x1 = 7 → ¬ x1 = 8 → Q (-1) s)
set_option maxRecDepth 20000 in
theorem spX11_count {l : Launch} {x1 : Int32}  {s : gS} {Q : Int32 → gS → Prop} (h : wpX11_count x1 s Q) : Ct l mX11_count 14 0 0 [.ref 0, .int x1] (nrm s) (q_i Q) := by
  refine Ct.of (by decide) (Nat.le_of_ble_eq_true rfl) (fun X => ?_)
  refine n_L (L' := [some (.ref 0), some (.int x1)]) (le_s (le_s (le_e))) ?_
  refine r_iload_n (pc := 0) (x := x1) dX11_count_0 rfl ?_
  by_cases c8_0 : x1 = 0
  · replace h := h.1 c8_0
    refine r_tableIn (pc := 1) (off := 51) (tgt := 52) dX11_count_1 (by rw [c8_0]; decide) (by rw [c8_0]; decide) (by rw [c8_0]; decide) (by decide) ?_
    refine r_aload_n (pc := 52) (x := 0) dX11_count_52 rfl ?_
    refine n_getR (pc := 53) (j := 4) (q := 20) dX11_count_53 fl_RX11_40 (by decide) sh_0 rfl rfl rfl ?_
    refine n_Vi0 (pc := 56) (S0 := []) (spX8_toldBits isSt_20 h) gmX8_toldBits selX8_toldBits lk_RX11_325 dX11_count_56 rfl (by decide) sh_20 ⟨rfl, by decide⟩ rfl ⟨Nat.le_of_ble_eq_true rfl, Nat.le_of_ble_eq_true rfl⟩ (Nat.le_of_ble_eq_true rfl) ⟨Nat.zero_le _, Nat.zero_le _⟩ (fun r1 s1 h => ?_)
    exact n_iret (pc := 59) dX11_count_59 rfl (Nat.le_refl _) (Nat.le_refl _) h
  by_cases c8_1 : x1 = 1
  · replace h := h.2.1 c8_1
    refine r_tableIn (pc := 1) (off := 59) (tgt := 60) dX11_count_1 (by rw [c8_1]; decide) (by rw [c8_1]; decide) (by rw [c8_1]; decide) (by decide) ?_
    refine r_aload_n (pc := 60) (x := 0) dX11_count_60 rfl ?_
    refine n_getR (pc := 61) (j := 4) (q := 20) dX11_count_61 fl_RX11_40 (by decide) sh_0 rfl rfl rfl ?_
    refine n_Vi0 (pc := 64) (S0 := []) (spX8_orders isSt_20 h) gmX8_orders selX8_orders lk_RX11_318 dX11_count_64 rfl (by decide) sh_20 ⟨rfl, by decide⟩ rfl ⟨Nat.le_of_ble_eq_true rfl, Nat.le_of_ble_eq_true rfl⟩ (Nat.le_of_ble_eq_true rfl) ⟨Nat.zero_le _, Nat.zero_le _⟩ (fun r2 s2 h => ?_)
    exact n_iret (pc := 67) dX11_count_67 rfl (Nat.le_refl _) (Nat.le_refl _) h
  by_cases c8_2 : x1 = 2
  · replace h := h.2.2.1 c8_2
    refine r_tableIn (pc := 1) (off := 67) (tgt := 68) dX11_count_1 (by rw [c8_2]; decide) (by rw [c8_2]; decide) (by rw [c8_2]; decide) (by decide) ?_
    refine r_aload_n (pc := 68) (x := 0) dX11_count_68 rfl ?_
    refine n_getR (pc := 69) (j := 4) (q := 20) dX11_count_69 fl_RX11_40 (by decide) sh_0 rfl rfl rfl ?_
    refine n_Vi0 (pc := 72) (S0 := []) (spX8_refDay isSt_20 h) gmX8_refDay selX8_refDay lk_RX11_112 dX11_count_72 rfl (by decide) sh_20 ⟨rfl, by decide⟩ rfl ⟨Nat.le_of_ble_eq_true rfl, Nat.le_of_ble_eq_true rfl⟩ (Nat.le_of_ble_eq_true rfl) ⟨Nat.zero_le _, Nat.zero_le _⟩ (fun r3 s3 h => ?_)
    exact n_iret (pc := 75) dX11_count_75 rfl (Nat.le_refl _) (Nat.le_refl _) h
  by_cases c8_3 : x1 = 3
  · replace h := h.2.2.2.1 c8_3
    refine r_tableIn (pc := 1) (off := 75) (tgt := 76) dX11_count_1 (by rw [c8_3]; decide) (by rw [c8_3]; decide) (by rw [c8_3]; decide) (by decide) ?_
    refine r_aload_n (pc := 76) (x := 0) dX11_count_76 rfl ?_
    refine n_getR (pc := 77) (j := 4) (q := 20) dX11_count_77 fl_RX11_40 (by decide) sh_0 rfl rfl rfl ?_
    refine n_Vi0 (pc := 80) (S0 := []) (spX8_readingsOfAll isSt_20 h) gmX8_readingsOfAll selX8_readingsOfAll lk_RX11_328 dX11_count_80 rfl (by decide) sh_20 ⟨rfl, by decide⟩ rfl ⟨Nat.le_of_ble_eq_true rfl, Nat.le_of_ble_eq_true rfl⟩ (Nat.le_of_ble_eq_true rfl) ⟨Nat.zero_le _, Nat.zero_le _⟩ (fun r4 s4 h => ?_)
    exact n_iret (pc := 83) dX11_count_83 rfl (Nat.le_refl _) (Nat.le_refl _) h
  by_cases c8_4 : x1 = 4
  · replace h := h.2.2.2.2.1 c8_4
    refine r_tableIn (pc := 1) (off := 83) (tgt := 84) dX11_count_1 (by rw [c8_4]; decide) (by rw [c8_4]; decide) (by rw [c8_4]; decide) (by decide) ?_
    refine r_aload_n (pc := 84) (x := 0) dX11_count_84 rfl ?_
    refine n_getR (pc := 85) (j := 4) (q := 20) dX11_count_85 fl_RX11_40 (by decide) sh_0 rfl rfl rfl ?_
    refine n_Vi0 (pc := 88) (S0 := []) (spX8_inOfAll isSt_20 h) gmX8_inOfAll selX8_inOfAll lk_RX11_331 dX11_count_88 rfl (by decide) sh_20 ⟨rfl, by decide⟩ rfl ⟨Nat.le_of_ble_eq_true rfl, Nat.le_of_ble_eq_true rfl⟩ (Nat.le_of_ble_eq_true rfl) ⟨Nat.zero_le _, Nat.zero_le _⟩ (fun r5 s5 h => ?_)
    exact n_iret (pc := 91) dX11_count_91 rfl (Nat.le_refl _) (Nat.le_refl _) h
  by_cases c8_5 : x1 = 5
  · replace h := h.2.2.2.2.2.1 c8_5
    refine r_tableIn (pc := 1) (off := 91) (tgt := 92) dX11_count_1 (by rw [c8_5]; decide) (by rw [c8_5]; decide) (by rw [c8_5]; decide) (by decide) ?_
    refine r_aload_n (pc := 92) (x := 0) dX11_count_92 rfl ?_
    refine n_Va0 (pc := 93) (S0 := []) (spX11_solved h) gmX11_solved selX11_solved lk_RX11_176 dX11_count_93 rfl (by decide) sh_0 ⟨rfl, by decide⟩ rfl ⟨Nat.le_of_ble_eq_true rfl, Nat.le_of_ble_eq_true rfl⟩ (Nat.le_of_ble_eq_true rfl) ⟨Nat.zero_le _, Nat.zero_le _⟩ (fun s6 h => ?_)
    refine n_Vi0 (pc := 96) (S0 := []) (spX7_leftOfAll isSo_38 h) gmX7_leftOfAll selX7_leftOfAll lk_RX11_267 dX11_count_96 rfl (by decide) sh_38 ⟨rfl, by decide⟩ rfl ⟨Nat.le_of_ble_eq_true rfl, Nat.le_of_ble_eq_true rfl⟩ (Nat.le_of_ble_eq_true rfl) ⟨Nat.zero_le _, Nat.zero_le _⟩ (fun r7 s7 h => ?_)
    exact n_iret (pc := 99) dX11_count_99 rfl (Nat.le_refl _) (Nat.le_refl _) h
  by_cases c8_6 : x1 = 6
  · replace h := h.2.2.2.2.2.2.1 c8_6
    refine r_tableIn (pc := 1) (off := 99) (tgt := 100) dX11_count_1 (by rw [c8_6]; decide) (by rw [c8_6]; decide) (by rw [c8_6]; decide) (by decide) ?_
    refine r_aload_n (pc := 100) (x := 0) dX11_count_100 rfl ?_
    refine n_getR (pc := 101) (j := 7) (q := 25) dX11_count_101 fl_RX11_54 (by decide) sh_0 rfl rfl rfl ?_
    refine n_getI (pc := 104) (j := 2) dX11_count_104 fl_RX11_307 (by decide) sh_25 rfl rfl ?_
    exact n_iret (pc := 107) dX11_count_107 rfl (Nat.le_refl _) (Nat.le_refl _) h
  by_cases c8_7 : x1 = 7
  · replace h := h.2.2.2.2.2.2.2.1 c8_7
    refine r_tableIn (pc := 1) (off := 107) (tgt := 108) dX11_count_1 (by rw [c8_7]; decide) (by rw [c8_7]; decide) (by rw [c8_7]; decide) (by decide) ?_
    refine r_aload_n (pc := 108) (x := 0) dX11_count_108 rfl ?_
    refine n_getR (pc := 109) (j := 3) (q := 18) dX11_count_109 fl_RX11_33 (by decide) sh_0 rfl rfl rfl ?_
    refine n_getI (pc := 112) (j := 1) dX11_count_112 fl_RX11_334 (by decide) sh_18 rfl rfl ?_
    exact n_iret (pc := 115) dX11_count_115 rfl (Nat.le_refl _) (Nat.le_refl _) h
  by_cases c8_8 : x1 = 8
  · replace h := h.2.2.2.2.2.2.2.2.1 c8_8
    refine r_tableIn (pc := 1) (off := 115) (tgt := 116) dX11_count_1 (by rw [c8_8]; decide) (by rw [c8_8]; decide) (by rw [c8_8]; decide) (by decide) ?_
    refine r_aload_n (pc := 116) (x := 0) dX11_count_116 rfl ?_
    refine n_getR (pc := 117) (j := 0) (q := 1) dX11_count_117 fl_RX11_10 (by decide) sh_0 rfl rfl rfl ?_
    refine n_getI (pc := 120) (j := 1) dX11_count_120 fl_RX11_295 (by decide) sh_1 rfl rfl ?_
    exact n_iret (pc := 123) dX11_count_123 rfl (Nat.le_refl _) (Nat.le_refl _) h
  replace h := h.2.2.2.2.2.2.2.2.2 c8_0 c8_1 c8_2 c8_3 c8_4 c8_5 c8_6 c8_7 c8_8
  refine r_tableOut (pc := 1) (tgt := 124) dX11_count_1 (by have e0 := lv_neT c8_0 (show (0 : Int32).toInt = 0 by decide); have e1 := lv_neT c8_1 (show (1 : Int32).toInt = 1 by decide); have e2 := lv_neT c8_2 (show (2 : Int32).toInt = 2 by decide); have e3 := lv_neT c8_3 (show (3 : Int32).toInt = 3 by decide); have e4 := lv_neT c8_4 (show (4 : Int32).toInt = 4 by decide); have e5 := lv_neT c8_5 (show (5 : Int32).toInt = 5 by decide); have e6 := lv_neT c8_6 (show (6 : Int32).toInt = 6 by decide); have e7 := lv_neT c8_7 (show (7 : Int32).toInt = 7 by decide); have e8 := lv_neT c8_8 (show (8 : Int32).toInt = 8 by decide); omega) (by decide) ?_
  refine r_iconst (pc := 124) (v := (-1)) dX11_count_124 (by decide) ?_
  exact n_iret (pc := 125) dX11_count_125 rfl (Nat.le_refl _) (Nat.le_refl _) h
