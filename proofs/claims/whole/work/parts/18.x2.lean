def wpX2_start  (s : gS) (Q : gS → Prop) : Prop := wpX5_clear 10 s (fun s1 => Q s1)
set_option maxRecDepth 20000 in
theorem spX2_start {l : Launch}   {s : gS} {Q : gS → Prop} (h : wpX2_start  s Q) : Ct l mX2_start 2 0 0 [.ref 9] (nrm s) (q_v Q) := by
  refine Ct.of (by decide) (Nat.le_of_ble_eq_true rfl) (fun X => ?_)
  refine n_L (L' := [some (.ref 9)]) (le_s (le_e)) ?_
  refine r_aload_n (pc := 0) (x := 9) dX2_start_0 rfl ?_
  refine n_getR (pc := 1) (j := 0) (q := 10) dX2_start_1 fl_RX2_12 (by decide) sh_9 rfl rfl rfl ?_
  refine n_Vv0 (pc := 4) (S0 := []) (spX5_clear isRd_10 h) gmX5_clear selX5_clear lk_RX2_27 dX2_start_4 rfl (by decide) sh_10 ⟨rfl, by decide⟩ rfl ⟨Nat.le_of_ble_eq_true rfl, Nat.le_of_ble_eq_true rfl⟩ (Nat.le_of_ble_eq_true rfl) ⟨Nat.zero_le _, Nat.zero_le _⟩ (fun s1 h => ?_)
  exact n_vret (pc := 7) dX2_start_7 rfl (Nat.le_refl _) (Nat.le_refl _) h
def wpX2_answer  (s : gS) (Q : Int32 → gS → Prop) : Prop := ((gi s 10 2) = 0 → (¬ (gi s 10 1) = 0 → Q (gi s 10 1) s) ∧ ((gi s 10 1) = 0 → Q (-200) s)) ∧ (¬ ((gi s 10 2) = 0) → Q (-300) s)
set_option maxRecDepth 20000 in
theorem spX2_answer {l : Launch}   {s : gS} {Q : Int32 → gS → Prop} (h : wpX2_answer  s Q) : Ct l mX2_answer 1 0 0 [.ref 9] (nrm s) (q_i Q) := by
  refine Ct.of (by decide) (Nat.le_of_ble_eq_true rfl) (fun X => ?_)
  refine n_L (L' := [some (.ref 9)]) (le_s (le_e)) ?_
  refine r_aload_n (pc := 0) (x := 9) dX2_answer_0 rfl ?_
  refine n_getR (pc := 1) (j := 0) (q := 10) dX2_answer_1 fl_RX2_12 (by decide) sh_9 rfl rfl rfl ?_
  refine n_getI (pc := 4) (j := 2) dX2_answer_4 fl_RX2_30 (by decide) sh_10 rfl rfl ?_
  refine r_if_eq (pc := 7) (tgt := 14) dX2_answer_7 (by decide) (fun c => ?_) (fun c => ?_)
  · replace h := h.1 c
    refine r_aload_n (pc := 14) (x := 9) dX2_answer_14 rfl ?_
    refine n_getR (pc := 15) (j := 0) (q := 10) dX2_answer_15 fl_RX2_12 (by decide) sh_9 rfl rfl rfl ?_
    refine n_getI (pc := 18) (j := 1) dX2_answer_18 fl_RX2_34 (by decide) sh_10 rfl rfl ?_
    refine r_if_ne (pc := 21) (tgt := 30) dX2_answer_21 (by decide) (fun c => ?_) (fun c => ?_)
    · replace h := h.1 c
      refine r_aload_n (pc := 30) (x := 9) dX2_answer_30 rfl ?_
      refine n_getR (pc := 31) (j := 0) (q := 10) dX2_answer_31 fl_RX2_12 (by decide) sh_9 rfl rfl rfl ?_
      refine n_getI (pc := 34) (j := 1) dX2_answer_34 fl_RX2_34 (by decide) sh_10 rfl rfl ?_
      exact n_iret (pc := 37) dX2_answer_37 rfl (Nat.le_refl _) (Nat.le_refl _) h
    · replace h := h.2 c
      refine r_sipush (pc := 24) (v := (-200)) dX2_answer_24 (by decide) ?_
      refine r_goto (pc := 27) (tgt := 37) dX2_answer_27 (by decide) ?_
      exact n_iret (pc := 37) dX2_answer_37 rfl (Nat.le_refl _) (Nat.le_refl _) h
  · replace h := h.2 c
    refine r_sipush (pc := 10) (v := (-300)) dX2_answer_10 (by decide) ?_
    exact n_iret (pc := 13) dX2_answer_13 rfl (Nat.le_refl _) (Nat.le_refl _) h
def wpX4_step (x1 : Int32) (x2 : Int32) (s : gS) (Q : Int32 → gS → Prop) : Prop := (x1 < 0 → Q 0 s) ∧ (¬ (x1 < 0) → (80 ≤ x1 → Q 0 s) ∧ (¬ (80 ≤ x1) → (x2 < 0 → Q 0 s) ∧ (¬ (x2 < 0) → (4 ≤ x2 → Q 0 s) ∧ (¬ (4 ≤ x2) → vp_in ((x1 * 4) + x2) 320 ∧ (Q (gi s 7 (ix ((x1 * 4) + x2))) s)))))
set_option maxRecDepth 20000 in
theorem spX4_step {l : Launch} {x1 : Int32} {x2 : Int32}  {s : gS} {Q : Int32 → gS → Prop} (h : wpX4_step x1 x2 s Q) : Ct l mX4_step 1 0 0 [.ref 3, .int x1, .int x2] (nrm s) (q_i Q) := by
  refine Ct.of (by decide) (Nat.le_of_ble_eq_true rfl) (fun X => ?_)
  refine n_L (L' := [some (.ref 3), some (.int x1), some (.int x2)]) (le_s (le_s (le_s (le_e)))) ?_
  refine r_iload_n (pc := 0) (x := x1) dX4_step_0 rfl ?_
  refine r_if_lt (pc := 1) (tgt := 32) dX4_step_1 (by decide) (fun c => ?_) (fun c => ?_)
  · replace h := h.1 c
    refine r_iconst (pc := 32) (v := 0) dX4_step_32 (by decide) ?_
    exact n_iret (pc := 33) dX4_step_33 rfl (Nat.le_refl _) (Nat.le_refl _) h
  · replace h := h.2 c
    refine r_iload_n (pc := 4) (x := x1) dX4_step_4 rfl ?_
    refine r_bipush (pc := 5) (v := 80) dX4_step_5 (by decide) ?_
    refine r_icmp_ge (pc := 7) (tgt := 32) dX4_step_7 (by decide) (fun c => ?_) (fun c => ?_)
    · replace h := h.1 c
      refine r_iconst (pc := 32) (v := 0) dX4_step_32 (by decide) ?_
      exact n_iret (pc := 33) dX4_step_33 rfl (Nat.le_refl _) (Nat.le_refl _) h
    · replace h := h.2 c
      refine r_iload_n (pc := 10) (x := x2) dX4_step_10 rfl ?_
      refine r_if_lt (pc := 11) (tgt := 32) dX4_step_11 (by decide) (fun c => ?_) (fun c => ?_)
      · replace h := h.1 c
        refine r_iconst (pc := 32) (v := 0) dX4_step_32 (by decide) ?_
        exact n_iret (pc := 33) dX4_step_33 rfl (Nat.le_refl _) (Nat.le_refl _) h
      · replace h := h.2 c
        refine r_iload_n (pc := 14) (x := x2) dX4_step_14 rfl ?_
        refine r_iconst (pc := 15) (v := 4) dX4_step_15 (by decide) ?_
        refine r_icmp_ge (pc := 16) (tgt := 32) dX4_step_16 (by decide) (fun c => ?_) (fun c => ?_)
        · replace h := h.1 c
          refine r_iconst (pc := 32) (v := 0) dX4_step_32 (by decide) ?_
          exact n_iret (pc := 33) dX4_step_33 rfl (Nat.le_refl _) (Nat.le_refl _) h
        · replace h := h.2 c
          refine r_aload_n (pc := 19) (x := 3) dX4_step_19 rfl ?_
          refine n_getR (pc := 20) (j := 1) (q := 7) dX4_step_20 fl_RX4_18 (by decide) sh_3 rfl rfl rfl ?_
          refine r_iload_n (pc := 23) (x := x1) dX4_step_23 rfl ?_
          refine r_iconst (pc := 24) (v := 4) dX4_step_24 (by decide) ?_
          refine r_imul (pc := 25) dX4_step_25 ?_
          refine r_iload_n (pc := 26) (x := x2) dX4_step_26 rfl ?_
          refine r_iadd (pc := 27) dX4_step_27 ?_
          obtain ⟨b1, h⟩ := h
          refine n_iald (pc := 28) (j := (ix ((x1 * 4) + x2))) dX4_step_28 (by decide) sh_7 b1 rfl ?_
          refine r_goto (pc := 29) (tgt := 33) dX4_step_29 (by decide) ?_
          exact n_iret (pc := 33) dX4_step_33 rfl (Nat.le_refl _) (Nat.le_refl _) h
def wX2_addUnitAt_39 (x1 : Int32) (x2 : Int32) (x3 : Int32) (Q : gS → Prop)   (s : gS) : Prop := (¬ x1 = 1 → Q s) ∧ (x1 = 1 → (0 ≤ x2 → Q s) ∧ (¬ (0 ≤ x2) → isRd (gt1 s) ∧ (wpX5_add (gt1 s) (x3 - 7) (x3 - 1) 1 1 s (fun s6 => Q s6))))
set_option maxRecDepth 20000 in
theorem pX2_addUnitAt_39 {l : Launch} {X : gX} {x1 : Int32} {x2 : Int32} {x3 : Int32}  {Q : gS → Prop}   (s : gS) (h : wX2_addUnitAt_39 x1 x2 x3 Q  s)  : Gw l mX2_addUnitAt (g_rm 4 0 0) X 39 [some (.ref 9), some (.int x1), some (.int x2), some (.int x3)] [] (nrm s) 0 0 (g_Z X (q_v Q) 0 0) := by
  refine r_iload_n (pc := 39) (x := x1) dX2_addUnitAt_39 rfl ?_
  refine r_iconst (pc := 40) (v := 1) dX2_addUnitAt_40 (by decide) ?_
  refine r_icmp_ne (pc := 41) (tgt := 64) dX2_addUnitAt_41 (by decide) (fun c => ?_) (fun c => ?_)
  · replace h := h.1 c
    exact n_vret (pc := 64) dX2_addUnitAt_64 rfl (Nat.le_refl _) (Nat.le_refl _) h
  · replace h := h.2 c
    refine r_iload_n (pc := 44) (x := x2) dX2_addUnitAt_44 rfl ?_
    refine r_if_ge (pc := 45) (tgt := 64) dX2_addUnitAt_45 (by decide) (fun c => ?_) (fun c => ?_)
    · replace h := h.1 c
      exact n_vret (pc := 64) dX2_addUnitAt_64 rfl (Nat.le_refl _) (Nat.le_refl _) h
    · replace h := h.2 c
      refine r_aload_n (pc := 48) (x := 9) dX2_addUnitAt_48 rfl ?_
      obtain ⟨b5, h⟩ := h
      refine n_getR (pc := 49) (j := 1) (q := (gt1 s)) dX2_addUnitAt_49 fl_RX2_18 (by decide) sh_9 rfl rfl rfl ?_
      refine r_iload_n (pc := 52) (x := x3) dX2_addUnitAt_52 rfl ?_
      refine r_bipush (pc := 53) (v := 7) dX2_addUnitAt_53 (by decide) ?_
      refine r_isub (pc := 55) dX2_addUnitAt_55 ?_
      refine r_iload_n (pc := 56) (x := x3) dX2_addUnitAt_56 rfl ?_
      refine r_iconst (pc := 57) (v := 1) dX2_addUnitAt_57 (by decide) ?_
      refine r_isub (pc := 58) dX2_addUnitAt_58 ?_
      refine r_iconst (pc := 59) (v := 1) dX2_addUnitAt_59 (by decide) ?_
      refine r_iconst (pc := 60) (v := 1) dX2_addUnitAt_60 (by decide) ?_
      refine n_Vv0 (pc := 61) (S0 := []) (spX5_add b5 h) gmX5_add selX5_add lk_RX2_92 dX2_addUnitAt_61 rfl (lt_Rd b5) (sh_Rd b5) ⟨rfl, by decide⟩ rfl ⟨Nat.le_of_ble_eq_true rfl, Nat.le_of_ble_eq_true rfl⟩ (Nat.le_of_ble_eq_true rfl) ⟨Nat.zero_le _, Nat.zero_le _⟩ (fun s6 h => ?_)
      exact n_vret (pc := 64) dX2_addUnitAt_64 rfl (Nat.le_refl _) (Nat.le_refl _) h
def wpX2_addUnitAt (x1 : Int32) (x2 : Int32) (x3 : Int32) (s : gS) (Q : gS → Prop) : Prop := isRd (gt1 s) ∧ (wpX5_addUnit (gt1 s) x1 x3 x2 3 s (fun s2 => (¬ x1 = 1 → wX2_addUnitAt_39 x1 x2 x3 Q s2) ∧ (x1 = 1 → (x2 ≤ 0 → wX2_addUnitAt_39 x1 x2 x3 Q s2) ∧ (¬ (x2 ≤ 0) → isRd (gt1 s2) ∧ (wpX5_add (gt1 s2) (x3 + 1) (x3 + 7) 1 1 s2 (fun s4 => Q s4))))))
set_option maxRecDepth 20000 in
theorem spX2_addUnitAt {l : Launch} {x1 : Int32} {x2 : Int32} {x3 : Int32}  {s : gS} {Q : gS → Prop} (h : wpX2_addUnitAt x1 x2 x3 s Q) : Ct l mX2_addUnitAt 4 0 0 [.ref 9, .int x1, .int x2, .int x3] (nrm s) (q_v Q) := by
  refine Ct.of (by decide) (Nat.le_of_ble_eq_true rfl) (fun X => ?_)
  refine n_L (L' := [some (.ref 9), some (.int x1), some (.int x2), some (.int x3)]) (le_s (le_s (le_s (le_s (le_e))))) ?_
  refine r_aload_n (pc := 0) (x := 9) dX2_addUnitAt_0 rfl ?_
  obtain ⟨b1, h⟩ := h
  refine n_getR (pc := 1) (j := 1) (q := (gt1 s)) dX2_addUnitAt_1 fl_RX2_18 (by decide) sh_9 rfl rfl rfl ?_
  refine r_iload_n (pc := 4) (x := x1) dX2_addUnitAt_4 rfl ?_
  refine r_iload_n (pc := 5) (x := x3) dX2_addUnitAt_5 rfl ?_
  refine r_iload_n (pc := 6) (x := x2) dX2_addUnitAt_6 rfl ?_
  refine r_iconst (pc := 7) (v := 3) dX2_addUnitAt_7 (by decide) ?_
  refine n_Vv0 (pc := 8) (S0 := []) (spX5_addUnit b1 h) gmX5_addUnit selX5_addUnit lk_RX2_95 dX2_addUnitAt_8 rfl (lt_Rd b1) (sh_Rd b1) ⟨rfl, by decide⟩ rfl ⟨Nat.le_of_ble_eq_true rfl, Nat.le_of_ble_eq_true rfl⟩ (Nat.le_of_ble_eq_true rfl) ⟨Nat.zero_le _, Nat.zero_le _⟩ (fun s2 h => ?_)
  refine r_iload_n (pc := 11) (x := x1) dX2_addUnitAt_11 rfl ?_
  refine r_iconst (pc := 12) (v := 1) dX2_addUnitAt_12 (by decide) ?_
  refine r_icmp_ne (pc := 13) (tgt := 39) dX2_addUnitAt_13 (by decide) (fun c => ?_) (fun c => ?_)
  · replace h := h.1 c
    refine n_L (L' := [some (.ref 9), some (.int x1), some (.int x2), some (.int x3)]) (le_s (le_s (le_s (le_s (le_e))))) ?_
    exact pX2_addUnitAt_39   _ h 
  · replace h := h.2 c
    refine r_iload_n (pc := 16) (x := x2) dX2_addUnitAt_16 rfl ?_
    refine r_if_le (pc := 17) (tgt := 39) dX2_addUnitAt_17 (by decide) (fun c => ?_) (fun c => ?_)
    · replace h := h.1 c
      refine n_L (L' := [some (.ref 9), some (.int x1), some (.int x2), some (.int x3)]) (le_s (le_s (le_s (le_s (le_e))))) ?_
      exact pX2_addUnitAt_39   _ h 
    · replace h := h.2 c
      refine r_aload_n (pc := 20) (x := 9) dX2_addUnitAt_20 rfl ?_
      obtain ⟨b3, h⟩ := h
      refine n_getR (pc := 21) (j := 1) (q := (gt1 s2)) dX2_addUnitAt_21 fl_RX2_18 (by decide) sh_9 rfl rfl rfl ?_
      refine r_iload_n (pc := 24) (x := x3) dX2_addUnitAt_24 rfl ?_
      refine r_iconst (pc := 25) (v := 1) dX2_addUnitAt_25 (by decide) ?_
      refine r_iadd (pc := 26) dX2_addUnitAt_26 ?_
      refine r_iload_n (pc := 27) (x := x3) dX2_addUnitAt_27 rfl ?_
      refine r_bipush (pc := 28) (v := 7) dX2_addUnitAt_28 (by decide) ?_
      refine r_iadd (pc := 30) dX2_addUnitAt_30 ?_
      refine r_iconst (pc := 31) (v := 1) dX2_addUnitAt_31 (by decide) ?_
      refine r_iconst (pc := 32) (v := 1) dX2_addUnitAt_32 (by decide) ?_
      refine n_Vv0 (pc := 33) (S0 := []) (spX5_add b3 h) gmX5_add selX5_add lk_RX2_92 dX2_addUnitAt_33 rfl (lt_Rd b3) (sh_Rd b3) ⟨rfl, by decide⟩ rfl ⟨Nat.le_of_ble_eq_true rfl, Nat.le_of_ble_eq_true rfl⟩ (Nat.le_of_ble_eq_true rfl) ⟨Nat.zero_le _, Nat.zero_le _⟩ (fun s4 h => ?_)
      refine r_goto (pc := 36) (tgt := 64) dX2_addUnitAt_36 (by decide) ?_
      exact n_vret (pc := 64) dX2_addUnitAt_64 rfl (Nat.le_refl _) (Nat.le_refl _) h
def wpX2_addDay (x1 : Int32) (x2 : Int32) (s : gS) (Q : gS → Prop) : Prop := isRd (gt1 s) ∧ (wpX5_add (gt1 s) x1 x1 0 x2 s (fun s2 => Q s2))
set_option maxRecDepth 20000 in
theorem spX2_addDay {l : Launch} {x1 : Int32} {x2 : Int32}  {s : gS} {Q : gS → Prop} (h : wpX2_addDay x1 x2 s Q) : Ct l mX2_addDay 2 0 0 [.ref 9, .int x1, .int x2] (nrm s) (q_v Q) := by
  refine Ct.of (by decide) (Nat.le_of_ble_eq_true rfl) (fun X => ?_)
  refine n_L (L' := [some (.ref 9), some (.int x1), some (.int x2)]) (le_s (le_s (le_s (le_e)))) ?_
  refine r_aload_n (pc := 0) (x := 9) dX2_addDay_0 rfl ?_
  obtain ⟨b1, h⟩ := h
  refine n_getR (pc := 1) (j := 1) (q := (gt1 s)) dX2_addDay_1 fl_RX2_18 (by decide) sh_9 rfl rfl rfl ?_
  refine r_iload_n (pc := 4) (x := x1) dX2_addDay_4 rfl ?_
  refine r_iload_n (pc := 5) (x := x1) dX2_addDay_5 rfl ?_
  refine r_iconst (pc := 6) (v := 0) dX2_addDay_6 (by decide) ?_
  refine r_iload_n (pc := 7) (x := x2) dX2_addDay_7 rfl ?_
  refine n_Vv0 (pc := 8) (S0 := []) (spX5_add b1 h) gmX5_add selX5_add lk_RX2_92 dX2_addDay_8 rfl (lt_Rd b1) (sh_Rd b1) ⟨rfl, by decide⟩ rfl ⟨Nat.le_of_ble_eq_true rfl, Nat.le_of_ble_eq_true rfl⟩ (Nat.le_of_ble_eq_true rfl) ⟨Nat.zero_le _, Nat.zero_le _⟩ (fun s2 h => ?_)
  exact n_vret (pc := 11) dX2_addDay_11 rfl (Nat.le_refl _) (Nat.le_refl _) h
def wpX2_addMoved (x1 : Int32) (x2 : Int32) (x3 : Int32) (s : gS) (Q : gS → Prop) : Prop := wpX0_move x3 x1 x2 s (fun r1 s1 => (¬ r1 = (-1) → wpX2_addDay r1 3 s1 (fun s2 => (x1 = 0 → Q s2) ∧ (¬ (x1 = 0) → isRd (gt1 s2) ∧ (wpX5_addUnit (gt1 s2) x1 r1 0 1 s2 (fun s4 => Q s4))))) ∧ (r1 = (-1) → Q s1))
set_option maxRecDepth 20000 in
theorem spX2_addMoved {l : Launch} {x1 : Int32} {x2 : Int32} {x3 : Int32}  {s : gS} {Q : gS → Prop} (h : wpX2_addMoved x1 x2 x3 s Q) : Ct l mX2_addMoved 4 0 0 [.ref 9, .int x1, .int x2, .int x3] (nrm s) (q_v Q) := by
  refine Ct.of (by decide) (Nat.le_of_ble_eq_true rfl) (fun X => ?_)
  refine n_L (L' := [some (.ref 9), some (.int x1), some (.int x2), some (.int x3), none]) (le_s (le_s (le_s (le_s (le_p (le_e)))))) ?_
  refine r_iload_n (pc := 0) (x := x3) dX2_addMoved_0 rfl ?_
  refine r_iload_n (pc := 1) (x := x1) dX2_addMoved_1 rfl ?_
  refine r_iload_n (pc := 2) (x := x2) dX2_addMoved_2 rfl ?_
  refine n_Si0 (pc := 3) (S0 := []) (spX0_move h) gmX0_move lk_RX2_98 dX2_addMoved_3 rfl rfl ⟨Nat.le_of_ble_eq_true rfl, Nat.le_of_ble_eq_true rfl⟩ (Nat.le_of_ble_eq_true rfl) ⟨Nat.zero_le _, Nat.zero_le _⟩ (fun r1 s1 h => ?_)
  refine r_istore (pc := 6) (L' := [some (.ref 9), some (.int x1), some (.int x2), some (.int x3), some (.int r1)]) dX2_addMoved_6 rfl (by decide) rfl ?_
  refine r_iload (pc := 8) (x := r1) dX2_addMoved_8 rfl ?_
  refine r_iconst (pc := 10) (v := (-1)) dX2_addMoved_10 (by decide) ?_
  refine r_icmp_ne (pc := 11) (tgt := 15) dX2_addMoved_11 (by decide) (fun c => ?_) (fun c => ?_)
  · replace h := h.1 c
    refine r_aload_n (pc := 15) (x := 9) dX2_addMoved_15 rfl ?_
    refine r_iload (pc := 16) (x := r1) dX2_addMoved_16 rfl ?_
    refine r_iconst (pc := 18) (v := 3) dX2_addMoved_18 (by decide) ?_
    refine n_Vv0 (pc := 19) (S0 := []) (spX2_addDay h) gmX2_addDay selX2_addDay lk_RX2_76 dX2_addMoved_19 rfl (by decide) sh_9 ⟨rfl, by decide⟩ rfl ⟨Nat.le_of_ble_eq_true rfl, Nat.le_of_ble_eq_true rfl⟩ (Nat.le_of_ble_eq_true rfl) ⟨Nat.zero_le _, Nat.zero_le _⟩ (fun s2 h => ?_)
    refine r_iload_n (pc := 22) (x := x1) dX2_addMoved_22 rfl ?_
    refine r_if_eq (pc := 23) (tgt := 38) dX2_addMoved_23 (by decide) (fun c => ?_) (fun c => ?_)
    · replace h := h.1 c
      exact n_vret (pc := 38) dX2_addMoved_38 rfl (Nat.le_refl _) (Nat.le_refl _) h
    · replace h := h.2 c
      refine r_aload_n (pc := 26) (x := 9) dX2_addMoved_26 rfl ?_
      obtain ⟨b3, h⟩ := h
      refine n_getR (pc := 27) (j := 1) (q := (gt1 s2)) dX2_addMoved_27 fl_RX2_18 (by decide) sh_9 rfl rfl rfl ?_
      refine r_iload_n (pc := 30) (x := x1) dX2_addMoved_30 rfl ?_
      refine r_iload (pc := 31) (x := r1) dX2_addMoved_31 rfl ?_
      refine r_iconst (pc := 33) (v := 0) dX2_addMoved_33 (by decide) ?_
      refine r_iconst (pc := 34) (v := 1) dX2_addMoved_34 (by decide) ?_
      refine n_Vv0 (pc := 35) (S0 := []) (spX5_addUnit b3 h) gmX5_addUnit selX5_addUnit lk_RX2_95 dX2_addMoved_35 rfl (lt_Rd b3) (sh_Rd b3) ⟨rfl, by decide⟩ rfl ⟨Nat.le_of_ble_eq_true rfl, Nat.le_of_ble_eq_true rfl⟩ (Nat.le_of_ble_eq_true rfl) ⟨Nat.zero_le _, Nat.zero_le _⟩ (fun s4 h => ?_)
      exact n_vret (pc := 38) dX2_addMoved_38 rfl (Nat.le_refl _) (Nat.le_refl _) h
  · replace h := h.2 c
    exact n_vret (pc := 14) dX2_addMoved_14 rfl (Nat.le_refl _) (Nat.le_refl _) h
def wpX2_addByDays (x1 : Int32) (x2 : Int32) (x3 : Int32) (x4 : Int32) (s : gS) (Q : gS → Prop) : Prop := wpX0_monday x4 s (fun r1 s1 => (x1 = 0 → wpX2_addUnitAt x2 x3 x4 s1 (fun s2 => Q s2)) ∧ (x1 = 1 → wpX2_addMoved x2 x3 x4 s1 (fun s3 => Q s3)) ∧ (x1 = 2 → wpX0_named x2 x4 s1 (fun r4 s4 => wpX2_addDay r4 3 s4 (fun s5 => wpX0_named x2 x4 s5 (fun r6 s6 => wpX2_addDay (r6 - 7) 1 s6 (fun s7 => Q s7))))) ∧ (x1 = 3 → wpX2_addDay (r1 + x2) 3 s1 (fun s8 => Q s8)) ∧ (x1 = 4 → wpX2_addDay ((r1 + 7) + x2) 3 s1 (fun s9 => wpX0_named x2 (x4 + 1) s9 (fun r10 s10 => wpX2_addDay r10 2 s10 (fun s11 => Q s11)))) ∧ (x1 = 5 → wpX0_named x2 x4 s1 (fun r12 s12 => wpX2_addDay (r12 - 7) 3 s12 (fun s13 => wpX2_addDay ((r1 - 7) + x2) 2 s13 (fun s14 => Q s14)))) ∧ (x1 = 6 → wpX0_named x2 (x4 + 1) s1 (fun r15 s15 => wpX2_addDay (r15 + 7) 3 s15 (fun s16 => wpX2_addDay ((r1 + 14) + x2) 2 s16 (fun s17 => Q s17)))) ∧ (¬ x1 = 0 → ¬ x1 = 1 → ¬ x1 = 2 → ¬ x1 = 3 → ¬ x1 = 4 → ¬ x1 = 5 → ¬ x1 = 6 → Q s1))
set_option maxRecDepth 20000 in
theorem spX2_addByDays {l : Launch} {x1 : Int32} {x2 : Int32} {x3 : Int32} {x4 : Int32}  {s : gS} {Q : gS → Prop} (h : wpX2_addByDays x1 x2 x3 x4 s Q) : Ct l mX2_addByDays 5 0 0 [.ref 9, .int x1, .int x2, .int x3, .int x4] (nrm s) (q_v Q) := by
  refine Ct.of (by decide) (Nat.le_of_ble_eq_true rfl) (fun X => ?_)
  refine n_L (L' := [some (.ref 9), some (.int x1), some (.int x2), some (.int x3), some (.int x4), none]) (le_s (le_s (le_s (le_s (le_s (le_p (le_e))))))) ?_
  refine r_iload (pc := 0) (x := x4) dX2_addByDays_0 rfl ?_
  refine n_Si0 (pc := 2) (S0 := []) (spX0_monday h) gmX0_monday lk_RX2_61 dX2_addByDays_2 rfl rfl ⟨Nat.le_of_ble_eq_true rfl, Nat.le_of_ble_eq_true rfl⟩ (Nat.le_of_ble_eq_true rfl) ⟨Nat.zero_le _, Nat.zero_le _⟩ (fun r1 s1 h => ?_)
  refine r_istore (pc := 5) (L' := [some (.ref 9), some (.int x1), some (.int x2), some (.int x3), some (.int x4), some (.int r1)]) dX2_addByDays_5 rfl (by decide) rfl ?_
  refine r_iload_n (pc := 7) (x := x1) dX2_addByDays_7 rfl ?_
  by_cases c18_0 : x1 = 0
  · replace h := h.1 c18_0
    refine r_tableIn (pc := 8) (off := 44) (tgt := 52) dX2_addByDays_8 (by rw [c18_0]; decide) (by rw [c18_0]; decide) (by rw [c18_0]; decide) (by decide) ?_
    refine r_aload_n (pc := 52) (x := 9) dX2_addByDays_52 rfl ?_
    refine r_iload_n (pc := 53) (x := x2) dX2_addByDays_53 rfl ?_
    refine r_iload_n (pc := 54) (x := x3) dX2_addByDays_54 rfl ?_
    refine r_iload (pc := 55) (x := x4) dX2_addByDays_55 rfl ?_
    refine n_Vv0 (pc := 57) (S0 := []) (spX2_addUnitAt h) gmX2_addUnitAt selX2_addUnitAt lk_RX2_67 dX2_addByDays_57 rfl (by decide) sh_9 ⟨rfl, by decide⟩ rfl ⟨Nat.le_of_ble_eq_true rfl, Nat.le_of_ble_eq_true rfl⟩ (Nat.le_of_ble_eq_true rfl) ⟨Nat.zero_le _, Nat.zero_le _⟩ (fun s2 h => ?_)
    refine r_goto (pc := 60) (tgt := 202) dX2_addByDays_60 (by decide) ?_
    exact n_vret (pc := 202) dX2_addByDays_202 rfl (Nat.le_refl _) (Nat.le_refl _) h
  by_cases c18_1 : x1 = 1
  · replace h := h.2.1 c18_1
    refine r_tableIn (pc := 8) (off := 55) (tgt := 63) dX2_addByDays_8 (by rw [c18_1]; decide) (by rw [c18_1]; decide) (by rw [c18_1]; decide) (by decide) ?_
    refine r_aload_n (pc := 63) (x := 9) dX2_addByDays_63 rfl ?_
    refine r_iload_n (pc := 64) (x := x2) dX2_addByDays_64 rfl ?_
    refine r_iload_n (pc := 65) (x := x3) dX2_addByDays_65 rfl ?_
    refine r_iload (pc := 66) (x := x4) dX2_addByDays_66 rfl ?_
    refine n_Vv0 (pc := 68) (S0 := []) (spX2_addMoved h) gmX2_addMoved selX2_addMoved lk_RX2_70 dX2_addByDays_68 rfl (by decide) sh_9 ⟨rfl, by decide⟩ rfl ⟨Nat.le_of_ble_eq_true rfl, Nat.le_of_ble_eq_true rfl⟩ (Nat.le_of_ble_eq_true rfl) ⟨Nat.zero_le _, Nat.zero_le _⟩ (fun s3 h => ?_)
    refine r_goto (pc := 71) (tgt := 202) dX2_addByDays_71 (by decide) ?_
    exact n_vret (pc := 202) dX2_addByDays_202 rfl (Nat.le_refl _) (Nat.le_refl _) h
  by_cases c18_2 : x1 = 2
  · replace h := h.2.2.1 c18_2
    refine r_tableIn (pc := 8) (off := 66) (tgt := 74) dX2_addByDays_8 (by rw [c18_2]; decide) (by rw [c18_2]; decide) (by rw [c18_2]; decide) (by decide) ?_
    refine r_aload_n (pc := 74) (x := 9) dX2_addByDays_74 rfl ?_
    refine r_iload_n (pc := 75) (x := x2) dX2_addByDays_75 rfl ?_
    refine r_iload (pc := 76) (x := x4) dX2_addByDays_76 rfl ?_
    refine n_Si0 (pc := 78) (S0 := [.ref 9]) (spX0_named h) gmX0_named lk_RX2_73 dX2_addByDays_78 rfl rfl ⟨Nat.le_of_ble_eq_true rfl, Nat.le_of_ble_eq_true rfl⟩ (Nat.le_of_ble_eq_true rfl) ⟨Nat.zero_le _, Nat.zero_le _⟩ (fun r4 s4 h => ?_)
    refine r_iconst (pc := 81) (v := 3) dX2_addByDays_81 (by decide) ?_
    refine n_Vv0 (pc := 82) (S0 := []) (spX2_addDay h) gmX2_addDay selX2_addDay lk_RX2_76 dX2_addByDays_82 rfl (by decide) sh_9 ⟨rfl, by decide⟩ rfl ⟨Nat.le_of_ble_eq_true rfl, Nat.le_of_ble_eq_true rfl⟩ (Nat.le_of_ble_eq_true rfl) ⟨Nat.zero_le _, Nat.zero_le _⟩ (fun s5 h => ?_)
    refine r_aload_n (pc := 85) (x := 9) dX2_addByDays_85 rfl ?_
    refine r_iload_n (pc := 86) (x := x2) dX2_addByDays_86 rfl ?_
    refine r_iload (pc := 87) (x := x4) dX2_addByDays_87 rfl ?_
    refine n_Si0 (pc := 89) (S0 := [.ref 9]) (spX0_named h) gmX0_named lk_RX2_73 dX2_addByDays_89 rfl rfl ⟨Nat.le_of_ble_eq_true rfl, Nat.le_of_ble_eq_true rfl⟩ (Nat.le_of_ble_eq_true rfl) ⟨Nat.zero_le _, Nat.zero_le _⟩ (fun r6 s6 h => ?_)
    refine r_bipush (pc := 92) (v := 7) dX2_addByDays_92 (by decide) ?_
    refine r_isub (pc := 94) dX2_addByDays_94 ?_
    refine r_iconst (pc := 95) (v := 1) dX2_addByDays_95 (by decide) ?_
    refine n_Vv0 (pc := 96) (S0 := []) (spX2_addDay h) gmX2_addDay selX2_addDay lk_RX2_76 dX2_addByDays_96 rfl (by decide) sh_9 ⟨rfl, by decide⟩ rfl ⟨Nat.le_of_ble_eq_true rfl, Nat.le_of_ble_eq_true rfl⟩ (Nat.le_of_ble_eq_true rfl) ⟨Nat.zero_le _, Nat.zero_le _⟩ (fun s7 h => ?_)
    refine r_goto (pc := 99) (tgt := 202) dX2_addByDays_99 (by decide) ?_
    exact n_vret (pc := 202) dX2_addByDays_202 rfl (Nat.le_refl _) (Nat.le_refl _) h
  by_cases c18_3 : x1 = 3
  · replace h := h.2.2.2.1 c18_3
    refine r_tableIn (pc := 8) (off := 94) (tgt := 102) dX2_addByDays_8 (by rw [c18_3]; decide) (by rw [c18_3]; decide) (by rw [c18_3]; decide) (by decide) ?_
    refine r_aload_n (pc := 102) (x := 9) dX2_addByDays_102 rfl ?_
    refine r_iload (pc := 103) (x := r1) dX2_addByDays_103 rfl ?_
    refine r_iload_n (pc := 105) (x := x2) dX2_addByDays_105 rfl ?_
    refine r_iadd (pc := 106) dX2_addByDays_106 ?_
    refine r_iconst (pc := 107) (v := 3) dX2_addByDays_107 (by decide) ?_
    refine n_Vv0 (pc := 108) (S0 := []) (spX2_addDay h) gmX2_addDay selX2_addDay lk_RX2_76 dX2_addByDays_108 rfl (by decide) sh_9 ⟨rfl, by decide⟩ rfl ⟨Nat.le_of_ble_eq_true rfl, Nat.le_of_ble_eq_true rfl⟩ (Nat.le_of_ble_eq_true rfl) ⟨Nat.zero_le _, Nat.zero_le _⟩ (fun s8 h => ?_)
    refine r_goto (pc := 111) (tgt := 202) dX2_addByDays_111 (by decide) ?_
    exact n_vret (pc := 202) dX2_addByDays_202 rfl (Nat.le_refl _) (Nat.le_refl _) h
  by_cases c18_4 : x1 = 4
  · replace h := h.2.2.2.2.1 c18_4
    refine r_tableIn (pc := 8) (off := 106) (tgt := 114) dX2_addByDays_8 (by rw [c18_4]; decide) (by rw [c18_4]; decide) (by rw [c18_4]; decide) (by decide) ?_
    refine r_aload_n (pc := 114) (x := 9) dX2_addByDays_114 rfl ?_
    refine r_iload (pc := 115) (x := r1) dX2_addByDays_115 rfl ?_
    refine r_bipush (pc := 117) (v := 7) dX2_addByDays_117 (by decide) ?_
    refine r_iadd (pc := 119) dX2_addByDays_119 ?_
    refine r_iload_n (pc := 120) (x := x2) dX2_addByDays_120 rfl ?_
    refine r_iadd (pc := 121) dX2_addByDays_121 ?_
    refine r_iconst (pc := 122) (v := 3) dX2_addByDays_122 (by decide) ?_
    refine n_Vv0 (pc := 123) (S0 := []) (spX2_addDay h) gmX2_addDay selX2_addDay lk_RX2_76 dX2_addByDays_123 rfl (by decide) sh_9 ⟨rfl, by decide⟩ rfl ⟨Nat.le_of_ble_eq_true rfl, Nat.le_of_ble_eq_true rfl⟩ (Nat.le_of_ble_eq_true rfl) ⟨Nat.zero_le _, Nat.zero_le _⟩ (fun s9 h => ?_)
    refine r_aload_n (pc := 126) (x := 9) dX2_addByDays_126 rfl ?_
    refine r_iload_n (pc := 127) (x := x2) dX2_addByDays_127 rfl ?_
    refine r_iload (pc := 128) (x := x4) dX2_addByDays_128 rfl ?_
    refine r_iconst (pc := 130) (v := 1) dX2_addByDays_130 (by decide) ?_
    refine r_iadd (pc := 131) dX2_addByDays_131 ?_
    refine n_Si0 (pc := 132) (S0 := [.ref 9]) (spX0_named h) gmX0_named lk_RX2_73 dX2_addByDays_132 rfl rfl ⟨Nat.le_of_ble_eq_true rfl, Nat.le_of_ble_eq_true rfl⟩ (Nat.le_of_ble_eq_true rfl) ⟨Nat.zero_le _, Nat.zero_le _⟩ (fun r10 s10 h => ?_)
    refine r_iconst (pc := 135) (v := 2) dX2_addByDays_135 (by decide) ?_
    refine n_Vv0 (pc := 136) (S0 := []) (spX2_addDay h) gmX2_addDay selX2_addDay lk_RX2_76 dX2_addByDays_136 rfl (by decide) sh_9 ⟨rfl, by decide⟩ rfl ⟨Nat.le_of_ble_eq_true rfl, Nat.le_of_ble_eq_true rfl⟩ (Nat.le_of_ble_eq_true rfl) ⟨Nat.zero_le _, Nat.zero_le _⟩ (fun s11 h => ?_)
    refine r_goto (pc := 139) (tgt := 202) dX2_addByDays_139 (by decide) ?_
    exact n_vret (pc := 202) dX2_addByDays_202 rfl (Nat.le_refl _) (Nat.le_refl _) h
  by_cases c18_5 : x1 = 5
  · replace h := h.2.2.2.2.2.1 c18_5
    refine r_tableIn (pc := 8) (off := 134) (tgt := 142) dX2_addByDays_8 (by rw [c18_5]; decide) (by rw [c18_5]; decide) (by rw [c18_5]; decide) (by decide) ?_
    refine r_aload_n (pc := 142) (x := 9) dX2_addByDays_142 rfl ?_
    refine r_iload_n (pc := 143) (x := x2) dX2_addByDays_143 rfl ?_
    refine r_iload (pc := 144) (x := x4) dX2_addByDays_144 rfl ?_
    refine n_Si0 (pc := 146) (S0 := [.ref 9]) (spX0_named h) gmX0_named lk_RX2_73 dX2_addByDays_146 rfl rfl ⟨Nat.le_of_ble_eq_true rfl, Nat.le_of_ble_eq_true rfl⟩ (Nat.le_of_ble_eq_true rfl) ⟨Nat.zero_le _, Nat.zero_le _⟩ (fun r12 s12 h => ?_)
    refine r_bipush (pc := 149) (v := 7) dX2_addByDays_149 (by decide) ?_
    refine r_isub (pc := 151) dX2_addByDays_151 ?_
    refine r_iconst (pc := 152) (v := 3) dX2_addByDays_152 (by decide) ?_
    refine n_Vv0 (pc := 153) (S0 := []) (spX2_addDay h) gmX2_addDay selX2_addDay lk_RX2_76 dX2_addByDays_153 rfl (by decide) sh_9 ⟨rfl, by decide⟩ rfl ⟨Nat.le_of_ble_eq_true rfl, Nat.le_of_ble_eq_true rfl⟩ (Nat.le_of_ble_eq_true rfl) ⟨Nat.zero_le _, Nat.zero_le _⟩ (fun s13 h => ?_)
    refine r_aload_n (pc := 156) (x := 9) dX2_addByDays_156 rfl ?_
    refine r_iload (pc := 157) (x := r1) dX2_addByDays_157 rfl ?_
    refine r_bipush (pc := 159) (v := 7) dX2_addByDays_159 (by decide) ?_
    refine r_isub (pc := 161) dX2_addByDays_161 ?_
    refine r_iload_n (pc := 162) (x := x2) dX2_addByDays_162 rfl ?_
    refine r_iadd (pc := 163) dX2_addByDays_163 ?_
    refine r_iconst (pc := 164) (v := 2) dX2_addByDays_164 (by decide) ?_
    refine n_Vv0 (pc := 165) (S0 := []) (spX2_addDay h) gmX2_addDay selX2_addDay lk_RX2_76 dX2_addByDays_165 rfl (by decide) sh_9 ⟨rfl, by decide⟩ rfl ⟨Nat.le_of_ble_eq_true rfl, Nat.le_of_ble_eq_true rfl⟩ (Nat.le_of_ble_eq_true rfl) ⟨Nat.zero_le _, Nat.zero_le _⟩ (fun s14 h => ?_)
    refine r_goto (pc := 168) (tgt := 202) dX2_addByDays_168 (by decide) ?_
    exact n_vret (pc := 202) dX2_addByDays_202 rfl (Nat.le_refl _) (Nat.le_refl _) h
  by_cases c18_6 : x1 = 6
  · replace h := h.2.2.2.2.2.2.1 c18_6
    refine r_tableIn (pc := 8) (off := 163) (tgt := 171) dX2_addByDays_8 (by rw [c18_6]; decide) (by rw [c18_6]; decide) (by rw [c18_6]; decide) (by decide) ?_
    refine r_aload_n (pc := 171) (x := 9) dX2_addByDays_171 rfl ?_
    refine r_iload_n (pc := 172) (x := x2) dX2_addByDays_172 rfl ?_
    refine r_iload (pc := 173) (x := x4) dX2_addByDays_173 rfl ?_
    refine r_iconst (pc := 175) (v := 1) dX2_addByDays_175 (by decide) ?_
    refine r_iadd (pc := 176) dX2_addByDays_176 ?_
    refine n_Si0 (pc := 177) (S0 := [.ref 9]) (spX0_named h) gmX0_named lk_RX2_73 dX2_addByDays_177 rfl rfl ⟨Nat.le_of_ble_eq_true rfl, Nat.le_of_ble_eq_true rfl⟩ (Nat.le_of_ble_eq_true rfl) ⟨Nat.zero_le _, Nat.zero_le _⟩ (fun r15 s15 h => ?_)
    refine r_bipush (pc := 180) (v := 7) dX2_addByDays_180 (by decide) ?_
    refine r_iadd (pc := 182) dX2_addByDays_182 ?_
    refine r_iconst (pc := 183) (v := 3) dX2_addByDays_183 (by decide) ?_
    refine n_Vv0 (pc := 184) (S0 := []) (spX2_addDay h) gmX2_addDay selX2_addDay lk_RX2_76 dX2_addByDays_184 rfl (by decide) sh_9 ⟨rfl, by decide⟩ rfl ⟨Nat.le_of_ble_eq_true rfl, Nat.le_of_ble_eq_true rfl⟩ (Nat.le_of_ble_eq_true rfl) ⟨Nat.zero_le _, Nat.zero_le _⟩ (fun s16 h => ?_)
    refine r_aload_n (pc := 187) (x := 9) dX2_addByDays_187 rfl ?_
    refine r_iload (pc := 188) (x := r1) dX2_addByDays_188 rfl ?_
    refine r_bipush (pc := 190) (v := 14) dX2_addByDays_190 (by decide) ?_
    refine r_iadd (pc := 192) dX2_addByDays_192 ?_
    refine r_iload_n (pc := 193) (x := x2) dX2_addByDays_193 rfl ?_
    refine r_iadd (pc := 194) dX2_addByDays_194 ?_
    refine r_iconst (pc := 195) (v := 2) dX2_addByDays_195 (by decide) ?_
    refine n_Vv0 (pc := 196) (S0 := []) (spX2_addDay h) gmX2_addDay selX2_addDay lk_RX2_76 dX2_addByDays_196 rfl (by decide) sh_9 ⟨rfl, by decide⟩ rfl ⟨Nat.le_of_ble_eq_true rfl, Nat.le_of_ble_eq_true rfl⟩ (Nat.le_of_ble_eq_true rfl) ⟨Nat.zero_le _, Nat.zero_le _⟩ (fun s17 h => ?_)
    refine r_goto (pc := 199) (tgt := 202) dX2_addByDays_199 (by decide) ?_
    exact n_vret (pc := 202) dX2_addByDays_202 rfl (Nat.le_refl _) (Nat.le_refl _) h
  replace h := h.2.2.2.2.2.2.2 c18_0 c18_1 c18_2 c18_3 c18_4 c18_5 c18_6
  refine r_tableOut (pc := 8) (tgt := 202) dX2_addByDays_8 (by have e0 := lv_neT c18_0 (show (0 : Int32).toInt = 0 by decide); have e1 := lv_neT c18_1 (show (1 : Int32).toInt = 1 by decide); have e2 := lv_neT c18_2 (show (2 : Int32).toInt = 2 by decide); have e3 := lv_neT c18_3 (show (3 : Int32).toInt = 3 by decide); have e4 := lv_neT c18_4 (show (4 : Int32).toInt = 4 by decide); have e5 := lv_neT c18_5 (show (5 : Int32).toInt = 5 by decide); have e6 := lv_neT c18_6 (show (6 : Int32).toInt = 6 by decide); omega) (by decide) ?_
  exact n_vret (pc := 202) dX2_addByDays_202 rfl (Nat.le_refl _) (Nat.le_refl _) h
def wX2_addMonthName_40 (x1 : Int32) (x2 : Int32) (Q : gS → Prop)  (y3 : Int32) (y4 : Int32) (z0 : Int32) (s : gS) : Prop := isRd (gt1 s) ∧ (wpX5_addMonths (gt1 s) (y3 + (12 * y4)) 1 2 3 s (fun s4 => isRd (gt1 s4) ∧ (wpX5_addMonths (gt1 s4) (y3 - (12 * (1 - z0))) 1 2 2 s4 (fun s6 => Q s6))))
set_option maxRecDepth 20000 in
theorem pX2_addMonthName_40 {l : Launch} {X : gX} {x1 : Int32} {x2 : Int32}  {Q : gS → Prop}  (y3 : Int32) (y4 : Int32) (z0 : Int32) (s : gS) (h : wX2_addMonthName_40 x1 x2 Q y3 y4 z0 s)  : Gw l mX2_addMonthName (g_rm 3 0 0) X 40 [some (.ref 9), none, none, some (.int y3), some (.int y4), none] [.int z0] (nrm s) 0 0 (g_Z X (q_v Q) 0 0) := by
  refine r_istore (pc := 40) (L' := [some (.ref 9), none, none, some (.int y3), some (.int y4), some (.int z0)]) dX2_addMonthName_40 rfl (by decide) rfl ?_
  refine r_aload_n (pc := 42) (x := 9) dX2_addMonthName_42 rfl ?_
  obtain ⟨b3, h⟩ := h
  refine n_getR (pc := 43) (j := 1) (q := (gt1 s)) dX2_addMonthName_43 fl_RX2_18 (by decide) sh_9 rfl rfl rfl ?_
  refine r_iload_n (pc := 46) (x := y3) dX2_addMonthName_46 rfl ?_
  refine r_bipush (pc := 47) (v := 12) dX2_addMonthName_47 (by decide) ?_
  refine r_iload (pc := 49) (x := y4) dX2_addMonthName_49 rfl ?_
  refine r_imul (pc := 51) dX2_addMonthName_51 ?_
  refine r_iadd (pc := 52) dX2_addMonthName_52 ?_
  refine r_iconst (pc := 53) (v := 1) dX2_addMonthName_53 (by decide) ?_
  refine r_iconst (pc := 54) (v := 2) dX2_addMonthName_54 (by decide) ?_
  refine r_iconst (pc := 55) (v := 3) dX2_addMonthName_55 (by decide) ?_
  refine n_Vv0 (pc := 56) (S0 := []) (spX5_addMonths b3 h) gmX5_addMonths selX5_addMonths lk_RX2_89 dX2_addMonthName_56 rfl (lt_Rd b3) (sh_Rd b3) ⟨rfl, by decide⟩ rfl ⟨Nat.le_of_ble_eq_true rfl, Nat.le_of_ble_eq_true rfl⟩ (Nat.le_of_ble_eq_true rfl) ⟨Nat.zero_le _, Nat.zero_le _⟩ (fun s4 h => ?_)
  refine r_aload_n (pc := 59) (x := 9) dX2_addMonthName_59 rfl ?_
  obtain ⟨b5, h⟩ := h
  refine n_getR (pc := 60) (j := 1) (q := (gt1 s4)) dX2_addMonthName_60 fl_RX2_18 (by decide) sh_9 rfl rfl rfl ?_
  refine r_iload_n (pc := 63) (x := y3) dX2_addMonthName_63 rfl ?_
  refine r_bipush (pc := 64) (v := 12) dX2_addMonthName_64 (by decide) ?_
  refine r_iconst (pc := 66) (v := 1) dX2_addMonthName_66 (by decide) ?_
  refine r_iload (pc := 67) (x := z0) dX2_addMonthName_67 rfl ?_
  refine r_isub (pc := 69) dX2_addMonthName_69 ?_
  refine r_imul (pc := 70) dX2_addMonthName_70 ?_
  refine r_isub (pc := 71) dX2_addMonthName_71 ?_
  refine r_iconst (pc := 72) (v := 1) dX2_addMonthName_72 (by decide) ?_
  refine r_iconst (pc := 73) (v := 2) dX2_addMonthName_73 (by decide) ?_
  refine r_iconst (pc := 74) (v := 2) dX2_addMonthName_74 (by decide) ?_
  refine n_Vv0 (pc := 75) (S0 := []) (spX5_addMonths b5 h) gmX5_addMonths selX5_addMonths lk_RX2_89 dX2_addMonthName_75 rfl (lt_Rd b5) (sh_Rd b5) ⟨rfl, by decide⟩ rfl ⟨Nat.le_of_ble_eq_true rfl, Nat.le_of_ble_eq_true rfl⟩ (Nat.le_of_ble_eq_true rfl) ⟨Nat.zero_le _, Nat.zero_le _⟩ (fun s6 h => ?_)
  exact n_vret (pc := 78) dX2_addMonthName_78 rfl (Nat.le_refl _) (Nat.le_refl _) h
def wX2_addMonthName_25 (x1 : Int32) (x2 : Int32) (Q : gS → Prop)  (y3 : Int32) (z0 : Int32) (s : gS) : Prop := wpX0_monthStart y3 s (fun r7 s7 => (x2 ≤ r7 → wX2_addMonthName_40 x1 x2 Q y3 z0 0 s7) ∧ (¬ (x2 ≤ r7) → wX2_addMonthName_40 x1 x2 Q y3 z0 1 s7))
set_option maxRecDepth 20000 in
theorem pX2_addMonthName_25 {l : Launch} {X : gX} {x1 : Int32} {x2 : Int32}  {Q : gS → Prop}  (y3 : Int32) (z0 : Int32) (s : gS) (h : wX2_addMonthName_25 x1 x2 Q y3 z0 s)  : Gw l mX2_addMonthName (g_rm 3 0 0) X 25 [some (.ref 9), none, some (.int x2), some (.int y3), none, none] [.int z0] (nrm s) 0 0 (g_Z X (q_v Q) 0 0) := by
  refine r_istore (pc := 25) (L' := [some (.ref 9), none, some (.int x2), some (.int y3), some (.int z0), none]) dX2_addMonthName_25 rfl (by decide) rfl ?_
  refine r_iload_n (pc := 27) (x := y3) dX2_addMonthName_27 rfl ?_
  refine n_Si0 (pc := 28) (S0 := []) (spX0_monthStart h) gmX0_monthStart lk_RX2_104 dX2_addMonthName_28 rfl rfl ⟨Nat.le_of_ble_eq_true rfl, Nat.le_of_ble_eq_true rfl⟩ (Nat.le_of_ble_eq_true rfl) ⟨Nat.zero_le _, Nat.zero_le _⟩ (fun r7 s7 h => ?_)
  refine r_iload_n (pc := 31) (x := x2) dX2_addMonthName_31 rfl ?_
  refine r_icmp_ge (pc := 32) (tgt := 39) dX2_addMonthName_32 (by decide) (fun c => ?_) (fun c => ?_)
  · replace h := h.1 c
    refine r_iconst (pc := 39) (v := 0) dX2_addMonthName_39 (by decide) ?_
    refine n_L (L' := [some (.ref 9), none, none, some (.int y3), some (.int z0), none]) (le_s (le_n (le_n (le_s (le_s (le_n (le_e))))))) ?_
    exact pX2_addMonthName_40  _ _ _ _ h 
  · replace h := h.2 c
    refine r_iconst (pc := 35) (v := 1) dX2_addMonthName_35 (by decide) ?_
    refine r_goto (pc := 36) (tgt := 40) dX2_addMonthName_36 (by decide) ?_
    refine n_L (L' := [some (.ref 9), none, none, some (.int y3), some (.int z0), none]) (le_s (le_n (le_n (le_s (le_s (le_n (le_e))))))) ?_
    exact pX2_addMonthName_40  _ _ _ _ h 
def wpX2_addMonthName (x1 : Int32) (x2 : Int32) (s : gS) (Q : gS → Prop) : Prop := wpX0_yearOf x2 s (fun r1 s1 => wpX0_monthStart (((r1 * 12) + x1) + 1) s1 (fun r2 s2 => (x2 < r2 → wX2_addMonthName_25 x1 x2 Q ((r1 * 12) + x1) 0 s2) ∧ (¬ (x2 < r2) → wX2_addMonthName_25 x1 x2 Q ((r1 * 12) + x1) 1 s2)))
set_option maxRecDepth 20000 in
theorem spX2_addMonthName {l : Launch} {x1 : Int32} {x2 : Int32}  {s : gS} {Q : gS → Prop} (h : wpX2_addMonthName x1 x2 s Q) : Ct l mX2_addMonthName 3 0 0 [.ref 9, .int x1, .int x2] (nrm s) (q_v Q) := by
  refine Ct.of (by decide) (Nat.le_of_ble_eq_true rfl) (fun X => ?_)
  refine n_L (L' := [some (.ref 9), some (.int x1), some (.int x2), none, none, none]) (le_s (le_s (le_s (le_p (le_p (le_p (le_e))))))) ?_
  refine r_iload_n (pc := 0) (x := x2) dX2_addMonthName_0 rfl ?_
  refine n_Si0 (pc := 1) (S0 := []) (spX0_yearOf h) gmX0_yearOf lk_RX2_101 dX2_addMonthName_1 rfl rfl ⟨Nat.le_of_ble_eq_true rfl, Nat.le_of_ble_eq_true rfl⟩ (Nat.le_of_ble_eq_true rfl) ⟨Nat.zero_le _, Nat.zero_le _⟩ (fun r1 s1 h => ?_)
  refine r_bipush (pc := 4) (v := 12) dX2_addMonthName_4 (by decide) ?_
  refine r_imul (pc := 6) dX2_addMonthName_6 ?_
  refine r_iload_n (pc := 7) (x := x1) dX2_addMonthName_7 rfl ?_
  refine r_iadd (pc := 8) dX2_addMonthName_8 ?_
  refine r_istore_n (pc := 9) (L' := [some (.ref 9), some (.int x1), some (.int x2), some (.int ((r1 * 12) + x1)), none, none]) dX2_addMonthName_9 rfl (by decide) rfl ?_
  refine r_iload_n (pc := 10) (x := (r1 * 12) + x1) dX2_addMonthName_10 rfl ?_
  refine r_iconst (pc := 11) (v := 1) dX2_addMonthName_11 (by decide) ?_
  refine r_iadd (pc := 12) dX2_addMonthName_12 ?_
  refine n_Si0 (pc := 13) (S0 := []) (spX0_monthStart h) gmX0_monthStart lk_RX2_104 dX2_addMonthName_13 rfl rfl ⟨Nat.le_of_ble_eq_true rfl, Nat.le_of_ble_eq_true rfl⟩ (Nat.le_of_ble_eq_true rfl) ⟨Nat.zero_le _, Nat.zero_le _⟩ (fun r2 s2 h => ?_)
  refine r_iload_n (pc := 16) (x := x2) dX2_addMonthName_16 rfl ?_
  refine r_icmp_gt (pc := 17) (tgt := 24) dX2_addMonthName_17 (by decide) (fun c => ?_) (fun c => ?_)
  · replace h := h.1 c
    refine r_iconst (pc := 24) (v := 0) dX2_addMonthName_24 (by decide) ?_
    refine n_L (L' := [some (.ref 9), none, some (.int x2), some (.int ((r1 * 12) + x1)), none, none]) (le_s (le_n (le_s (le_s (le_n (le_n (le_e))))))) ?_
    exact pX2_addMonthName_25  _ _ _ h 
  · replace h := h.2 c
    refine r_iconst (pc := 20) (v := 1) dX2_addMonthName_20 (by decide) ?_
    refine r_goto (pc := 21) (tgt := 25) dX2_addMonthName_21 (by decide) ?_
    refine n_L (L' := [some (.ref 9), none, some (.int x2), some (.int ((r1 * 12) + x1)), none, none]) (le_s (le_n (le_s (le_s (le_n (le_n (le_e))))))) ?_
    exact pX2_addMonthName_25  _ _ _ h 
def wX2_addMonthAndN_9 (x1 : Int32) (x2 : Int32) (x3 : Int32) (Q : gS → Prop)  : Nat → Int32 → Int32 → Int32 → gS → Prop
  | 0, _, _, _, _ => False
  | n + 1, y4, y5, y6, s => (336 ≤ y6 → wpX2_addDay y4 3 s (fun s1 => wpX2_addDay y5 2 s1 (fun s2 => Q s2))) ∧ (¬ (336 ≤ y6) → wpX0_dayInMonth y6 x2 s (fun r3 s3 => (¬ r3 = (-1) → (x3 ≤ r3 → (¬ y4 = (-1) → wX2_addMonthAndN_9 x1 x2 x3 Q n y4 y5 (y6 + 12) s3) ∧ (y4 = (-1) → wX2_addMonthAndN_9 x1 x2 x3 Q n r3 y5 (y6 + 12) s3)) ∧ (¬ (x3 ≤ r3) → wX2_addMonthAndN_9 x1 x2 x3 Q n y4 r3 (y6 + 12) s3)) ∧ (r3 = (-1) → wX2_addMonthAndN_9 x1 x2 x3 Q n y4 y5 (y6 + 12) s3)))
set_option maxRecDepth 20000 in
theorem pX2_addMonthAndN_9 {l : Launch} {X : gX} {x1 : Int32} {x2 : Int32} {x3 : Int32}  {Q : gS → Prop}  : ∀ (n : Nat) (y4 : Int32) (y5 : Int32) (y6 : Int32) (s : gS) (h : wX2_addMonthAndN_9 x1 x2 x3 Q n y4 y5 y6 s) , Gw l mX2_addMonthAndN (g_rm 3 0 0) X 9 [some (.ref 9), none, some (.int x2), some (.int x3), some (.int y4), some (.int y5), some (.int y6), none] [] (nrm s) 0 0 (g_Z X (q_v Q) 0 0) := by
  intro n
  induction n with
  | zero => intro y4 y5 y6 s h; exact h.elim
  | succ n ih0 =>
    intro y4 y5 y6 s h 
    have ih : ∀ (y4 : Int32) (y5 : Int32) (y6 : Int32) (s : gS), wX2_addMonthAndN_9 x1 x2 x3 Q n y4 y5 y6 s → Gw l mX2_addMonthAndN (g_rm 3 0 0) X 9 [some (.ref 9), none, some (.int x2), some (.int x3), some (.int y4), some (.int y5), some (.int y6), none] [] (nrm s) 0 0 (g_Z X (q_v Q) 0 0) := fun y4 y5 y6 s h => ih0 y4 y5 y6 s h 
    refine r_iload (pc := 9) (x := y6) dX2_addMonthAndN_9 rfl ?_
    refine r_sipush (pc := 11) (v := 336) dX2_addMonthAndN_11 (by decide) ?_
    refine r_icmp_ge (pc := 14) (tgt := 63) dX2_addMonthAndN_14 (by decide) (fun c => ?_) (fun c => ?_)
    · replace h := h.1 c
      refine r_aload_n (pc := 63) (x := 9) dX2_addMonthAndN_63 rfl ?_
      refine r_iload (pc := 64) (x := y4) dX2_addMonthAndN_64 rfl ?_
      refine r_iconst (pc := 66) (v := 3) dX2_addMonthAndN_66 (by decide) ?_
      refine n_Vv0 (pc := 67) (S0 := []) (spX2_addDay h) gmX2_addDay selX2_addDay lk_RX2_76 dX2_addMonthAndN_67 rfl (by decide) sh_9 ⟨rfl, by decide⟩ rfl ⟨Nat.le_of_ble_eq_true rfl, Nat.le_of_ble_eq_true rfl⟩ (Nat.le_of_ble_eq_true rfl) ⟨Nat.zero_le _, Nat.zero_le _⟩ (fun s1 h => ?_)
      refine r_aload_n (pc := 70) (x := 9) dX2_addMonthAndN_70 rfl ?_
      refine r_iload (pc := 71) (x := y5) dX2_addMonthAndN_71 rfl ?_
      refine r_iconst (pc := 73) (v := 2) dX2_addMonthAndN_73 (by decide) ?_
      refine n_Vv0 (pc := 74) (S0 := []) (spX2_addDay h) gmX2_addDay selX2_addDay lk_RX2_76 dX2_addMonthAndN_74 rfl (by decide) sh_9 ⟨rfl, by decide⟩ rfl ⟨Nat.le_of_ble_eq_true rfl, Nat.le_of_ble_eq_true rfl⟩ (Nat.le_of_ble_eq_true rfl) ⟨Nat.zero_le _, Nat.zero_le _⟩ (fun s2 h => ?_)
      exact n_vret (pc := 77) dX2_addMonthAndN_77 rfl (Nat.le_refl _) (Nat.le_refl _) h
    · replace h := h.2 c
      refine r_iload (pc := 17) (x := y6) dX2_addMonthAndN_17 rfl ?_
      refine r_iload_n (pc := 19) (x := x2) dX2_addMonthAndN_19 rfl ?_
      refine n_Si0 (pc := 20) (S0 := []) (spX0_dayInMonth h) gmX0_dayInMonth lk_RX2_107 dX2_addMonthAndN_20 rfl rfl ⟨Nat.le_of_ble_eq_true rfl, Nat.le_of_ble_eq_true rfl⟩ (Nat.le_of_ble_eq_true rfl) ⟨Nat.zero_le _, Nat.zero_le _⟩ (fun r3 s3 h => ?_)
      refine r_istore (pc := 23) (L' := [some (.ref 9), none, some (.int x2), some (.int x3), some (.int y4), some (.int y5), some (.int y6), some (.int r3)]) dX2_addMonthAndN_23 rfl (by decide) rfl ?_
      refine r_iload (pc := 25) (x := r3) dX2_addMonthAndN_25 rfl ?_
      refine r_iconst (pc := 27) (v := (-1)) dX2_addMonthAndN_27 (by decide) ?_
      refine r_icmp_ne (pc := 28) (tgt := 34) dX2_addMonthAndN_28 (by decide) (fun c => ?_) (fun c => ?_)
      · replace h := h.1 c
        refine r_iload (pc := 34) (x := r3) dX2_addMonthAndN_34 rfl ?_
        refine r_iload_n (pc := 36) (x := x3) dX2_addMonthAndN_36 rfl ?_
        refine r_icmp_ge (pc := 37) (tgt := 47) dX2_addMonthAndN_37 (by decide) (fun c => ?_) (fun c => ?_)
        · replace h := h.1 c
          refine r_iload (pc := 47) (x := y4) dX2_addMonthAndN_47 rfl ?_
          refine r_iconst (pc := 49) (v := (-1)) dX2_addMonthAndN_49 (by decide) ?_
          refine r_icmp_ne (pc := 50) (tgt := 57) dX2_addMonthAndN_50 (by decide) (fun c => ?_) (fun c => ?_)
          · replace h := h.1 c
            refine n_iinc (pc := 57) (x := y6) (w := 12) (L' := [some (.ref 9), none, some (.int x2), some (.int x3), some (.int y4), some (.int y5), some (.int (y6 + 12)), some (.int r3)]) dX2_addMonthAndN_57 rfl (by decide) rfl (by decide) rfl ?_
            refine r_goto (pc := 60) (tgt := 9) dX2_addMonthAndN_60 (by decide) ?_
            refine n_L (L' := [some (.ref 9), none, some (.int x2), some (.int x3), some (.int y4), some (.int y5), some (.int (y6 + 12)), none]) (le_s (le_n (le_s (le_s (le_s (le_s (le_s (le_n (le_e))))))))) ?_
            exact ih _ _ _ _ h
          · replace h := h.2 c
            refine r_iload (pc := 53) (x := r3) dX2_addMonthAndN_53 rfl ?_
            refine r_istore (pc := 55) (L' := [some (.ref 9), none, some (.int x2), some (.int x3), some (.int r3), some (.int y5), some (.int y6), some (.int r3)]) dX2_addMonthAndN_55 rfl (by decide) rfl ?_
            refine n_iinc (pc := 57) (x := y6) (w := 12) (L' := [some (.ref 9), none, some (.int x2), some (.int x3), some (.int r3), some (.int y5), some (.int (y6 + 12)), some (.int r3)]) dX2_addMonthAndN_57 rfl (by decide) rfl (by decide) rfl ?_
            refine r_goto (pc := 60) (tgt := 9) dX2_addMonthAndN_60 (by decide) ?_
            refine n_L (L' := [some (.ref 9), none, some (.int x2), some (.int x3), some (.int r3), some (.int y5), some (.int (y6 + 12)), none]) (le_s (le_n (le_s (le_s (le_s (le_s (le_s (le_n (le_e))))))))) ?_
            exact ih _ _ _ _ h
        · replace h := h.2 c
          refine r_iload (pc := 40) (x := r3) dX2_addMonthAndN_40 rfl ?_
          refine r_istore (pc := 42) (L' := [some (.ref 9), none, some (.int x2), some (.int x3), some (.int y4), some (.int r3), some (.int y6), some (.int r3)]) dX2_addMonthAndN_42 rfl (by decide) rfl ?_
          refine r_goto (pc := 44) (tgt := 57) dX2_addMonthAndN_44 (by decide) ?_
          refine n_iinc (pc := 57) (x := y6) (w := 12) (L' := [some (.ref 9), none, some (.int x2), some (.int x3), some (.int y4), some (.int r3), some (.int (y6 + 12)), some (.int r3)]) dX2_addMonthAndN_57 rfl (by decide) rfl (by decide) rfl ?_
          refine r_goto (pc := 60) (tgt := 9) dX2_addMonthAndN_60 (by decide) ?_
          refine n_L (L' := [some (.ref 9), none, some (.int x2), some (.int x3), some (.int y4), some (.int r3), some (.int (y6 + 12)), none]) (le_s (le_n (le_s (le_s (le_s (le_s (le_s (le_n (le_e))))))))) ?_
          exact ih _ _ _ _ h
      · replace h := h.2 c
        refine r_goto (pc := 31) (tgt := 57) dX2_addMonthAndN_31 (by decide) ?_
        refine n_iinc (pc := 57) (x := y6) (w := 12) (L' := [some (.ref 9), none, some (.int x2), some (.int x3), some (.int y4), some (.int y5), some (.int (y6 + 12)), some (.int r3)]) dX2_addMonthAndN_57 rfl (by decide) rfl (by decide) rfl ?_
        refine r_goto (pc := 60) (tgt := 9) dX2_addMonthAndN_60 (by decide) ?_
        refine n_L (L' := [some (.ref 9), none, some (.int x2), some (.int x3), some (.int y4), some (.int y5), some (.int (y6 + 12)), none]) (le_s (le_n (le_s (le_s (le_s (le_s (le_s (le_n (le_e))))))))) ?_
        exact ih _ _ _ _ h
def wpX2_addMonthAndN (x1 : Int32) (x2 : Int32) (x3 : Int32) (s : gS) (Q : gS → Prop) : Prop := ∃ n9, wX2_addMonthAndN_9 x1 x2 x3 Q n9 (-1) (-1) x1 s
set_option maxRecDepth 20000 in
theorem spX2_addMonthAndN {l : Launch} {x1 : Int32} {x2 : Int32} {x3 : Int32}  {s : gS} {Q : gS → Prop} (h : wpX2_addMonthAndN x1 x2 x3 s Q) : Ct l mX2_addMonthAndN 3 0 0 [.ref 9, .int x1, .int x2, .int x3] (nrm s) (q_v Q) := by
  refine Ct.of (by decide) (Nat.le_of_ble_eq_true rfl) (fun X => ?_)
  refine n_L (L' := [some (.ref 9), some (.int x1), some (.int x2), some (.int x3), none, none, none, none]) (le_s (le_s (le_s (le_s (le_p (le_p (le_p (le_p (le_e))))))))) ?_
  refine r_iconst (pc := 0) (v := (-1)) dX2_addMonthAndN_0 (by decide) ?_
  refine r_istore (pc := 1) (L' := [some (.ref 9), some (.int x1), some (.int x2), some (.int x3), some (.int (-1)), none, none, none]) dX2_addMonthAndN_1 rfl (by decide) rfl ?_
  refine r_iconst (pc := 3) (v := (-1)) dX2_addMonthAndN_3 (by decide) ?_
  refine r_istore (pc := 4) (L' := [some (.ref 9), some (.int x1), some (.int x2), some (.int x3), some (.int (-1)), some (.int (-1)), none, none]) dX2_addMonthAndN_4 rfl (by decide) rfl ?_
  refine r_iload_n (pc := 6) (x := x1) dX2_addMonthAndN_6 rfl ?_
  refine r_istore (pc := 7) (L' := [some (.ref 9), some (.int x1), some (.int x2), some (.int x3), some (.int (-1)), some (.int (-1)), some (.int x1), none]) dX2_addMonthAndN_7 rfl (by decide) rfl ?_
  refine n_L (L' := [some (.ref 9), none, some (.int x2), some (.int x3), some (.int (-1)), some (.int (-1)), some (.int x1), none]) (le_s (le_n (le_s (le_s (le_s (le_s (le_s (le_n (le_e))))))))) ?_
  obtain ⟨n, h⟩ := h
  exact pX2_addMonthAndN_9  n _ _ _ _ h 
def wpX2_addByMonths (x1 : Int32) (x2 : Int32) (x3 : Int32) (x4 : Int32) (x5 : Int32) (s : gS) (Q : gS → Prop) : Prop := (x1 = 7 → wpX2_addMonthName x2 x5 s (fun s1 => Q s1)) ∧ (x1 = 8 → wpX2_addMonthAndN x2 x3 x5 s (fun s2 => Q s2)) ∧ (x1 = 9 → wpX0_dayOf x4 (x2 + 1) x3 s (fun r3 s3 => wpX2_addDay r3 3 s3 (fun s4 => Q s4))) ∧ (x1 = 10 → isRd (gt1 s) ∧ (wpX5_addMonths (gt1 s) ((x2 - 2000) * 12) 12 3 3 s (fun s6 => Q s6))) ∧ (¬ x1 = 7 → ¬ x1 = 8 → ¬ x1 = 9 → ¬ x1 = 10 → Q s)
set_option maxRecDepth 20000 in
theorem spX2_addByMonths {l : Launch} {x1 : Int32} {x2 : Int32} {x3 : Int32} {x4 : Int32} {x5 : Int32}  {s : gS} {Q : gS → Prop} (h : wpX2_addByMonths x1 x2 x3 x4 x5 s Q) : Ct l mX2_addByMonths 4 0 0 [.ref 9, .int x1, .int x2, .int x3, .int x4, .int x5] (nrm s) (q_v Q) := by
  refine Ct.of (by decide) (Nat.le_of_ble_eq_true rfl) (fun X => ?_)
  refine n_L (L' := [some (.ref 9), some (.int x1), some (.int x2), some (.int x3), some (.int x4), some (.int x5)]) (le_s (le_s (le_s (le_s (le_s (le_s (le_e))))))) ?_
  refine r_iload_n (pc := 0) (x := x1) dX2_addByMonths_0 rfl ?_
  by_cases c7_0 : x1 = 7
  · replace h := h.1 c7_0
    refine r_tableIn (pc := 1) (off := 31) (tgt := 32) dX2_addByMonths_1 (by rw [c7_0]; decide) (by rw [c7_0]; decide) (by rw [c7_0]; decide) (by decide) ?_
    refine r_aload_n (pc := 32) (x := 9) dX2_addByMonths_32 rfl ?_
    refine r_iload_n (pc := 33) (x := x2) dX2_addByMonths_33 rfl ?_
    refine r_iload (pc := 34) (x := x5) dX2_addByMonths_34 rfl ?_
    refine n_Vv0 (pc := 36) (S0 := []) (spX2_addMonthName h) gmX2_addMonthName selX2_addMonthName lk_RX2_79 dX2_addByMonths_36 rfl (by decide) sh_9 ⟨rfl, by decide⟩ rfl ⟨Nat.le_of_ble_eq_true rfl, Nat.le_of_ble_eq_true rfl⟩ (Nat.le_of_ble_eq_true rfl) ⟨Nat.zero_le _, Nat.zero_le _⟩ (fun s1 h => ?_)
    refine r_goto (pc := 39) (tgt := 92) dX2_addByMonths_39 (by decide) ?_
    exact n_vret (pc := 92) dX2_addByMonths_92 rfl (Nat.le_refl _) (Nat.le_refl _) h
  by_cases c7_1 : x1 = 8
  · replace h := h.2.1 c7_1
    refine r_tableIn (pc := 1) (off := 41) (tgt := 42) dX2_addByMonths_1 (by rw [c7_1]; decide) (by rw [c7_1]; decide) (by rw [c7_1]; decide) (by decide) ?_
    refine r_aload_n (pc := 42) (x := 9) dX2_addByMonths_42 rfl ?_
    refine r_iload_n (pc := 43) (x := x2) dX2_addByMonths_43 rfl ?_
    refine r_iload_n (pc := 44) (x := x3) dX2_addByMonths_44 rfl ?_
    refine r_iload (pc := 45) (x := x5) dX2_addByMonths_45 rfl ?_
    refine n_Vv0 (pc := 47) (S0 := []) (spX2_addMonthAndN h) gmX2_addMonthAndN selX2_addMonthAndN lk_RX2_82 dX2_addByMonths_47 rfl (by decide) sh_9 ⟨rfl, by decide⟩ rfl ⟨Nat.le_of_ble_eq_true rfl, Nat.le_of_ble_eq_true rfl⟩ (Nat.le_of_ble_eq_true rfl) ⟨Nat.zero_le _, Nat.zero_le _⟩ (fun s2 h => ?_)
    refine r_goto (pc := 50) (tgt := 92) dX2_addByMonths_50 (by decide) ?_
    exact n_vret (pc := 92) dX2_addByMonths_92 rfl (Nat.le_refl _) (Nat.le_refl _) h
  by_cases c7_2 : x1 = 9
  · replace h := h.2.2.1 c7_2
    refine r_tableIn (pc := 1) (off := 52) (tgt := 53) dX2_addByMonths_1 (by rw [c7_2]; decide) (by rw [c7_2]; decide) (by rw [c7_2]; decide) (by decide) ?_
    refine r_aload_n (pc := 53) (x := 9) dX2_addByMonths_53 rfl ?_
    refine r_iload (pc := 54) (x := x4) dX2_addByMonths_54 rfl ?_
    refine r_iload_n (pc := 56) (x := x2) dX2_addByMonths_56 rfl ?_
    refine r_iconst (pc := 57) (v := 1) dX2_addByMonths_57 (by decide) ?_
    refine r_iadd (pc := 58) dX2_addByMonths_58 ?_
    refine r_iload_n (pc := 59) (x := x3) dX2_addByMonths_59 rfl ?_
    refine n_Si0 (pc := 60) (S0 := [.ref 9]) (spX0_dayOf h) gmX0_dayOf lk_RX2_85 dX2_addByMonths_60 rfl rfl ⟨Nat.le_of_ble_eq_true rfl, Nat.le_of_ble_eq_true rfl⟩ (Nat.le_of_ble_eq_true rfl) ⟨Nat.zero_le _, Nat.zero_le _⟩ (fun r3 s3 h => ?_)
    refine r_iconst (pc := 63) (v := 3) dX2_addByMonths_63 (by decide) ?_
    refine n_Vv0 (pc := 64) (S0 := []) (spX2_addDay h) gmX2_addDay selX2_addDay lk_RX2_76 dX2_addByMonths_64 rfl (by decide) sh_9 ⟨rfl, by decide⟩ rfl ⟨Nat.le_of_ble_eq_true rfl, Nat.le_of_ble_eq_true rfl⟩ (Nat.le_of_ble_eq_true rfl) ⟨Nat.zero_le _, Nat.zero_le _⟩ (fun s4 h => ?_)
    refine r_goto (pc := 67) (tgt := 92) dX2_addByMonths_67 (by decide) ?_
    exact n_vret (pc := 92) dX2_addByMonths_92 rfl (Nat.le_refl _) (Nat.le_refl _) h
  by_cases c7_3 : x1 = 10
  · replace h := h.2.2.2.1 c7_3
    refine r_tableIn (pc := 1) (off := 69) (tgt := 70) dX2_addByMonths_1 (by rw [c7_3]; decide) (by rw [c7_3]; decide) (by rw [c7_3]; decide) (by decide) ?_
    refine r_aload_n (pc := 70) (x := 9) dX2_addByMonths_70 rfl ?_
    obtain ⟨b5, h⟩ := h
    refine n_getR (pc := 71) (j := 1) (q := (gt1 s)) dX2_addByMonths_71 fl_RX2_18 (by decide) sh_9 rfl rfl rfl ?_
    refine r_iload_n (pc := 74) (x := x2) dX2_addByMonths_74 rfl ?_
    refine r_sipush (pc := 75) (v := 2000) dX2_addByMonths_75 (by decide) ?_
    refine r_isub (pc := 78) dX2_addByMonths_78 ?_
    refine r_bipush (pc := 79) (v := 12) dX2_addByMonths_79 (by decide) ?_
    refine r_imul (pc := 81) dX2_addByMonths_81 ?_
    refine r_bipush (pc := 82) (v := 12) dX2_addByMonths_82 (by decide) ?_
    refine r_iconst (pc := 84) (v := 3) dX2_addByMonths_84 (by decide) ?_
    refine r_iconst (pc := 85) (v := 3) dX2_addByMonths_85 (by decide) ?_
    refine n_Vv0 (pc := 86) (S0 := []) (spX5_addMonths b5 h) gmX5_addMonths selX5_addMonths lk_RX2_89 dX2_addByMonths_86 rfl (lt_Rd b5) (sh_Rd b5) ⟨rfl, by decide⟩ rfl ⟨Nat.le_of_ble_eq_true rfl, Nat.le_of_ble_eq_true rfl⟩ (Nat.le_of_ble_eq_true rfl) ⟨Nat.zero_le _, Nat.zero_le _⟩ (fun s6 h => ?_)
    refine r_goto (pc := 89) (tgt := 92) dX2_addByMonths_89 (by decide) ?_
    exact n_vret (pc := 92) dX2_addByMonths_92 rfl (Nat.le_refl _) (Nat.le_refl _) h
  replace h := h.2.2.2.2 c7_0 c7_1 c7_2 c7_3
  refine r_tableOut (pc := 1) (tgt := 92) dX2_addByMonths_1 (by have e0 := lv_neT c7_0 (show (7 : Int32).toInt = 7 by decide); have e1 := lv_neT c7_1 (show (8 : Int32).toInt = 8 by decide); have e2 := lv_neT c7_2 (show (9 : Int32).toInt = 9 by decide); have e3 := lv_neT c7_3 (show (10 : Int32).toInt = 10 by decide); omega) (by decide) ?_
  exact n_vret (pc := 92) dX2_addByMonths_92 rfl (Nat.le_refl _) (Nat.le_refl _) h
def wX2_addThird_83 (x1 : Int32) (x2 : Int32) (Q : gS → Prop)  (y3 : Int32) (y4 : Int32) (s : gS) : Prop := isRd (gt3 s) ∧ (isRd (gt1 s) ∧ (wpX5_value (gt1 s) x2 2 s (fun r7 s7 => isRd (gt1 s7) ∧ (wpX5_value (gt1 s7) x2 3 s7 (fun r9 s9 => wpX5_add (gt3 s) y3 y4 r7 r9 s9 (fun s10 => Q s10))))))
set_option maxRecDepth 20000 in
theorem pX2_addThird_83 {l : Launch} {X : gX} {x1 : Int32} {x2 : Int32}  {Q : gS → Prop}  (y3 : Int32) (y4 : Int32) (s : gS) (h : wX2_addThird_83 x1 x2 Q y3 y4 s)  : Gw l mX2_addThird (g_rm 2 0 0) X 83 [some (.ref 9), none, some (.int x2), some (.int y3), some (.int y4), none] [] (nrm s) 0 0 (g_Z X (q_v Q) 0 0) := by
  refine r_aload_n (pc := 83) (x := 9) dX2_addThird_83 rfl ?_
  obtain ⟨b5, h⟩ := h
  refine n_getR (pc := 84) (j := 3) (q := (gt3 s)) dX2_addThird_84 fl_RX2_24 (by decide) sh_9 rfl rfl rfl ?_
  refine r_iload_n (pc := 87) (x := y3) dX2_addThird_87 rfl ?_
  refine r_iload (pc := 88) (x := y4) dX2_addThird_88 rfl ?_
  refine r_aload_n (pc := 90) (x := 9) dX2_addThird_90 rfl ?_
  obtain ⟨b6, h⟩ := h
  refine n_getR (pc := 91) (j := 1) (q := (gt1 s)) dX2_addThird_91 fl_RX2_18 (by decide) sh_9 rfl rfl rfl ?_
  refine r_iload_n (pc := 94) (x := x2) dX2_addThird_94 rfl ?_
  refine r_iconst (pc := 95) (v := 2) dX2_addThird_95 (by decide) ?_
  refine n_Vi0 (pc := 96) (S0 := [.int y4, .int y3, .ref (gt3 s)]) (spX5_value b6 h) gmX5_value selX5_value lk_RX2_110 dX2_addThird_96 rfl (lt_Rd b6) (sh_Rd b6) ⟨rfl, by decide⟩ rfl ⟨Nat.le_of_ble_eq_true rfl, Nat.le_of_ble_eq_true rfl⟩ (Nat.le_of_ble_eq_true rfl) ⟨Nat.zero_le _, Nat.zero_le _⟩ (fun r7 s7 h => ?_)
  refine r_aload_n (pc := 99) (x := 9) dX2_addThird_99 rfl ?_
  obtain ⟨b8, h⟩ := h
  refine n_getR (pc := 100) (j := 1) (q := (gt1 s7)) dX2_addThird_100 fl_RX2_18 (by decide) sh_9 rfl rfl rfl ?_
  refine r_iload_n (pc := 103) (x := x2) dX2_addThird_103 rfl ?_
  refine r_iconst (pc := 104) (v := 3) dX2_addThird_104 (by decide) ?_
  refine n_Vi0 (pc := 105) (S0 := [.int r7, .int y4, .int y3, .ref (gt3 s)]) (spX5_value b8 h) gmX5_value selX5_value lk_RX2_110 dX2_addThird_105 rfl (lt_Rd b8) (sh_Rd b8) ⟨rfl, by decide⟩ rfl ⟨Nat.le_of_ble_eq_true rfl, Nat.le_of_ble_eq_true rfl⟩ (Nat.le_of_ble_eq_true rfl) ⟨Nat.zero_le _, Nat.zero_le _⟩ (fun r9 s9 h => ?_)
  refine n_Vv0 (pc := 108) (S0 := []) (spX5_add b5 h) gmX5_add selX5_add lk_RX2_92 dX2_addThird_108 rfl (lt_Rd b5) (sh_Rd b5) ⟨rfl, by decide⟩ rfl ⟨Nat.le_of_ble_eq_true rfl, Nat.le_of_ble_eq_true rfl⟩ (Nat.le_of_ble_eq_true rfl) ⟨Nat.zero_le _, Nat.zero_le _⟩ (fun s10 h => ?_)
  exact n_vret (pc := 111) dX2_addThird_111 rfl (Nat.le_refl _) (Nat.le_refl _) h
def wpX2_addThird (x1 : Int32) (x2 : Int32) (s : gS) (Q : gS → Prop) : Prop := isRd (gt1 s) ∧ (wpX5_value (gt1 s) x2 0 s (fun r2 s2 => isRd (gt1 s2) ∧ (wpX5_value (gt1 s2) x2 1 s2 (fun r4 s4 => (¬ (((r4 - r2) + 1) / 3) = 0 → (¬ x1 = 13 → (¬ x1 = 15 → wX2_addThird_83 x1 x2 Q (r2 + (((r4 - r2) + 1) / 3)) (r4 - (((r4 - r2) + 1) / 3)) s4) ∧ (x1 = 15 → wX2_addThird_83 x1 x2 Q ((r4 - (((r4 - r2) + 1) / 3)) + 1) r4 s4)) ∧ (x1 = 13 → wX2_addThird_83 x1 x2 Q r2 ((r2 + (((r4 - r2) + 1) / 3)) - 1) s4)) ∧ ((((r4 - r2) + 1) / 3) = 0 → Q s4)))))
set_option maxRecDepth 20000 in
theorem spX2_addThird {l : Launch} {x1 : Int32} {x2 : Int32}  {s : gS} {Q : gS → Prop} (h : wpX2_addThird x1 x2 s Q) : Ct l mX2_addThird 2 0 0 [.ref 9, .int x1, .int x2] (nrm s) (q_v Q) := by
  refine Ct.of (by decide) (Nat.le_of_ble_eq_true rfl) (fun X => ?_)
  refine n_L (L' := [some (.ref 9), some (.int x1), some (.int x2), none, none, none]) (le_s (le_s (le_s (le_p (le_p (le_p (le_e))))))) ?_
  refine r_aload_n (pc := 0) (x := 9) dX2_addThird_0 rfl ?_
  obtain ⟨b1, h⟩ := h
  refine n_getR (pc := 1) (j := 1) (q := (gt1 s)) dX2_addThird_1 fl_RX2_18 (by decide) sh_9 rfl rfl rfl ?_
  refine r_iload_n (pc := 4) (x := x2) dX2_addThird_4 rfl ?_
  refine r_iconst (pc := 5) (v := 0) dX2_addThird_5 (by decide) ?_
  refine n_Vi0 (pc := 6) (S0 := []) (spX5_value b1 h) gmX5_value selX5_value lk_RX2_110 dX2_addThird_6 rfl (lt_Rd b1) (sh_Rd b1) ⟨rfl, by decide⟩ rfl ⟨Nat.le_of_ble_eq_true rfl, Nat.le_of_ble_eq_true rfl⟩ (Nat.le_of_ble_eq_true rfl) ⟨Nat.zero_le _, Nat.zero_le _⟩ (fun r2 s2 h => ?_)
  refine r_istore_n (pc := 9) (L' := [some (.ref 9), some (.int x1), some (.int x2), some (.int r2), none, none]) dX2_addThird_9 rfl (by decide) rfl ?_
  refine r_aload_n (pc := 10) (x := 9) dX2_addThird_10 rfl ?_
  obtain ⟨b3, h⟩ := h
  refine n_getR (pc := 11) (j := 1) (q := (gt1 s2)) dX2_addThird_11 fl_RX2_18 (by decide) sh_9 rfl rfl rfl ?_
  refine r_iload_n (pc := 14) (x := x2) dX2_addThird_14 rfl ?_
  refine r_iconst (pc := 15) (v := 1) dX2_addThird_15 (by decide) ?_
  refine n_Vi0 (pc := 16) (S0 := []) (spX5_value b3 h) gmX5_value selX5_value lk_RX2_110 dX2_addThird_16 rfl (lt_Rd b3) (sh_Rd b3) ⟨rfl, by decide⟩ rfl ⟨Nat.le_of_ble_eq_true rfl, Nat.le_of_ble_eq_true rfl⟩ (Nat.le_of_ble_eq_true rfl) ⟨Nat.zero_le _, Nat.zero_le _⟩ (fun r4 s4 h => ?_)
  refine r_istore (pc := 19) (L' := [some (.ref 9), some (.int x1), some (.int x2), some (.int r2), some (.int r4), none]) dX2_addThird_19 rfl (by decide) rfl ?_
  refine r_iload (pc := 21) (x := r4) dX2_addThird_21 rfl ?_
  refine r_iload_n (pc := 23) (x := r2) dX2_addThird_23 rfl ?_
  refine r_isub (pc := 24) dX2_addThird_24 ?_
  refine r_iconst (pc := 25) (v := 1) dX2_addThird_25 (by decide) ?_
  refine r_iadd (pc := 26) dX2_addThird_26 ?_
  refine r_iconst (pc := 27) (v := 3) dX2_addThird_27 (by decide) ?_
  refine r_idiv (pc := 28) dX2_addThird_28 (by decide) ?_
  refine r_istore (pc := 29) (L' := [some (.ref 9), some (.int x1), some (.int x2), some (.int r2), some (.int r4), some (.int (((r4 - r2) + 1) / 3))]) dX2_addThird_29 rfl (by decide) rfl ?_
  refine r_iload (pc := 31) (x := ((r4 - r2) + 1) / 3) dX2_addThird_31 rfl ?_
  refine r_if_ne (pc := 33) (tgt := 37) dX2_addThird_33 (by decide) (fun c => ?_) (fun c => ?_)
  · replace h := h.1 c
    refine r_iload_n (pc := 37) (x := x1) dX2_addThird_37 rfl ?_
    refine r_bipush (pc := 38) (v := 13) dX2_addThird_38 (by decide) ?_
    refine r_icmp_ne (pc := 40) (tgt := 54) dX2_addThird_40 (by decide) (fun c => ?_) (fun c => ?_)
    · replace h := h.1 c
      refine r_iload_n (pc := 54) (x := x1) dX2_addThird_54 rfl ?_
      refine r_bipush (pc := 55) (v := 15) dX2_addThird_55 (by decide) ?_
      refine r_icmp_ne (pc := 57) (tgt := 71) dX2_addThird_57 (by decide) (fun c => ?_) (fun c => ?_)
      · replace h := h.1 c
        refine r_iload_n (pc := 71) (x := r2) dX2_addThird_71 rfl ?_
        refine r_iload (pc := 72) (x := ((r4 - r2) + 1) / 3) dX2_addThird_72 rfl ?_
        refine r_iadd (pc := 74) dX2_addThird_74 ?_
        refine r_istore_n (pc := 75) (L' := [some (.ref 9), some (.int x1), some (.int x2), some (.int (r2 + (((r4 - r2) + 1) / 3))), some (.int r4), some (.int (((r4 - r2) + 1) / 3))]) dX2_addThird_75 rfl (by decide) rfl ?_
        refine r_iload (pc := 76) (x := r4) dX2_addThird_76 rfl ?_
        refine r_iload (pc := 78) (x := ((r4 - r2) + 1) / 3) dX2_addThird_78 rfl ?_
        refine r_isub (pc := 80) dX2_addThird_80 ?_
        refine r_istore (pc := 81) (L' := [some (.ref 9), some (.int x1), some (.int x2), some (.int (r2 + (((r4 - r2) + 1) / 3))), some (.int (r4 - (((r4 - r2) + 1) / 3))), some (.int (((r4 - r2) + 1) / 3))]) dX2_addThird_81 rfl (by decide) rfl ?_
        refine n_L (L' := [some (.ref 9), none, some (.int x2), some (.int (r2 + (((r4 - r2) + 1) / 3))), some (.int (r4 - (((r4 - r2) + 1) / 3))), none]) (le_s (le_n (le_s (le_s (le_s (le_n (le_e))))))) ?_
        exact pX2_addThird_83  _ _ _ h 
      · replace h := h.2 c
        refine r_iload (pc := 60) (x := r4) dX2_addThird_60 rfl ?_
        refine r_iload (pc := 62) (x := ((r4 - r2) + 1) / 3) dX2_addThird_62 rfl ?_
        refine r_isub (pc := 64) dX2_addThird_64 ?_
        refine r_iconst (pc := 65) (v := 1) dX2_addThird_65 (by decide) ?_
        refine r_iadd (pc := 66) dX2_addThird_66 ?_
        refine r_istore_n (pc := 67) (L' := [some (.ref 9), some (.int x1), some (.int x2), some (.int ((r4 - (((r4 - r2) + 1) / 3)) + 1)), some (.int r4), some (.int (((r4 - r2) + 1) / 3))]) dX2_addThird_67 rfl (by decide) rfl ?_
        refine r_goto (pc := 68) (tgt := 83) dX2_addThird_68 (by decide) ?_
        refine n_L (L' := [some (.ref 9), none, some (.int x2), some (.int ((r4 - (((r4 - r2) + 1) / 3)) + 1)), some (.int r4), none]) (le_s (le_n (le_s (le_s (le_s (le_n (le_e))))))) ?_
        exact pX2_addThird_83  _ _ _ h 
    · replace h := h.2 c
      refine r_iload_n (pc := 43) (x := r2) dX2_addThird_43 rfl ?_
      refine r_iload (pc := 44) (x := ((r4 - r2) + 1) / 3) dX2_addThird_44 rfl ?_
      refine r_iadd (pc := 46) dX2_addThird_46 ?_
      refine r_iconst (pc := 47) (v := 1) dX2_addThird_47 (by decide) ?_
      refine r_isub (pc := 48) dX2_addThird_48 ?_
      refine r_istore (pc := 49) (L' := [some (.ref 9), some (.int x1), some (.int x2), some (.int r2), some (.int ((r2 + (((r4 - r2) + 1) / 3)) - 1)), some (.int (((r4 - r2) + 1) / 3))]) dX2_addThird_49 rfl (by decide) rfl ?_
      refine r_goto (pc := 51) (tgt := 83) dX2_addThird_51 (by decide) ?_
      refine n_L (L' := [some (.ref 9), none, some (.int x2), some (.int r2), some (.int ((r2 + (((r4 - r2) + 1) / 3)) - 1)), none]) (le_s (le_n (le_s (le_s (le_s (le_n (le_e))))))) ?_
      exact pX2_addThird_83  _ _ _ h 
  · replace h := h.2 c
    exact n_vret (pc := 36) dX2_addThird_36 rfl (Nat.le_refl _) (Nat.le_refl _) h
def wX2_change_94 (x1 : Int32) (x2 : Int32) (x3 : Int32) (Q : gS → Prop) (k10 : Int32 → gS → Prop) (y4 : Int32) (y7 : Int32) (z0 : Int32) (s : gS) : Prop := isRd (gt3 s) ∧ (wpX5_add (gt3 s) z0 z0 0 y7 s (fun s20 => k10 (y4 + 1) s20))
set_option maxRecDepth 20000 in
theorem pX2_change_94 {l : Launch} {X : gX} {x1 : Int32} {x2 : Int32} {x3 : Int32}  {Q : gS → Prop} {k10 : Int32 → gS → Prop} (y4 : Int32) (y7 : Int32) (z0 : Int32) (s : gS) (h : wX2_change_94 x1 x2 x3 Q k10 y4 y7 z0 s) (hk10 : ∀ (y4 : Int32) (s : gS), k10 y4 s → Gw l mX2_change (g_rm 4 0 0) X 10 [some (.ref 9), some (.int x1), some (.int x2), some (.int x3), some (.int y4), none, none, none, none] [] (nrm s) 0 0 (g_Z X (q_v Q) 0 0)) : Gw l mX2_change (g_rm 4 0 0) X 94 [some (.ref 9), some (.int x1), some (.int x2), some (.int x3), some (.int y4), none, none, some (.int y7), none] [.int z0] (nrm s) 0 0 (g_Z X (q_v Q) 0 0) := by
  refine r_istore (pc := 94) (L' := [some (.ref 9), some (.int x1), some (.int x2), some (.int x3), some (.int y4), none, none, some (.int y7), some (.int z0)]) dX2_change_94 rfl (by decide) rfl ?_
  refine r_aload_n (pc := 96) (x := 9) dX2_change_96 rfl ?_
  obtain ⟨b19, h⟩ := h
  refine n_getR (pc := 97) (j := 3) (q := (gt3 s)) dX2_change_97 fl_RX2_24 (by decide) sh_9 rfl rfl rfl ?_
  refine r_iload (pc := 100) (x := z0) dX2_change_100 rfl ?_
  refine r_iload (pc := 102) (x := z0) dX2_change_102 rfl ?_
  refine r_iconst (pc := 104) (v := 0) dX2_change_104 (by decide) ?_
  refine r_iload (pc := 105) (x := y7) dX2_change_105 rfl ?_
  refine n_Vv0 (pc := 107) (S0 := []) (spX5_add b19 h) gmX5_add selX5_add lk_RX2_92 dX2_change_107 rfl (lt_Rd b19) (sh_Rd b19) ⟨rfl, by decide⟩ rfl ⟨Nat.le_of_ble_eq_true rfl, Nat.le_of_ble_eq_true rfl⟩ (Nat.le_of_ble_eq_true rfl) ⟨Nat.zero_le _, Nat.zero_le _⟩ (fun s20 h => ?_)
  refine r_goto (pc := 110) (tgt := 191) dX2_change_110 (by decide) ?_
  refine n_iinc (pc := 191) (x := y4) (w := 1) (L' := [some (.ref 9), some (.int x1), some (.int x2), some (.int x3), some (.int (y4 + 1)), none, none, some (.int y7), some (.int z0)]) dX2_change_191 rfl (by decide) rfl (by decide) rfl ?_
  refine r_goto (pc := 194) (tgt := 10) dX2_change_194 (by decide) ?_
  refine n_L (L' := [some (.ref 9), some (.int x1), some (.int x2), some (.int x3), some (.int (y4 + 1)), none, none, none, none]) (le_s (le_s (le_s (le_s (le_s (le_n (le_n (le_n (le_n (le_e)))))))))) ?_
  exact hk10 _ _ h
def wX2_change_151 (x1 : Int32) (x2 : Int32) (x3 : Int32) (Q : gS → Prop) (k10 : Int32 → gS → Prop) (y4 : Int32) (y5 : Int32) (y6 : Int32) (y7 : Int32) (z0 : Int32) (s : gS) : Prop := (z0 < y5 → k10 (y4 + 1) s) ∧ (¬ (z0 < y5) → (y6 < z0 → k10 (y4 + 1) s) ∧ (¬ (y6 < z0) → isRd (gt3 s) ∧ (wpX5_add (gt3 s) z0 z0 0 y7 s (fun s16 => k10 (y4 + 1) s16))))
set_option maxRecDepth 20000 in
theorem pX2_change_151 {l : Launch} {X : gX} {x1 : Int32} {x2 : Int32} {x3 : Int32}  {Q : gS → Prop} {k10 : Int32 → gS → Prop} (y4 : Int32) (y5 : Int32) (y6 : Int32) (y7 : Int32) (z0 : Int32) (s : gS) (h : wX2_change_151 x1 x2 x3 Q k10 y4 y5 y6 y7 z0 s) (hk10 : ∀ (y4 : Int32) (s : gS), k10 y4 s → Gw l mX2_change (g_rm 4 0 0) X 10 [some (.ref 9), some (.int x1), some (.int x2), some (.int x3), some (.int y4), none, none, none, none] [] (nrm s) 0 0 (g_Z X (q_v Q) 0 0)) : Gw l mX2_change (g_rm 4 0 0) X 151 [some (.ref 9), some (.int x1), some (.int x2), some (.int x3), some (.int y4), some (.int y5), some (.int y6), some (.int y7), none] [.int z0] (nrm s) 0 0 (g_Z X (q_v Q) 0 0) := by
  refine r_istore (pc := 151) (L' := [some (.ref 9), some (.int x1), some (.int x2), some (.int x3), some (.int y4), some (.int y5), some (.int y6), some (.int y7), some (.int z0)]) dX2_change_151 rfl (by decide) rfl ?_
  refine r_iload (pc := 153) (x := z0) dX2_change_153 rfl ?_
  refine r_iload (pc := 155) (x := y5) dX2_change_155 rfl ?_
  refine r_icmp_lt (pc := 157) (tgt := 181) dX2_change_157 (by decide) (fun c => ?_) (fun c => ?_)
  · replace h := h.1 c
    refine r_goto (pc := 181) (tgt := 191) dX2_change_181 (by decide) ?_
    refine n_iinc (pc := 191) (x := y4) (w := 1) (L' := [some (.ref 9), some (.int x1), some (.int x2), some (.int x3), some (.int (y4 + 1)), some (.int y5), some (.int y6), some (.int y7), some (.int z0)]) dX2_change_191 rfl (by decide) rfl (by decide) rfl ?_
    refine r_goto (pc := 194) (tgt := 10) dX2_change_194 (by decide) ?_
    refine n_L (L' := [some (.ref 9), some (.int x1), some (.int x2), some (.int x3), some (.int (y4 + 1)), none, none, none, none]) (le_s (le_s (le_s (le_s (le_s (le_n (le_n (le_n (le_n (le_e)))))))))) ?_
    exact hk10 _ _ h
  · replace h := h.2 c
    refine r_iload (pc := 160) (x := z0) dX2_change_160 rfl ?_
    refine r_iload (pc := 162) (x := y6) dX2_change_162 rfl ?_
    refine r_icmp_gt (pc := 164) (tgt := 181) dX2_change_164 (by decide) (fun c => ?_) (fun c => ?_)
    · replace h := h.1 c
      refine r_goto (pc := 181) (tgt := 191) dX2_change_181 (by decide) ?_
      refine n_iinc (pc := 191) (x := y4) (w := 1) (L' := [some (.ref 9), some (.int x1), some (.int x2), some (.int x3), some (.int (y4 + 1)), some (.int y5), some (.int y6), some (.int y7), some (.int z0)]) dX2_change_191 rfl (by decide) rfl (by decide) rfl ?_
      refine r_goto (pc := 194) (tgt := 10) dX2_change_194 (by decide) ?_
      refine n_L (L' := [some (.ref 9), some (.int x1), some (.int x2), some (.int x3), some (.int (y4 + 1)), none, none, none, none]) (le_s (le_s (le_s (le_s (le_s (le_n (le_n (le_n (le_n (le_e)))))))))) ?_
      exact hk10 _ _ h
    · replace h := h.2 c
      refine r_aload_n (pc := 167) (x := 9) dX2_change_167 rfl ?_
      obtain ⟨b15, h⟩ := h
      refine n_getR (pc := 168) (j := 3) (q := (gt3 s)) dX2_change_168 fl_RX2_24 (by decide) sh_9 rfl rfl rfl ?_
      refine r_iload (pc := 171) (x := z0) dX2_change_171 rfl ?_
      refine r_iload (pc := 173) (x := z0) dX2_change_173 rfl ?_
      refine r_iconst (pc := 175) (v := 0) dX2_change_175 (by decide) ?_
      refine r_iload (pc := 176) (x := y7) dX2_change_176 rfl ?_
      refine n_Vv0 (pc := 178) (S0 := []) (spX5_add b15 h) gmX5_add selX5_add lk_RX2_92 dX2_change_178 rfl (lt_Rd b15) (sh_Rd b15) ⟨rfl, by decide⟩ rfl ⟨Nat.le_of_ble_eq_true rfl, Nat.le_of_ble_eq_true rfl⟩ (Nat.le_of_ble_eq_true rfl) ⟨Nat.zero_le _, Nat.zero_le _⟩ (fun s16 h => ?_)
      refine r_goto (pc := 181) (tgt := 191) dX2_change_181 (by decide) ?_
      refine n_iinc (pc := 191) (x := y4) (w := 1) (L' := [some (.ref 9), some (.int x1), some (.int x2), some (.int x3), some (.int (y4 + 1)), some (.int y5), some (.int y6), some (.int y7), some (.int z0)]) dX2_change_191 rfl (by decide) rfl (by decide) rfl ?_
      refine r_goto (pc := 194) (tgt := 10) dX2_change_194 (by decide) ?_
      refine n_L (L' := [some (.ref 9), some (.int x1), some (.int x2), some (.int x3), some (.int (y4 + 1)), none, none, none, none]) (le_s (le_s (le_s (le_s (le_s (le_n (le_n (le_n (le_n (le_e)))))))))) ?_
      exact hk10 _ _ h
def wX2_change_70 (x1 : Int32) (x2 : Int32) (x3 : Int32) (Q : gS → Prop) (k10 : Int32 → gS → Prop) (y4 : Int32) (y5 : Int32) (y6 : Int32) (y7 : Int32) (s : gS) : Prop := (¬ x1 = 11 → wpX0_move y5 x2 (-x3) s (fun r3 s3 => wX2_change_94 x1 x2 x3 Q k10 y4 y7 r3 s3)) ∧ (x1 = 11 → wpX0_move y6 x2 x3 s (fun r4 s4 => wX2_change_94 x1 x2 x3 Q k10 y4 y7 r4 s4))
set_option maxRecDepth 20000 in
theorem pX2_change_70 {l : Launch} {X : gX} {x1 : Int32} {x2 : Int32} {x3 : Int32}  {Q : gS → Prop} {k10 : Int32 → gS → Prop} (y4 : Int32) (y5 : Int32) (y6 : Int32) (y7 : Int32) (s : gS) (h : wX2_change_70 x1 x2 x3 Q k10 y4 y5 y6 y7 s) (hk10 : ∀ (y4 : Int32) (s : gS), k10 y4 s → Gw l mX2_change (g_rm 4 0 0) X 10 [some (.ref 9), some (.int x1), some (.int x2), some (.int x3), some (.int y4), none, none, none, none] [] (nrm s) 0 0 (g_Z X (q_v Q) 0 0)) : Gw l mX2_change (g_rm 4 0 0) X 70 [some (.ref 9), some (.int x1), some (.int x2), some (.int x3), some (.int y4), some (.int y5), some (.int y6), some (.int y7), none] [] (nrm s) 0 0 (g_Z X (q_v Q) 0 0) := by
  refine r_iload_n (pc := 70) (x := x1) dX2_change_70 rfl ?_
  refine r_bipush (pc := 71) (v := 11) dX2_change_71 (by decide) ?_
  refine r_icmp_ne (pc := 73) (tgt := 86) dX2_change_73 (by decide) (fun c => ?_) (fun c => ?_)
  · replace h := h.1 c
    refine r_iload (pc := 86) (x := y5) dX2_change_86 rfl ?_
    refine r_iload_n (pc := 88) (x := x2) dX2_change_88 rfl ?_
    refine r_iload_n (pc := 89) (x := x3) dX2_change_89 rfl ?_
    refine r_ineg (pc := 90) dX2_change_90 ?_
    refine n_Si0 (pc := 91) (S0 := []) (spX0_move h) gmX0_move lk_RX2_98 dX2_change_91 rfl rfl ⟨Nat.le_of_ble_eq_true rfl, Nat.le_of_ble_eq_true rfl⟩ (Nat.le_of_ble_eq_true rfl) ⟨Nat.zero_le _, Nat.zero_le _⟩ (fun r3 s3 h => ?_)
    refine n_L (L' := [some (.ref 9), some (.int x1), some (.int x2), some (.int x3), some (.int y4), none, none, some (.int y7), none]) (le_s (le_s (le_s (le_s (le_s (le_n (le_n (le_s (le_n (le_e)))))))))) ?_
    exact pX2_change_94  _ _ _ _ h hk10
  · replace h := h.2 c
    refine r_iload (pc := 76) (x := y6) dX2_change_76 rfl ?_
    refine r_iload_n (pc := 78) (x := x2) dX2_change_78 rfl ?_
    refine r_iload_n (pc := 79) (x := x3) dX2_change_79 rfl ?_
    refine n_Si0 (pc := 80) (S0 := []) (spX0_move h) gmX0_move lk_RX2_98 dX2_change_80 rfl rfl ⟨Nat.le_of_ble_eq_true rfl, Nat.le_of_ble_eq_true rfl⟩ (Nat.le_of_ble_eq_true rfl) ⟨Nat.zero_le _, Nat.zero_le _⟩ (fun r4 s4 h => ?_)
    refine r_goto (pc := 83) (tgt := 94) dX2_change_83 (by decide) ?_
    refine n_L (L' := [some (.ref 9), some (.int x1), some (.int x2), some (.int x3), some (.int y4), none, none, some (.int y7), none]) (le_s (le_s (le_s (le_s (le_s (le_n (le_n (le_s (le_n (le_e)))))))))) ?_
    exact pX2_change_94  _ _ _ _ h hk10
def wX2_change_125 (x1 : Int32) (x2 : Int32) (x3 : Int32) (Q : gS → Prop) (k10 : Int32 → gS → Prop) (y4 : Int32) (y5 : Int32) (y6 : Int32) (y7 : Int32) (s : gS) : Prop := (¬ x1 = 16 → wpX0_named x2 (y6 + 1) s (fun r17 s17 => wX2_change_151 x1 x2 x3 Q k10 y4 y5 y6 y7 (r17 - 7) s17)) ∧ (x1 = 16 → wpX0_named x2 y5 s (fun r18 s18 => wX2_change_151 x1 x2 x3 Q k10 y4 y5 y6 y7 r18 s18))
set_option maxRecDepth 20000 in
theorem pX2_change_125 {l : Launch} {X : gX} {x1 : Int32} {x2 : Int32} {x3 : Int32}  {Q : gS → Prop} {k10 : Int32 → gS → Prop} (y4 : Int32) (y5 : Int32) (y6 : Int32) (y7 : Int32) (s : gS) (h : wX2_change_125 x1 x2 x3 Q k10 y4 y5 y6 y7 s) (hk10 : ∀ (y4 : Int32) (s : gS), k10 y4 s → Gw l mX2_change (g_rm 4 0 0) X 10 [some (.ref 9), some (.int x1), some (.int x2), some (.int x3), some (.int y4), none, none, none, none] [] (nrm s) 0 0 (g_Z X (q_v Q) 0 0)) : Gw l mX2_change (g_rm 4 0 0) X 125 [some (.ref 9), some (.int x1), some (.int x2), some (.int x3), some (.int y4), some (.int y5), some (.int y6), some (.int y7), none] [] (nrm s) 0 0 (g_Z X (q_v Q) 0 0) := by
  refine r_iload_n (pc := 125) (x := x1) dX2_change_125 rfl ?_
  refine r_bipush (pc := 126) (v := 16) dX2_change_126 (by decide) ?_
  refine r_icmp_ne (pc := 128) (tgt := 140) dX2_change_128 (by decide) (fun c => ?_) (fun c => ?_)
  · replace h := h.1 c
    refine r_iload_n (pc := 140) (x := x2) dX2_change_140 rfl ?_
    refine r_iload (pc := 141) (x := y6) dX2_change_141 rfl ?_
    refine r_iconst (pc := 143) (v := 1) dX2_change_143 (by decide) ?_
    refine r_iadd (pc := 144) dX2_change_144 ?_
    refine n_Si0 (pc := 145) (S0 := []) (spX0_named h) gmX0_named lk_RX2_73 dX2_change_145 rfl rfl ⟨Nat.le_of_ble_eq_true rfl, Nat.le_of_ble_eq_true rfl⟩ (Nat.le_of_ble_eq_true rfl) ⟨Nat.zero_le _, Nat.zero_le _⟩ (fun r17 s17 h => ?_)
    refine r_bipush (pc := 148) (v := 7) dX2_change_148 (by decide) ?_
    refine r_isub (pc := 150) dX2_change_150 ?_
    refine n_L (L' := [some (.ref 9), some (.int x1), some (.int x2), some (.int x3), some (.int y4), some (.int y5), some (.int y6), some (.int y7), none]) (le_s (le_s (le_s (le_s (le_s (le_s (le_s (le_s (le_n (le_e)))))))))) ?_
    exact pX2_change_151  _ _ _ _ _ _ h hk10
  · replace h := h.2 c
    refine r_iload_n (pc := 131) (x := x2) dX2_change_131 rfl ?_
    refine r_iload (pc := 132) (x := y5) dX2_change_132 rfl ?_
    refine n_Si0 (pc := 134) (S0 := []) (spX0_named h) gmX0_named lk_RX2_73 dX2_change_134 rfl rfl ⟨Nat.le_of_ble_eq_true rfl, Nat.le_of_ble_eq_true rfl⟩ (Nat.le_of_ble_eq_true rfl) ⟨Nat.zero_le _, Nat.zero_le _⟩ (fun r18 s18 h => ?_)
    refine r_goto (pc := 137) (tgt := 151) dX2_change_137 (by decide) ?_
    refine n_L (L' := [some (.ref 9), some (.int x1), some (.int x2), some (.int x3), some (.int y4), some (.int y5), some (.int y6), some (.int y7), none]) (le_s (le_s (le_s (le_s (le_s (le_s (le_s (le_s (le_n (le_e)))))))))) ?_
    exact pX2_change_151  _ _ _ _ _ _ h hk10
def wX2_change_10 (x1 : Int32) (x2 : Int32) (x3 : Int32) (Q : gS → Prop)  : Nat → Int32 → gS → Prop
  | 0, _, _ => False
  | n + 1, y4, s => isRd (gt1 s) ∧ (((gi s (gt1 s) 1) ≤ y4 → isRd (gt3 s) ∧ (isRd (gt1 s) ∧ (Q (wt1 (wt3 s (gt1 s)) (gt3 s))))) ∧ (¬ ((gi s (gt1 s) 1) ≤ y4) → isRd (gt1 s) ∧ (wpX5_value (gt1 s) y4 0 s (fun r9 s9 => isRd (gt1 s9) ∧ (wpX5_value (gt1 s9) y4 1 s9 (fun r11 s11 => isRd (gt1 s11) ∧ (wpX5_value (gt1 s11) y4 3 s11 (fun r13 s13 => (x1 = 11 → wX2_change_70 x1 x2 x3 Q (fun y4 s => wX2_change_10 x1 x2 x3 Q n y4 s) y4 r9 r11 r13 s13) ∧ (¬ (x1 = 11) → (¬ x1 = 12 → (x1 = 16 → wX2_change_125 x1 x2 x3 Q (fun y4 s => wX2_change_10 x1 x2 x3 Q n y4 s) y4 r9 r11 r13 s13) ∧ (¬ (x1 = 16) → (¬ x1 = 17 → wpX2_addThird x1 y4 s13 (fun s14 => wX2_change_10 x1 x2 x3 Q n (y4 + 1) s14)) ∧ (x1 = 17 → wX2_change_125 x1 x2 x3 Q (fun y4 s => wX2_change_10 x1 x2 x3 Q n y4 s) y4 r9 r11 r13 s13))) ∧ (x1 = 12 → wX2_change_70 x1 x2 x3 Q (fun y4 s => wX2_change_10 x1 x2 x3 Q n y4 s) y4 r9 r11 r13 s13))))))))))
set_option maxRecDepth 20000 in
theorem pX2_change_10 {l : Launch} {X : gX} {x1 : Int32} {x2 : Int32} {x3 : Int32}  {Q : gS → Prop}  : ∀ (n : Nat) (y4 : Int32) (s : gS) (h : wX2_change_10 x1 x2 x3 Q n y4 s) , Gw l mX2_change (g_rm 4 0 0) X 10 [some (.ref 9), some (.int x1), some (.int x2), some (.int x3), some (.int y4), none, none, none, none] [] (nrm s) 0 0 (g_Z X (q_v Q) 0 0) := by
  intro n
  induction n with
  | zero => intro y4 s h; exact h.elim
  | succ n ih0 =>
    intro y4 s h 
    have ih : ∀ (y4 : Int32) (s : gS), wX2_change_10 x1 x2 x3 Q n y4 s → Gw l mX2_change (g_rm 4 0 0) X 10 [some (.ref 9), some (.int x1), some (.int x2), some (.int x3), some (.int y4), none, none, none, none] [] (nrm s) 0 0 (g_Z X (q_v Q) 0 0) := fun y4 s h => ih0 y4 s h 
    refine r_iload (pc := 10) (x := y4) dX2_change_10 rfl ?_
    refine r_aload_n (pc := 12) (x := 9) dX2_change_12 rfl ?_
    obtain ⟨b5, h⟩ := h
    refine n_getR (pc := 13) (j := 1) (q := (gt1 s)) dX2_change_13 fl_RX2_18 (by decide) sh_9 rfl rfl rfl ?_
    refine n_getI (pc := 16) (j := 1) dX2_change_16 fl_RX2_34 (lt_Rd b5) (sh_Rd b5) rfl rfl ?_
    refine r_icmp_ge (pc := 19) (tgt := 197) dX2_change_19 (by decide) (fun c => ?_) (fun c => ?_)
    · replace h := h.1 c
      refine r_aload_n (pc := 197) (x := 9) dX2_change_197 rfl ?_
      obtain ⟨b6, h⟩ := h
      refine n_getR (pc := 198) (j := 3) (q := (gt3 s)) dX2_change_198 fl_RX2_24 (by decide) sh_9 rfl rfl rfl ?_
      refine r_astore (pc := 201) (L' := [some (.ref 9), some (.int x1), some (.int x2), some (.int x3), some (.ref (gt3 s)), none, none, none, none]) dX2_change_201 rfl (by decide) rfl ?_
      refine r_aload_n (pc := 203) (x := 9) dX2_change_203 rfl ?_
      refine r_aload_n (pc := 204) (x := 9) dX2_change_204 rfl ?_
      obtain ⟨b7, h⟩ := h
      refine n_getR (pc := 205) (j := 1) (q := (gt1 s)) dX2_change_205 fl_RX2_18 (by decide) sh_9 rfl rfl rfl ?_
      refine n_putR3 (pc := 208) dX2_change_208 fl_RX2_24 fw_2_3 (Or.inl ⟨_, rfl⟩) ?_
      refine r_aload_n (pc := 211) (x := 9) dX2_change_211 rfl ?_
      refine r_aload (pc := 212) (x := (gt3 s)) dX2_change_212 rfl ?_
      refine n_putR1 (pc := 214) dX2_change_214 fl_RX2_18 fw_2_1 (Or.inl ⟨_, rfl⟩) ?_
      exact n_vret (pc := 217) dX2_change_217 rfl (Nat.le_refl _) (Nat.le_refl _) h
    · replace h := h.2 c
      refine r_aload_n (pc := 22) (x := 9) dX2_change_22 rfl ?_
      obtain ⟨b8, h⟩ := h
      refine n_getR (pc := 23) (j := 1) (q := (gt1 s)) dX2_change_23 fl_RX2_18 (by decide) sh_9 rfl rfl rfl ?_
      refine r_iload (pc := 26) (x := y4) dX2_change_26 rfl ?_
      refine r_iconst (pc := 28) (v := 0) dX2_change_28 (by decide) ?_
      refine n_Vi0 (pc := 29) (S0 := []) (spX5_value b8 h) gmX5_value selX5_value lk_RX2_110 dX2_change_29 rfl (lt_Rd b8) (sh_Rd b8) ⟨rfl, by decide⟩ rfl ⟨Nat.le_of_ble_eq_true rfl, Nat.le_of_ble_eq_true rfl⟩ (Nat.le_of_ble_eq_true rfl) ⟨Nat.zero_le _, Nat.zero_le _⟩ (fun r9 s9 h => ?_)
      refine r_istore (pc := 32) (L' := [some (.ref 9), some (.int x1), some (.int x2), some (.int x3), some (.int y4), some (.int r9), none, none, none]) dX2_change_32 rfl (by decide) rfl ?_
      refine r_aload_n (pc := 34) (x := 9) dX2_change_34 rfl ?_
      obtain ⟨b10, h⟩ := h
      refine n_getR (pc := 35) (j := 1) (q := (gt1 s9)) dX2_change_35 fl_RX2_18 (by decide) sh_9 rfl rfl rfl ?_
      refine r_iload (pc := 38) (x := y4) dX2_change_38 rfl ?_
      refine r_iconst (pc := 40) (v := 1) dX2_change_40 (by decide) ?_
      refine n_Vi0 (pc := 41) (S0 := []) (spX5_value b10 h) gmX5_value selX5_value lk_RX2_110 dX2_change_41 rfl (lt_Rd b10) (sh_Rd b10) ⟨rfl, by decide⟩ rfl ⟨Nat.le_of_ble_eq_true rfl, Nat.le_of_ble_eq_true rfl⟩ (Nat.le_of_ble_eq_true rfl) ⟨Nat.zero_le _, Nat.zero_le _⟩ (fun r11 s11 h => ?_)
      refine r_istore (pc := 44) (L' := [some (.ref 9), some (.int x1), some (.int x2), some (.int x3), some (.int y4), some (.int r9), some (.int r11), none, none]) dX2_change_44 rfl (by decide) rfl ?_
      refine r_aload_n (pc := 46) (x := 9) dX2_change_46 rfl ?_
      obtain ⟨b12, h⟩ := h
      refine n_getR (pc := 47) (j := 1) (q := (gt1 s11)) dX2_change_47 fl_RX2_18 (by decide) sh_9 rfl rfl rfl ?_
      refine r_iload (pc := 50) (x := y4) dX2_change_50 rfl ?_
      refine r_iconst (pc := 52) (v := 3) dX2_change_52 (by decide) ?_
      refine n_Vi0 (pc := 53) (S0 := []) (spX5_value b12 h) gmX5_value selX5_value lk_RX2_110 dX2_change_53 rfl (lt_Rd b12) (sh_Rd b12) ⟨rfl, by decide⟩ rfl ⟨Nat.le_of_ble_eq_true rfl, Nat.le_of_ble_eq_true rfl⟩ (Nat.le_of_ble_eq_true rfl) ⟨Nat.zero_le _, Nat.zero_le _⟩ (fun r13 s13 h => ?_)
      refine r_istore (pc := 56) (L' := [some (.ref 9), some (.int x1), some (.int x2), some (.int x3), some (.int y4), some (.int r9), some (.int r11), some (.int r13), none]) dX2_change_56 rfl (by decide) rfl ?_
      refine r_iload_n (pc := 58) (x := x1) dX2_change_58 rfl ?_
      refine r_bipush (pc := 59) (v := 11) dX2_change_59 (by decide) ?_
      refine r_icmp_eq (pc := 61) (tgt := 70) dX2_change_61 (by decide) (fun c => ?_) (fun c => ?_)
      · replace h := h.1 c
        refine n_L (L' := [some (.ref 9), some (.int x1), some (.int x2), some (.int x3), some (.int y4), some (.int r9), some (.int r11), some (.int r13), none]) (le_s (le_s (le_s (le_s (le_s (le_s (le_s (le_s (le_n (le_e)))))))))) ?_
        exact pX2_change_70  _ _ _ _ _ h ih
      · replace h := h.2 c
        refine r_iload_n (pc := 64) (x := x1) dX2_change_64 rfl ?_
        refine r_bipush (pc := 65) (v := 12) dX2_change_65 (by decide) ?_
        refine r_icmp_ne (pc := 67) (tgt := 113) dX2_change_67 (by decide) (fun c => ?_) (fun c => ?_)
        · replace h := h.1 c
          refine r_iload_n (pc := 113) (x := x1) dX2_change_113 rfl ?_
          refine r_bipush (pc := 114) (v := 16) dX2_change_114 (by decide) ?_
          refine r_icmp_eq (pc := 116) (tgt := 125) dX2_change_116 (by decide) (fun c => ?_) (fun c => ?_)
          · replace h := h.1 c
            refine n_L (L' := [some (.ref 9), some (.int x1), some (.int x2), some (.int x3), some (.int y4), some (.int r9), some (.int r11), some (.int r13), none]) (le_s (le_s (le_s (le_s (le_s (le_s (le_s (le_s (le_n (le_e)))))))))) ?_
            exact pX2_change_125  _ _ _ _ _ h ih
          · replace h := h.2 c
            refine r_iload_n (pc := 119) (x := x1) dX2_change_119 rfl ?_
            refine r_bipush (pc := 120) (v := 17) dX2_change_120 (by decide) ?_
            refine r_icmp_ne (pc := 122) (tgt := 184) dX2_change_122 (by decide) (fun c => ?_) (fun c => ?_)
            · replace h := h.1 c
              refine r_aload_n (pc := 184) (x := 9) dX2_change_184 rfl ?_
              refine r_iload_n (pc := 185) (x := x1) dX2_change_185 rfl ?_
              refine r_iload (pc := 186) (x := y4) dX2_change_186 rfl ?_
              refine n_Vv0 (pc := 188) (S0 := []) (spX2_addThird h) gmX2_addThird selX2_addThird lk_RX2_113 dX2_change_188 rfl (by decide) sh_9 ⟨rfl, by decide⟩ rfl ⟨Nat.le_of_ble_eq_true rfl, Nat.le_of_ble_eq_true rfl⟩ (Nat.le_of_ble_eq_true rfl) ⟨Nat.zero_le _, Nat.zero_le _⟩ (fun s14 h => ?_)
              refine n_iinc (pc := 191) (x := y4) (w := 1) (L' := [some (.ref 9), some (.int x1), some (.int x2), some (.int x3), some (.int (y4 + 1)), some (.int r9), some (.int r11), some (.int r13), none]) dX2_change_191 rfl (by decide) rfl (by decide) rfl ?_
              refine r_goto (pc := 194) (tgt := 10) dX2_change_194 (by decide) ?_
              refine n_L (L' := [some (.ref 9), some (.int x1), some (.int x2), some (.int x3), some (.int (y4 + 1)), none, none, none, none]) (le_s (le_s (le_s (le_s (le_s (le_n (le_n (le_n (le_n (le_e)))))))))) ?_
              exact ih _ _ h
            · replace h := h.2 c
              refine n_L (L' := [some (.ref 9), some (.int x1), some (.int x2), some (.int x3), some (.int y4), some (.int r9), some (.int r11), some (.int r13), none]) (le_s (le_s (le_s (le_s (le_s (le_s (le_s (le_s (le_n (le_e)))))))))) ?_
              exact pX2_change_125  _ _ _ _ _ h ih
        · replace h := h.2 c
          refine n_L (L' := [some (.ref 9), some (.int x1), some (.int x2), some (.int x3), some (.int y4), some (.int r9), some (.int r11), some (.int r13), none]) (le_s (le_s (le_s (le_s (le_s (le_s (le_s (le_s (le_n (le_e)))))))))) ?_
          exact pX2_change_70  _ _ _ _ _ h ih
def wpX2_change (x1 : Int32) (x2 : Int32) (x3 : Int32) (s : gS) (Q : gS → Prop) : Prop := isRd (gt3 s) ∧ (wpX5_clear (gt3 s) s (fun s2 => ∃ n10, wX2_change_10 x1 x2 x3 Q n10 0 s2))
set_option maxRecDepth 20000 in
theorem spX2_change {l : Launch} {x1 : Int32} {x2 : Int32} {x3 : Int32}  {s : gS} {Q : gS → Prop} (h : wpX2_change x1 x2 x3 s Q) : Ct l mX2_change 4 0 0 [.ref 9, .int x1, .int x2, .int x3] (nrm s) (q_v Q) := by
  refine Ct.of (by decide) (Nat.le_of_ble_eq_true rfl) (fun X => ?_)
  refine n_L (L' := [some (.ref 9), some (.int x1), some (.int x2), some (.int x3), none, none, none, none, none]) (le_s (le_s (le_s (le_s (le_p (le_p (le_p (le_p (le_p (le_e)))))))))) ?_
  refine r_aload_n (pc := 0) (x := 9) dX2_change_0 rfl ?_
  obtain ⟨b1, h⟩ := h
  refine n_getR (pc := 1) (j := 3) (q := (gt3 s)) dX2_change_1 fl_RX2_24 (by decide) sh_9 rfl rfl rfl ?_
  refine n_Vv0 (pc := 4) (S0 := []) (spX5_clear b1 h) gmX5_clear selX5_clear lk_RX2_27 dX2_change_4 rfl (lt_Rd b1) (sh_Rd b1) ⟨rfl, by decide⟩ rfl ⟨Nat.le_of_ble_eq_true rfl, Nat.le_of_ble_eq_true rfl⟩ (Nat.le_of_ble_eq_true rfl) ⟨Nat.zero_le _, Nat.zero_le _⟩ (fun s2 h => ?_)
  refine r_iconst (pc := 7) (v := 0) dX2_change_7 (by decide) ?_
  refine r_istore (pc := 8) (L' := [some (.ref 9), some (.int x1), some (.int x2), some (.int x3), some (.int 0), none, none, none, none]) dX2_change_8 rfl (by decide) rfl ?_
  refine n_L (L' := [some (.ref 9), some (.int x1), some (.int x2), some (.int x3), some (.int 0), none, none, none, none]) (le_s (le_s (le_s (le_s (le_s (le_n (le_n (le_n (le_n (le_e)))))))))) ?_
  obtain ⟨n, h⟩ := h
  exact pX2_change_10  n _ _ h 
def wX2_join_15 (x1 : Int32) (Q : gS → Prop) (k2 : Int32 → gS → Prop) : Nat → Int32 → Int32 → gS → Prop
  | 0, _, _, _ => False
  | n + 1, y2, y3, s => isRd (gt1 s) ∧ (((gi s (gt1 s) 1) ≤ y3 → k2 (y2 + 1) s) ∧ (¬ ((gi s (gt1 s) 1) ≤ y3) → isRd (gt2 s) ∧ (wpX5_value (gt2 s) y2 0 s (fun r4 s4 => isRd (gt1 s4) ∧ (wpX5_value (gt1 s4) y3 1 s4 (fun r6 s6 => (r6 < r4 → wX2_join_15 x1 Q k2 n y2 (y3 + 1) s6) ∧ (¬ (r6 < r4) → isRd (gt2 s6) ∧ (wpX5_value (gt2 s6) y2 2 s6 (fun r8 s8 => isRd (gt1 s8) ∧ (wpX5_value (gt1 s8) y3 2 s8 (fun r10 s10 => isRd (gt2 s10) ∧ (wpX5_value (gt2 s10) y2 3 s10 (fun r12 s12 => isRd (gt1 s12) ∧ (wpX5_value (gt1 s12) y3 3 s12 (fun r14 s14 => wpX5_merge 10 r4 r6 (jmax r8 r10) (jmin (jmin r12 r14) x1) s14 (fun s15 => wX2_join_15 x1 Q k2 n y2 (y3 + 1) s15))))))))))))))))
set_option maxRecDepth 20000 in
theorem pX2_join_15 {l : Launch} {X : gX} {x1 : Int32}  {Q : gS → Prop} {k2 : Int32 → gS → Prop} : ∀ (n : Nat) (y2 : Int32) (y3 : Int32) (s : gS) (h : wX2_join_15 x1 Q k2 n y2 y3 s) (hk2 : ∀ (y2 : Int32) (s : gS), k2 y2 s → Gw l mX2_join (g_rm 3 0 0) X 2 [some (.ref 9), some (.int x1), some (.int y2), none, none, none, none, none] [] (nrm s) 0 0 (g_Z X (q_v Q) 0 0)), Gw l mX2_join (g_rm 3 0 0) X 15 [some (.ref 9), some (.int x1), some (.int y2), some (.int y3), none, none, none, none] [] (nrm s) 0 0 (g_Z X (q_v Q) 0 0) := by
  intro n
  induction n with
  | zero => intro y2 y3 s h; exact h.elim
  | succ n ih0 =>
    intro y2 y3 s h hk2
    have ih : ∀ (y2 : Int32) (y3 : Int32) (s : gS), wX2_join_15 x1 Q k2 n y2 y3 s → Gw l mX2_join (g_rm 3 0 0) X 15 [some (.ref 9), some (.int x1), some (.int y2), some (.int y3), none, none, none, none] [] (nrm s) 0 0 (g_Z X (q_v Q) 0 0) := fun y2 y3 s h => ih0 y2 y3 s h hk2
    refine r_iload_n (pc := 15) (x := y3) dX2_join_15 rfl ?_
    refine r_aload_n (pc := 16) (x := 9) dX2_join_16 rfl ?_
    obtain ⟨b2, h⟩ := h
    refine n_getR (pc := 17) (j := 1) (q := (gt1 s)) dX2_join_17 fl_RX2_18 (by decide) sh_9 rfl rfl rfl ?_
    refine n_getI (pc := 20) (j := 1) dX2_join_20 fl_RX2_34 (lt_Rd b2) (sh_Rd b2) rfl rfl ?_
    refine r_icmp_ge (pc := 23) (tgt := 126) dX2_join_23 (by decide) (fun c => ?_) (fun c => ?_)
    · replace h := h.1 c
      refine n_iinc (pc := 126) (x := y2) (w := 1) (L' := [some (.ref 9), some (.int x1), some (.int (y2 + 1)), some (.int y3), none, none, none, none]) dX2_join_126 rfl (by decide) rfl (by decide) rfl ?_
      refine r_goto (pc := 129) (tgt := 2) dX2_join_129 (by decide) ?_
      refine n_L (L' := [some (.ref 9), some (.int x1), some (.int (y2 + 1)), none, none, none, none, none]) (le_s (le_s (le_s (le_n (le_n (le_n (le_n (le_n (le_e))))))))) ?_
      exact hk2 _ _ h
    · replace h := h.2 c
      refine r_aload_n (pc := 26) (x := 9) dX2_join_26 rfl ?_
      obtain ⟨b3, h⟩ := h
      refine n_getR (pc := 27) (j := 2) (q := (gt2 s)) dX2_join_27 fl_RX2_21 (by decide) sh_9 rfl rfl rfl ?_
      refine r_iload_n (pc := 30) (x := y2) dX2_join_30 rfl ?_
      refine r_iconst (pc := 31) (v := 0) dX2_join_31 (by decide) ?_
      refine n_Vi0 (pc := 32) (S0 := []) (spX5_value b3 h) gmX5_value selX5_value lk_RX2_110 dX2_join_32 rfl (lt_Rd b3) (sh_Rd b3) ⟨rfl, by decide⟩ rfl ⟨Nat.le_of_ble_eq_true rfl, Nat.le_of_ble_eq_true rfl⟩ (Nat.le_of_ble_eq_true rfl) ⟨Nat.zero_le _, Nat.zero_le _⟩ (fun r4 s4 h => ?_)
      refine r_istore (pc := 35) (L' := [some (.ref 9), some (.int x1), some (.int y2), some (.int y3), some (.int r4), none, none, none]) dX2_join_35 rfl (by decide) rfl ?_
      refine r_aload_n (pc := 37) (x := 9) dX2_join_37 rfl ?_
      obtain ⟨b5, h⟩ := h
      refine n_getR (pc := 38) (j := 1) (q := (gt1 s4)) dX2_join_38 fl_RX2_18 (by decide) sh_9 rfl rfl rfl ?_
      refine r_iload_n (pc := 41) (x := y3) dX2_join_41 rfl ?_
      refine r_iconst (pc := 42) (v := 1) dX2_join_42 (by decide) ?_
      refine n_Vi0 (pc := 43) (S0 := []) (spX5_value b5 h) gmX5_value selX5_value lk_RX2_110 dX2_join_43 rfl (lt_Rd b5) (sh_Rd b5) ⟨rfl, by decide⟩ rfl ⟨Nat.le_of_ble_eq_true rfl, Nat.le_of_ble_eq_true rfl⟩ (Nat.le_of_ble_eq_true rfl) ⟨Nat.zero_le _, Nat.zero_le _⟩ (fun r6 s6 h => ?_)
      refine r_istore (pc := 46) (L' := [some (.ref 9), some (.int x1), some (.int y2), some (.int y3), some (.int r4), some (.int r6), none, none]) dX2_join_46 rfl (by decide) rfl ?_
      refine r_iload (pc := 48) (x := r4) dX2_join_48 rfl ?_
      refine r_iload (pc := 50) (x := r6) dX2_join_50 rfl ?_
      refine r_icmp_gt (pc := 52) (tgt := 120) dX2_join_52 (by decide) (fun c => ?_) (fun c => ?_)
      · replace h := h.1 c
        refine n_iinc (pc := 120) (x := y3) (w := 1) (L' := [some (.ref 9), some (.int x1), some (.int y2), some (.int (y3 + 1)), some (.int r4), some (.int r6), none, none]) dX2_join_120 rfl (by decide) rfl (by decide) rfl ?_
        refine r_goto (pc := 123) (tgt := 15) dX2_join_123 (by decide) ?_
        refine n_L (L' := [some (.ref 9), some (.int x1), some (.int y2), some (.int (y3 + 1)), none, none, none, none]) (le_s (le_s (le_s (le_s (le_n (le_n (le_n (le_n (le_e))))))))) ?_
        exact ih _ _ _ h
      · replace h := h.2 c
        refine r_aload_n (pc := 55) (x := 9) dX2_join_55 rfl ?_
        obtain ⟨b7, h⟩ := h
        refine n_getR (pc := 56) (j := 2) (q := (gt2 s6)) dX2_join_56 fl_RX2_21 (by decide) sh_9 rfl rfl rfl ?_
        refine r_iload_n (pc := 59) (x := y2) dX2_join_59 rfl ?_
        refine r_iconst (pc := 60) (v := 2) dX2_join_60 (by decide) ?_
        refine n_Vi0 (pc := 61) (S0 := []) (spX5_value b7 h) gmX5_value selX5_value lk_RX2_110 dX2_join_61 rfl (lt_Rd b7) (sh_Rd b7) ⟨rfl, by decide⟩ rfl ⟨Nat.le_of_ble_eq_true rfl, Nat.le_of_ble_eq_true rfl⟩ (Nat.le_of_ble_eq_true rfl) ⟨Nat.zero_le _, Nat.zero_le _⟩ (fun r8 s8 h => ?_)
        refine r_aload_n (pc := 64) (x := 9) dX2_join_64 rfl ?_
        obtain ⟨b9, h⟩ := h
        refine n_getR (pc := 65) (j := 1) (q := (gt1 s8)) dX2_join_65 fl_RX2_18 (by decide) sh_9 rfl rfl rfl ?_
        refine r_iload_n (pc := 68) (x := y3) dX2_join_68 rfl ?_
        refine r_iconst (pc := 69) (v := 2) dX2_join_69 (by decide) ?_
        refine n_Vi0 (pc := 70) (S0 := [.int r8]) (spX5_value b9 h) gmX5_value selX5_value lk_RX2_110 dX2_join_70 rfl (lt_Rd b9) (sh_Rd b9) ⟨rfl, by decide⟩ rfl ⟨Nat.le_of_ble_eq_true rfl, Nat.le_of_ble_eq_true rfl⟩ (Nat.le_of_ble_eq_true rfl) ⟨Nat.zero_le _, Nat.zero_le _⟩ (fun r10 s10 h => ?_)
        refine n_max (pc := 73) dX2_join_73 lk_RX2_128 ⟨Nat.le_of_ble_eq_true rfl, Nat.le_of_ble_eq_true rfl⟩ ⟨Nat.zero_le _, Nat.zero_le _⟩ ?_
        refine r_istore (pc := 76) (L' := [some (.ref 9), some (.int x1), some (.int y2), some (.int y3), some (.int r4), some (.int r6), some (.int (jmax r8 r10)), none]) dX2_join_76 rfl (by decide) rfl ?_
        refine r_aload_n (pc := 78) (x := 9) dX2_join_78 rfl ?_
        obtain ⟨b11, h⟩ := h
        refine n_getR (pc := 79) (j := 2) (q := (gt2 s10)) dX2_join_79 fl_RX2_21 (by decide) sh_9 rfl rfl rfl ?_
        refine r_iload_n (pc := 82) (x := y2) dX2_join_82 rfl ?_
        refine r_iconst (pc := 83) (v := 3) dX2_join_83 (by decide) ?_
        refine n_Vi0 (pc := 84) (S0 := []) (spX5_value b11 h) gmX5_value selX5_value lk_RX2_110 dX2_join_84 rfl (lt_Rd b11) (sh_Rd b11) ⟨rfl, by decide⟩ rfl ⟨Nat.le_of_ble_eq_true rfl, Nat.le_of_ble_eq_true rfl⟩ (Nat.le_of_ble_eq_true rfl) ⟨Nat.zero_le _, Nat.zero_le _⟩ (fun r12 s12 h => ?_)
        refine r_aload_n (pc := 87) (x := 9) dX2_join_87 rfl ?_
        obtain ⟨b13, h⟩ := h
        refine n_getR (pc := 88) (j := 1) (q := (gt1 s12)) dX2_join_88 fl_RX2_18 (by decide) sh_9 rfl rfl rfl ?_
        refine r_iload_n (pc := 91) (x := y3) dX2_join_91 rfl ?_
        refine r_iconst (pc := 92) (v := 3) dX2_join_92 (by decide) ?_
        refine n_Vi0 (pc := 93) (S0 := [.int r12]) (spX5_value b13 h) gmX5_value selX5_value lk_RX2_110 dX2_join_93 rfl (lt_Rd b13) (sh_Rd b13) ⟨rfl, by decide⟩ rfl ⟨Nat.le_of_ble_eq_true rfl, Nat.le_of_ble_eq_true rfl⟩ (Nat.le_of_ble_eq_true rfl) ⟨Nat.zero_le _, Nat.zero_le _⟩ (fun r14 s14 h => ?_)
        refine n_min (pc := 96) dX2_join_96 lk_RX2_120 ⟨Nat.le_of_ble_eq_true rfl, Nat.le_of_ble_eq_true rfl⟩ ⟨Nat.zero_le _, Nat.zero_le _⟩ ?_
        refine r_istore (pc := 99) (L' := [some (.ref 9), some (.int x1), some (.int y2), some (.int y3), some (.int r4), some (.int r6), some (.int (jmax r8 r10)), some (.int (jmin r12 r14))]) dX2_join_99 rfl (by decide) rfl ?_
        refine r_aload_n (pc := 101) (x := 9) dX2_join_101 rfl ?_
        refine n_getR (pc := 102) (j := 0) (q := 10) dX2_join_102 fl_RX2_12 (by decide) sh_9 rfl rfl rfl ?_
        refine r_iload (pc := 105) (x := r4) dX2_join_105 rfl ?_
        refine r_iload (pc := 107) (x := r6) dX2_join_107 rfl ?_
        refine r_iload (pc := 109) (x := jmax r8 r10) dX2_join_109 rfl ?_
        refine r_iload (pc := 111) (x := jmin r12 r14) dX2_join_111 rfl ?_
        refine r_iload_n (pc := 113) (x := x1) dX2_join_113 rfl ?_
        refine n_min (pc := 114) dX2_join_114 lk_RX2_120 ⟨Nat.le_of_ble_eq_true rfl, Nat.le_of_ble_eq_true rfl⟩ ⟨Nat.zero_le _, Nat.zero_le _⟩ ?_
        refine n_Vv0 (pc := 117) (S0 := []) (spX5_merge isRd_10 h) gmX5_merge selX5_merge lk_RX2_125 dX2_join_117 rfl (by decide) sh_10 ⟨rfl, by decide⟩ rfl ⟨Nat.le_of_ble_eq_true rfl, Nat.le_of_ble_eq_true rfl⟩ (Nat.le_of_ble_eq_true rfl) ⟨Nat.zero_le _, Nat.zero_le _⟩ (fun s15 h => ?_)
        refine n_iinc (pc := 120) (x := y3) (w := 1) (L' := [some (.ref 9), some (.int x1), some (.int y2), some (.int (y3 + 1)), some (.int r4), some (.int r6), some (.int (jmax r8 r10)), some (.int (jmin r12 r14))]) dX2_join_120 rfl (by decide) rfl (by decide) rfl ?_
        refine r_goto (pc := 123) (tgt := 15) dX2_join_123 (by decide) ?_
        refine n_L (L' := [some (.ref 9), some (.int x1), some (.int y2), some (.int (y3 + 1)), none, none, none, none]) (le_s (le_s (le_s (le_s (le_n (le_n (le_n (le_n (le_e))))))))) ?_
        exact ih _ _ _ h
def wX2_join_2 (x1 : Int32) (Q : gS → Prop)  : Nat → Int32 → gS → Prop
  | 0, _, _ => False
  | n + 1, y2, s => isRd (gt2 s) ∧ (((gi s (gt2 s) 1) ≤ y2 → Q s) ∧ (¬ ((gi s (gt2 s) 1) ≤ y2) → ∃ n15, wX2_join_15 x1 Q (fun y2 s => wX2_join_2 x1 Q n y2 s) n15 y2 0 s))
set_option maxRecDepth 20000 in
theorem pX2_join_2 {l : Launch} {X : gX} {x1 : Int32}  {Q : gS → Prop}  : ∀ (n : Nat) (y2 : Int32) (s : gS) (h : wX2_join_2 x1 Q n y2 s) , Gw l mX2_join (g_rm 3 0 0) X 2 [some (.ref 9), some (.int x1), some (.int y2), none, none, none, none, none] [] (nrm s) 0 0 (g_Z X (q_v Q) 0 0) := by
  intro n
  induction n with
  | zero => intro y2 s h; exact h.elim
  | succ n ih0 =>
    intro y2 s h 
    have ih : ∀ (y2 : Int32) (s : gS), wX2_join_2 x1 Q n y2 s → Gw l mX2_join (g_rm 3 0 0) X 2 [some (.ref 9), some (.int x1), some (.int y2), none, none, none, none, none] [] (nrm s) 0 0 (g_Z X (q_v Q) 0 0) := fun y2 s h => ih0 y2 s h 
    refine r_iload_n (pc := 2) (x := y2) dX2_join_2 rfl ?_
    refine r_aload_n (pc := 3) (x := 9) dX2_join_3 rfl ?_
    obtain ⟨b1, h⟩ := h
    refine n_getR (pc := 4) (j := 2) (q := (gt2 s)) dX2_join_4 fl_RX2_21 (by decide) sh_9 rfl rfl rfl ?_
    refine n_getI (pc := 7) (j := 1) dX2_join_7 fl_RX2_34 (lt_Rd b1) (sh_Rd b1) rfl rfl ?_
    refine r_icmp_ge (pc := 10) (tgt := 132) dX2_join_10 (by decide) (fun c => ?_) (fun c => ?_)
    · replace h := h.1 c
      exact n_vret (pc := 132) dX2_join_132 rfl (Nat.le_refl _) (Nat.le_refl _) h
    · replace h := h.2 c
      refine r_iconst (pc := 13) (v := 0) dX2_join_13 (by decide) ?_
      refine r_istore_n (pc := 14) (L' := [some (.ref 9), some (.int x1), some (.int y2), some (.int 0), none, none, none, none]) dX2_join_14 rfl (by decide) rfl ?_
      refine n_L (L' := [some (.ref 9), some (.int x1), some (.int y2), some (.int 0), none, none, none, none]) (le_s (le_s (le_s (le_s (le_n (le_n (le_n (le_n (le_e))))))))) ?_
      obtain ⟨n, h⟩ := h
      exact pX2_join_15  n _ _ _ h ih
def wpX2_join (x1 : Int32) (s : gS) (Q : gS → Prop) : Prop := ∃ n2, wX2_join_2 x1 Q n2 0 s
set_option maxRecDepth 20000 in
theorem spX2_join {l : Launch} {x1 : Int32}  {s : gS} {Q : gS → Prop} (h : wpX2_join x1 s Q) : Ct l mX2_join 3 0 0 [.ref 9, .int x1] (nrm s) (q_v Q) := by
  refine Ct.of (by decide) (Nat.le_of_ble_eq_true rfl) (fun X => ?_)
  refine n_L (L' := [some (.ref 9), some (.int x1), none, none, none, none, none, none]) (le_s (le_s (le_p (le_p (le_p (le_p (le_p (le_p (le_e))))))))) ?_
  refine r_iconst (pc := 0) (v := 0) dX2_join_0 (by decide) ?_
  refine r_istore_n (pc := 1) (L' := [some (.ref 9), some (.int x1), some (.int 0), none, none, none, none, none]) dX2_join_1 rfl (by decide) rfl ?_
  refine n_L (L' := [some (.ref 9), some (.int x1), some (.int 0), none, none, none, none, none]) (le_s (le_s (le_s (le_n (le_n (le_n (le_n (le_n (le_e))))))))) ?_
  obtain ⟨n, h⟩ := h
  exact pX2_join_2  n _ _ h 
def wX2_close_43 (x1 : Int32) (x2 : Int32) (Q : gS → Prop)  : Nat → Int32 → gS → Prop
  | 0, _, _ => False
  | n + 1, y3, s => isRd (gt1 s) ∧ (((gi s (gt1 s) 1) ≤ y3 → Q s) ∧ (¬ ((gi s (gt1 s) 1) ≤ y3) → isRd (gt1 s) ∧ (wpX5_value (gt1 s) y3 3 s (fun r6 s6 => isRd (gt1 s6) ∧ (wpX5_value (gt1 s6) y3 0 s6 (fun r8 s8 => isRd (gt1 s8) ∧ (wpX5_value (gt1 s8) y3 1 s8 (fun r10 s10 => isRd (gt1 s10) ∧ (wpX5_value (gt1 s10) y3 2 s10 (fun r12 s12 => wpX5_merge 10 r8 r10 r12 (jmin r6 x2) s12 (fun s13 => wX2_close_43 x1 x2 Q n (y3 + 1) s13)))))))))))
set_option maxRecDepth 20000 in
theorem pX2_close_43 {l : Launch} {X : gX} {x1 : Int32} {x2 : Int32}  {Q : gS → Prop}  : ∀ (n : Nat) (y3 : Int32) (s : gS) (h : wX2_close_43 x1 x2 Q n y3 s) , Gw l mX2_close (g_rm 4 0 0) X 43 [some (.ref 9), none, some (.int x2), some (.int y3), none] [] (nrm s) 0 0 (g_Z X (q_v Q) 0 0) := by
  intro n
  induction n with
  | zero => intro y3 s h; exact h.elim
  | succ n ih0 =>
    intro y3 s h 
    have ih : ∀ (y3 : Int32) (s : gS), wX2_close_43 x1 x2 Q n y3 s → Gw l mX2_close (g_rm 4 0 0) X 43 [some (.ref 9), none, some (.int x2), some (.int y3), none] [] (nrm s) 0 0 (g_Z X (q_v Q) 0 0) := fun y3 s h => ih0 y3 s h 
    refine r_iload_n (pc := 43) (x := y3) dX2_close_43 rfl ?_
    refine r_aload_n (pc := 44) (x := 9) dX2_close_44 rfl ?_
    obtain ⟨b4, h⟩ := h
    refine n_getR (pc := 45) (j := 1) (q := (gt1 s)) dX2_close_45 fl_RX2_18 (by decide) sh_9 rfl rfl rfl ?_
    refine n_getI (pc := 48) (j := 1) dX2_close_48 fl_RX2_34 (lt_Rd b4) (sh_Rd b4) rfl rfl ?_
    refine r_icmp_ge (pc := 51) (tgt := 111) dX2_close_51 (by decide) (fun c => ?_) (fun c => ?_)
    · replace h := h.1 c
      exact n_vret (pc := 111) dX2_close_111 rfl (Nat.le_refl _) (Nat.le_refl _) h
    · replace h := h.2 c
      refine r_aload_n (pc := 54) (x := 9) dX2_close_54 rfl ?_
      obtain ⟨b5, h⟩ := h
      refine n_getR (pc := 55) (j := 1) (q := (gt1 s)) dX2_close_55 fl_RX2_18 (by decide) sh_9 rfl rfl rfl ?_
      refine r_iload_n (pc := 58) (x := y3) dX2_close_58 rfl ?_
      refine r_iconst (pc := 59) (v := 3) dX2_close_59 (by decide) ?_
      refine n_Vi0 (pc := 60) (S0 := []) (spX5_value b5 h) gmX5_value selX5_value lk_RX2_110 dX2_close_60 rfl (lt_Rd b5) (sh_Rd b5) ⟨rfl, by decide⟩ rfl ⟨Nat.le_of_ble_eq_true rfl, Nat.le_of_ble_eq_true rfl⟩ (Nat.le_of_ble_eq_true rfl) ⟨Nat.zero_le _, Nat.zero_le _⟩ (fun r6 s6 h => ?_)
      refine r_iload_n (pc := 63) (x := x2) dX2_close_63 rfl ?_
      refine n_min (pc := 64) dX2_close_64 lk_RX2_120 ⟨Nat.le_of_ble_eq_true rfl, Nat.le_of_ble_eq_true rfl⟩ ⟨Nat.zero_le _, Nat.zero_le _⟩ ?_
      refine r_istore (pc := 67) (L' := [some (.ref 9), none, some (.int x2), some (.int y3), some (.int (jmin r6 x2))]) dX2_close_67 rfl (by decide) rfl ?_
      refine r_aload_n (pc := 69) (x := 9) dX2_close_69 rfl ?_
      refine n_getR (pc := 70) (j := 0) (q := 10) dX2_close_70 fl_RX2_12 (by decide) sh_9 rfl rfl rfl ?_
      refine r_aload_n (pc := 73) (x := 9) dX2_close_73 rfl ?_
      obtain ⟨b7, h⟩ := h
      refine n_getR (pc := 74) (j := 1) (q := (gt1 s6)) dX2_close_74 fl_RX2_18 (by decide) sh_9 rfl rfl rfl ?_
      refine r_iload_n (pc := 77) (x := y3) dX2_close_77 rfl ?_
      refine r_iconst (pc := 78) (v := 0) dX2_close_78 (by decide) ?_
      refine n_Vi0 (pc := 79) (S0 := [.ref 10]) (spX5_value b7 h) gmX5_value selX5_value lk_RX2_110 dX2_close_79 rfl (lt_Rd b7) (sh_Rd b7) ⟨rfl, by decide⟩ rfl ⟨Nat.le_of_ble_eq_true rfl, Nat.le_of_ble_eq_true rfl⟩ (Nat.le_of_ble_eq_true rfl) ⟨Nat.zero_le _, Nat.zero_le _⟩ (fun r8 s8 h => ?_)
      refine r_aload_n (pc := 82) (x := 9) dX2_close_82 rfl ?_
      obtain ⟨b9, h⟩ := h
      refine n_getR (pc := 83) (j := 1) (q := (gt1 s8)) dX2_close_83 fl_RX2_18 (by decide) sh_9 rfl rfl rfl ?_
      refine r_iload_n (pc := 86) (x := y3) dX2_close_86 rfl ?_
      refine r_iconst (pc := 87) (v := 1) dX2_close_87 (by decide) ?_
      refine n_Vi0 (pc := 88) (S0 := [.int r8, .ref 10]) (spX5_value b9 h) gmX5_value selX5_value lk_RX2_110 dX2_close_88 rfl (lt_Rd b9) (sh_Rd b9) ⟨rfl, by decide⟩ rfl ⟨Nat.le_of_ble_eq_true rfl, Nat.le_of_ble_eq_true rfl⟩ (Nat.le_of_ble_eq_true rfl) ⟨Nat.zero_le _, Nat.zero_le _⟩ (fun r10 s10 h => ?_)
      refine r_aload_n (pc := 91) (x := 9) dX2_close_91 rfl ?_
      obtain ⟨b11, h⟩ := h
      refine n_getR (pc := 92) (j := 1) (q := (gt1 s10)) dX2_close_92 fl_RX2_18 (by decide) sh_9 rfl rfl rfl ?_
      refine r_iload_n (pc := 95) (x := y3) dX2_close_95 rfl ?_
      refine r_iconst (pc := 96) (v := 2) dX2_close_96 (by decide) ?_
      refine n_Vi0 (pc := 97) (S0 := [.int r10, .int r8, .ref 10]) (spX5_value b11 h) gmX5_value selX5_value lk_RX2_110 dX2_close_97 rfl (lt_Rd b11) (sh_Rd b11) ⟨rfl, by decide⟩ rfl ⟨Nat.le_of_ble_eq_true rfl, Nat.le_of_ble_eq_true rfl⟩ (Nat.le_of_ble_eq_true rfl) ⟨Nat.zero_le _, Nat.zero_le _⟩ (fun r12 s12 h => ?_)
      refine r_iload (pc := 100) (x := jmin r6 x2) dX2_close_100 rfl ?_
      refine n_Vv0 (pc := 102) (S0 := []) (spX5_merge isRd_10 h) gmX5_merge selX5_merge lk_RX2_125 dX2_close_102 rfl (by decide) sh_10 ⟨rfl, by decide⟩ rfl ⟨Nat.le_of_ble_eq_true rfl, Nat.le_of_ble_eq_true rfl⟩ (Nat.le_of_ble_eq_true rfl) ⟨Nat.zero_le _, Nat.zero_le _⟩ (fun s13 h => ?_)
      refine n_iinc (pc := 105) (x := y3) (w := 1) (L' := [some (.ref 9), none, some (.int x2), some (.int (y3 + 1)), some (.int (jmin r6 x2))]) dX2_close_105 rfl (by decide) rfl (by decide) rfl ?_
      refine r_goto (pc := 108) (tgt := 43) dX2_close_108 (by decide) ?_
      refine n_L (L' := [some (.ref 9), none, some (.int x2), some (.int (y3 + 1)), none]) (le_s (le_n (le_s (le_s (le_n (le_e)))))) ?_
      exact ih _ _ h
def wpX2_close (x1 : Int32) (x2 : Int32) (s : gS) (Q : gS → Prop) : Prop := (¬ x1 = 18 → (¬ x1 = 19 → ∃ n43, wX2_close_43 x1 x2 Q n43 0 s) ∧ (x1 = 19 → wpX2_join x2 s (fun s1 => Q s1))) ∧ (x1 = 18 → isRd (gt1 s) ∧ (isRd (gt2 s) ∧ (Q (wt2 (wt1 s (gt2 s)) (gt1 s)))))
set_option maxRecDepth 20000 in
theorem spX2_close {l : Launch} {x1 : Int32} {x2 : Int32}  {s : gS} {Q : gS → Prop} (h : wpX2_close x1 x2 s Q) : Ct l mX2_close 4 0 0 [.ref 9, .int x1, .int x2] (nrm s) (q_v Q) := by
  refine Ct.of (by decide) (Nat.le_of_ble_eq_true rfl) (fun X => ?_)
  refine n_L (L' := [some (.ref 9), some (.int x1), some (.int x2), none, none]) (le_s (le_s (le_s (le_p (le_p (le_e)))))) ?_
  refine r_iload_n (pc := 0) (x := x1) dX2_close_0 rfl ?_
  refine r_bipush (pc := 1) (v := 18) dX2_close_1 (by decide) ?_
  refine r_icmp_ne (pc := 3) (tgt := 27) dX2_close_3 (by decide) (fun c => ?_) (fun c => ?_)
  · replace h := h.1 c
    refine r_iload_n (pc := 27) (x := x1) dX2_close_27 rfl ?_
    refine r_bipush (pc := 28) (v := 19) dX2_close_28 (by decide) ?_
    refine r_icmp_ne (pc := 30) (tgt := 41) dX2_close_30 (by decide) (fun c => ?_) (fun c => ?_)
    · replace h := h.1 c
      refine r_iconst (pc := 41) (v := 0) dX2_close_41 (by decide) ?_
      refine r_istore_n (pc := 42) (L' := [some (.ref 9), some (.int x1), some (.int x2), some (.int 0), none]) dX2_close_42 rfl (by decide) rfl ?_
      refine n_L (L' := [some (.ref 9), none, some (.int x2), some (.int 0), none]) (le_s (le_n (le_s (le_s (le_n (le_e)))))) ?_
      obtain ⟨n, h⟩ := h
      exact pX2_close_43  n _ _ h 
    · replace h := h.2 c
      refine r_aload_n (pc := 33) (x := 9) dX2_close_33 rfl ?_
      refine r_iload_n (pc := 34) (x := x2) dX2_close_34 rfl ?_
      refine n_Vv0 (pc := 35) (S0 := []) (spX2_join h) gmX2_join selX2_join lk_RX2_116 dX2_close_35 rfl (by decide) sh_9 ⟨rfl, by decide⟩ rfl ⟨Nat.le_of_ble_eq_true rfl, Nat.le_of_ble_eq_true rfl⟩ (Nat.le_of_ble_eq_true rfl) ⟨Nat.zero_le _, Nat.zero_le _⟩ (fun s1 h => ?_)
      refine r_goto (pc := 38) (tgt := 111) dX2_close_38 (by decide) ?_
      exact n_vret (pc := 111) dX2_close_111 rfl (Nat.le_refl _) (Nat.le_refl _) h
  · replace h := h.2 c
    refine r_aload_n (pc := 6) (x := 9) dX2_close_6 rfl ?_
    obtain ⟨b2, h⟩ := h
    refine n_getR (pc := 7) (j := 1) (q := (gt1 s)) dX2_close_7 fl_RX2_18 (by decide) sh_9 rfl rfl rfl ?_
    refine r_astore_n (pc := 10) (L' := [some (.ref 9), some (.int x1), some (.int x2), some (.ref (gt1 s)), none]) dX2_close_10 rfl (by decide) rfl ?_
    refine r_aload_n (pc := 11) (x := 9) dX2_close_11 rfl ?_
    refine r_aload_n (pc := 12) (x := 9) dX2_close_12 rfl ?_
    obtain ⟨b3, h⟩ := h
    refine n_getR (pc := 13) (j := 2) (q := (gt2 s)) dX2_close_13 fl_RX2_21 (by decide) sh_9 rfl rfl rfl ?_
    refine n_putR1 (pc := 16) dX2_close_16 fl_RX2_18 fw_2_1 (Or.inl ⟨_, rfl⟩) ?_
    refine r_aload_n (pc := 19) (x := 9) dX2_close_19 rfl ?_
    refine r_aload_n (pc := 20) (x := (gt1 s)) dX2_close_20 rfl ?_
    refine n_putR2 (pc := 21) dX2_close_21 fl_RX2_21 fw_2_2 (Or.inl ⟨_, rfl⟩) ?_
    refine r_goto (pc := 24) (tgt := 111) dX2_close_24 (by decide) ?_
    exact n_vret (pc := 111) dX2_close_111 rfl (Nat.le_refl _) (Nat.le_refl _) h
def wX2_gather_3 (x2 : Int32) (x3 : Int32) (Q : gS → Prop)  : Nat → Int32 → gS → Prop
  | 0, _, _ => False
  | n + 1, y4, s => ((gi s 3 2) ≤ y4 → Q s) ∧ (¬ ((gi s 3 2) ≤ y4) → wpX4_step y4 0 s (fun r1 s1 => wpX4_step y4 1 s1 (fun r2 s2 => wpX4_step y4 2 s2 (fun r3 s3 => (6 < r1 → (10 < r1 → (18 ≤ r1 → wpX2_close r1 x3 s3 (fun s4 => wX2_gather_3 x2 x3 Q n (y4 + 1) s4)) ∧ (¬ (18 ≤ r1) → wpX2_change r1 r2 r3 s3 (fun s5 => wX2_gather_3 x2 x3 Q n (y4 + 1) s5))) ∧ (¬ (10 < r1) → isRd (gt1 s3) ∧ (wpX5_clear (gt1 s3) s3 (fun s7 => wpX4_step y4 3 s7 (fun r8 s8 => wpX2_addByMonths r1 r2 r3 r8 x2 s8 (fun s9 => wX2_gather_3 x2 x3 Q n (y4 + 1) s9)))))) ∧ (¬ (6 < r1) → isRd (gt1 s3) ∧ (wpX5_clear (gt1 s3) s3 (fun s11 => wpX2_addByDays r1 r2 r3 x2 s11 (fun s12 => wX2_gather_3 x2 x3 Q n (y4 + 1) s12))))))))
set_option maxRecDepth 20000 in
theorem pX2_gather_3 {l : Launch} {X : gX} {x2 : Int32} {x3 : Int32}  {Q : gS → Prop}  : ∀ (n : Nat) (y4 : Int32) (s : gS) (h : wX2_gather_3 x2 x3 Q n y4 s) , Gw l mX2_gather (g_rm 6 0 0) X 3 [some (.ref 9), some (.ref 3), some (.int x2), some (.int x3), some (.int y4), none, none, none] [] (nrm s) 0 0 (g_Z X (q_v Q) 0 0) := by
  intro n
  induction n with
  | zero => intro y4 s h; exact h.elim
  | succ n ih0 =>
    intro y4 s h 
    have ih : ∀ (y4 : Int32) (s : gS), wX2_gather_3 x2 x3 Q n y4 s → Gw l mX2_gather (g_rm 6 0 0) X 3 [some (.ref 9), some (.ref 3), some (.int x2), some (.int x3), some (.int y4), none, none, none] [] (nrm s) 0 0 (g_Z X (q_v Q) 0 0) := fun y4 s h => ih0 y4 s h 
    refine r_iload (pc := 3) (x := y4) dX2_gather_3 rfl ?_
    refine r_aload_n (pc := 5) (x := 3) dX2_gather_5 rfl ?_
    refine n_getI (pc := 6) (j := 2) dX2_gather_6 fl_RX2_38 (by decide) sh_3 rfl rfl ?_
    refine r_icmp_ge (pc := 9) (tgt := 135) dX2_gather_9 (by decide) (fun c => ?_) (fun c => ?_)
    · replace h := h.1 c
      exact n_vret (pc := 135) dX2_gather_135 rfl (Nat.le_refl _) (Nat.le_refl _) h
    · replace h := h.2 c
      refine r_aload_n (pc := 12) (x := 3) dX2_gather_12 rfl ?_
      refine r_iload (pc := 13) (x := y4) dX2_gather_13 rfl ?_
      refine r_iconst (pc := 15) (v := 0) dX2_gather_15 (by decide) ?_
      refine n_Vi0 (pc := 16) (S0 := []) (spX4_step h) gmX4_step selX4_step lk_RX2_41 dX2_gather_16 rfl (by decide) sh_3 ⟨rfl, by decide⟩ rfl ⟨Nat.le_of_ble_eq_true rfl, Nat.le_of_ble_eq_true rfl⟩ (Nat.le_of_ble_eq_true rfl) ⟨Nat.zero_le _, Nat.zero_le _⟩ (fun r1 s1 h => ?_)
      refine r_istore (pc := 19) (L' := [some (.ref 9), some (.ref 3), some (.int x2), some (.int x3), some (.int y4), some (.int r1), none, none]) dX2_gather_19 rfl (by decide) rfl ?_
      refine r_aload_n (pc := 21) (x := 3) dX2_gather_21 rfl ?_
      refine r_iload (pc := 22) (x := y4) dX2_gather_22 rfl ?_
      refine r_iconst (pc := 24) (v := 1) dX2_gather_24 (by decide) ?_
      refine n_Vi0 (pc := 25) (S0 := []) (spX4_step h) gmX4_step selX4_step lk_RX2_41 dX2_gather_25 rfl (by decide) sh_3 ⟨rfl, by decide⟩ rfl ⟨Nat.le_of_ble_eq_true rfl, Nat.le_of_ble_eq_true rfl⟩ (Nat.le_of_ble_eq_true rfl) ⟨Nat.zero_le _, Nat.zero_le _⟩ (fun r2 s2 h => ?_)
      refine r_istore (pc := 28) (L' := [some (.ref 9), some (.ref 3), some (.int x2), some (.int x3), some (.int y4), some (.int r1), some (.int r2), none]) dX2_gather_28 rfl (by decide) rfl ?_
      refine r_aload_n (pc := 30) (x := 3) dX2_gather_30 rfl ?_
      refine r_iload (pc := 31) (x := y4) dX2_gather_31 rfl ?_
      refine r_iconst (pc := 33) (v := 2) dX2_gather_33 (by decide) ?_
      refine n_Vi0 (pc := 34) (S0 := []) (spX4_step h) gmX4_step selX4_step lk_RX2_41 dX2_gather_34 rfl (by decide) sh_3 ⟨rfl, by decide⟩ rfl ⟨Nat.le_of_ble_eq_true rfl, Nat.le_of_ble_eq_true rfl⟩ (Nat.le_of_ble_eq_true rfl) ⟨Nat.zero_le _, Nat.zero_le _⟩ (fun r3 s3 h => ?_)
      refine r_istore (pc := 37) (L' := [some (.ref 9), some (.ref 3), some (.int x2), some (.int x3), some (.int y4), some (.int r1), some (.int r2), some (.int r3)]) dX2_gather_37 rfl (by decide) rfl ?_
      refine r_iload (pc := 39) (x := r1) dX2_gather_39 rfl ?_
      refine r_bipush (pc := 41) (v := 6) dX2_gather_41 (by decide) ?_
      refine r_icmp_gt (pc := 43) (tgt := 67) dX2_gather_43 (by decide) (fun c => ?_) (fun c => ?_)
      · replace h := h.1 c
        refine r_iload (pc := 67) (x := r1) dX2_gather_67 rfl ?_
        refine r_bipush (pc := 69) (v := 10) dX2_gather_69 (by decide) ?_
        refine r_icmp_gt (pc := 71) (tgt := 102) dX2_gather_71 (by decide) (fun c => ?_) (fun c => ?_)
        · replace h := h.1 c
          refine r_iload (pc := 102) (x := r1) dX2_gather_102 rfl ?_
          refine r_bipush (pc := 104) (v := 18) dX2_gather_104 (by decide) ?_
          refine r_icmp_ge (pc := 106) (tgt := 122) dX2_gather_106 (by decide) (fun c => ?_) (fun c => ?_)
          · replace h := h.1 c
            refine r_aload_n (pc := 122) (x := 9) dX2_gather_122 rfl ?_
            refine r_iload (pc := 123) (x := r1) dX2_gather_123 rfl ?_
            refine r_iload_n (pc := 125) (x := x3) dX2_gather_125 rfl ?_
            refine n_Vv0 (pc := 126) (S0 := []) (spX2_close h) gmX2_close selX2_close lk_RX2_57 dX2_gather_126 rfl (by decide) sh_9 ⟨rfl, by decide⟩ rfl ⟨Nat.le_of_ble_eq_true rfl, Nat.le_of_ble_eq_true rfl⟩ (Nat.le_of_ble_eq_true rfl) ⟨Nat.zero_le _, Nat.zero_le _⟩ (fun s4 h => ?_)
            refine n_iinc (pc := 129) (x := y4) (w := 1) (L' := [some (.ref 9), some (.ref 3), some (.int x2), some (.int x3), some (.int (y4 + 1)), some (.int r1), some (.int r2), some (.int r3)]) dX2_gather_129 rfl (by decide) rfl (by decide) rfl ?_
            refine r_goto (pc := 132) (tgt := 3) dX2_gather_132 (by decide) ?_
            refine n_L (L' := [some (.ref 9), some (.ref 3), some (.int x2), some (.int x3), some (.int (y4 + 1)), none, none, none]) (le_s (le_s (le_s (le_s (le_s (le_n (le_n (le_n (le_e))))))))) ?_
            exact ih _ _ h
          · replace h := h.2 c
            refine r_aload_n (pc := 109) (x := 9) dX2_gather_109 rfl ?_
            refine r_iload (pc := 110) (x := r1) dX2_gather_110 rfl ?_
            refine r_iload (pc := 112) (x := r2) dX2_gather_112 rfl ?_
            refine r_iload (pc := 114) (x := r3) dX2_gather_114 rfl ?_
            refine n_Vv0 (pc := 116) (S0 := []) (spX2_change h) gmX2_change selX2_change lk_RX2_53 dX2_gather_116 rfl (by decide) sh_9 ⟨rfl, by decide⟩ rfl ⟨Nat.le_of_ble_eq_true rfl, Nat.le_of_ble_eq_true rfl⟩ (Nat.le_of_ble_eq_true rfl) ⟨Nat.zero_le _, Nat.zero_le _⟩ (fun s5 h => ?_)
            refine r_goto (pc := 119) (tgt := 129) dX2_gather_119 (by decide) ?_
            refine n_iinc (pc := 129) (x := y4) (w := 1) (L' := [some (.ref 9), some (.ref 3), some (.int x2), some (.int x3), some (.int (y4 + 1)), some (.int r1), some (.int r2), some (.int r3)]) dX2_gather_129 rfl (by decide) rfl (by decide) rfl ?_
            refine r_goto (pc := 132) (tgt := 3) dX2_gather_132 (by decide) ?_
            refine n_L (L' := [some (.ref 9), some (.ref 3), some (.int x2), some (.int x3), some (.int (y4 + 1)), none, none, none]) (le_s (le_s (le_s (le_s (le_s (le_n (le_n (le_n (le_e))))))))) ?_
            exact ih _ _ h
        · replace h := h.2 c
          refine r_aload_n (pc := 74) (x := 9) dX2_gather_74 rfl ?_
          obtain ⟨b6, h⟩ := h
          refine n_getR (pc := 75) (j := 1) (q := (gt1 s3)) dX2_gather_75 fl_RX2_18 (by decide) sh_9 rfl rfl rfl ?_
          refine n_Vv0 (pc := 78) (S0 := []) (spX5_clear b6 h) gmX5_clear selX5_clear lk_RX2_27 dX2_gather_78 rfl (lt_Rd b6) (sh_Rd b6) ⟨rfl, by decide⟩ rfl ⟨Nat.le_of_ble_eq_true rfl, Nat.le_of_ble_eq_true rfl⟩ (Nat.le_of_ble_eq_true rfl) ⟨Nat.zero_le _, Nat.zero_le _⟩ (fun s7 h => ?_)
          refine r_aload_n (pc := 81) (x := 9) dX2_gather_81 rfl ?_
          refine r_iload (pc := 82) (x := r1) dX2_gather_82 rfl ?_
          refine r_iload (pc := 84) (x := r2) dX2_gather_84 rfl ?_
          refine r_iload (pc := 86) (x := r3) dX2_gather_86 rfl ?_
          refine r_aload_n (pc := 88) (x := 3) dX2_gather_88 rfl ?_
          refine r_iload (pc := 89) (x := y4) dX2_gather_89 rfl ?_
          refine r_iconst (pc := 91) (v := 3) dX2_gather_91 (by decide) ?_
          refine n_Vi0 (pc := 92) (S0 := [.int r3, .int r2, .int r1, .ref 9]) (spX4_step h) gmX4_step selX4_step lk_RX2_41 dX2_gather_92 rfl (by decide) sh_3 ⟨rfl, by decide⟩ rfl ⟨Nat.le_of_ble_eq_true rfl, Nat.le_of_ble_eq_true rfl⟩ (Nat.le_of_ble_eq_true rfl) ⟨Nat.zero_le _, Nat.zero_le _⟩ (fun r8 s8 h => ?_)
          refine r_iload_n (pc := 95) (x := x2) dX2_gather_95 rfl ?_
          refine n_Vv0 (pc := 96) (S0 := []) (spX2_addByMonths h) gmX2_addByMonths selX2_addByMonths lk_RX2_49 dX2_gather_96 rfl (by decide) sh_9 ⟨rfl, by decide⟩ rfl ⟨Nat.le_of_ble_eq_true rfl, Nat.le_of_ble_eq_true rfl⟩ (Nat.le_of_ble_eq_true rfl) ⟨Nat.zero_le _, Nat.zero_le _⟩ (fun s9 h => ?_)
          refine r_goto (pc := 99) (tgt := 129) dX2_gather_99 (by decide) ?_
          refine n_iinc (pc := 129) (x := y4) (w := 1) (L' := [some (.ref 9), some (.ref 3), some (.int x2), some (.int x3), some (.int (y4 + 1)), some (.int r1), some (.int r2), some (.int r3)]) dX2_gather_129 rfl (by decide) rfl (by decide) rfl ?_
          refine r_goto (pc := 132) (tgt := 3) dX2_gather_132 (by decide) ?_
          refine n_L (L' := [some (.ref 9), some (.ref 3), some (.int x2), some (.int x3), some (.int (y4 + 1)), none, none, none]) (le_s (le_s (le_s (le_s (le_s (le_n (le_n (le_n (le_e))))))))) ?_
          exact ih _ _ h
      · replace h := h.2 c
        refine r_aload_n (pc := 46) (x := 9) dX2_gather_46 rfl ?_
        obtain ⟨b10, h⟩ := h
        refine n_getR (pc := 47) (j := 1) (q := (gt1 s3)) dX2_gather_47 fl_RX2_18 (by decide) sh_9 rfl rfl rfl ?_
        refine n_Vv0 (pc := 50) (S0 := []) (spX5_clear b10 h) gmX5_clear selX5_clear lk_RX2_27 dX2_gather_50 rfl (lt_Rd b10) (sh_Rd b10) ⟨rfl, by decide⟩ rfl ⟨Nat.le_of_ble_eq_true rfl, Nat.le_of_ble_eq_true rfl⟩ (Nat.le_of_ble_eq_true rfl) ⟨Nat.zero_le _, Nat.zero_le _⟩ (fun s11 h => ?_)
        refine r_aload_n (pc := 53) (x := 9) dX2_gather_53 rfl ?_
        refine r_iload (pc := 54) (x := r1) dX2_gather_54 rfl ?_
        refine r_iload (pc := 56) (x := r2) dX2_gather_56 rfl ?_
        refine r_iload (pc := 58) (x := r3) dX2_gather_58 rfl ?_
        refine r_iload_n (pc := 60) (x := x2) dX2_gather_60 rfl ?_
        refine n_Vv0 (pc := 61) (S0 := []) (spX2_addByDays h) gmX2_addByDays selX2_addByDays lk_RX2_45 dX2_gather_61 rfl (by decide) sh_9 ⟨rfl, by decide⟩ rfl ⟨Nat.le_of_ble_eq_true rfl, Nat.le_of_ble_eq_true rfl⟩ (Nat.le_of_ble_eq_true rfl) ⟨Nat.zero_le _, Nat.zero_le _⟩ (fun s12 h => ?_)
        refine r_goto (pc := 64) (tgt := 129) dX2_gather_64 (by decide) ?_
        refine n_iinc (pc := 129) (x := y4) (w := 1) (L' := [some (.ref 9), some (.ref 3), some (.int x2), some (.int x3), some (.int (y4 + 1)), some (.int r1), some (.int r2), some (.int r3)]) dX2_gather_129 rfl (by decide) rfl (by decide) rfl ?_
        refine r_goto (pc := 132) (tgt := 3) dX2_gather_132 (by decide) ?_
        refine n_L (L' := [some (.ref 9), some (.ref 3), some (.int x2), some (.int x3), some (.int (y4 + 1)), none, none, none]) (le_s (le_s (le_s (le_s (le_s (le_n (le_n (le_n (le_e))))))))) ?_
        exact ih _ _ h
def wpX2_gather (x2 : Int32) (x3 : Int32) (s : gS) (Q : gS → Prop) : Prop := ∃ n3, wX2_gather_3 x2 x3 Q n3 0 s
set_option maxRecDepth 20000 in
theorem spX2_gather {l : Launch} {x2 : Int32} {x3 : Int32}  {s : gS} {Q : gS → Prop} (h : wpX2_gather x2 x3 s Q) : Ct l mX2_gather 6 0 0 [.ref 9, .ref 3, .int x2, .int x3] (nrm s) (q_v Q) := by
  refine Ct.of (by decide) (Nat.le_of_ble_eq_true rfl) (fun X => ?_)
  refine n_L (L' := [some (.ref 9), some (.ref 3), some (.int x2), some (.int x3), none, none, none, none]) (le_s (le_s (le_s (le_s (le_p (le_p (le_p (le_p (le_e))))))))) ?_
  refine r_iconst (pc := 0) (v := 0) dX2_gather_0 (by decide) ?_
  refine r_istore (pc := 1) (L' := [some (.ref 9), some (.ref 3), some (.int x2), some (.int x3), some (.int 0), none, none, none]) dX2_gather_1 rfl (by decide) rfl ?_
  refine n_L (L' := [some (.ref 9), some (.ref 3), some (.int x2), some (.int x3), some (.int 0), none, none, none]) (le_s (le_s (le_s (le_s (le_s (le_n (le_n (le_n (le_e))))))))) ?_
  obtain ⟨n, h⟩ := h
  exact pX2_gather_3  n _ _ h 
def wpX4_base (x1 : Int32) (x2 : Int32) (x3 : Int32) (x4 : Int32) (s : gS) (Q : Int32 → gS → Prop) : Prop := (((gi s 3 2) * 4) < 0 → Q 0 s) ∧ (¬ (((gi s 3 2) * 4) < 0) → ((((gi s 3 2) * 4) + 4) ≤ 320 → vp_in ((gi s 3 2) * 4) 320 ∧ (vp_in (((gi s 3 2) * 4) + 1) 320 ∧ (vp_in (((gi s 3 2) * 4) + 2) 320 ∧ (vp_in (((gi s 3 2) * 4) + 3) 320 ∧ (Q 2 (wi (wi (wi (wi (wi s 7 (ix ((gi s 3 2) * 4)) x1) 7 (ix (((gi s 3 2) * 4) + 1)) x2) 7 (ix (((gi s 3 2) * 4) + 2)) x3) 7 (ix (((gi s 3 2) * 4) + 3)) x4) 3 2 ((gi (wi (wi (wi (wi s 7 (ix ((gi s 3 2) * 4)) x1) 7 (ix (((gi s 3 2) * 4) + 1)) x2) 7 (ix (((gi s 3 2) * 4) + 2)) x3) 7 (ix (((gi s 3 2) * 4) + 3)) x4) 3 2) + 1))))))) ∧ (¬ ((((gi s 3 2) * 4) + 4) ≤ 320) → Q 0 s))
set_option maxRecDepth 20000 in
theorem spX4_base {l : Launch} {x1 : Int32} {x2 : Int32} {x3 : Int32} {x4 : Int32}  {s : gS} {Q : Int32 → gS → Prop} (h : wpX4_base x1 x2 x3 x4 s Q) : Ct l mX4_base 1 0 0 [.ref 3, .int x1, .int x2, .int x3, .int x4] (nrm s) (q_i Q) := by
  refine Ct.of (by decide) (Nat.le_of_ble_eq_true rfl) (fun X => ?_)
  refine n_L (L' := [some (.ref 3), some (.int x1), some (.int x2), some (.int x3), some (.int x4), none]) (le_s (le_s (le_s (le_s (le_s (le_p (le_e))))))) ?_
  refine r_aload_n (pc := 0) (x := 3) dX4_base_0 rfl ?_
  refine n_getI (pc := 1) (j := 2) dX4_base_1 fl_RX4_22 (by decide) sh_3 rfl rfl ?_
  refine r_iconst (pc := 4) (v := 4) dX4_base_4 (by decide) ?_
  refine r_imul (pc := 5) dX4_base_5 ?_
  refine r_istore (pc := 6) (L' := [some (.ref 3), some (.int x1), some (.int x2), some (.int x3), some (.int x4), some (.int ((gi s 3 2) * 4))]) dX4_base_6 rfl (by decide) rfl ?_
  refine r_iload (pc := 8) (x := (gi s 3 2) * 4) dX4_base_8 rfl ?_
  refine r_if_lt (pc := 10) (tgt := 25) dX4_base_10 (by decide) (fun c => ?_) (fun c => ?_)
  · replace h := h.1 c
    refine r_iconst (pc := 25) (v := 0) dX4_base_25 (by decide) ?_
    exact n_iret (pc := 26) dX4_base_26 rfl (Nat.le_refl _) (Nat.le_refl _) h
  · replace h := h.2 c
    refine r_iload (pc := 13) (x := (gi s 3 2) * 4) dX4_base_13 rfl ?_
    refine r_iconst (pc := 15) (v := 4) dX4_base_15 (by decide) ?_
    refine r_iadd (pc := 16) dX4_base_16 ?_
    refine r_aload_n (pc := 17) (x := 3) dX4_base_17 rfl ?_
    refine n_getR (pc := 18) (j := 1) (q := 7) dX4_base_18 fl_RX4_18 (by decide) sh_3 rfl rfl rfl ?_
    refine n_alen (pc := 21) (v := 320) dX4_base_21 (by decide) sh_7 (by decide) (by decide) ?_
    refine r_icmp_le (pc := 22) (tgt := 27) dX4_base_22 (by decide) (fun c => ?_) (fun c => ?_)
    · replace h := h.1 c
      refine r_aload_n (pc := 27) (x := 3) dX4_base_27 rfl ?_
      refine n_getR (pc := 28) (j := 1) (q := 7) dX4_base_28 fl_RX4_18 (by decide) sh_3 rfl rfl rfl ?_
      refine r_iload (pc := 31) (x := (gi s 3 2) * 4) dX4_base_31 rfl ?_
      refine r_iload_n (pc := 33) (x := x1) dX4_base_33 rfl ?_
      obtain ⟨b1, h⟩ := h
      refine n_iast (pc := 34) (j := (ix ((gi s 3 2) * 4))) dX4_base_34 (by decide) sh_7 b1 rfl ?_
      refine r_aload_n (pc := 35) (x := 3) dX4_base_35 rfl ?_
      refine n_getR (pc := 36) (j := 1) (q := 7) dX4_base_36 fl_RX4_18 (by decide) sh_3 rfl rfl rfl ?_
      refine r_iload (pc := 39) (x := (gi s 3 2) * 4) dX4_base_39 rfl ?_
      refine r_iconst (pc := 41) (v := 1) dX4_base_41 (by decide) ?_
      refine r_iadd (pc := 42) dX4_base_42 ?_
      refine r_iload_n (pc := 43) (x := x2) dX4_base_43 rfl ?_
      obtain ⟨b2, h⟩ := h
      refine n_iast (pc := 44) (j := (ix (((gi s 3 2) * 4) + 1))) dX4_base_44 (by decide) sh_7 b2 rfl ?_
      refine r_aload_n (pc := 45) (x := 3) dX4_base_45 rfl ?_
      refine n_getR (pc := 46) (j := 1) (q := 7) dX4_base_46 fl_RX4_18 (by decide) sh_3 rfl rfl rfl ?_
      refine r_iload (pc := 49) (x := (gi s 3 2) * 4) dX4_base_49 rfl ?_
      refine r_iconst (pc := 51) (v := 2) dX4_base_51 (by decide) ?_
      refine r_iadd (pc := 52) dX4_base_52 ?_
      refine r_iload_n (pc := 53) (x := x3) dX4_base_53 rfl ?_
      obtain ⟨b3, h⟩ := h
      refine n_iast (pc := 54) (j := (ix (((gi s 3 2) * 4) + 2))) dX4_base_54 (by decide) sh_7 b3 rfl ?_
      refine r_aload_n (pc := 55) (x := 3) dX4_base_55 rfl ?_
      refine n_getR (pc := 56) (j := 1) (q := 7) dX4_base_56 fl_RX4_18 (by decide) sh_3 rfl rfl rfl ?_
      refine r_iload (pc := 59) (x := (gi s 3 2) * 4) dX4_base_59 rfl ?_
      refine r_iconst (pc := 61) (v := 3) dX4_base_61 (by decide) ?_
      refine r_iadd (pc := 62) dX4_base_62 ?_
      refine r_iload (pc := 63) (x := x4) dX4_base_63 rfl ?_
      obtain ⟨b4, h⟩ := h
      refine n_iast (pc := 65) (j := (ix (((gi s 3 2) * 4) + 3))) dX4_base_65 (by decide) sh_7 b4 rfl ?_
      refine r_aload_n (pc := 66) (x := 3) dX4_base_66 rfl ?_
      refine r_dup (pc := 67) dX4_base_67 rfl ?_
      refine n_getI (pc := 68) (j := 2) dX4_base_68 fl_RX4_22 (by decide) sh_3 rfl rfl ?_
      refine r_iconst (pc := 71) (v := 1) dX4_base_71 (by decide) ?_
      refine r_iadd (pc := 72) dX4_base_72 ?_
      refine n_putI (pc := 73) (j := 2) dX4_base_73 fl_RX4_22 fw_4_2 (by decide) sh_3 rfl rfl ?_
      refine r_iconst (pc := 76) (v := 2) dX4_base_76 (by decide) ?_
      exact n_iret (pc := 77) dX4_base_77 rfl (Nat.le_refl _) (Nat.le_refl _) h
    · replace h := h.2 c
      refine r_iconst (pc := 25) (v := 0) dX4_base_25 (by decide) ?_
      exact n_iret (pc := 26) dX4_base_26 rfl (Nat.le_refl _) (Nat.le_refl _) h
def wpX4_prefix (x1 : Int32) (x2 : Int32) (x3 : Int32) (s : gS) (Q : Int32 → gS → Prop) : Prop := (((gi s 3 4) * 4) < 0 → Q 0 s) ∧ (¬ (((gi s 3 4) * 4) < 0) → ((((gi s 3 4) * 4) + 4) ≤ 320 → vp_in ((gi s 3 4) * 4) 320 ∧ (vp_in (((gi s 3 4) * 4) + 1) 320 ∧ (vp_in (((gi s 3 4) * 4) + 2) 320 ∧ (Q 1 (wi (wi (wi (wi s 8 (ix ((gi s 3 4) * 4)) x1) 8 (ix (((gi s 3 4) * 4) + 1)) x2) 8 (ix (((gi s 3 4) * 4) + 2)) x3) 3 4 ((gi (wi (wi (wi s 8 (ix ((gi s 3 4) * 4)) x1) 8 (ix (((gi s 3 4) * 4) + 1)) x2) 8 (ix (((gi s 3 4) * 4) + 2)) x3) 3 4) + 1)))))) ∧ (¬ ((((gi s 3 4) * 4) + 4) ≤ 320) → Q 0 s))
set_option maxRecDepth 20000 in
theorem spX4_prefix {l : Launch} {x1 : Int32} {x2 : Int32} {x3 : Int32}  {s : gS} {Q : Int32 → gS → Prop} (h : wpX4_prefix x1 x2 x3 s Q) : Ct l mX4_prefix 1 0 0 [.ref 3, .int x1, .int x2, .int x3] (nrm s) (q_i Q) := by
  refine Ct.of (by decide) (Nat.le_of_ble_eq_true rfl) (fun X => ?_)
  refine n_L (L' := [some (.ref 3), some (.int x1), some (.int x2), some (.int x3), none]) (le_s (le_s (le_s (le_s (le_p (le_e)))))) ?_
  refine r_aload_n (pc := 0) (x := 3) dX4_prefix_0 rfl ?_
  refine n_getI (pc := 1) (j := 4) dX4_prefix_1 fl_RX4_29 (by decide) sh_3 rfl rfl ?_
  refine r_iconst (pc := 4) (v := 4) dX4_prefix_4 (by decide) ?_
  refine r_imul (pc := 5) dX4_prefix_5 ?_
  refine r_istore (pc := 6) (L' := [some (.ref 3), some (.int x1), some (.int x2), some (.int x3), some (.int ((gi s 3 4) * 4))]) dX4_prefix_6 rfl (by decide) rfl ?_
  refine r_iload (pc := 8) (x := (gi s 3 4) * 4) dX4_prefix_8 rfl ?_
  refine r_if_lt (pc := 10) (tgt := 25) dX4_prefix_10 (by decide) (fun c => ?_) (fun c => ?_)
  · replace h := h.1 c
    refine r_iconst (pc := 25) (v := 0) dX4_prefix_25 (by decide) ?_
    exact n_iret (pc := 26) dX4_prefix_26 rfl (Nat.le_refl _) (Nat.le_refl _) h
  · replace h := h.2 c
    refine r_iload (pc := 13) (x := (gi s 3 4) * 4) dX4_prefix_13 rfl ?_
    refine r_iconst (pc := 15) (v := 4) dX4_prefix_15 (by decide) ?_
    refine r_iadd (pc := 16) dX4_prefix_16 ?_
    refine r_aload_n (pc := 17) (x := 3) dX4_prefix_17 rfl ?_
    refine n_getR (pc := 18) (j := 3) (q := 8) dX4_prefix_18 fl_RX4_26 (by decide) sh_3 rfl rfl rfl ?_
    refine n_alen (pc := 21) (v := 320) dX4_prefix_21 (by decide) sh_8 (by decide) (by decide) ?_
    refine r_icmp_le (pc := 22) (tgt := 27) dX4_prefix_22 (by decide) (fun c => ?_) (fun c => ?_)
    · replace h := h.1 c
      refine r_aload_n (pc := 27) (x := 3) dX4_prefix_27 rfl ?_
      refine n_getR (pc := 28) (j := 3) (q := 8) dX4_prefix_28 fl_RX4_26 (by decide) sh_3 rfl rfl rfl ?_
      refine r_iload (pc := 31) (x := (gi s 3 4) * 4) dX4_prefix_31 rfl ?_
      refine r_iload_n (pc := 33) (x := x1) dX4_prefix_33 rfl ?_
      obtain ⟨b1, h⟩ := h
      refine n_iast (pc := 34) (j := (ix ((gi s 3 4) * 4))) dX4_prefix_34 (by decide) sh_8 b1 rfl ?_
      refine r_aload_n (pc := 35) (x := 3) dX4_prefix_35 rfl ?_
      refine n_getR (pc := 36) (j := 3) (q := 8) dX4_prefix_36 fl_RX4_26 (by decide) sh_3 rfl rfl rfl ?_
      refine r_iload (pc := 39) (x := (gi s 3 4) * 4) dX4_prefix_39 rfl ?_
      refine r_iconst (pc := 41) (v := 1) dX4_prefix_41 (by decide) ?_
      refine r_iadd (pc := 42) dX4_prefix_42 ?_
      refine r_iload_n (pc := 43) (x := x2) dX4_prefix_43 rfl ?_
      obtain ⟨b2, h⟩ := h
      refine n_iast (pc := 44) (j := (ix (((gi s 3 4) * 4) + 1))) dX4_prefix_44 (by decide) sh_8 b2 rfl ?_
      refine r_aload_n (pc := 45) (x := 3) dX4_prefix_45 rfl ?_
      refine n_getR (pc := 46) (j := 3) (q := 8) dX4_prefix_46 fl_RX4_26 (by decide) sh_3 rfl rfl rfl ?_
      refine r_iload (pc := 49) (x := (gi s 3 4) * 4) dX4_prefix_49 rfl ?_
      refine r_iconst (pc := 51) (v := 2) dX4_prefix_51 (by decide) ?_
      refine r_iadd (pc := 52) dX4_prefix_52 ?_
      refine r_iload_n (pc := 53) (x := x3) dX4_prefix_53 rfl ?_
      obtain ⟨b3, h⟩ := h
      refine n_iast (pc := 54) (j := (ix (((gi s 3 4) * 4) + 2))) dX4_prefix_54 (by decide) sh_8 b3 rfl ?_
      refine r_aload_n (pc := 55) (x := 3) dX4_prefix_55 rfl ?_
      refine r_dup (pc := 56) dX4_prefix_56 rfl ?_
      refine n_getI (pc := 57) (j := 4) dX4_prefix_57 fl_RX4_29 (by decide) sh_3 rfl rfl ?_
      refine r_iconst (pc := 60) (v := 1) dX4_prefix_60 (by decide) ?_
      refine r_iadd (pc := 61) dX4_prefix_61 ?_
      refine n_putI (pc := 62) (j := 4) dX4_prefix_62 fl_RX4_29 fw_4_4 (by decide) sh_3 rfl rfl ?_
      refine r_iconst (pc := 65) (v := 1) dX4_prefix_65 (by decide) ?_
      exact n_iret (pc := 66) dX4_prefix_66 rfl (Nat.le_refl _) (Nat.le_refl _) h
    · replace h := h.2 c
      refine r_iconst (pc := 25) (v := 0) dX4_prefix_25 (by decide) ?_
      exact n_iret (pc := 26) dX4_prefix_26 rfl (Nat.le_refl _) (Nat.le_refl _) h
def wX4_readFromNumber_155  (Q : Int32 → gS → Prop)  (y1 : Int32) (y2 : Int32) (z0 : Int32) (s : gS) : Prop := wpX4_prefix z0 y2 y1 s (fun r9 s9 => Q r9 s9)
set_option maxRecDepth 20000 in
theorem pX4_readFromNumber_155 {l : Launch} {X : gX}   {Q : Int32 → gS → Prop}  (y1 : Int32) (y2 : Int32) (z0 : Int32) (s : gS) (h : wX4_readFromNumber_155  Q y1 y2 z0 s)  : Gw l mX4_readFromNumber (g_rm 2 0 0) X 155 [none, some (.int y1), some (.int y2), none] [.int z0, .ref 3] (nrm s) 0 0 (g_Z X (q_i Q) 0 0) := by
  refine r_iload_n (pc := 155) (x := y2) dX4_readFromNumber_155 rfl ?_
  refine r_iload_n (pc := 156) (x := y1) dX4_readFromNumber_156 rfl ?_
  refine n_Vi0 (pc := 157) (S0 := []) (spX4_prefix h) gmX4_prefix selX4_prefix lk_RX4_81 dX4_readFromNumber_157 rfl (by decide) sh_3 ⟨rfl, by decide⟩ rfl ⟨Nat.le_of_ble_eq_true rfl, Nat.le_of_ble_eq_true rfl⟩ (Nat.le_of_ble_eq_true rfl) ⟨Nat.zero_le _, Nat.zero_le _⟩ (fun r9 s9 h => ?_)
  exact n_iret (pc := 160) dX4_readFromNumber_160 rfl (Nat.le_refl _) (Nat.le_refl _) h
def wX4_readFromNumber_118  (Q : Int32 → gS → Prop)  (y1 : Int32) (y2 : Int32) (y3 : Int32) (s : gS) : Prop := wpX10_advance s (fun s10 => (¬ y3 = 37 → (¬ y3 = 35 → wX4_readFromNumber_155  Q y1 y2 12 s10) ∧ (y3 = 35 → wX4_readFromNumber_155  Q y1 y2 11 s10)) ∧ (y3 = 37 → wpX4_base 1 y2 (-y1) 0 s10 (fun r11 s11 => Q r11 s11)))
set_option maxRecDepth 20000 in
theorem pX4_readFromNumber_118 {l : Launch} {X : gX}   {Q : Int32 → gS → Prop}  (y1 : Int32) (y2 : Int32) (y3 : Int32) (s : gS) (h : wX4_readFromNumber_118  Q y1 y2 y3 s)  : Gw l mX4_readFromNumber (g_rm 2 0 0) X 118 [some (.ref 3), some (.int y1), some (.int y2), some (.int y3)] [] (nrm s) 0 0 (g_Z X (q_i Q) 0 0) := by
  refine r_aload_n (pc := 118) (x := 3) dX4_readFromNumber_118 rfl ?_
  refine n_getR (pc := 119) (j := 0) (q := 4) dX4_readFromNumber_119 fl_RX4_12 (by decide) sh_3 rfl rfl rfl ?_
  refine n_Vv0 (pc := 122) (S0 := []) (spX10_advance h) gmX10_advance selX10_advance lk_RX4_43 dX4_readFromNumber_122 rfl (by decide) sh_4 ⟨rfl, by decide⟩ rfl ⟨Nat.le_of_ble_eq_true rfl, Nat.le_of_ble_eq_true rfl⟩ (Nat.le_of_ble_eq_true rfl) ⟨Nat.zero_le _, Nat.zero_le _⟩ (fun s10 h => ?_)
  refine r_iload_n (pc := 125) (x := y3) dX4_readFromNumber_125 rfl ?_
  refine r_bipush (pc := 126) (v := 37) dX4_readFromNumber_126 (by decide) ?_
  refine r_icmp_ne (pc := 128) (tgt := 141) dX4_readFromNumber_128 (by decide) (fun c => ?_) (fun c => ?_)
  · replace h := h.1 c
    refine r_aload_n (pc := 141) (x := 3) dX4_readFromNumber_141 rfl ?_
    refine r_iload_n (pc := 142) (x := y3) dX4_readFromNumber_142 rfl ?_
    refine r_bipush (pc := 143) (v := 35) dX4_readFromNumber_143 (by decide) ?_
    refine r_icmp_ne (pc := 145) (tgt := 153) dX4_readFromNumber_145 (by decide) (fun c => ?_) (fun c => ?_)
    · replace h := h.1 c
      refine r_bipush (pc := 153) (v := 12) dX4_readFromNumber_153 (by decide) ?_
      refine n_L (L' := [none, some (.int y1), some (.int y2), none]) (le_n (le_s (le_s (le_n (le_e))))) ?_
      exact pX4_readFromNumber_155  _ _ _ _ h 
    · replace h := h.2 c
      refine r_bipush (pc := 148) (v := 11) dX4_readFromNumber_148 (by decide) ?_
      refine r_goto (pc := 150) (tgt := 155) dX4_readFromNumber_150 (by decide) ?_
      refine n_L (L' := [none, some (.int y1), some (.int y2), none]) (le_n (le_s (le_s (le_n (le_e))))) ?_
      exact pX4_readFromNumber_155  _ _ _ _ h 
  · replace h := h.2 c
    refine r_aload_n (pc := 131) (x := 3) dX4_readFromNumber_131 rfl ?_
    refine r_iconst (pc := 132) (v := 1) dX4_readFromNumber_132 (by decide) ?_
    refine r_iload_n (pc := 133) (x := y2) dX4_readFromNumber_133 rfl ?_
    refine r_iload_n (pc := 134) (x := y1) dX4_readFromNumber_134 rfl ?_
    refine r_ineg (pc := 135) dX4_readFromNumber_135 ?_
    refine r_iconst (pc := 136) (v := 0) dX4_readFromNumber_136 (by decide) ?_
    refine n_Vi0 (pc := 137) (S0 := []) (spX4_base h) gmX4_base selX4_base lk_RX4_52 dX4_readFromNumber_137 rfl (by decide) sh_3 ⟨rfl, by decide⟩ rfl ⟨Nat.le_of_ble_eq_true rfl, Nat.le_of_ble_eq_true rfl⟩ (Nat.le_of_ble_eq_true rfl) ⟨Nat.zero_le _, Nat.zero_le _⟩ (fun r11 s11 h => ?_)
    exact n_iret (pc := 140) dX4_readFromNumber_140 rfl (Nat.le_refl _) (Nat.le_refl _) h
def wpX4_readFromNumber  (s : gS) (Q : Int32 → gS → Prop) : Prop := wpX10_number s (fun r1 s1 => wpX10_isFrom 2000 2027 s1 (fun r2 s2 => (r2 = 0 → wpX10_isFrom 1 99 s2 (fun r3 s3 => (¬ r3 = 0 → wpX10_advance s3 (fun s4 => wpX10_isUnit s4 (fun r5 s5 => (¬ r5 = 0 → wpX10_advance s5 (fun s6 => ((gi s6 4 3) = 35 → wX4_readFromNumber_118  Q r1 (gi s5 4 3) (gi s6 4 3) s6) ∧ (¬ ((gi s6 4 3) = 35) → ((gi s6 4 3) = 36 → wX4_readFromNumber_118  Q r1 (gi s5 4 3) (gi s6 4 3) s6) ∧ (¬ ((gi s6 4 3) = 36) → ((gi s6 4 3) = 37 → wX4_readFromNumber_118  Q r1 (gi s5 4 3) (gi s6 4 3) s6) ∧ (¬ ((gi s6 4 3) = 37) → Q 0 s6))))) ∧ (r5 = 0 → Q 0 s5)))) ∧ (r3 = 0 → Q 0 s3))) ∧ (¬ (r2 = 0) → wpX10_advance s2 (fun s7 => wpX4_base 10 r1 0 0 s7 (fun r8 s8 => Q r8 s8)))))
set_option maxRecDepth 20000 in
theorem spX4_readFromNumber {l : Launch}   {s : gS} {Q : Int32 → gS → Prop} (h : wpX4_readFromNumber  s Q) : Ct l mX4_readFromNumber 2 0 0 [.ref 3] (nrm s) (q_i Q) := by
  refine Ct.of (by decide) (Nat.le_of_ble_eq_true rfl) (fun X => ?_)
  refine n_L (L' := [some (.ref 3), none, none, none]) (le_s (le_p (le_p (le_p (le_e))))) ?_
  refine r_aload_n (pc := 0) (x := 3) dX4_readFromNumber_0 rfl ?_
  refine n_getR (pc := 1) (j := 0) (q := 4) dX4_readFromNumber_1 fl_RX4_12 (by decide) sh_3 rfl rfl rfl ?_
  refine n_Vi0 (pc := 4) (S0 := []) (spX10_number h) gmX10_number selX10_number lk_RX4_95 dX4_readFromNumber_4 rfl (by decide) sh_4 ⟨rfl, by decide⟩ rfl ⟨Nat.le_of_ble_eq_true rfl, Nat.le_of_ble_eq_true rfl⟩ (Nat.le_of_ble_eq_true rfl) ⟨Nat.zero_le _, Nat.zero_le _⟩ (fun r1 s1 h => ?_)
  refine r_istore_n (pc := 7) (L' := [some (.ref 3), some (.int r1), none, none]) dX4_readFromNumber_7 rfl (by decide) rfl ?_
  refine r_aload_n (pc := 8) (x := 3) dX4_readFromNumber_8 rfl ?_
  refine n_getR (pc := 9) (j := 0) (q := 4) dX4_readFromNumber_9 fl_RX4_12 (by decide) sh_3 rfl rfl rfl ?_
  refine r_sipush (pc := 12) (v := 2000) dX4_readFromNumber_12 (by decide) ?_
  refine r_sipush (pc := 15) (v := 2027) dX4_readFromNumber_15 (by decide) ?_
  refine n_Vi0 (pc := 18) (S0 := []) (spX10_isFrom h) gmX10_isFrom selX10_isFrom lk_RX4_98 dX4_readFromNumber_18 rfl (by decide) sh_4 ⟨rfl, by decide⟩ rfl ⟨Nat.le_of_ble_eq_true rfl, Nat.le_of_ble_eq_true rfl⟩ (Nat.le_of_ble_eq_true rfl) ⟨Nat.zero_le _, Nat.zero_le _⟩ (fun r2 s2 h => ?_)
  refine r_if_eq (pc := 21) (tgt := 41) dX4_readFromNumber_21 (by decide) (fun c => ?_) (fun c => ?_)
  · replace h := h.1 c
    refine r_aload_n (pc := 41) (x := 3) dX4_readFromNumber_41 rfl ?_
    refine n_getR (pc := 42) (j := 0) (q := 4) dX4_readFromNumber_42 fl_RX4_12 (by decide) sh_3 rfl rfl rfl ?_
    refine r_iconst (pc := 45) (v := 1) dX4_readFromNumber_45 (by decide) ?_
    refine r_bipush (pc := 46) (v := 99) dX4_readFromNumber_46 (by decide) ?_
    refine n_Vi0 (pc := 48) (S0 := []) (spX10_isFrom h) gmX10_isFrom selX10_isFrom lk_RX4_98 dX4_readFromNumber_48 rfl (by decide) sh_4 ⟨rfl, by decide⟩ rfl ⟨Nat.le_of_ble_eq_true rfl, Nat.le_of_ble_eq_true rfl⟩ (Nat.le_of_ble_eq_true rfl) ⟨Nat.zero_le _, Nat.zero_le _⟩ (fun r3 s3 h => ?_)
    refine r_if_ne (pc := 51) (tgt := 56) dX4_readFromNumber_51 (by decide) (fun c => ?_) (fun c => ?_)
    · replace h := h.1 c
      refine r_aload_n (pc := 56) (x := 3) dX4_readFromNumber_56 rfl ?_
      refine n_getR (pc := 57) (j := 0) (q := 4) dX4_readFromNumber_57 fl_RX4_12 (by decide) sh_3 rfl rfl rfl ?_
      refine n_Vv0 (pc := 60) (S0 := []) (spX10_advance h) gmX10_advance selX10_advance lk_RX4_43 dX4_readFromNumber_60 rfl (by decide) sh_4 ⟨rfl, by decide⟩ rfl ⟨Nat.le_of_ble_eq_true rfl, Nat.le_of_ble_eq_true rfl⟩ (Nat.le_of_ble_eq_true rfl) ⟨Nat.zero_le _, Nat.zero_le _⟩ (fun s4 h => ?_)
      refine r_aload_n (pc := 63) (x := 3) dX4_readFromNumber_63 rfl ?_
      refine n_getR (pc := 64) (j := 0) (q := 4) dX4_readFromNumber_64 fl_RX4_12 (by decide) sh_3 rfl rfl rfl ?_
      refine n_Vi0 (pc := 67) (S0 := []) (spX10_isUnit h) gmX10_isUnit selX10_isUnit lk_RX4_102 dX4_readFromNumber_67 rfl (by decide) sh_4 ⟨rfl, by decide⟩ rfl ⟨Nat.le_of_ble_eq_true rfl, Nat.le_of_ble_eq_true rfl⟩ (Nat.le_of_ble_eq_true rfl) ⟨Nat.zero_le _, Nat.zero_le _⟩ (fun r5 s5 h => ?_)
      refine r_if_ne (pc := 70) (tgt := 75) dX4_readFromNumber_70 (by decide) (fun c => ?_) (fun c => ?_)
      · replace h := h.1 c
        refine r_aload_n (pc := 75) (x := 3) dX4_readFromNumber_75 rfl ?_
        refine n_getR (pc := 76) (j := 0) (q := 4) dX4_readFromNumber_76 fl_RX4_12 (by decide) sh_3 rfl rfl rfl ?_
        refine n_getI (pc := 79) (j := 3) dX4_readFromNumber_79 fl_RX4_40 (by decide) sh_4 rfl rfl ?_
        refine r_istore_n (pc := 82) (L' := [some (.ref 3), some (.int r1), some (.int (gi s5 4 3)), none]) dX4_readFromNumber_82 rfl (by decide) rfl ?_
        refine r_aload_n (pc := 83) (x := 3) dX4_readFromNumber_83 rfl ?_
        refine n_getR (pc := 84) (j := 0) (q := 4) dX4_readFromNumber_84 fl_RX4_12 (by decide) sh_3 rfl rfl rfl ?_
        refine n_Vv0 (pc := 87) (S0 := []) (spX10_advance h) gmX10_advance selX10_advance lk_RX4_43 dX4_readFromNumber_87 rfl (by decide) sh_4 ⟨rfl, by decide⟩ rfl ⟨Nat.le_of_ble_eq_true rfl, Nat.le_of_ble_eq_true rfl⟩ (Nat.le_of_ble_eq_true rfl) ⟨Nat.zero_le _, Nat.zero_le _⟩ (fun s6 h => ?_)
        refine r_aload_n (pc := 90) (x := 3) dX4_readFromNumber_90 rfl ?_
        refine n_getR (pc := 91) (j := 0) (q := 4) dX4_readFromNumber_91 fl_RX4_12 (by decide) sh_3 rfl rfl rfl ?_
        refine n_getI (pc := 94) (j := 3) dX4_readFromNumber_94 fl_RX4_40 (by decide) sh_4 rfl rfl ?_
        refine r_istore_n (pc := 97) (L' := [some (.ref 3), some (.int r1), some (.int (gi s5 4 3)), some (.int (gi s6 4 3))]) dX4_readFromNumber_97 rfl (by decide) rfl ?_
        refine r_iload_n (pc := 98) (x := gi s6 4 3) dX4_readFromNumber_98 rfl ?_
        refine r_bipush (pc := 99) (v := 35) dX4_readFromNumber_99 (by decide) ?_
        refine r_icmp_eq (pc := 101) (tgt := 118) dX4_readFromNumber_101 (by decide) (fun c => ?_) (fun c => ?_)
        · replace h := h.1 c
          refine n_L (L' := [some (.ref 3), some (.int r1), some (.int (gi s5 4 3)), some (.int (gi s6 4 3))]) (le_s (le_s (le_s (le_s (le_e))))) ?_
          exact pX4_readFromNumber_118  _ _ _ _ h 
        · replace h := h.2 c
          refine r_iload_n (pc := 104) (x := gi s6 4 3) dX4_readFromNumber_104 rfl ?_
          refine r_bipush (pc := 105) (v := 36) dX4_readFromNumber_105 (by decide) ?_
          refine r_icmp_eq (pc := 107) (tgt := 118) dX4_readFromNumber_107 (by decide) (fun c => ?_) (fun c => ?_)
          · replace h := h.1 c
            refine n_L (L' := [some (.ref 3), some (.int r1), some (.int (gi s5 4 3)), some (.int (gi s6 4 3))]) (le_s (le_s (le_s (le_s (le_e))))) ?_
            exact pX4_readFromNumber_118  _ _ _ _ h 
          · replace h := h.2 c
            refine r_iload_n (pc := 110) (x := gi s6 4 3) dX4_readFromNumber_110 rfl ?_
            refine r_bipush (pc := 111) (v := 37) dX4_readFromNumber_111 (by decide) ?_
            refine r_icmp_eq (pc := 113) (tgt := 118) dX4_readFromNumber_113 (by decide) (fun c => ?_) (fun c => ?_)
            · replace h := h.1 c
              refine n_L (L' := [some (.ref 3), some (.int r1), some (.int (gi s5 4 3)), some (.int (gi s6 4 3))]) (le_s (le_s (le_s (le_s (le_e))))) ?_
              exact pX4_readFromNumber_118  _ _ _ _ h 
            · replace h := h.2 c
              refine r_iconst (pc := 116) (v := 0) dX4_readFromNumber_116 (by decide) ?_
              exact n_iret (pc := 117) dX4_readFromNumber_117 rfl (Nat.le_refl _) (Nat.le_refl _) h
      · replace h := h.2 c
        refine r_iconst (pc := 73) (v := 0) dX4_readFromNumber_73 (by decide) ?_
        exact n_iret (pc := 74) dX4_readFromNumber_74 rfl (Nat.le_refl _) (Nat.le_refl _) h
    · replace h := h.2 c
      refine r_iconst (pc := 54) (v := 0) dX4_readFromNumber_54 (by decide) ?_
      exact n_iret (pc := 55) dX4_readFromNumber_55 rfl (Nat.le_refl _) (Nat.le_refl _) h
  · replace h := h.2 c
    refine r_aload_n (pc := 24) (x := 3) dX4_readFromNumber_24 rfl ?_
    refine n_getR (pc := 25) (j := 0) (q := 4) dX4_readFromNumber_25 fl_RX4_12 (by decide) sh_3 rfl rfl rfl ?_
    refine n_Vv0 (pc := 28) (S0 := []) (spX10_advance h) gmX10_advance selX10_advance lk_RX4_43 dX4_readFromNumber_28 rfl (by decide) sh_4 ⟨rfl, by decide⟩ rfl ⟨Nat.le_of_ble_eq_true rfl, Nat.le_of_ble_eq_true rfl⟩ (Nat.le_of_ble_eq_true rfl) ⟨Nat.zero_le _, Nat.zero_le _⟩ (fun s7 h => ?_)
    refine r_aload_n (pc := 31) (x := 3) dX4_readFromNumber_31 rfl ?_
    refine r_bipush (pc := 32) (v := 10) dX4_readFromNumber_32 (by decide) ?_
    refine r_iload_n (pc := 34) (x := r1) dX4_readFromNumber_34 rfl ?_
    refine r_iconst (pc := 35) (v := 0) dX4_readFromNumber_35 (by decide) ?_
    refine r_iconst (pc := 36) (v := 0) dX4_readFromNumber_36 (by decide) ?_
    refine n_Vi0 (pc := 37) (S0 := []) (spX4_base h) gmX4_base selX4_base lk_RX4_52 dX4_readFromNumber_37 rfl (by decide) sh_3 ⟨rfl, by decide⟩ rfl ⟨Nat.le_of_ble_eq_true rfl, Nat.le_of_ble_eq_true rfl⟩ (Nat.le_of_ble_eq_true rfl) ⟨Nat.zero_le _, Nat.zero_le _⟩ (fun r8 s8 h => ?_)
    exact n_iret (pc := 40) dX4_readFromNumber_40 rfl (Nat.le_refl _) (Nat.le_refl _) h
def wpX4_readFromDayName  (s : gS) (Q : Int32 → gS → Prop) : Prop := wpX10_advance s (fun s1 => ((gi s1 4 3) = 35 → wpX10_advance s1 (fun s2 => ((gi s2 4 3) = 33 → wpX10_advance s2 (fun s3 => wpX4_base 6 ((gi s 4 3) - 4) 0 0 s3 (fun r4 s4 => Q r4 s4))) ∧ (¬ ((gi s2 4 3) = 33) → Q 0 s2))) ∧ (¬ ((gi s1 4 3) = 35) → wpX4_base 2 ((gi s 4 3) - 4) 0 0 s1 (fun r5 s5 => Q r5 s5)))
set_option maxRecDepth 20000 in
theorem spX4_readFromDayName {l : Launch}   {s : gS} {Q : Int32 → gS → Prop} (h : wpX4_readFromDayName  s Q) : Ct l mX4_readFromDayName 2 0 0 [.ref 3] (nrm s) (q_i Q) := by
  refine Ct.of (by decide) (Nat.le_of_ble_eq_true rfl) (fun X => ?_)
  refine n_L (L' := [some (.ref 3), none]) (le_s (le_p (le_e))) ?_
  refine r_aload_n (pc := 0) (x := 3) dX4_readFromDayName_0 rfl ?_
  refine n_getR (pc := 1) (j := 0) (q := 4) dX4_readFromDayName_1 fl_RX4_12 (by decide) sh_3 rfl rfl rfl ?_
  refine n_getI (pc := 4) (j := 3) dX4_readFromDayName_4 fl_RX4_40 (by decide) sh_4 rfl rfl ?_
  refine r_iconst (pc := 7) (v := 4) dX4_readFromDayName_7 (by decide) ?_
  refine r_isub (pc := 8) dX4_readFromDayName_8 ?_
  refine r_istore_n (pc := 9) (L' := [some (.ref 3), some (.int ((gi s 4 3) - 4))]) dX4_readFromDayName_9 rfl (by decide) rfl ?_
  refine r_aload_n (pc := 10) (x := 3) dX4_readFromDayName_10 rfl ?_
  refine n_getR (pc := 11) (j := 0) (q := 4) dX4_readFromDayName_11 fl_RX4_12 (by decide) sh_3 rfl rfl rfl ?_
  refine n_Vv0 (pc := 14) (S0 := []) (spX10_advance h) gmX10_advance selX10_advance lk_RX4_43 dX4_readFromDayName_14 rfl (by decide) sh_4 ⟨rfl, by decide⟩ rfl ⟨Nat.le_of_ble_eq_true rfl, Nat.le_of_ble_eq_true rfl⟩ (Nat.le_of_ble_eq_true rfl) ⟨Nat.zero_le _, Nat.zero_le _⟩ (fun s1 h => ?_)
  refine r_aload_n (pc := 17) (x := 3) dX4_readFromDayName_17 rfl ?_
  refine n_getR (pc := 18) (j := 0) (q := 4) dX4_readFromDayName_18 fl_RX4_12 (by decide) sh_3 rfl rfl rfl ?_
  refine n_getI (pc := 21) (j := 3) dX4_readFromDayName_21 fl_RX4_40 (by decide) sh_4 rfl rfl ?_
  refine r_bipush (pc := 24) (v := 35) dX4_readFromDayName_24 (by decide) ?_
  refine r_icmp_eq (pc := 26) (tgt := 38) dX4_readFromDayName_26 (by decide) (fun c => ?_) (fun c => ?_)
  · replace h := h.1 c
    refine r_aload_n (pc := 38) (x := 3) dX4_readFromDayName_38 rfl ?_
    refine n_getR (pc := 39) (j := 0) (q := 4) dX4_readFromDayName_39 fl_RX4_12 (by decide) sh_3 rfl rfl rfl ?_
    refine n_Vv0 (pc := 42) (S0 := []) (spX10_advance h) gmX10_advance selX10_advance lk_RX4_43 dX4_readFromDayName_42 rfl (by decide) sh_4 ⟨rfl, by decide⟩ rfl ⟨Nat.le_of_ble_eq_true rfl, Nat.le_of_ble_eq_true rfl⟩ (Nat.le_of_ble_eq_true rfl) ⟨Nat.zero_le _, Nat.zero_le _⟩ (fun s2 h => ?_)
    refine r_aload_n (pc := 45) (x := 3) dX4_readFromDayName_45 rfl ?_
    refine n_getR (pc := 46) (j := 0) (q := 4) dX4_readFromDayName_46 fl_RX4_12 (by decide) sh_3 rfl rfl rfl ?_
    refine n_getI (pc := 49) (j := 3) dX4_readFromDayName_49 fl_RX4_40 (by decide) sh_4 rfl rfl ?_
    refine r_bipush (pc := 52) (v := 33) dX4_readFromDayName_52 (by decide) ?_
    refine r_icmp_eq (pc := 54) (tgt := 59) dX4_readFromDayName_54 (by decide) (fun c => ?_) (fun c => ?_)
    · replace h := h.1 c
      refine r_aload_n (pc := 59) (x := 3) dX4_readFromDayName_59 rfl ?_
      refine n_getR (pc := 60) (j := 0) (q := 4) dX4_readFromDayName_60 fl_RX4_12 (by decide) sh_3 rfl rfl rfl ?_
      refine n_Vv0 (pc := 63) (S0 := []) (spX10_advance h) gmX10_advance selX10_advance lk_RX4_43 dX4_readFromDayName_63 rfl (by decide) sh_4 ⟨rfl, by decide⟩ rfl ⟨Nat.le_of_ble_eq_true rfl, Nat.le_of_ble_eq_true rfl⟩ (Nat.le_of_ble_eq_true rfl) ⟨Nat.zero_le _, Nat.zero_le _⟩ (fun s3 h => ?_)
      refine r_aload_n (pc := 66) (x := 3) dX4_readFromDayName_66 rfl ?_
      refine r_bipush (pc := 67) (v := 6) dX4_readFromDayName_67 (by decide) ?_
      refine r_iload_n (pc := 69) (x := (gi s 4 3) - 4) dX4_readFromDayName_69 rfl ?_
      refine r_iconst (pc := 70) (v := 0) dX4_readFromDayName_70 (by decide) ?_
      refine r_iconst (pc := 71) (v := 0) dX4_readFromDayName_71 (by decide) ?_
      refine n_Vi0 (pc := 72) (S0 := []) (spX4_base h) gmX4_base selX4_base lk_RX4_52 dX4_readFromDayName_72 rfl (by decide) sh_3 ⟨rfl, by decide⟩ rfl ⟨Nat.le_of_ble_eq_true rfl, Nat.le_of_ble_eq_true rfl⟩ (Nat.le_of_ble_eq_true rfl) ⟨Nat.zero_le _, Nat.zero_le _⟩ (fun r4 s4 h => ?_)
      exact n_iret (pc := 75) dX4_readFromDayName_75 rfl (Nat.le_refl _) (Nat.le_refl _) h
    · replace h := h.2 c
      refine r_iconst (pc := 57) (v := 0) dX4_readFromDayName_57 (by decide) ?_
      exact n_iret (pc := 58) dX4_readFromDayName_58 rfl (Nat.le_refl _) (Nat.le_refl _) h
  · replace h := h.2 c
    refine r_aload_n (pc := 29) (x := 3) dX4_readFromDayName_29 rfl ?_
    refine r_iconst (pc := 30) (v := 2) dX4_readFromDayName_30 (by decide) ?_
    refine r_iload_n (pc := 31) (x := (gi s 4 3) - 4) dX4_readFromDayName_31 rfl ?_
    refine r_iconst (pc := 32) (v := 0) dX4_readFromDayName_32 (by decide) ?_
    refine r_iconst (pc := 33) (v := 0) dX4_readFromDayName_33 (by decide) ?_
    refine n_Vi0 (pc := 34) (S0 := []) (spX4_base h) gmX4_base selX4_base lk_RX4_52 dX4_readFromDayName_34 rfl (by decide) sh_3 ⟨rfl, by decide⟩ rfl ⟨Nat.le_of_ble_eq_true rfl, Nat.le_of_ble_eq_true rfl⟩ (Nat.le_of_ble_eq_true rfl) ⟨Nat.zero_le _, Nat.zero_le _⟩ (fun r5 s5 h => ?_)
    exact n_iret (pc := 37) dX4_readFromDayName_37 rfl (Nat.le_refl _) (Nat.le_refl _) h
def wpX4_readFromMonthName  (s : gS) (Q : Int32 → gS → Prop) : Prop := wpX10_advance s (fun s1 => wpX10_isNumber s1 (fun r2 s2 => (¬ r2 = 0 → wpX10_isFrom 1 31 s2 (fun r3 s3 => (¬ r3 = 0 → wpX10_number s3 (fun r4 s4 => wpX10_advance s4 (fun s5 => wpX10_isNumber s5 (fun r6 s6 => (¬ r6 = 0 → wpX10_isFrom 2000 2027 s6 (fun r7 s7 => (¬ r7 = 0 → wpX10_number s7 (fun r8 s8 => wpX10_advance s8 (fun s9 => wpX4_base 9 ((gi s 4 3) - 11) r4 r8 s9 (fun r10 s10 => Q r10 s10)))) ∧ (r7 = 0 → Q 0 s7))) ∧ (r6 = 0 → wpX4_base 8 ((gi s 4 3) - 11) r4 0 s6 (fun r11 s11 => Q r11 s11)))))) ∧ (r3 = 0 → Q 0 s3))) ∧ (r2 = 0 → wpX4_base 7 ((gi s 4 3) - 11) 0 0 s2 (fun r12 s12 => Q r12 s12))))
set_option maxRecDepth 20000 in
theorem spX4_readFromMonthName {l : Launch}   {s : gS} {Q : Int32 → gS → Prop} (h : wpX4_readFromMonthName  s Q) : Ct l mX4_readFromMonthName 2 0 0 [.ref 3] (nrm s) (q_i Q) := by
  refine Ct.of (by decide) (Nat.le_of_ble_eq_true rfl) (fun X => ?_)
  refine n_L (L' := [some (.ref 3), none, none, none]) (le_s (le_p (le_p (le_p (le_e))))) ?_
  refine r_aload_n (pc := 0) (x := 3) dX4_readFromMonthName_0 rfl ?_
  refine n_getR (pc := 1) (j := 0) (q := 4) dX4_readFromMonthName_1 fl_RX4_12 (by decide) sh_3 rfl rfl rfl ?_
  refine n_getI (pc := 4) (j := 3) dX4_readFromMonthName_4 fl_RX4_40 (by decide) sh_4 rfl rfl ?_
  refine r_bipush (pc := 7) (v := 11) dX4_readFromMonthName_7 (by decide) ?_
  refine r_isub (pc := 9) dX4_readFromMonthName_9 ?_
  refine r_istore_n (pc := 10) (L' := [some (.ref 3), some (.int ((gi s 4 3) - 11)), none, none]) dX4_readFromMonthName_10 rfl (by decide) rfl ?_
  refine r_aload_n (pc := 11) (x := 3) dX4_readFromMonthName_11 rfl ?_
  refine n_getR (pc := 12) (j := 0) (q := 4) dX4_readFromMonthName_12 fl_RX4_12 (by decide) sh_3 rfl rfl rfl ?_
  refine n_Vv0 (pc := 15) (S0 := []) (spX10_advance h) gmX10_advance selX10_advance lk_RX4_43 dX4_readFromMonthName_15 rfl (by decide) sh_4 ⟨rfl, by decide⟩ rfl ⟨Nat.le_of_ble_eq_true rfl, Nat.le_of_ble_eq_true rfl⟩ (Nat.le_of_ble_eq_true rfl) ⟨Nat.zero_le _, Nat.zero_le _⟩ (fun s1 h => ?_)
  refine r_aload_n (pc := 18) (x := 3) dX4_readFromMonthName_18 rfl ?_
  refine n_getR (pc := 19) (j := 0) (q := 4) dX4_readFromMonthName_19 fl_RX4_12 (by decide) sh_3 rfl rfl rfl ?_
  refine n_Vi0 (pc := 22) (S0 := []) (spX10_isNumber h) gmX10_isNumber selX10_isNumber lk_RX4_60 dX4_readFromMonthName_22 rfl (by decide) sh_4 ⟨rfl, by decide⟩ rfl ⟨Nat.le_of_ble_eq_true rfl, Nat.le_of_ble_eq_true rfl⟩ (Nat.le_of_ble_eq_true rfl) ⟨Nat.zero_le _, Nat.zero_le _⟩ (fun r2 s2 h => ?_)
  refine r_if_ne (pc := 25) (tgt := 38) dX4_readFromMonthName_25 (by decide) (fun c => ?_) (fun c => ?_)
  · replace h := h.1 c
    refine r_aload_n (pc := 38) (x := 3) dX4_readFromMonthName_38 rfl ?_
    refine n_getR (pc := 39) (j := 0) (q := 4) dX4_readFromMonthName_39 fl_RX4_12 (by decide) sh_3 rfl rfl rfl ?_
    refine r_iconst (pc := 42) (v := 1) dX4_readFromMonthName_42 (by decide) ?_
    refine r_bipush (pc := 43) (v := 31) dX4_readFromMonthName_43 (by decide) ?_
    refine n_Vi0 (pc := 45) (S0 := []) (spX10_isFrom h) gmX10_isFrom selX10_isFrom lk_RX4_98 dX4_readFromMonthName_45 rfl (by decide) sh_4 ⟨rfl, by decide⟩ rfl ⟨Nat.le_of_ble_eq_true rfl, Nat.le_of_ble_eq_true rfl⟩ (Nat.le_of_ble_eq_true rfl) ⟨Nat.zero_le _, Nat.zero_le _⟩ (fun r3 s3 h => ?_)
    refine r_if_ne (pc := 48) (tgt := 53) dX4_readFromMonthName_48 (by decide) (fun c => ?_) (fun c => ?_)
    · replace h := h.1 c
      refine r_aload_n (pc := 53) (x := 3) dX4_readFromMonthName_53 rfl ?_
      refine n_getR (pc := 54) (j := 0) (q := 4) dX4_readFromMonthName_54 fl_RX4_12 (by decide) sh_3 rfl rfl rfl ?_
      refine n_Vi0 (pc := 57) (S0 := []) (spX10_number h) gmX10_number selX10_number lk_RX4_95 dX4_readFromMonthName_57 rfl (by decide) sh_4 ⟨rfl, by decide⟩ rfl ⟨Nat.le_of_ble_eq_true rfl, Nat.le_of_ble_eq_true rfl⟩ (Nat.le_of_ble_eq_true rfl) ⟨Nat.zero_le _, Nat.zero_le _⟩ (fun r4 s4 h => ?_)
      refine r_istore_n (pc := 60) (L' := [some (.ref 3), some (.int ((gi s 4 3) - 11)), some (.int r4), none]) dX4_readFromMonthName_60 rfl (by decide) rfl ?_
      refine r_aload_n (pc := 61) (x := 3) dX4_readFromMonthName_61 rfl ?_
      refine n_getR (pc := 62) (j := 0) (q := 4) dX4_readFromMonthName_62 fl_RX4_12 (by decide) sh_3 rfl rfl rfl ?_
      refine n_Vv0 (pc := 65) (S0 := []) (spX10_advance h) gmX10_advance selX10_advance lk_RX4_43 dX4_readFromMonthName_65 rfl (by decide) sh_4 ⟨rfl, by decide⟩ rfl ⟨Nat.le_of_ble_eq_true rfl, Nat.le_of_ble_eq_true rfl⟩ (Nat.le_of_ble_eq_true rfl) ⟨Nat.zero_le _, Nat.zero_le _⟩ (fun s5 h => ?_)
      refine r_aload_n (pc := 68) (x := 3) dX4_readFromMonthName_68 rfl ?_
      refine n_getR (pc := 69) (j := 0) (q := 4) dX4_readFromMonthName_69 fl_RX4_12 (by decide) sh_3 rfl rfl rfl ?_
      refine n_Vi0 (pc := 72) (S0 := []) (spX10_isNumber h) gmX10_isNumber selX10_isNumber lk_RX4_60 dX4_readFromMonthName_72 rfl (by decide) sh_4 ⟨rfl, by decide⟩ rfl ⟨Nat.le_of_ble_eq_true rfl, Nat.le_of_ble_eq_true rfl⟩ (Nat.le_of_ble_eq_true rfl) ⟨Nat.zero_le _, Nat.zero_le _⟩ (fun r6 s6 h => ?_)
      refine r_if_ne (pc := 75) (tgt := 88) dX4_readFromMonthName_75 (by decide) (fun c => ?_) (fun c => ?_)
      · replace h := h.1 c
        refine r_aload_n (pc := 88) (x := 3) dX4_readFromMonthName_88 rfl ?_
        refine n_getR (pc := 89) (j := 0) (q := 4) dX4_readFromMonthName_89 fl_RX4_12 (by decide) sh_3 rfl rfl rfl ?_
        refine r_sipush (pc := 92) (v := 2000) dX4_readFromMonthName_92 (by decide) ?_
        refine r_sipush (pc := 95) (v := 2027) dX4_readFromMonthName_95 (by decide) ?_
        refine n_Vi0 (pc := 98) (S0 := []) (spX10_isFrom h) gmX10_isFrom selX10_isFrom lk_RX4_98 dX4_readFromMonthName_98 rfl (by decide) sh_4 ⟨rfl, by decide⟩ rfl ⟨Nat.le_of_ble_eq_true rfl, Nat.le_of_ble_eq_true rfl⟩ (Nat.le_of_ble_eq_true rfl) ⟨Nat.zero_le _, Nat.zero_le _⟩ (fun r7 s7 h => ?_)
        refine r_if_ne (pc := 101) (tgt := 106) dX4_readFromMonthName_101 (by decide) (fun c => ?_) (fun c => ?_)
        · replace h := h.1 c
          refine r_aload_n (pc := 106) (x := 3) dX4_readFromMonthName_106 rfl ?_
          refine n_getR (pc := 107) (j := 0) (q := 4) dX4_readFromMonthName_107 fl_RX4_12 (by decide) sh_3 rfl rfl rfl ?_
          refine n_Vi0 (pc := 110) (S0 := []) (spX10_number h) gmX10_number selX10_number lk_RX4_95 dX4_readFromMonthName_110 rfl (by decide) sh_4 ⟨rfl, by decide⟩ rfl ⟨Nat.le_of_ble_eq_true rfl, Nat.le_of_ble_eq_true rfl⟩ (Nat.le_of_ble_eq_true rfl) ⟨Nat.zero_le _, Nat.zero_le _⟩ (fun r8 s8 h => ?_)
          refine r_istore_n (pc := 113) (L' := [some (.ref 3), some (.int ((gi s 4 3) - 11)), some (.int r4), some (.int r8)]) dX4_readFromMonthName_113 rfl (by decide) rfl ?_
          refine r_aload_n (pc := 114) (x := 3) dX4_readFromMonthName_114 rfl ?_
          refine n_getR (pc := 115) (j := 0) (q := 4) dX4_readFromMonthName_115 fl_RX4_12 (by decide) sh_3 rfl rfl rfl ?_
          refine n_Vv0 (pc := 118) (S0 := []) (spX10_advance h) gmX10_advance selX10_advance lk_RX4_43 dX4_readFromMonthName_118 rfl (by decide) sh_4 ⟨rfl, by decide⟩ rfl ⟨Nat.le_of_ble_eq_true rfl, Nat.le_of_ble_eq_true rfl⟩ (Nat.le_of_ble_eq_true rfl) ⟨Nat.zero_le _, Nat.zero_le _⟩ (fun s9 h => ?_)
          refine r_aload_n (pc := 121) (x := 3) dX4_readFromMonthName_121 rfl ?_
          refine r_bipush (pc := 122) (v := 9) dX4_readFromMonthName_122 (by decide) ?_
          refine r_iload_n (pc := 124) (x := (gi s 4 3) - 11) dX4_readFromMonthName_124 rfl ?_
          refine r_iload_n (pc := 125) (x := r4) dX4_readFromMonthName_125 rfl ?_
          refine r_iload_n (pc := 126) (x := r8) dX4_readFromMonthName_126 rfl ?_
          refine n_Vi0 (pc := 127) (S0 := []) (spX4_base h) gmX4_base selX4_base lk_RX4_52 dX4_readFromMonthName_127 rfl (by decide) sh_3 ⟨rfl, by decide⟩ rfl ⟨Nat.le_of_ble_eq_true rfl, Nat.le_of_ble_eq_true rfl⟩ (Nat.le_of_ble_eq_true rfl) ⟨Nat.zero_le _, Nat.zero_le _⟩ (fun r10 s10 h => ?_)
          exact n_iret (pc := 130) dX4_readFromMonthName_130 rfl (Nat.le_refl _) (Nat.le_refl _) h
        · replace h := h.2 c
          refine r_iconst (pc := 104) (v := 0) dX4_readFromMonthName_104 (by decide) ?_
          exact n_iret (pc := 105) dX4_readFromMonthName_105 rfl (Nat.le_refl _) (Nat.le_refl _) h
      · replace h := h.2 c
        refine r_aload_n (pc := 78) (x := 3) dX4_readFromMonthName_78 rfl ?_
        refine r_bipush (pc := 79) (v := 8) dX4_readFromMonthName_79 (by decide) ?_
        refine r_iload_n (pc := 81) (x := (gi s 4 3) - 11) dX4_readFromMonthName_81 rfl ?_
        refine r_iload_n (pc := 82) (x := r4) dX4_readFromMonthName_82 rfl ?_
        refine r_iconst (pc := 83) (v := 0) dX4_readFromMonthName_83 (by decide) ?_
        refine n_Vi0 (pc := 84) (S0 := []) (spX4_base h) gmX4_base selX4_base lk_RX4_52 dX4_readFromMonthName_84 rfl (by decide) sh_3 ⟨rfl, by decide⟩ rfl ⟨Nat.le_of_ble_eq_true rfl, Nat.le_of_ble_eq_true rfl⟩ (Nat.le_of_ble_eq_true rfl) ⟨Nat.zero_le _, Nat.zero_le _⟩ (fun r11 s11 h => ?_)
        exact n_iret (pc := 87) dX4_readFromMonthName_87 rfl (Nat.le_refl _) (Nat.le_refl _) h
    · replace h := h.2 c
      refine r_iconst (pc := 51) (v := 0) dX4_readFromMonthName_51 (by decide) ?_
      exact n_iret (pc := 52) dX4_readFromMonthName_52 rfl (Nat.le_refl _) (Nat.le_refl _) h
  · replace h := h.2 c
    refine r_aload_n (pc := 28) (x := 3) dX4_readFromMonthName_28 rfl ?_
    refine r_bipush (pc := 29) (v := 7) dX4_readFromMonthName_29 (by decide) ?_
    refine r_iload_n (pc := 31) (x := (gi s 4 3) - 11) dX4_readFromMonthName_31 rfl ?_
    refine r_iconst (pc := 32) (v := 0) dX4_readFromMonthName_32 (by decide) ?_
    refine r_iconst (pc := 33) (v := 0) dX4_readFromMonthName_33 (by decide) ?_
    refine n_Vi0 (pc := 34) (S0 := []) (spX4_base h) gmX4_base selX4_base lk_RX4_52 dX4_readFromMonthName_34 rfl (by decide) sh_3 ⟨rfl, by decide⟩ rfl ⟨Nat.le_of_ble_eq_true rfl, Nat.le_of_ble_eq_true rfl⟩ (Nat.le_of_ble_eq_true rfl) ⟨Nat.zero_le _, Nat.zero_le _⟩ (fun r12 s12 h => ?_)
    exact n_iret (pc := 37) dX4_readFromMonthName_37 rfl (Nat.le_refl _) (Nat.le_refl _) h
def wpX4_readBehindFirst  (s : gS) (Q : Int32 → gS → Prop) : Prop := wpX10_isDayName s (fun r1 s1 => (¬ r1 = 0 → wpX10_advance s1 (fun s2 => ((gi s2 4 3) = 34 → wpX10_advance s2 (fun s3 => wpX4_prefix 16 ((gi s1 4 3) - 4) 0 s3 (fun r4 s4 => Q r4 s4))) ∧ (¬ ((gi s2 4 3) = 34) → Q 0 s2))) ∧ (r1 = 0 → Q 0 s1))
set_option maxRecDepth 20000 in
theorem spX4_readBehindFirst {l : Launch}   {s : gS} {Q : Int32 → gS → Prop} (h : wpX4_readBehindFirst  s Q) : Ct l mX4_readBehindFirst 2 0 0 [.ref 3] (nrm s) (q_i Q) := by
  refine Ct.of (by decide) (Nat.le_of_ble_eq_true rfl) (fun X => ?_)
  refine n_L (L' := [some (.ref 3), none]) (le_s (le_p (le_e))) ?_
  refine r_aload_n (pc := 0) (x := 3) dX4_readBehindFirst_0 rfl ?_
  refine n_getR (pc := 1) (j := 0) (q := 4) dX4_readBehindFirst_1 fl_RX4_12 (by decide) sh_3 rfl rfl rfl ?_
  refine n_Vi0 (pc := 4) (S0 := []) (spX10_isDayName h) gmX10_isDayName selX10_isDayName lk_RX4_66 dX4_readBehindFirst_4 rfl (by decide) sh_4 ⟨rfl, by decide⟩ rfl ⟨Nat.le_of_ble_eq_true rfl, Nat.le_of_ble_eq_true rfl⟩ (Nat.le_of_ble_eq_true rfl) ⟨Nat.zero_le _, Nat.zero_le _⟩ (fun r1 s1 h => ?_)
  refine r_if_ne (pc := 7) (tgt := 12) dX4_readBehindFirst_7 (by decide) (fun c => ?_) (fun c => ?_)
  · replace h := h.1 c
    refine r_aload_n (pc := 12) (x := 3) dX4_readBehindFirst_12 rfl ?_
    refine n_getR (pc := 13) (j := 0) (q := 4) dX4_readBehindFirst_13 fl_RX4_12 (by decide) sh_3 rfl rfl rfl ?_
    refine n_getI (pc := 16) (j := 3) dX4_readBehindFirst_16 fl_RX4_40 (by decide) sh_4 rfl rfl ?_
    refine r_iconst (pc := 19) (v := 4) dX4_readBehindFirst_19 (by decide) ?_
    refine r_isub (pc := 20) dX4_readBehindFirst_20 ?_
    refine r_istore_n (pc := 21) (L' := [some (.ref 3), some (.int ((gi s1 4 3) - 4))]) dX4_readBehindFirst_21 rfl (by decide) rfl ?_
    refine r_aload_n (pc := 22) (x := 3) dX4_readBehindFirst_22 rfl ?_
    refine n_getR (pc := 23) (j := 0) (q := 4) dX4_readBehindFirst_23 fl_RX4_12 (by decide) sh_3 rfl rfl rfl ?_
    refine n_Vv0 (pc := 26) (S0 := []) (spX10_advance h) gmX10_advance selX10_advance lk_RX4_43 dX4_readBehindFirst_26 rfl (by decide) sh_4 ⟨rfl, by decide⟩ rfl ⟨Nat.le_of_ble_eq_true rfl, Nat.le_of_ble_eq_true rfl⟩ (Nat.le_of_ble_eq_true rfl) ⟨Nat.zero_le _, Nat.zero_le _⟩ (fun s2 h => ?_)
    refine r_aload_n (pc := 29) (x := 3) dX4_readBehindFirst_29 rfl ?_
    refine n_getR (pc := 30) (j := 0) (q := 4) dX4_readBehindFirst_30 fl_RX4_12 (by decide) sh_3 rfl rfl rfl ?_
    refine n_getI (pc := 33) (j := 3) dX4_readBehindFirst_33 fl_RX4_40 (by decide) sh_4 rfl rfl ?_
    refine r_bipush (pc := 36) (v := 34) dX4_readBehindFirst_36 (by decide) ?_
    refine r_icmp_eq (pc := 38) (tgt := 43) dX4_readBehindFirst_38 (by decide) (fun c => ?_) (fun c => ?_)
    · replace h := h.1 c
      refine r_aload_n (pc := 43) (x := 3) dX4_readBehindFirst_43 rfl ?_
      refine n_getR (pc := 44) (j := 0) (q := 4) dX4_readBehindFirst_44 fl_RX4_12 (by decide) sh_3 rfl rfl rfl ?_
      refine n_Vv0 (pc := 47) (S0 := []) (spX10_advance h) gmX10_advance selX10_advance lk_RX4_43 dX4_readBehindFirst_47 rfl (by decide) sh_4 ⟨rfl, by decide⟩ rfl ⟨Nat.le_of_ble_eq_true rfl, Nat.le_of_ble_eq_true rfl⟩ (Nat.le_of_ble_eq_true rfl) ⟨Nat.zero_le _, Nat.zero_le _⟩ (fun s3 h => ?_)
      refine r_aload_n (pc := 50) (x := 3) dX4_readBehindFirst_50 rfl ?_
      refine r_bipush (pc := 51) (v := 16) dX4_readBehindFirst_51 (by decide) ?_
      refine r_iload_n (pc := 53) (x := (gi s1 4 3) - 4) dX4_readBehindFirst_53 rfl ?_
      refine r_iconst (pc := 54) (v := 0) dX4_readBehindFirst_54 (by decide) ?_
      refine n_Vi0 (pc := 55) (S0 := []) (spX4_prefix h) gmX4_prefix selX4_prefix lk_RX4_81 dX4_readBehindFirst_55 rfl (by decide) sh_3 ⟨rfl, by decide⟩ rfl ⟨Nat.le_of_ble_eq_true rfl, Nat.le_of_ble_eq_true rfl⟩ (Nat.le_of_ble_eq_true rfl) ⟨Nat.zero_le _, Nat.zero_le _⟩ (fun r4 s4 h => ?_)
      exact n_iret (pc := 58) dX4_readBehindFirst_58 rfl (Nat.le_refl _) (Nat.le_refl _) h
    · replace h := h.2 c
      refine r_iconst (pc := 41) (v := 0) dX4_readBehindFirst_41 (by decide) ?_
      exact n_iret (pc := 42) dX4_readBehindFirst_42 rfl (Nat.le_refl _) (Nat.le_refl _) h
  · replace h := h.2 c
    refine r_iconst (pc := 10) (v := 0) dX4_readBehindFirst_10 (by decide) ?_
    exact n_iret (pc := 11) dX4_readBehindFirst_11 rfl (Nat.le_refl _) (Nat.le_refl _) h
def wX4_readBehindThis_92 (x1 : Int32) (x2 : Int32) (Q : Int32 → gS → Prop)  (y4 : Int32) (s : gS) : Prop := wpX4_base x1 y4 0 0 s (fun r8 s8 => Q r8 s8)
set_option maxRecDepth 20000 in
theorem pX4_readBehindThis_92 {l : Launch} {X : gX} {x1 : Int32} {x2 : Int32}  {Q : Int32 → gS → Prop}  (y4 : Int32) (s : gS) (h : wX4_readBehindThis_92 x1 x2 Q y4 s)  : Gw l mX4_readBehindThis (g_rm 2 0 0) X 92 [some (.ref 3), some (.int x1), none, none, some (.int y4)] [] (nrm s) 0 0 (g_Z X (q_i Q) 0 0) := by
  refine r_aload_n (pc := 92) (x := 3) dX4_readBehindThis_92 rfl ?_
  refine r_iload_n (pc := 93) (x := x1) dX4_readBehindThis_93 rfl ?_
  refine r_iload (pc := 94) (x := y4) dX4_readBehindThis_94 rfl ?_
  refine r_iconst (pc := 96) (v := 0) dX4_readBehindThis_96 (by decide) ?_
  refine r_iconst (pc := 97) (v := 0) dX4_readBehindThis_97 (by decide) ?_
  refine n_Vi0 (pc := 98) (S0 := []) (spX4_base h) gmX4_base selX4_base lk_RX4_52 dX4_readBehindThis_98 rfl (by decide) sh_3 ⟨rfl, by decide⟩ rfl ⟨Nat.le_of_ble_eq_true rfl, Nat.le_of_ble_eq_true rfl⟩ (Nat.le_of_ble_eq_true rfl) ⟨Nat.zero_le _, Nat.zero_le _⟩ (fun r8 s8 h => ?_)
  exact n_iret (pc := 101) dX4_readBehindThis_101 rfl (Nat.le_refl _) (Nat.le_refl _) h
def wpX4_readBehindThis (x1 : Int32) (x2 : Int32) (s : gS) (Q : Int32 → gS → Prop) : Prop := wpX10_isUnit s (fun r1 s1 => (r1 = 0 → wpX10_isDayName s1 (fun r2 s2 => (¬ r2 = 0 → wpX10_advance s2 (fun s3 => (¬ x1 = 5 → wX4_readBehindThis_92 x1 x2 Q ((gi s 4 3) - 4) s3) ∧ (x1 = 5 → (¬ (gi s3 4 3) = 34 → wX4_readBehindThis_92 x1 x2 Q ((gi s 4 3) - 4) s3) ∧ ((gi s3 4 3) = 34 → wpX10_advance s3 (fun s4 => wpX4_prefix 17 ((gi s 4 3) - 4) 0 s4 (fun r5 s5 => Q r5 s5)))))) ∧ (r2 = 0 → Q 0 s2))) ∧ (¬ (r1 = 0) → wpX10_advance s1 (fun s6 => wpX4_base 0 (gi s 4 3) x2 0 s6 (fun r7 s7 => Q r7 s7))))
set_option maxRecDepth 20000 in
theorem spX4_readBehindThis {l : Launch} {x1 : Int32} {x2 : Int32}  {s : gS} {Q : Int32 → gS → Prop} (h : wpX4_readBehindThis x1 x2 s Q) : Ct l mX4_readBehindThis 2 0 0 [.ref 3, .int x1, .int x2] (nrm s) (q_i Q) := by
  refine Ct.of (by decide) (Nat.le_of_ble_eq_true rfl) (fun X => ?_)
  refine n_L (L' := [some (.ref 3), some (.int x1), some (.int x2), none, none]) (le_s (le_s (le_s (le_p (le_p (le_e)))))) ?_
  refine r_aload_n (pc := 0) (x := 3) dX4_readBehindThis_0 rfl ?_
  refine n_getR (pc := 1) (j := 0) (q := 4) dX4_readBehindThis_1 fl_RX4_12 (by decide) sh_3 rfl rfl rfl ?_
  refine n_getI (pc := 4) (j := 3) dX4_readBehindThis_4 fl_RX4_40 (by decide) sh_4 rfl rfl ?_
  refine r_istore_n (pc := 7) (L' := [some (.ref 3), some (.int x1), some (.int x2), some (.int (gi s 4 3)), none]) dX4_readBehindThis_7 rfl (by decide) rfl ?_
  refine r_aload_n (pc := 8) (x := 3) dX4_readBehindThis_8 rfl ?_
  refine n_getR (pc := 9) (j := 0) (q := 4) dX4_readBehindThis_9 fl_RX4_12 (by decide) sh_3 rfl rfl rfl ?_
  refine n_Vi0 (pc := 12) (S0 := []) (spX10_isUnit h) gmX10_isUnit selX10_isUnit lk_RX4_102 dX4_readBehindThis_12 rfl (by decide) sh_4 ⟨rfl, by decide⟩ rfl ⟨Nat.le_of_ble_eq_true rfl, Nat.le_of_ble_eq_true rfl⟩ (Nat.le_of_ble_eq_true rfl) ⟨Nat.zero_le _, Nat.zero_le _⟩ (fun r1 s1 h => ?_)
  refine r_if_eq (pc := 15) (tgt := 34) dX4_readBehindThis_15 (by decide) (fun c => ?_) (fun c => ?_)
  · replace h := h.1 c
    refine r_aload_n (pc := 34) (x := 3) dX4_readBehindThis_34 rfl ?_
    refine n_getR (pc := 35) (j := 0) (q := 4) dX4_readBehindThis_35 fl_RX4_12 (by decide) sh_3 rfl rfl rfl ?_
    refine n_Vi0 (pc := 38) (S0 := []) (spX10_isDayName h) gmX10_isDayName selX10_isDayName lk_RX4_66 dX4_readBehindThis_38 rfl (by decide) sh_4 ⟨rfl, by decide⟩ rfl ⟨Nat.le_of_ble_eq_true rfl, Nat.le_of_ble_eq_true rfl⟩ (Nat.le_of_ble_eq_true rfl) ⟨Nat.zero_le _, Nat.zero_le _⟩ (fun r2 s2 h => ?_)
    refine r_if_ne (pc := 41) (tgt := 46) dX4_readBehindThis_41 (by decide) (fun c => ?_) (fun c => ?_)
    · replace h := h.1 c
      refine r_iload_n (pc := 46) (x := gi s 4 3) dX4_readBehindThis_46 rfl ?_
      refine r_iconst (pc := 47) (v := 4) dX4_readBehindThis_47 (by decide) ?_
      refine r_isub (pc := 48) dX4_readBehindThis_48 ?_
      refine r_istore (pc := 49) (L' := [some (.ref 3), some (.int x1), some (.int x2), some (.int (gi s 4 3)), some (.int ((gi s 4 3) - 4))]) dX4_readBehindThis_49 rfl (by decide) rfl ?_
      refine r_aload_n (pc := 51) (x := 3) dX4_readBehindThis_51 rfl ?_
      refine n_getR (pc := 52) (j := 0) (q := 4) dX4_readBehindThis_52 fl_RX4_12 (by decide) sh_3 rfl rfl rfl ?_
      refine n_Vv0 (pc := 55) (S0 := []) (spX10_advance h) gmX10_advance selX10_advance lk_RX4_43 dX4_readBehindThis_55 rfl (by decide) sh_4 ⟨rfl, by decide⟩ rfl ⟨Nat.le_of_ble_eq_true rfl, Nat.le_of_ble_eq_true rfl⟩ (Nat.le_of_ble_eq_true rfl) ⟨Nat.zero_le _, Nat.zero_le _⟩ (fun s3 h => ?_)
      refine r_iload_n (pc := 58) (x := x1) dX4_readBehindThis_58 rfl ?_
      refine r_iconst (pc := 59) (v := 5) dX4_readBehindThis_59 (by decide) ?_
      refine r_icmp_ne (pc := 60) (tgt := 92) dX4_readBehindThis_60 (by decide) (fun c => ?_) (fun c => ?_)
      · replace h := h.1 c
        refine n_L (L' := [some (.ref 3), some (.int x1), none, none, some (.int ((gi s 4 3) - 4))]) (le_s (le_s (le_n (le_n (le_s (le_e)))))) ?_
        exact pX4_readBehindThis_92  _ _ h 
      · replace h := h.2 c
        refine r_aload_n (pc := 63) (x := 3) dX4_readBehindThis_63 rfl ?_
        refine n_getR (pc := 64) (j := 0) (q := 4) dX4_readBehindThis_64 fl_RX4_12 (by decide) sh_3 rfl rfl rfl ?_
        refine n_getI (pc := 67) (j := 3) dX4_readBehindThis_67 fl_RX4_40 (by decide) sh_4 rfl rfl ?_
        refine r_bipush (pc := 70) (v := 34) dX4_readBehindThis_70 (by decide) ?_
        refine r_icmp_ne (pc := 72) (tgt := 92) dX4_readBehindThis_72 (by decide) (fun c => ?_) (fun c => ?_)
        · replace h := h.1 c
          refine n_L (L' := [some (.ref 3), some (.int x1), none, none, some (.int ((gi s 4 3) - 4))]) (le_s (le_s (le_n (le_n (le_s (le_e)))))) ?_
          exact pX4_readBehindThis_92  _ _ h 
        · replace h := h.2 c
          refine r_aload_n (pc := 75) (x := 3) dX4_readBehindThis_75 rfl ?_
          refine n_getR (pc := 76) (j := 0) (q := 4) dX4_readBehindThis_76 fl_RX4_12 (by decide) sh_3 rfl rfl rfl ?_
          refine n_Vv0 (pc := 79) (S0 := []) (spX10_advance h) gmX10_advance selX10_advance lk_RX4_43 dX4_readBehindThis_79 rfl (by decide) sh_4 ⟨rfl, by decide⟩ rfl ⟨Nat.le_of_ble_eq_true rfl, Nat.le_of_ble_eq_true rfl⟩ (Nat.le_of_ble_eq_true rfl) ⟨Nat.zero_le _, Nat.zero_le _⟩ (fun s4 h => ?_)
          refine r_aload_n (pc := 82) (x := 3) dX4_readBehindThis_82 rfl ?_
          refine r_bipush (pc := 83) (v := 17) dX4_readBehindThis_83 (by decide) ?_
          refine r_iload (pc := 85) (x := (gi s 4 3) - 4) dX4_readBehindThis_85 rfl ?_
          refine r_iconst (pc := 87) (v := 0) dX4_readBehindThis_87 (by decide) ?_
          refine n_Vi0 (pc := 88) (S0 := []) (spX4_prefix h) gmX4_prefix selX4_prefix lk_RX4_81 dX4_readBehindThis_88 rfl (by decide) sh_3 ⟨rfl, by decide⟩ rfl ⟨Nat.le_of_ble_eq_true rfl, Nat.le_of_ble_eq_true rfl⟩ (Nat.le_of_ble_eq_true rfl) ⟨Nat.zero_le _, Nat.zero_le _⟩ (fun r5 s5 h => ?_)
          exact n_iret (pc := 91) dX4_readBehindThis_91 rfl (Nat.le_refl _) (Nat.le_refl _) h
    · replace h := h.2 c
      refine r_iconst (pc := 44) (v := 0) dX4_readBehindThis_44 (by decide) ?_
      exact n_iret (pc := 45) dX4_readBehindThis_45 rfl (Nat.le_refl _) (Nat.le_refl _) h
  · replace h := h.2 c
    refine r_aload_n (pc := 18) (x := 3) dX4_readBehindThis_18 rfl ?_
    refine n_getR (pc := 19) (j := 0) (q := 4) dX4_readBehindThis_19 fl_RX4_12 (by decide) sh_3 rfl rfl rfl ?_
    refine n_Vv0 (pc := 22) (S0 := []) (spX10_advance h) gmX10_advance selX10_advance lk_RX4_43 dX4_readBehindThis_22 rfl (by decide) sh_4 ⟨rfl, by decide⟩ rfl ⟨Nat.le_of_ble_eq_true rfl, Nat.le_of_ble_eq_true rfl⟩ (Nat.le_of_ble_eq_true rfl) ⟨Nat.zero_le _, Nat.zero_le _⟩ (fun s6 h => ?_)
    refine r_aload_n (pc := 25) (x := 3) dX4_readBehindThis_25 rfl ?_
    refine r_iconst (pc := 26) (v := 0) dX4_readBehindThis_26 (by decide) ?_
    refine r_iload_n (pc := 27) (x := gi s 4 3) dX4_readBehindThis_27 rfl ?_
    refine r_iload_n (pc := 28) (x := x2) dX4_readBehindThis_28 rfl ?_
    refine r_iconst (pc := 29) (v := 0) dX4_readBehindThis_29 (by decide) ?_
    refine n_Vi0 (pc := 30) (S0 := []) (spX4_base h) gmX4_base selX4_base lk_RX4_52 dX4_readBehindThis_30 rfl (by decide) sh_3 ⟨rfl, by decide⟩ rfl ⟨Nat.le_of_ble_eq_true rfl, Nat.le_of_ble_eq_true rfl⟩ (Nat.le_of_ble_eq_true rfl) ⟨Nat.zero_le _, Nat.zero_le _⟩ (fun r7 s7 h => ?_)
    exact n_iret (pc := 33) dX4_readBehindThis_33 rfl (Nat.le_refl _) (Nat.le_refl _) h
def wpX4_readBehindIn  (s : gS) (Q : Int32 → gS → Prop) : Prop := wpX10_isFrom 1 99 s (fun r1 s1 => (¬ r1 = 0 → wpX10_number s1 (fun r2 s2 => wpX10_advance s2 (fun s3 => wpX10_isUnit s3 (fun r4 s4 => (¬ r4 = 0 → wpX10_advance s4 (fun s5 => wpX4_base 1 (gi s4 4 3) r2 0 s5 (fun r6 s6 => Q r6 s6))) ∧ (r4 = 0 → Q 0 s4))))) ∧ (r1 = 0 → Q 0 s1))
set_option maxRecDepth 20000 in
theorem spX4_readBehindIn {l : Launch}   {s : gS} {Q : Int32 → gS → Prop} (h : wpX4_readBehindIn  s Q) : Ct l mX4_readBehindIn 2 0 0 [.ref 3] (nrm s) (q_i Q) := by
  refine Ct.of (by decide) (Nat.le_of_ble_eq_true rfl) (fun X => ?_)
  refine n_L (L' := [some (.ref 3), none, none]) (le_s (le_p (le_p (le_e)))) ?_
  refine r_aload_n (pc := 0) (x := 3) dX4_readBehindIn_0 rfl ?_
  refine n_getR (pc := 1) (j := 0) (q := 4) dX4_readBehindIn_1 fl_RX4_12 (by decide) sh_3 rfl rfl rfl ?_
  refine r_iconst (pc := 4) (v := 1) dX4_readBehindIn_4 (by decide) ?_
  refine r_bipush (pc := 5) (v := 99) dX4_readBehindIn_5 (by decide) ?_
  refine n_Vi0 (pc := 7) (S0 := []) (spX10_isFrom h) gmX10_isFrom selX10_isFrom lk_RX4_98 dX4_readBehindIn_7 rfl (by decide) sh_4 ⟨rfl, by decide⟩ rfl ⟨Nat.le_of_ble_eq_true rfl, Nat.le_of_ble_eq_true rfl⟩ (Nat.le_of_ble_eq_true rfl) ⟨Nat.zero_le _, Nat.zero_le _⟩ (fun r1 s1 h => ?_)
  refine r_if_ne (pc := 10) (tgt := 15) dX4_readBehindIn_10 (by decide) (fun c => ?_) (fun c => ?_)
  · replace h := h.1 c
    refine r_aload_n (pc := 15) (x := 3) dX4_readBehindIn_15 rfl ?_
    refine n_getR (pc := 16) (j := 0) (q := 4) dX4_readBehindIn_16 fl_RX4_12 (by decide) sh_3 rfl rfl rfl ?_
    refine n_Vi0 (pc := 19) (S0 := []) (spX10_number h) gmX10_number selX10_number lk_RX4_95 dX4_readBehindIn_19 rfl (by decide) sh_4 ⟨rfl, by decide⟩ rfl ⟨Nat.le_of_ble_eq_true rfl, Nat.le_of_ble_eq_true rfl⟩ (Nat.le_of_ble_eq_true rfl) ⟨Nat.zero_le _, Nat.zero_le _⟩ (fun r2 s2 h => ?_)
    refine r_istore_n (pc := 22) (L' := [some (.ref 3), some (.int r2), none]) dX4_readBehindIn_22 rfl (by decide) rfl ?_
    refine r_aload_n (pc := 23) (x := 3) dX4_readBehindIn_23 rfl ?_
    refine n_getR (pc := 24) (j := 0) (q := 4) dX4_readBehindIn_24 fl_RX4_12 (by decide) sh_3 rfl rfl rfl ?_
    refine n_Vv0 (pc := 27) (S0 := []) (spX10_advance h) gmX10_advance selX10_advance lk_RX4_43 dX4_readBehindIn_27 rfl (by decide) sh_4 ⟨rfl, by decide⟩ rfl ⟨Nat.le_of_ble_eq_true rfl, Nat.le_of_ble_eq_true rfl⟩ (Nat.le_of_ble_eq_true rfl) ⟨Nat.zero_le _, Nat.zero_le _⟩ (fun s3 h => ?_)
    refine r_aload_n (pc := 30) (x := 3) dX4_readBehindIn_30 rfl ?_
    refine n_getR (pc := 31) (j := 0) (q := 4) dX4_readBehindIn_31 fl_RX4_12 (by decide) sh_3 rfl rfl rfl ?_
    refine n_Vi0 (pc := 34) (S0 := []) (spX10_isUnit h) gmX10_isUnit selX10_isUnit lk_RX4_102 dX4_readBehindIn_34 rfl (by decide) sh_4 ⟨rfl, by decide⟩ rfl ⟨Nat.le_of_ble_eq_true rfl, Nat.le_of_ble_eq_true rfl⟩ (Nat.le_of_ble_eq_true rfl) ⟨Nat.zero_le _, Nat.zero_le _⟩ (fun r4 s4 h => ?_)
    refine r_if_ne (pc := 37) (tgt := 42) dX4_readBehindIn_37 (by decide) (fun c => ?_) (fun c => ?_)
    · replace h := h.1 c
      refine r_aload_n (pc := 42) (x := 3) dX4_readBehindIn_42 rfl ?_
      refine n_getR (pc := 43) (j := 0) (q := 4) dX4_readBehindIn_43 fl_RX4_12 (by decide) sh_3 rfl rfl rfl ?_
      refine n_getI (pc := 46) (j := 3) dX4_readBehindIn_46 fl_RX4_40 (by decide) sh_4 rfl rfl ?_
      refine r_istore_n (pc := 49) (L' := [some (.ref 3), some (.int r2), some (.int (gi s4 4 3))]) dX4_readBehindIn_49 rfl (by decide) rfl ?_
      refine r_aload_n (pc := 50) (x := 3) dX4_readBehindIn_50 rfl ?_
      refine n_getR (pc := 51) (j := 0) (q := 4) dX4_readBehindIn_51 fl_RX4_12 (by decide) sh_3 rfl rfl rfl ?_
      refine n_Vv0 (pc := 54) (S0 := []) (spX10_advance h) gmX10_advance selX10_advance lk_RX4_43 dX4_readBehindIn_54 rfl (by decide) sh_4 ⟨rfl, by decide⟩ rfl ⟨Nat.le_of_ble_eq_true rfl, Nat.le_of_ble_eq_true rfl⟩ (Nat.le_of_ble_eq_true rfl) ⟨Nat.zero_le _, Nat.zero_le _⟩ (fun s5 h => ?_)
      refine r_aload_n (pc := 57) (x := 3) dX4_readBehindIn_57 rfl ?_
      refine r_iconst (pc := 58) (v := 1) dX4_readBehindIn_58 (by decide) ?_
      refine r_iload_n (pc := 59) (x := gi s4 4 3) dX4_readBehindIn_59 rfl ?_
      refine r_iload_n (pc := 60) (x := r2) dX4_readBehindIn_60 rfl ?_
      refine r_iconst (pc := 61) (v := 0) dX4_readBehindIn_61 (by decide) ?_
      refine n_Vi0 (pc := 62) (S0 := []) (spX4_base h) gmX4_base selX4_base lk_RX4_52 dX4_readBehindIn_62 rfl (by decide) sh_3 ⟨rfl, by decide⟩ rfl ⟨Nat.le_of_ble_eq_true rfl, Nat.le_of_ble_eq_true rfl⟩ (Nat.le_of_ble_eq_true rfl) ⟨Nat.zero_le _, Nat.zero_le _⟩ (fun r6 s6 h => ?_)
      exact n_iret (pc := 65) dX4_readBehindIn_65 rfl (Nat.le_refl _) (Nat.le_refl _) h
    · replace h := h.2 c
      refine r_iconst (pc := 40) (v := 0) dX4_readBehindIn_40 (by decide) ?_
      exact n_iret (pc := 41) dX4_readBehindIn_41 rfl (Nat.le_refl _) (Nat.le_refl _) h
  · replace h := h.2 c
    refine r_iconst (pc := 13) (v := 0) dX4_readBehindIn_13 (by decide) ?_
    exact n_iret (pc := 14) dX4_readBehindIn_14 rfl (Nat.le_refl _) (Nat.le_refl _) h
def wpX4_readStep  (s : gS) (Q : Int32 → gS → Prop) : Prop := wpX10_isNumber s (fun r1 s1 => (r1 = 0 → wpX10_isDayName s1 (fun r2 s2 => (r2 = 0 → wpX10_isMonthName s2 (fun r3 s3 => (r3 = 0 → wpX10_beginsSpan s3 (fun r4 s4 => (¬ r4 = 0 → wpX10_advance s4 (fun s5 => ((gi s4 4 3) = 23 → wpX4_prefix 13 0 0 s5 (fun r6 s6 => Q r6 s6)) ∧ ((gi s4 4 3) = 24 → wpX4_prefix 14 0 0 s5 (fun r7 s7 => Q r7 s7)) ∧ ((gi s4 4 3) = 25 → wpX4_prefix 15 0 0 s5 (fun r8 s8 => Q r8 s8)) ∧ ((gi s4 4 3) = 26 → wpX4_readBehindFirst s5 (fun r9 s9 => Q r9 s9)) ∧ ((gi s4 4 3) = 27 → wpX4_readBehindThis 5 (-1) s5 (fun r10 s10 => Q r10 s10)) ∧ ((gi s4 4 3) = 28 → wpX4_base 0 0 0 0 s5 (fun r11 s11 => Q r11 s11)) ∧ ((gi s4 4 3) = 29 → wpX4_base 0 0 1 0 s5 (fun r12 s12 => Q r12 s12)) ∧ ((gi s4 4 3) = 30 → wpX4_base 0 0 (-1) 0 s5 (fun r13 s13 => Q r13 s13)) ∧ ((gi s4 4 3) = 31 → wpX4_readBehindIn s5 (fun r14 s14 => Q r14 s14)) ∧ ((gi s4 4 3) = 32 → wpX4_readBehindThis 3 0 s5 (fun r15 s15 => Q r15 s15)) ∧ ((gi s4 4 3) = 33 → wpX4_readBehindThis 4 1 s5 (fun r16 s16 => Q r16 s16)) ∧ (¬ (gi s4 4 3) = 23 → ¬ (gi s4 4 3) = 24 → ¬ (gi s4 4 3) = 25 → ¬ (gi s4 4 3) = 26 → ¬ (gi s4 4 3) = 27 → ¬ (gi s4 4 3) = 28 → ¬ (gi s4 4 3) = 29 → ¬ (gi s4 4 3) = 30 → ¬ (gi s4 4 3) = 31 → ¬ (gi s4 4 3) = 32 → ¬ (gi s4 4 3) = 33 → Q 0 s5))) ∧ (r4 = 0 → Q 0 s4))) ∧ (¬ (r3 = 0) → wpX4_readFromMonthName s3 (fun r18 s18 => Q r18 s18)))) ∧ (¬ (r2 = 0) → wpX4_readFromDayName s2 (fun r19 s19 => Q r19 s19)))) ∧ (¬ (r1 = 0) → wpX4_readFromNumber s1 (fun r20 s20 => Q r20 s20)))
set_option maxRecDepth 20000 in
theorem spX4_readStep {l : Launch}   {s : gS} {Q : Int32 → gS → Prop} (h : wpX4_readStep  s Q) : Ct l mX4_readStep 3 0 0 [.ref 3] (nrm s) (q_i Q) := by
  refine Ct.of (by decide) (Nat.le_of_ble_eq_true rfl) (fun X => ?_)
  refine n_L (L' := [some (.ref 3), none]) (le_s (le_p (le_e))) ?_
  refine r_aload_n (pc := 0) (x := 3) dX4_readStep_0 rfl ?_
  refine n_getR (pc := 1) (j := 0) (q := 4) dX4_readStep_1 fl_RX4_12 (by decide) sh_3 rfl rfl rfl ?_
  refine n_Vi0 (pc := 4) (S0 := []) (spX10_isNumber h) gmX10_isNumber selX10_isNumber lk_RX4_60 dX4_readStep_4 rfl (by decide) sh_4 ⟨rfl, by decide⟩ rfl ⟨Nat.le_of_ble_eq_true rfl, Nat.le_of_ble_eq_true rfl⟩ (Nat.le_of_ble_eq_true rfl) ⟨Nat.zero_le _, Nat.zero_le _⟩ (fun r1 s1 h => ?_)
  refine r_if_eq (pc := 7) (tgt := 15) dX4_readStep_7 (by decide) (fun c => ?_) (fun c => ?_)
  · replace h := h.1 c
    refine r_aload_n (pc := 15) (x := 3) dX4_readStep_15 rfl ?_
    refine n_getR (pc := 16) (j := 0) (q := 4) dX4_readStep_16 fl_RX4_12 (by decide) sh_3 rfl rfl rfl ?_
    refine n_Vi0 (pc := 19) (S0 := []) (spX10_isDayName h) gmX10_isDayName selX10_isDayName lk_RX4_66 dX4_readStep_19 rfl (by decide) sh_4 ⟨rfl, by decide⟩ rfl ⟨Nat.le_of_ble_eq_true rfl, Nat.le_of_ble_eq_true rfl⟩ (Nat.le_of_ble_eq_true rfl) ⟨Nat.zero_le _, Nat.zero_le _⟩ (fun r2 s2 h => ?_)
    refine r_if_eq (pc := 22) (tgt := 30) dX4_readStep_22 (by decide) (fun c => ?_) (fun c => ?_)
    · replace h := h.1 c
      refine r_aload_n (pc := 30) (x := 3) dX4_readStep_30 rfl ?_
      refine n_getR (pc := 31) (j := 0) (q := 4) dX4_readStep_31 fl_RX4_12 (by decide) sh_3 rfl rfl rfl ?_
      refine n_Vi0 (pc := 34) (S0 := []) (spX10_isMonthName h) gmX10_isMonthName selX10_isMonthName lk_RX4_72 dX4_readStep_34 rfl (by decide) sh_4 ⟨rfl, by decide⟩ rfl ⟨Nat.le_of_ble_eq_true rfl, Nat.le_of_ble_eq_true rfl⟩ (Nat.le_of_ble_eq_true rfl) ⟨Nat.zero_le _, Nat.zero_le _⟩ (fun r3 s3 h => ?_)
      refine r_if_eq (pc := 37) (tgt := 45) dX4_readStep_37 (by decide) (fun c => ?_) (fun c => ?_)
      · replace h := h.1 c
        refine r_aload_n (pc := 45) (x := 3) dX4_readStep_45 rfl ?_
        refine n_getR (pc := 46) (j := 0) (q := 4) dX4_readStep_46 fl_RX4_12 (by decide) sh_3 rfl rfl rfl ?_
        refine n_Vi0 (pc := 49) (S0 := []) (spX10_beginsSpan h) gmX10_beginsSpan selX10_beginsSpan lk_RX4_78 dX4_readStep_49 rfl (by decide) sh_4 ⟨rfl, by decide⟩ rfl ⟨Nat.le_of_ble_eq_true rfl, Nat.le_of_ble_eq_true rfl⟩ (Nat.le_of_ble_eq_true rfl) ⟨Nat.zero_le _, Nat.zero_le _⟩ (fun r4 s4 h => ?_)
        refine r_if_ne (pc := 52) (tgt := 57) dX4_readStep_52 (by decide) (fun c => ?_) (fun c => ?_)
        · replace h := h.1 c
          refine r_aload_n (pc := 57) (x := 3) dX4_readStep_57 rfl ?_
          refine n_getR (pc := 58) (j := 0) (q := 4) dX4_readStep_58 fl_RX4_12 (by decide) sh_3 rfl rfl rfl ?_
          refine n_getI (pc := 61) (j := 3) dX4_readStep_61 fl_RX4_40 (by decide) sh_4 rfl rfl ?_
          refine r_istore_n (pc := 64) (L' := [some (.ref 3), some (.int (gi s4 4 3))]) dX4_readStep_64 rfl (by decide) rfl ?_
          refine r_aload_n (pc := 65) (x := 3) dX4_readStep_65 rfl ?_
          refine n_getR (pc := 66) (j := 0) (q := 4) dX4_readStep_66 fl_RX4_12 (by decide) sh_3 rfl rfl rfl ?_
          refine n_Vv0 (pc := 69) (S0 := []) (spX10_advance h) gmX10_advance selX10_advance lk_RX4_43 dX4_readStep_69 rfl (by decide) sh_4 ⟨rfl, by decide⟩ rfl ⟨Nat.le_of_ble_eq_true rfl, Nat.le_of_ble_eq_true rfl⟩ (Nat.le_of_ble_eq_true rfl) ⟨Nat.zero_le _, Nat.zero_le _⟩ (fun s5 h => ?_)
          refine r_iload_n (pc := 72) (x := gi s4 4 3) dX4_readStep_72 rfl ?_
          by_cases c17_0 : (gi s4 4 3) = 23
          · replace h := h.1 c17_0
            refine r_tableIn (pc := 73) (off := 59) (tgt := 132) dX4_readStep_73 (by rw [c17_0]; decide) (by rw [c17_0]; decide) (by rw [c17_0]; decide) (by decide) ?_
            refine r_aload_n (pc := 132) (x := 3) dX4_readStep_132 rfl ?_
            refine r_bipush (pc := 133) (v := 13) dX4_readStep_133 (by decide) ?_
            refine r_iconst (pc := 135) (v := 0) dX4_readStep_135 (by decide) ?_
            refine r_iconst (pc := 136) (v := 0) dX4_readStep_136 (by decide) ?_
            refine n_Vi0 (pc := 137) (S0 := []) (spX4_prefix h) gmX4_prefix selX4_prefix lk_RX4_81 dX4_readStep_137 rfl (by decide) sh_3 ⟨rfl, by decide⟩ rfl ⟨Nat.le_of_ble_eq_true rfl, Nat.le_of_ble_eq_true rfl⟩ (Nat.le_of_ble_eq_true rfl) ⟨Nat.zero_le _, Nat.zero_le _⟩ (fun r6 s6 h => ?_)
            exact n_iret (pc := 140) dX4_readStep_140 rfl (Nat.le_refl _) (Nat.le_refl _) h
          by_cases c17_1 : (gi s4 4 3) = 24
          · replace h := h.2.1 c17_1
            refine r_tableIn (pc := 73) (off := 68) (tgt := 141) dX4_readStep_73 (by rw [c17_1]; decide) (by rw [c17_1]; decide) (by rw [c17_1]; decide) (by decide) ?_
            refine r_aload_n (pc := 141) (x := 3) dX4_readStep_141 rfl ?_
            refine r_bipush (pc := 142) (v := 14) dX4_readStep_142 (by decide) ?_
            refine r_iconst (pc := 144) (v := 0) dX4_readStep_144 (by decide) ?_
            refine r_iconst (pc := 145) (v := 0) dX4_readStep_145 (by decide) ?_
            refine n_Vi0 (pc := 146) (S0 := []) (spX4_prefix h) gmX4_prefix selX4_prefix lk_RX4_81 dX4_readStep_146 rfl (by decide) sh_3 ⟨rfl, by decide⟩ rfl ⟨Nat.le_of_ble_eq_true rfl, Nat.le_of_ble_eq_true rfl⟩ (Nat.le_of_ble_eq_true rfl) ⟨Nat.zero_le _, Nat.zero_le _⟩ (fun r7 s7 h => ?_)
            exact n_iret (pc := 149) dX4_readStep_149 rfl (Nat.le_refl _) (Nat.le_refl _) h
          by_cases c17_2 : (gi s4 4 3) = 25
          · replace h := h.2.2.1 c17_2
            refine r_tableIn (pc := 73) (off := 77) (tgt := 150) dX4_readStep_73 (by rw [c17_2]; decide) (by rw [c17_2]; decide) (by rw [c17_2]; decide) (by decide) ?_
            refine r_aload_n (pc := 150) (x := 3) dX4_readStep_150 rfl ?_
            refine r_bipush (pc := 151) (v := 15) dX4_readStep_151 (by decide) ?_
            refine r_iconst (pc := 153) (v := 0) dX4_readStep_153 (by decide) ?_
            refine r_iconst (pc := 154) (v := 0) dX4_readStep_154 (by decide) ?_
            refine n_Vi0 (pc := 155) (S0 := []) (spX4_prefix h) gmX4_prefix selX4_prefix lk_RX4_81 dX4_readStep_155 rfl (by decide) sh_3 ⟨rfl, by decide⟩ rfl ⟨Nat.le_of_ble_eq_true rfl, Nat.le_of_ble_eq_true rfl⟩ (Nat.le_of_ble_eq_true rfl) ⟨Nat.zero_le _, Nat.zero_le _⟩ (fun r8 s8 h => ?_)
            exact n_iret (pc := 158) dX4_readStep_158 rfl (Nat.le_refl _) (Nat.le_refl _) h
          by_cases c17_3 : (gi s4 4 3) = 26
          · replace h := h.2.2.2.1 c17_3
            refine r_tableIn (pc := 73) (off := 86) (tgt := 159) dX4_readStep_73 (by rw [c17_3]; decide) (by rw [c17_3]; decide) (by rw [c17_3]; decide) (by decide) ?_
            refine r_aload_n (pc := 159) (x := 3) dX4_readStep_159 rfl ?_
            refine n_Vi0 (pc := 160) (S0 := []) (spX4_readBehindFirst h) gmX4_readBehindFirst selX4_readBehindFirst lk_RX4_85 dX4_readStep_160 rfl (by decide) sh_3 ⟨rfl, by decide⟩ rfl ⟨Nat.le_of_ble_eq_true rfl, Nat.le_of_ble_eq_true rfl⟩ (Nat.le_of_ble_eq_true rfl) ⟨Nat.zero_le _, Nat.zero_le _⟩ (fun r9 s9 h => ?_)
            exact n_iret (pc := 163) dX4_readStep_163 rfl (Nat.le_refl _) (Nat.le_refl _) h
          by_cases c17_4 : (gi s4 4 3) = 27
          · replace h := h.2.2.2.2.1 c17_4
            refine r_tableIn (pc := 73) (off := 105) (tgt := 178) dX4_readStep_73 (by rw [c17_4]; decide) (by rw [c17_4]; decide) (by rw [c17_4]; decide) (by decide) ?_
            refine r_aload_n (pc := 178) (x := 3) dX4_readStep_178 rfl ?_
            refine r_iconst (pc := 179) (v := 5) dX4_readStep_179 (by decide) ?_
            refine r_iconst (pc := 180) (v := (-1)) dX4_readStep_180 (by decide) ?_
            refine n_Vi0 (pc := 181) (S0 := []) (spX4_readBehindThis h) gmX4_readBehindThis selX4_readBehindThis lk_RX4_88 dX4_readStep_181 rfl (by decide) sh_3 ⟨rfl, by decide⟩ rfl ⟨Nat.le_of_ble_eq_true rfl, Nat.le_of_ble_eq_true rfl⟩ (Nat.le_of_ble_eq_true rfl) ⟨Nat.zero_le _, Nat.zero_le _⟩ (fun r10 s10 h => ?_)
            exact n_iret (pc := 184) dX4_readStep_184 rfl (Nat.le_refl _) (Nat.le_refl _) h
          by_cases c17_5 : (gi s4 4 3) = 28
          · replace h := h.2.2.2.2.2.1 c17_5
            refine r_tableIn (pc := 73) (off := 112) (tgt := 185) dX4_readStep_73 (by rw [c17_5]; decide) (by rw [c17_5]; decide) (by rw [c17_5]; decide) (by decide) ?_
            refine r_aload_n (pc := 185) (x := 3) dX4_readStep_185 rfl ?_
            refine r_iconst (pc := 186) (v := 0) dX4_readStep_186 (by decide) ?_
            refine r_iconst (pc := 187) (v := 0) dX4_readStep_187 (by decide) ?_
            refine r_iconst (pc := 188) (v := 0) dX4_readStep_188 (by decide) ?_
            refine r_iconst (pc := 189) (v := 0) dX4_readStep_189 (by decide) ?_
            refine n_Vi0 (pc := 190) (S0 := []) (spX4_base h) gmX4_base selX4_base lk_RX4_52 dX4_readStep_190 rfl (by decide) sh_3 ⟨rfl, by decide⟩ rfl ⟨Nat.le_of_ble_eq_true rfl, Nat.le_of_ble_eq_true rfl⟩ (Nat.le_of_ble_eq_true rfl) ⟨Nat.zero_le _, Nat.zero_le _⟩ (fun r11 s11 h => ?_)
            exact n_iret (pc := 193) dX4_readStep_193 rfl (Nat.le_refl _) (Nat.le_refl _) h
          by_cases c17_6 : (gi s4 4 3) = 29
          · replace h := h.2.2.2.2.2.2.1 c17_6
            refine r_tableIn (pc := 73) (off := 121) (tgt := 194) dX4_readStep_73 (by rw [c17_6]; decide) (by rw [c17_6]; decide) (by rw [c17_6]; decide) (by decide) ?_
            refine r_aload_n (pc := 194) (x := 3) dX4_readStep_194 rfl ?_
            refine r_iconst (pc := 195) (v := 0) dX4_readStep_195 (by decide) ?_
            refine r_iconst (pc := 196) (v := 0) dX4_readStep_196 (by decide) ?_
            refine r_iconst (pc := 197) (v := 1) dX4_readStep_197 (by decide) ?_
            refine r_iconst (pc := 198) (v := 0) dX4_readStep_198 (by decide) ?_
            refine n_Vi0 (pc := 199) (S0 := []) (spX4_base h) gmX4_base selX4_base lk_RX4_52 dX4_readStep_199 rfl (by decide) sh_3 ⟨rfl, by decide⟩ rfl ⟨Nat.le_of_ble_eq_true rfl, Nat.le_of_ble_eq_true rfl⟩ (Nat.le_of_ble_eq_true rfl) ⟨Nat.zero_le _, Nat.zero_le _⟩ (fun r12 s12 h => ?_)
            exact n_iret (pc := 202) dX4_readStep_202 rfl (Nat.le_refl _) (Nat.le_refl _) h
          by_cases c17_7 : (gi s4 4 3) = 30
          · replace h := h.2.2.2.2.2.2.2.1 c17_7
            refine r_tableIn (pc := 73) (off := 130) (tgt := 203) dX4_readStep_73 (by rw [c17_7]; decide) (by rw [c17_7]; decide) (by rw [c17_7]; decide) (by decide) ?_
            refine r_aload_n (pc := 203) (x := 3) dX4_readStep_203 rfl ?_
            refine r_iconst (pc := 204) (v := 0) dX4_readStep_204 (by decide) ?_
            refine r_iconst (pc := 205) (v := 0) dX4_readStep_205 (by decide) ?_
            refine r_iconst (pc := 206) (v := (-1)) dX4_readStep_206 (by decide) ?_
            refine r_iconst (pc := 207) (v := 0) dX4_readStep_207 (by decide) ?_
            refine n_Vi0 (pc := 208) (S0 := []) (spX4_base h) gmX4_base selX4_base lk_RX4_52 dX4_readStep_208 rfl (by decide) sh_3 ⟨rfl, by decide⟩ rfl ⟨Nat.le_of_ble_eq_true rfl, Nat.le_of_ble_eq_true rfl⟩ (Nat.le_of_ble_eq_true rfl) ⟨Nat.zero_le _, Nat.zero_le _⟩ (fun r13 s13 h => ?_)
            exact n_iret (pc := 211) dX4_readStep_211 rfl (Nat.le_refl _) (Nat.le_refl _) h
          by_cases c17_8 : (gi s4 4 3) = 31
          · replace h := h.2.2.2.2.2.2.2.2.1 c17_8
            refine r_tableIn (pc := 73) (off := 139) (tgt := 212) dX4_readStep_73 (by rw [c17_8]; decide) (by rw [c17_8]; decide) (by rw [c17_8]; decide) (by decide) ?_
            refine r_aload_n (pc := 212) (x := 3) dX4_readStep_212 rfl ?_
            refine n_Vi0 (pc := 213) (S0 := []) (spX4_readBehindIn h) gmX4_readBehindIn selX4_readBehindIn lk_RX4_92 dX4_readStep_213 rfl (by decide) sh_3 ⟨rfl, by decide⟩ rfl ⟨Nat.le_of_ble_eq_true rfl, Nat.le_of_ble_eq_true rfl⟩ (Nat.le_of_ble_eq_true rfl) ⟨Nat.zero_le _, Nat.zero_le _⟩ (fun r14 s14 h => ?_)
            exact n_iret (pc := 216) dX4_readStep_216 rfl (Nat.le_refl _) (Nat.le_refl _) h
          by_cases c17_9 : (gi s4 4 3) = 32
          · replace h := h.2.2.2.2.2.2.2.2.2.1 c17_9
            refine r_tableIn (pc := 73) (off := 91) (tgt := 164) dX4_readStep_73 (by rw [c17_9]; decide) (by rw [c17_9]; decide) (by rw [c17_9]; decide) (by decide) ?_
            refine r_aload_n (pc := 164) (x := 3) dX4_readStep_164 rfl ?_
            refine r_iconst (pc := 165) (v := 3) dX4_readStep_165 (by decide) ?_
            refine r_iconst (pc := 166) (v := 0) dX4_readStep_166 (by decide) ?_
            refine n_Vi0 (pc := 167) (S0 := []) (spX4_readBehindThis h) gmX4_readBehindThis selX4_readBehindThis lk_RX4_88 dX4_readStep_167 rfl (by decide) sh_3 ⟨rfl, by decide⟩ rfl ⟨Nat.le_of_ble_eq_true rfl, Nat.le_of_ble_eq_true rfl⟩ (Nat.le_of_ble_eq_true rfl) ⟨Nat.zero_le _, Nat.zero_le _⟩ (fun r15 s15 h => ?_)
            exact n_iret (pc := 170) dX4_readStep_170 rfl (Nat.le_refl _) (Nat.le_refl _) h
          by_cases c17_10 : (gi s4 4 3) = 33
          · replace h := h.2.2.2.2.2.2.2.2.2.2.1 c17_10
            refine r_tableIn (pc := 73) (off := 98) (tgt := 171) dX4_readStep_73 (by rw [c17_10]; decide) (by rw [c17_10]; decide) (by rw [c17_10]; decide) (by decide) ?_
            refine r_aload_n (pc := 171) (x := 3) dX4_readStep_171 rfl ?_
            refine r_iconst (pc := 172) (v := 4) dX4_readStep_172 (by decide) ?_
            refine r_iconst (pc := 173) (v := 1) dX4_readStep_173 (by decide) ?_
            refine n_Vi0 (pc := 174) (S0 := []) (spX4_readBehindThis h) gmX4_readBehindThis selX4_readBehindThis lk_RX4_88 dX4_readStep_174 rfl (by decide) sh_3 ⟨rfl, by decide⟩ rfl ⟨Nat.le_of_ble_eq_true rfl, Nat.le_of_ble_eq_true rfl⟩ (Nat.le_of_ble_eq_true rfl) ⟨Nat.zero_le _, Nat.zero_le _⟩ (fun r16 s16 h => ?_)
            exact n_iret (pc := 177) dX4_readStep_177 rfl (Nat.le_refl _) (Nat.le_refl _) h
          replace h := h.2.2.2.2.2.2.2.2.2.2.2 c17_0 c17_1 c17_2 c17_3 c17_4 c17_5 c17_6 c17_7 c17_8 c17_9 c17_10
          refine r_tableOut (pc := 73) (tgt := 217) dX4_readStep_73 (by have e0 := lv_neT c17_0 (show (23 : Int32).toInt = 23 by decide); have e1 := lv_neT c17_1 (show (24 : Int32).toInt = 24 by decide); have e2 := lv_neT c17_2 (show (25 : Int32).toInt = 25 by decide); have e3 := lv_neT c17_3 (show (26 : Int32).toInt = 26 by decide); have e4 := lv_neT c17_4 (show (27 : Int32).toInt = 27 by decide); have e5 := lv_neT c17_5 (show (28 : Int32).toInt = 28 by decide); have e6 := lv_neT c17_6 (show (29 : Int32).toInt = 29 by decide); have e7 := lv_neT c17_7 (show (30 : Int32).toInt = 30 by decide); have e8 := lv_neT c17_8 (show (31 : Int32).toInt = 31 by decide); have e9 := lv_neT c17_9 (show (32 : Int32).toInt = 32 by decide); have e10 := lv_neT c17_10 (show (33 : Int32).toInt = 33 by decide); omega) (by decide) ?_
          refine r_iconst (pc := 217) (v := 0) dX4_readStep_217 (by decide) ?_
          exact n_iret (pc := 218) dX4_readStep_218 rfl (Nat.le_refl _) (Nat.le_refl _) h
        · replace h := h.2 c
          refine r_iconst (pc := 55) (v := 0) dX4_readStep_55 (by decide) ?_
          exact n_iret (pc := 56) dX4_readStep_56 rfl (Nat.le_refl _) (Nat.le_refl _) h
      · replace h := h.2 c
        refine r_aload_n (pc := 40) (x := 3) dX4_readStep_40 rfl ?_
        refine n_Vi0 (pc := 41) (S0 := []) (spX4_readFromMonthName h) gmX4_readFromMonthName selX4_readFromMonthName lk_RX4_75 dX4_readStep_41 rfl (by decide) sh_3 ⟨rfl, by decide⟩ rfl ⟨Nat.le_of_ble_eq_true rfl, Nat.le_of_ble_eq_true rfl⟩ (Nat.le_of_ble_eq_true rfl) ⟨Nat.zero_le _, Nat.zero_le _⟩ (fun r18 s18 h => ?_)
        exact n_iret (pc := 44) dX4_readStep_44 rfl (Nat.le_refl _) (Nat.le_refl _) h
    · replace h := h.2 c
      refine r_aload_n (pc := 25) (x := 3) dX4_readStep_25 rfl ?_
      refine n_Vi0 (pc := 26) (S0 := []) (spX4_readFromDayName h) gmX4_readFromDayName selX4_readFromDayName lk_RX4_69 dX4_readStep_26 rfl (by decide) sh_3 ⟨rfl, by decide⟩ rfl ⟨Nat.le_of_ble_eq_true rfl, Nat.le_of_ble_eq_true rfl⟩ (Nat.le_of_ble_eq_true rfl) ⟨Nat.zero_le _, Nat.zero_le _⟩ (fun r19 s19 h => ?_)
      exact n_iret (pc := 29) dX4_readStep_29 rfl (Nat.le_refl _) (Nat.le_refl _) h
  · replace h := h.2 c
    refine r_aload_n (pc := 10) (x := 3) dX4_readStep_10 rfl ?_
    refine n_Vi0 (pc := 11) (S0 := []) (spX4_readFromNumber h) gmX4_readFromNumber selX4_readFromNumber lk_RX4_63 dX4_readStep_11 rfl (by decide) sh_3 ⟨rfl, by decide⟩ rfl ⟨Nat.le_of_ble_eq_true rfl, Nat.le_of_ble_eq_true rfl⟩ (Nat.le_of_ble_eq_true rfl) ⟨Nat.zero_le _, Nat.zero_le _⟩ (fun r20 s20 h => ?_)
    exact n_iret (pc := 14) dX4_readStep_14 rfl (Nat.le_refl _) (Nat.le_refl _) h
def wX4_readSpan_45  (Q : Int32 → gS → Prop)  : Nat → Int32 → gS → Prop
  | 0, _, _ => False
  | n + 1, y2, s => (y2 < 0 → Q 1 s) ∧ (¬ (y2 < 0) → vp_in (y2 * 4) 320 ∧ (vp_in ((y2 * 4) + 1) 320 ∧ (vp_in ((y2 * 4) + 2) 320 ∧ (wpX4_base (gi s 8 (ix (y2 * 4))) (gi s 8 (ix ((y2 * 4) + 1))) (gi s 8 (ix ((y2 * 4) + 2))) 0 s (fun r5 s5 => wX4_readSpan_45  Q n (y2 + (-1)) s5)))))
set_option maxRecDepth 20000 in
theorem pX4_readSpan_45 {l : Launch} {X : gX}   {Q : Int32 → gS → Prop}  : ∀ (n : Nat) (y2 : Int32) (s : gS) (h : wX4_readSpan_45  Q n y2 s) , Gw l mX4_readSpan (g_rm 4 0 0) X 45 [some (.ref 3), none, some (.int y2), none] [] (nrm s) 0 0 (g_Z X (q_i Q) 0 0) := by
  intro n
  induction n with
  | zero => intro y2 s h; exact h.elim
  | succ n ih0 =>
    intro y2 s h 
    have ih : ∀ (y2 : Int32) (s : gS), wX4_readSpan_45  Q n y2 s → Gw l mX4_readSpan (g_rm 4 0 0) X 45 [some (.ref 3), none, some (.int y2), none] [] (nrm s) 0 0 (g_Z X (q_i Q) 0 0) := fun y2 s h => ih0 y2 s h 
    refine r_iload_n (pc := 45) (x := y2) dX4_readSpan_45 rfl ?_
    refine r_if_lt (pc := 46) (tgt := 87) dX4_readSpan_46 (by decide) (fun c => ?_) (fun c => ?_)
    · replace h := h.1 c
      refine r_iconst (pc := 87) (v := 1) dX4_readSpan_87 (by decide) ?_
      exact n_zret (pc := 88) dX4_readSpan_88 rfl (by decide) (Nat.le_refl _) (Nat.le_refl _) h
    · replace h := h.2 c
      refine r_iload_n (pc := 49) (x := y2) dX4_readSpan_49 rfl ?_
      refine r_iconst (pc := 50) (v := 4) dX4_readSpan_50 (by decide) ?_
      refine r_imul (pc := 51) dX4_readSpan_51 ?_
      refine r_istore_n (pc := 52) (L' := [some (.ref 3), none, some (.int y2), some (.int (y2 * 4))]) dX4_readSpan_52 rfl (by decide) rfl ?_
      refine r_aload_n (pc := 53) (x := 3) dX4_readSpan_53 rfl ?_
      refine r_aload_n (pc := 54) (x := 3) dX4_readSpan_54 rfl ?_
      refine n_getR (pc := 55) (j := 3) (q := 8) dX4_readSpan_55 fl_RX4_26 (by decide) sh_3 rfl rfl rfl ?_
      refine r_iload_n (pc := 58) (x := y2 * 4) dX4_readSpan_58 rfl ?_
      obtain ⟨b2, h⟩ := h
      refine n_iald (pc := 59) (j := (ix (y2 * 4))) dX4_readSpan_59 (by decide) sh_8 b2 rfl ?_
      refine r_aload_n (pc := 60) (x := 3) dX4_readSpan_60 rfl ?_
      refine n_getR (pc := 61) (j := 3) (q := 8) dX4_readSpan_61 fl_RX4_26 (by decide) sh_3 rfl rfl rfl ?_
      refine r_iload_n (pc := 64) (x := y2 * 4) dX4_readSpan_64 rfl ?_
      refine r_iconst (pc := 65) (v := 1) dX4_readSpan_65 (by decide) ?_
      refine r_iadd (pc := 66) dX4_readSpan_66 ?_
      obtain ⟨b3, h⟩ := h
      refine n_iald (pc := 67) (j := (ix ((y2 * 4) + 1))) dX4_readSpan_67 (by decide) sh_8 b3 rfl ?_
      refine r_aload_n (pc := 68) (x := 3) dX4_readSpan_68 rfl ?_
      refine n_getR (pc := 69) (j := 3) (q := 8) dX4_readSpan_69 fl_RX4_26 (by decide) sh_3 rfl rfl rfl ?_
      refine r_iload_n (pc := 72) (x := y2 * 4) dX4_readSpan_72 rfl ?_
      refine r_iconst (pc := 73) (v := 2) dX4_readSpan_73 (by decide) ?_
      refine r_iadd (pc := 74) dX4_readSpan_74 ?_
      obtain ⟨b4, h⟩ := h
      refine n_iald (pc := 75) (j := (ix ((y2 * 4) + 2))) dX4_readSpan_75 (by decide) sh_8 b4 rfl ?_
      refine r_iconst (pc := 76) (v := 0) dX4_readSpan_76 (by decide) ?_
      refine n_Vi0 (pc := 77) (S0 := []) (spX4_base h) gmX4_base selX4_base lk_RX4_52 dX4_readSpan_77 rfl (by decide) sh_3 ⟨rfl, by decide⟩ rfl ⟨Nat.le_of_ble_eq_true rfl, Nat.le_of_ble_eq_true rfl⟩ (Nat.le_of_ble_eq_true rfl) ⟨Nat.zero_le _, Nat.zero_le _⟩ (fun r5 s5 h => ?_)
      refine r_pop (pc := 80) dX4_readSpan_80 rfl ?_
      refine n_iinc (pc := 81) (x := y2) (w := (-1)) (L' := [some (.ref 3), none, some (.int (y2 + (-1))), some (.int (y2 * 4))]) dX4_readSpan_81 rfl (by decide) rfl (by decide) rfl ?_
      refine r_goto (pc := 84) (tgt := 45) dX4_readSpan_84 (by decide) ?_
      refine n_L (L' := [some (.ref 3), none, some (.int (y2 + (-1))), none]) (le_s (le_n (le_s (le_n (le_e))))) ?_
      exact ih _ _ h
def wX4_readSpan_31  (Q : Int32 → gS → Prop)  (y1 : Int32) (s : gS) : Prop := (y1 = 2 → ∃ n45, wX4_readSpan_45  Q n45 ((gi s 3 4) - 1) s) ∧ (¬ (y1 = 2) → Q 0 s)
set_option maxRecDepth 20000 in
theorem pX4_readSpan_31 {l : Launch} {X : gX}   {Q : Int32 → gS → Prop}  (y1 : Int32) (s : gS) (h : wX4_readSpan_31  Q y1 s)  : Gw l mX4_readSpan (g_rm 4 0 0) X 31 [some (.ref 3), some (.int y1), none, none] [] (nrm s) 0 0 (g_Z X (q_i Q) 0 0) := by
  refine r_iload_n (pc := 31) (x := y1) dX4_readSpan_31 rfl ?_
  refine r_iconst (pc := 32) (v := 2) dX4_readSpan_32 (by decide) ?_
  refine r_icmp_eq (pc := 33) (tgt := 38) dX4_readSpan_33 (by decide) (fun c => ?_) (fun c => ?_)
  · replace h := h.1 c
    refine r_aload_n (pc := 38) (x := 3) dX4_readSpan_38 rfl ?_
    refine n_getI (pc := 39) (j := 4) dX4_readSpan_39 fl_RX4_29 (by decide) sh_3 rfl rfl ?_
    refine r_iconst (pc := 42) (v := 1) dX4_readSpan_42 (by decide) ?_
    refine r_isub (pc := 43) dX4_readSpan_43 ?_
    refine r_istore_n (pc := 44) (L' := [some (.ref 3), some (.int y1), some (.int ((gi s 3 4) - 1)), none]) dX4_readSpan_44 rfl (by decide) rfl ?_
    refine n_L (L' := [some (.ref 3), none, some (.int ((gi s 3 4) - 1)), none]) (le_s (le_n (le_s (le_n (le_e))))) ?_
    obtain ⟨n, h⟩ := h
    exact pX4_readSpan_45  n _ _ h 
  · replace h := h.2 c
    refine r_iconst (pc := 36) (v := 0) dX4_readSpan_36 (by decide) ?_
    exact n_zret (pc := 37) dX4_readSpan_37 rfl (by decide) (Nat.le_refl _) (Nat.le_refl _) h
def wX4_readSpan_9  (Q : Int32 → gS → Prop)  : Nat → Int32 → Int32 → gS → Prop
  | 0, _, _, _ => False
  | n + 1, y1, y2, s => (80 ≤ y2 → wX4_readSpan_31  Q y1 s) ∧ (¬ (80 ≤ y2) → (¬ y1 = 1 → wX4_readSpan_31  Q y1 s) ∧ (y1 = 1 → wpX4_readStep s (fun r1 s1 => wX4_readSpan_9  Q n r1 (y2 + 1) s1)))
set_option maxRecDepth 20000 in
theorem pX4_readSpan_9 {l : Launch} {X : gX}   {Q : Int32 → gS → Prop}  : ∀ (n : Nat) (y1 : Int32) (y2 : Int32) (s : gS) (h : wX4_readSpan_9  Q n y1 y2 s) , Gw l mX4_readSpan (g_rm 4 0 0) X 9 [some (.ref 3), some (.int y1), some (.int y2), none] [] (nrm s) 0 0 (g_Z X (q_i Q) 0 0) := by
  intro n
  induction n with
  | zero => intro y1 y2 s h; exact h.elim
  | succ n ih0 =>
    intro y1 y2 s h 
    have ih : ∀ (y1 : Int32) (y2 : Int32) (s : gS), wX4_readSpan_9  Q n y1 y2 s → Gw l mX4_readSpan (g_rm 4 0 0) X 9 [some (.ref 3), some (.int y1), some (.int y2), none] [] (nrm s) 0 0 (g_Z X (q_i Q) 0 0) := fun y1 y2 s h => ih0 y1 y2 s h 
    refine r_iload_n (pc := 9) (x := y2) dX4_readSpan_9 rfl ?_
    refine r_bipush (pc := 10) (v := 80) dX4_readSpan_10 (by decide) ?_
    refine r_icmp_ge (pc := 12) (tgt := 31) dX4_readSpan_12 (by decide) (fun c => ?_) (fun c => ?_)
    · replace h := h.1 c
      refine n_L (L' := [some (.ref 3), some (.int y1), none, none]) (le_s (le_s (le_n (le_n (le_e))))) ?_
      exact pX4_readSpan_31  _ _ h 
    · replace h := h.2 c
      refine r_iload_n (pc := 15) (x := y1) dX4_readSpan_15 rfl ?_
      refine r_iconst (pc := 16) (v := 1) dX4_readSpan_16 (by decide) ?_
      refine r_icmp_ne (pc := 17) (tgt := 31) dX4_readSpan_17 (by decide) (fun c => ?_) (fun c => ?_)
      · replace h := h.1 c
        refine n_L (L' := [some (.ref 3), some (.int y1), none, none]) (le_s (le_s (le_n (le_n (le_e))))) ?_
        exact pX4_readSpan_31  _ _ h 
      · replace h := h.2 c
        refine r_aload_n (pc := 20) (x := 3) dX4_readSpan_20 rfl ?_
        refine n_Vi0 (pc := 21) (S0 := []) (spX4_readStep h) gmX4_readStep selX4_readStep lk_RX4_56 dX4_readSpan_21 rfl (by decide) sh_3 ⟨rfl, by decide⟩ rfl ⟨Nat.le_of_ble_eq_true rfl, Nat.le_of_ble_eq_true rfl⟩ (Nat.le_of_ble_eq_true rfl) ⟨Nat.zero_le _, Nat.zero_le _⟩ (fun r1 s1 h => ?_)
        refine r_istore_n (pc := 24) (L' := [some (.ref 3), some (.int r1), some (.int y2), none]) dX4_readSpan_24 rfl (by decide) rfl ?_
        refine n_iinc (pc := 25) (x := y2) (w := 1) (L' := [some (.ref 3), some (.int r1), some (.int (y2 + 1)), none]) dX4_readSpan_25 rfl (by decide) rfl (by decide) rfl ?_
        refine r_goto (pc := 28) (tgt := 9) dX4_readSpan_28 (by decide) ?_
        refine n_L (L' := [some (.ref 3), some (.int r1), some (.int (y2 + 1)), none]) (le_s (le_s (le_s (le_n (le_e))))) ?_
        exact ih _ _ _ h
def wpX4_readSpan  (s : gS) (Q : Int32 → gS → Prop) : Prop := ∃ n9, wX4_readSpan_9  Q n9 1 0 (wi s 3 4 0)
set_option maxRecDepth 20000 in
theorem spX4_readSpan {l : Launch}   {s : gS} {Q : Int32 → gS → Prop} (h : wpX4_readSpan  s Q) : Ct l mX4_readSpan 4 0 0 [.ref 3] (nrm s) (q_i Q) := by
  refine Ct.of (by decide) (Nat.le_of_ble_eq_true rfl) (fun X => ?_)
  refine n_L (L' := [some (.ref 3), none, none, none]) (le_s (le_p (le_p (le_p (le_e))))) ?_
  refine r_aload_n (pc := 0) (x := 3) dX4_readSpan_0 rfl ?_
  refine r_iconst (pc := 1) (v := 0) dX4_readSpan_1 (by decide) ?_
  refine n_putI (pc := 2) (j := 4) dX4_readSpan_2 fl_RX4_29 fw_4_4 (by decide) sh_3 rfl rfl ?_
  refine r_iconst (pc := 5) (v := 1) dX4_readSpan_5 (by decide) ?_
  refine r_istore_n (pc := 6) (L' := [some (.ref 3), some (.int 1), none, none]) dX4_readSpan_6 rfl (by decide) rfl ?_
  refine r_iconst (pc := 7) (v := 0) dX4_readSpan_7 (by decide) ?_
  refine r_istore_n (pc := 8) (L' := [some (.ref 3), some (.int 1), some (.int 0), none]) dX4_readSpan_8 rfl (by decide) rfl ?_
  refine n_L (L' := [some (.ref 3), some (.int 1), some (.int 0), none]) (le_s (le_s (le_s (le_n (le_e))))) ?_
  obtain ⟨n, h⟩ := h
  exact pX4_readSpan_9  n _ _ _ h 
def wpX4_readPart  (s : gS) (Q : Int32 → gS → Prop) : Prop := wpX4_readSpan s (fun r1 s1 => (¬ r1 = 0 → ((gi s1 4 3) = 38 → wpX10_advance s1 (fun s2 => wpX4_base 18 0 0 0 s2 (fun r3 s3 => wpX4_readSpan s3 (fun r4 s4 => (¬ r4 = 0 → wpX4_base 19 0 0 0 s4 (fun r5 s5 => Q 1 s5)) ∧ (r4 = 0 → Q 0 s4))))) ∧ (¬ ((gi s1 4 3) = 38) → wpX4_base 20 0 0 0 s1 (fun r6 s6 => Q 1 s6))) ∧ (r1 = 0 → Q 0 s1))
set_option maxRecDepth 20000 in
theorem spX4_readPart {l : Launch}   {s : gS} {Q : Int32 → gS → Prop} (h : wpX4_readPart  s Q) : Ct l mX4_readPart 5 0 0 [.ref 3] (nrm s) (q_i Q) := by
  refine Ct.of (by decide) (Nat.le_of_ble_eq_true rfl) (fun X => ?_)
  refine n_L (L' := [some (.ref 3)]) (le_s (le_e)) ?_
  refine r_aload_n (pc := 0) (x := 3) dX4_readPart_0 rfl ?_
  refine n_Vi0 (pc := 1) (S0 := []) (spX4_readSpan h) gmX4_readSpan selX4_readSpan lk_RX4_49 dX4_readPart_1 rfl (by decide) sh_3 ⟨rfl, by decide⟩ rfl ⟨Nat.le_of_ble_eq_true rfl, Nat.le_of_ble_eq_true rfl⟩ (Nat.le_of_ble_eq_true rfl) ⟨Nat.zero_le _, Nat.zero_le _⟩ (fun r1 s1 h => ?_)
  refine r_if_ne (pc := 4) (tgt := 9) dX4_readPart_4 (by decide) (fun c => ?_) (fun c => ?_)
  · replace h := h.1 c
    refine r_aload_n (pc := 9) (x := 3) dX4_readPart_9 rfl ?_
    refine n_getR (pc := 10) (j := 0) (q := 4) dX4_readPart_10 fl_RX4_12 (by decide) sh_3 rfl rfl rfl ?_
    refine n_getI (pc := 13) (j := 3) dX4_readPart_13 fl_RX4_40 (by decide) sh_4 rfl rfl ?_
    refine r_bipush (pc := 16) (v := 38) dX4_readPart_16 (by decide) ?_
    refine r_icmp_eq (pc := 18) (tgt := 33) dX4_readPart_18 (by decide) (fun c => ?_) (fun c => ?_)
    · replace h := h.1 c
      refine r_aload_n (pc := 33) (x := 3) dX4_readPart_33 rfl ?_
      refine n_getR (pc := 34) (j := 0) (q := 4) dX4_readPart_34 fl_RX4_12 (by decide) sh_3 rfl rfl rfl ?_
      refine n_Vv0 (pc := 37) (S0 := []) (spX10_advance h) gmX10_advance selX10_advance lk_RX4_43 dX4_readPart_37 rfl (by decide) sh_4 ⟨rfl, by decide⟩ rfl ⟨Nat.le_of_ble_eq_true rfl, Nat.le_of_ble_eq_true rfl⟩ (Nat.le_of_ble_eq_true rfl) ⟨Nat.zero_le _, Nat.zero_le _⟩ (fun s2 h => ?_)
      refine r_aload_n (pc := 40) (x := 3) dX4_readPart_40 rfl ?_
      refine r_bipush (pc := 41) (v := 18) dX4_readPart_41 (by decide) ?_
      refine r_iconst (pc := 43) (v := 0) dX4_readPart_43 (by decide) ?_
      refine r_iconst (pc := 44) (v := 0) dX4_readPart_44 (by decide) ?_
      refine r_iconst (pc := 45) (v := 0) dX4_readPart_45 (by decide) ?_
      refine n_Vi0 (pc := 46) (S0 := []) (spX4_base h) gmX4_base selX4_base lk_RX4_52 dX4_readPart_46 rfl (by decide) sh_3 ⟨rfl, by decide⟩ rfl ⟨Nat.le_of_ble_eq_true rfl, Nat.le_of_ble_eq_true rfl⟩ (Nat.le_of_ble_eq_true rfl) ⟨Nat.zero_le _, Nat.zero_le _⟩ (fun r3 s3 h => ?_)
      refine r_pop (pc := 49) dX4_readPart_49 rfl ?_
      refine r_aload_n (pc := 50) (x := 3) dX4_readPart_50 rfl ?_
      refine n_Vi0 (pc := 51) (S0 := []) (spX4_readSpan h) gmX4_readSpan selX4_readSpan lk_RX4_49 dX4_readPart_51 rfl (by decide) sh_3 ⟨rfl, by decide⟩ rfl ⟨Nat.le_of_ble_eq_true rfl, Nat.le_of_ble_eq_true rfl⟩ (Nat.le_of_ble_eq_true rfl) ⟨Nat.zero_le _, Nat.zero_le _⟩ (fun r4 s4 h => ?_)
      refine r_if_ne (pc := 54) (tgt := 59) dX4_readPart_54 (by decide) (fun c => ?_) (fun c => ?_)
      · replace h := h.1 c
        refine r_aload_n (pc := 59) (x := 3) dX4_readPart_59 rfl ?_
        refine r_bipush (pc := 60) (v := 19) dX4_readPart_60 (by decide) ?_
        refine r_iconst (pc := 62) (v := 0) dX4_readPart_62 (by decide) ?_
        refine r_iconst (pc := 63) (v := 0) dX4_readPart_63 (by decide) ?_
        refine r_iconst (pc := 64) (v := 0) dX4_readPart_64 (by decide) ?_
        refine n_Vi0 (pc := 65) (S0 := []) (spX4_base h) gmX4_base selX4_base lk_RX4_52 dX4_readPart_65 rfl (by decide) sh_3 ⟨rfl, by decide⟩ rfl ⟨Nat.le_of_ble_eq_true rfl, Nat.le_of_ble_eq_true rfl⟩ (Nat.le_of_ble_eq_true rfl) ⟨Nat.zero_le _, Nat.zero_le _⟩ (fun r5 s5 h => ?_)
        refine r_pop (pc := 68) dX4_readPart_68 rfl ?_
        refine r_iconst (pc := 69) (v := 1) dX4_readPart_69 (by decide) ?_
        exact n_zret (pc := 70) dX4_readPart_70 rfl (by decide) (Nat.le_refl _) (Nat.le_refl _) h
      · replace h := h.2 c
        refine r_iconst (pc := 57) (v := 0) dX4_readPart_57 (by decide) ?_
        exact n_zret (pc := 58) dX4_readPart_58 rfl (by decide) (Nat.le_refl _) (Nat.le_refl _) h
    · replace h := h.2 c
      refine r_aload_n (pc := 21) (x := 3) dX4_readPart_21 rfl ?_
      refine r_bipush (pc := 22) (v := 20) dX4_readPart_22 (by decide) ?_
      refine r_iconst (pc := 24) (v := 0) dX4_readPart_24 (by decide) ?_
      refine r_iconst (pc := 25) (v := 0) dX4_readPart_25 (by decide) ?_
      refine r_iconst (pc := 26) (v := 0) dX4_readPart_26 (by decide) ?_
      refine n_Vi0 (pc := 27) (S0 := []) (spX4_base h) gmX4_base selX4_base lk_RX4_52 dX4_readPart_27 rfl (by decide) sh_3 ⟨rfl, by decide⟩ rfl ⟨Nat.le_of_ble_eq_true rfl, Nat.le_of_ble_eq_true rfl⟩ (Nat.le_of_ble_eq_true rfl) ⟨Nat.zero_le _, Nat.zero_le _⟩ (fun r6 s6 h => ?_)
      refine r_pop (pc := 30) dX4_readPart_30 rfl ?_
      refine r_iconst (pc := 31) (v := 1) dX4_readPart_31 (by decide) ?_
      exact n_zret (pc := 32) dX4_readPart_32 rfl (by decide) (Nat.le_refl _) (Nat.le_refl _) h
  · replace h := h.2 c
    refine r_iconst (pc := 7) (v := 0) dX4_readPart_7 (by decide) ?_
    exact n_zret (pc := 8) dX4_readPart_8 rfl (by decide) (Nat.le_refl _) (Nat.le_refl _) h
def wX4_parse_60  (Q : Int32 → gS → Prop)  (y2 : Int32) (s : gS) : Prop := (y2 = 0 → Q (gi s 4 4) s) ∧ (¬ (y2 = 0) → (¬ (gi s 4 3) = 41 → Q (gi s 4 4) s) ∧ ((gi s 4 3) = 41 → Q (-1) s))
set_option maxRecDepth 20000 in
theorem pX4_parse_60 {l : Launch} {X : gX}   {Q : Int32 → gS → Prop}  (y2 : Int32) (s : gS) (h : wX4_parse_60  Q y2 s)  : Gw l mX4_parse (g_rm 7 0 0) X 60 [some (.ref 3), none, some (.int y2), none] [] (nrm s) 0 0 (g_Z X (q_i Q) 0 0) := by
  refine r_iload_n (pc := 60) (x := y2) dX4_parse_60 rfl ?_
  refine r_if_eq (pc := 61) (tgt := 80) dX4_parse_61 (by decide) (fun c => ?_) (fun c => ?_)
  · replace h := h.1 c
    refine r_aload_n (pc := 80) (x := 3) dX4_parse_80 rfl ?_
    refine n_getR (pc := 81) (j := 0) (q := 4) dX4_parse_81 fl_RX4_12 (by decide) sh_3 rfl rfl rfl ?_
    refine n_getI (pc := 84) (j := 4) dX4_parse_84 fl_RX4_46 (by decide) sh_4 rfl rfl ?_
    exact n_iret (pc := 87) dX4_parse_87 rfl (Nat.le_refl _) (Nat.le_refl _) h
  · replace h := h.2 c
    refine r_aload_n (pc := 64) (x := 3) dX4_parse_64 rfl ?_
    refine n_getR (pc := 65) (j := 0) (q := 4) dX4_parse_65 fl_RX4_12 (by decide) sh_3 rfl rfl rfl ?_
    refine n_getI (pc := 68) (j := 3) dX4_parse_68 fl_RX4_40 (by decide) sh_4 rfl rfl ?_
    refine r_bipush (pc := 71) (v := 41) dX4_parse_71 (by decide) ?_
    refine r_icmp_ne (pc := 73) (tgt := 80) dX4_parse_73 (by decide) (fun c => ?_) (fun c => ?_)
    · replace h := h.1 c
      refine r_aload_n (pc := 80) (x := 3) dX4_parse_80 rfl ?_
      refine n_getR (pc := 81) (j := 0) (q := 4) dX4_parse_81 fl_RX4_12 (by decide) sh_3 rfl rfl rfl ?_
      refine n_getI (pc := 84) (j := 4) dX4_parse_84 fl_RX4_46 (by decide) sh_4 rfl rfl ?_
      exact n_iret (pc := 87) dX4_parse_87 rfl (Nat.le_refl _) (Nat.le_refl _) h
    · replace h := h.2 c
      refine r_iconst (pc := 76) (v := (-1)) dX4_parse_76 (by decide) ?_
      refine r_goto (pc := 77) (tgt := 87) dX4_parse_77 (by decide) ?_
      exact n_iret (pc := 87) dX4_parse_87 rfl (Nat.le_refl _) (Nat.le_refl _) h
def wX4_parse_20  (Q : Int32 → gS → Prop)  : Nat → Int32 → Int32 → gS → Prop
  | 0, _, _, _ => False
  | n + 1, y2, y3, s => (80 ≤ y3 → wX4_parse_60  Q y2 s) ∧ (¬ (80 ≤ y3) → (y2 = 0 → wX4_parse_60  Q y2 s) ∧ (¬ (y2 = 0) → (¬ (gi s 4 3) = 39 → wX4_parse_60  Q y2 s) ∧ ((gi s 4 3) = 39 → wpX10_advance s (fun s3 => wpX4_readPart s3 (fun r4 s4 => wX4_parse_20  Q n r4 (y3 + 1) s4)))))
set_option maxRecDepth 20000 in
theorem pX4_parse_20 {l : Launch} {X : gX}   {Q : Int32 → gS → Prop}  : ∀ (n : Nat) (y2 : Int32) (y3 : Int32) (s : gS) (h : wX4_parse_20  Q n y2 y3 s) , Gw l mX4_parse (g_rm 7 0 0) X 20 [some (.ref 3), none, some (.int y2), some (.int y3)] [] (nrm s) 0 0 (g_Z X (q_i Q) 0 0) := by
  intro n
  induction n with
  | zero => intro y2 y3 s h; exact h.elim
  | succ n ih0 =>
    intro y2 y3 s h 
    have ih : ∀ (y2 : Int32) (y3 : Int32) (s : gS), wX4_parse_20  Q n y2 y3 s → Gw l mX4_parse (g_rm 7 0 0) X 20 [some (.ref 3), none, some (.int y2), some (.int y3)] [] (nrm s) 0 0 (g_Z X (q_i Q) 0 0) := fun y2 y3 s h => ih0 y2 y3 s h 
    refine r_iload_n (pc := 20) (x := y3) dX4_parse_20 rfl ?_
    refine r_bipush (pc := 21) (v := 80) dX4_parse_21 (by decide) ?_
    refine r_icmp_ge (pc := 23) (tgt := 60) dX4_parse_23 (by decide) (fun c => ?_) (fun c => ?_)
    · replace h := h.1 c
      refine n_L (L' := [some (.ref 3), none, some (.int y2), none]) (le_s (le_n (le_s (le_n (le_e))))) ?_
      exact pX4_parse_60  _ _ h 
    · replace h := h.2 c
      refine r_iload_n (pc := 26) (x := y2) dX4_parse_26 rfl ?_
      refine r_if_eq (pc := 27) (tgt := 60) dX4_parse_27 (by decide) (fun c => ?_) (fun c => ?_)
      · replace h := h.1 c
        refine n_L (L' := [some (.ref 3), none, some (.int y2), none]) (le_s (le_n (le_s (le_n (le_e))))) ?_
        exact pX4_parse_60  _ _ h 
      · replace h := h.2 c
        refine r_aload_n (pc := 30) (x := 3) dX4_parse_30 rfl ?_
        refine n_getR (pc := 31) (j := 0) (q := 4) dX4_parse_31 fl_RX4_12 (by decide) sh_3 rfl rfl rfl ?_
        refine n_getI (pc := 34) (j := 3) dX4_parse_34 fl_RX4_40 (by decide) sh_4 rfl rfl ?_
        refine r_bipush (pc := 37) (v := 39) dX4_parse_37 (by decide) ?_
        refine r_icmp_ne (pc := 39) (tgt := 60) dX4_parse_39 (by decide) (fun c => ?_) (fun c => ?_)
        · replace h := h.1 c
          refine n_L (L' := [some (.ref 3), none, some (.int y2), none]) (le_s (le_n (le_s (le_n (le_e))))) ?_
          exact pX4_parse_60  _ _ h 
        · replace h := h.2 c
          refine r_aload_n (pc := 42) (x := 3) dX4_parse_42 rfl ?_
          refine n_getR (pc := 43) (j := 0) (q := 4) dX4_parse_43 fl_RX4_12 (by decide) sh_3 rfl rfl rfl ?_
          refine n_Vv0 (pc := 46) (S0 := []) (spX10_advance h) gmX10_advance selX10_advance lk_RX4_43 dX4_parse_46 rfl (by decide) sh_4 ⟨rfl, by decide⟩ rfl ⟨Nat.le_of_ble_eq_true rfl, Nat.le_of_ble_eq_true rfl⟩ (Nat.le_of_ble_eq_true rfl) ⟨Nat.zero_le _, Nat.zero_le _⟩ (fun s3 h => ?_)
          refine r_aload_n (pc := 49) (x := 3) dX4_parse_49 rfl ?_
          refine n_Vi0 (pc := 50) (S0 := []) (spX4_readPart h) gmX4_readPart selX4_readPart lk_RX4_36 dX4_parse_50 rfl (by decide) sh_3 ⟨rfl, by decide⟩ rfl ⟨Nat.le_of_ble_eq_true rfl, Nat.le_of_ble_eq_true rfl⟩ (Nat.le_of_ble_eq_true rfl) ⟨Nat.zero_le _, Nat.zero_le _⟩ (fun r4 s4 h => ?_)
          refine r_istore_n (pc := 53) (L' := [some (.ref 3), none, some (.int r4), some (.int y3)]) dX4_parse_53 rfl (by decide) rfl ?_
          refine n_iinc (pc := 54) (x := y3) (w := 1) (L' := [some (.ref 3), none, some (.int r4), some (.int (y3 + 1))]) dX4_parse_54 rfl (by decide) rfl (by decide) rfl ?_
          refine r_goto (pc := 57) (tgt := 20) dX4_parse_57 (by decide) ?_
          refine n_L (L' := [some (.ref 3), none, some (.int r4), some (.int (y3 + 1))]) (le_s (le_n (le_s (le_s (le_e))))) ?_
          exact ih _ _ _ h
def wpX4_parse  (s : gS) (Q : Int32 → gS → Prop) : Prop := wpX10_split (wi s 3 2 0) (fun s1 => wpX4_readPart s1 (fun r2 s2 => ∃ n20, wX4_parse_20  Q n20 r2 0 s2))
set_option maxRecDepth 20000 in
theorem spX4_parse {l : Launch}   {s : gS} {Q : Int32 → gS → Prop} (h : wpX4_parse  s Q) : Ct l mX4_parse 7 0 0 [.ref 3, .ref 1] (nrm s) (q_i Q) := by
  refine Ct.of (by decide) (Nat.le_of_ble_eq_true rfl) (fun X => ?_)
  refine n_L (L' := [some (.ref 3), some (.ref 1), none, none]) (le_s (le_s (le_p (le_p (le_e))))) ?_
  refine r_aload_n (pc := 0) (x := 3) dX4_parse_0 rfl ?_
  refine r_iconst (pc := 1) (v := 0) dX4_parse_1 (by decide) ?_
  refine n_putI (pc := 2) (j := 2) dX4_parse_2 fl_RX4_22 fw_4_2 (by decide) sh_3 rfl rfl ?_
  refine r_aload_n (pc := 5) (x := 3) dX4_parse_5 rfl ?_
  refine n_getR (pc := 6) (j := 0) (q := 4) dX4_parse_6 fl_RX4_12 (by decide) sh_3 rfl rfl rfl ?_
  refine r_aload_n (pc := 9) (x := 1) dX4_parse_9 rfl ?_
  refine n_Vv0 (pc := 10) (S0 := []) (spX10_split h) gmX10_split selX10_split lk_RX4_32 dX4_parse_10 rfl (by decide) sh_4 ⟨rfl, by decide⟩ rfl ⟨Nat.le_of_ble_eq_true rfl, Nat.le_of_ble_eq_true rfl⟩ (Nat.le_of_ble_eq_true rfl) ⟨Nat.zero_le _, Nat.zero_le _⟩ (fun s1 h => ?_)
  refine r_aload_n (pc := 13) (x := 3) dX4_parse_13 rfl ?_
  refine n_Vi0 (pc := 14) (S0 := []) (spX4_readPart h) gmX4_readPart selX4_readPart lk_RX4_36 dX4_parse_14 rfl (by decide) sh_3 ⟨rfl, by decide⟩ rfl ⟨Nat.le_of_ble_eq_true rfl, Nat.le_of_ble_eq_true rfl⟩ (Nat.le_of_ble_eq_true rfl) ⟨Nat.zero_le _, Nat.zero_le _⟩ (fun r2 s2 h => ?_)
  refine r_istore_n (pc := 17) (L' := [some (.ref 3), some (.ref 1), some (.int r2), none]) dX4_parse_17 rfl (by decide) rfl ?_
  refine r_iconst (pc := 18) (v := 0) dX4_parse_18 (by decide) ?_
  refine r_istore_n (pc := 19) (L' := [some (.ref 3), some (.ref 1), some (.int r2), some (.int 0)]) dX4_parse_19 rfl (by decide) rfl ?_
  refine n_L (L' := [some (.ref 3), none, some (.int r2), some (.int 0)]) (le_s (le_n (le_s (le_s (le_e))))) ?_
  obtain ⟨n, h⟩ := h
  exact pX4_parse_20  n _ _ _ h 
