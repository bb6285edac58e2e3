def wX12_noteChoice_74  (Q : gS → Prop)  : Nat → Int32 → gS → Prop
  | 0, _, _ => False
  | n + 1, y1, s => (6 ≤ y1 → Q s) ∧ (¬ (6 ≤ y1) → vp_in y1 6 ∧ (vp_in y1 6 ∧ (wX12_noteChoice_74  Q n (y1 + 1) (wi s 184 (ix y1) (gi s 182 (ix y1))))))
set_option maxRecDepth 20000 in
theorem pX12_noteChoice_74 {l : Launch} {X : gX}   {Q : gS → Prop}  : ∀ (n : Nat) (y1 : Int32) (s : gS) (h : wX12_noteChoice_74  Q n y1 s) , Gw l mX12_noteChoice (g_rm 5 0 0) X 74 [some (.ref 177), some (.int y1)] [] (nrm s) 0 0 (g_Z X (q_v Q) 0 0) := by
  intro n
  induction n with
  | zero => intro y1 s h; exact h.elim
  | succ n ih0 =>
    intro y1 s h 
    have ih : ∀ (y1 : Int32) (s : gS), wX12_noteChoice_74  Q n y1 s → Gw l mX12_noteChoice (g_rm 5 0 0) X 74 [some (.ref 177), some (.int y1)] [] (nrm s) 0 0 (g_Z X (q_v Q) 0 0) := fun y1 s h => ih0 y1 s h 
    refine r_iload_n (pc := 74) (x := y1) dX12_noteChoice_74 rfl ?_
    refine r_bipush (pc := 75) (v := 6) dX12_noteChoice_75 (by decide) ?_
    refine r_icmp_ge (pc := 77) (tgt := 98) dX12_noteChoice_77 (by decide) (fun c => ?_) (fun c => ?_)
    · replace h := h.1 c
      exact n_vret (pc := 98) dX12_noteChoice_98 rfl (Nat.le_refl _) (Nat.le_refl _) h
    · replace h := h.2 c
      refine r_aload_n (pc := 80) (x := 177) dX12_noteChoice_80 rfl ?_
      refine n_getR (pc := 81) (j := 20) (q := 184) dX12_noteChoice_81 fl_RX12_30 (by decide) sh_177 rfl rfl rfl ?_
      refine r_iload_n (pc := 84) (x := y1) dX12_noteChoice_84 rfl ?_
      refine r_aload_n (pc := 85) (x := 177) dX12_noteChoice_85 rfl ?_
      refine n_getR (pc := 86) (j := 16) (q := 182) dX12_noteChoice_86 fl_RX12_24 (by decide) sh_177 rfl rfl rfl ?_
      refine r_iload_n (pc := 89) (x := y1) dX12_noteChoice_89 rfl ?_
      obtain ⟨b1, h⟩ := h
      refine n_iald (pc := 90) (j := (ix y1)) dX12_noteChoice_90 (by decide) sh_182 b1 rfl ?_
      obtain ⟨b2, h⟩ := h
      refine n_iast (pc := 91) (j := (ix y1)) dX12_noteChoice_91 (by decide) sh_184 b2 rfl ?_
      refine n_iinc (pc := 92) (x := y1) (w := 1) (L' := [some (.ref 177), some (.int (y1 + 1))]) dX12_noteChoice_92 rfl (by decide) rfl (by decide) rfl ?_
      refine r_goto (pc := 95) (tgt := 74) dX12_noteChoice_95 (by decide) ?_
      refine n_L (L' := [some (.ref 177), some (.int (y1 + 1))]) (le_s (le_s (le_e))) ?_
      exact ih _ _ h
def wX12_noteChoice_12  (Q : gS → Prop)  : Nat → Int32 → gS → Prop
  | 0, _, _ => False
  | n + 1, y1, s => (6 ≤ y1 → wpX12_worthNow s (fun r3 s3 => ((gi s3 177 21) < r3 → wpX12_worthNow s3 (fun r4 s4 => ∃ n74, wX12_noteChoice_74  Q n74 0 (wi s4 177 21 r4))) ∧ (¬ ((gi s3 177 21) < r3) → Q s3))) ∧ (¬ (6 ≤ y1) → wpX12_isTold y1 s (fun r5 s5 => (r5 = 0 → wX12_noteChoice_12  Q n (y1 + 1) s5) ∧ (¬ (r5 = 0) → vp_in y1 6 ∧ (vp_in ((6 * y1) + (gi s5 182 (ix y1))) 36 ∧ (vp_in ((6 * y1) + (gi s5 182 (ix y1))) 36 ∧ (wX12_noteChoice_12  Q n (y1 + 1) (wi s5 183 (ix ((6 * y1) + (gi s5 182 (ix y1)))) ((gi s5 183 (ix ((6 * y1) + (gi s5 182 (ix y1))))) + 1))))))))
set_option maxRecDepth 20000 in
theorem pX12_noteChoice_12 {l : Launch} {X : gX}   {Q : gS → Prop}  : ∀ (n : Nat) (y1 : Int32) (s : gS) (h : wX12_noteChoice_12  Q n y1 s) , Gw l mX12_noteChoice (g_rm 5 0 0) X 12 [some (.ref 177), some (.int y1)] [] (nrm s) 0 0 (g_Z X (q_v Q) 0 0) := by
  intro n
  induction n with
  | zero => intro y1 s h; exact h.elim
  | succ n ih0 =>
    intro y1 s h 
    have ih : ∀ (y1 : Int32) (s : gS), wX12_noteChoice_12  Q n y1 s → Gw l mX12_noteChoice (g_rm 5 0 0) X 12 [some (.ref 177), some (.int y1)] [] (nrm s) 0 0 (g_Z X (q_v Q) 0 0) := fun y1 s h => ih0 y1 s h 
    refine r_iload_n (pc := 12) (x := y1) dX12_noteChoice_12 rfl ?_
    refine r_bipush (pc := 13) (v := 6) dX12_noteChoice_13 (by decide) ?_
    refine r_icmp_ge (pc := 15) (tgt := 52) dX12_noteChoice_15 (by decide) (fun c => ?_) (fun c => ?_)
    · replace h := h.1 c
      refine r_aload_n (pc := 52) (x := 177) dX12_noteChoice_52 rfl ?_
      refine n_Vi0 (pc := 53) (S0 := []) (spX12_worthNow h) gmX12_worthNow selX12_worthNow lk_RX12_378 dX12_noteChoice_53 rfl (by decide) sh_177 ⟨rfl, by decide⟩ rfl ⟨Nat.le_of_ble_eq_true rfl, Nat.le_of_ble_eq_true rfl⟩ (Nat.le_of_ble_eq_true rfl) ⟨Nat.zero_le _, Nat.zero_le _⟩ (fun r3 s3 h => ?_)
      refine r_aload_n (pc := 56) (x := 177) dX12_noteChoice_56 rfl ?_
      refine n_getI (pc := 57) (j := 21) dX12_noteChoice_57 fl_RX12_363 (by decide) sh_177 rfl rfl ?_
      refine r_icmp_gt (pc := 60) (tgt := 64) dX12_noteChoice_60 (by decide) (fun c => ?_) (fun c => ?_)
      · replace h := h.1 c
        refine r_aload_n (pc := 64) (x := 177) dX12_noteChoice_64 rfl ?_
        refine r_aload_n (pc := 65) (x := 177) dX12_noteChoice_65 rfl ?_
        refine n_Vi0 (pc := 66) (S0 := [.ref 177]) (spX12_worthNow h) gmX12_worthNow selX12_worthNow lk_RX12_378 dX12_noteChoice_66 rfl (by decide) sh_177 ⟨rfl, by decide⟩ rfl ⟨Nat.le_of_ble_eq_true rfl, Nat.le_of_ble_eq_true rfl⟩ (Nat.le_of_ble_eq_true rfl) ⟨Nat.zero_le _, Nat.zero_le _⟩ (fun r4 s4 h => ?_)
        refine n_putI (pc := 69) (j := 21) dX12_noteChoice_69 fl_RX12_363 fw_12_21 (by decide) sh_177 rfl rfl ?_
        refine r_iconst (pc := 72) (v := 0) dX12_noteChoice_72 (by decide) ?_
        refine r_istore_n (pc := 73) (L' := [some (.ref 177), some (.int 0)]) dX12_noteChoice_73 rfl (by decide) rfl ?_
        refine n_L (L' := [some (.ref 177), some (.int 0)]) (le_s (le_s (le_e))) ?_
        obtain ⟨n, h⟩ := h
        exact pX12_noteChoice_74  n _ _ h 
      · replace h := h.2 c
        exact n_vret (pc := 63) dX12_noteChoice_63 rfl (Nat.le_refl _) (Nat.le_refl _) h
    · replace h := h.2 c
      refine r_aload_n (pc := 18) (x := 177) dX12_noteChoice_18 rfl ?_
      refine r_iload_n (pc := 19) (x := y1) dX12_noteChoice_19 rfl ?_
      refine n_Vi0 (pc := 20) (S0 := []) (spX12_isTold h) gmX12_isTold selX12_isTold lk_RX12_330 dX12_noteChoice_20 rfl (by decide) sh_177 ⟨rfl, by decide⟩ rfl ⟨Nat.le_of_ble_eq_true rfl, Nat.le_of_ble_eq_true rfl⟩ (Nat.le_of_ble_eq_true rfl) ⟨Nat.zero_le _, Nat.zero_le _⟩ (fun r5 s5 h => ?_)
      refine r_if_eq (pc := 23) (tgt := 46) dX12_noteChoice_23 (by decide) (fun c => ?_) (fun c => ?_)
      · replace h := h.1 c
        refine n_iinc (pc := 46) (x := y1) (w := 1) (L' := [some (.ref 177), some (.int (y1 + 1))]) dX12_noteChoice_46 rfl (by decide) rfl (by decide) rfl ?_
        refine r_goto (pc := 49) (tgt := 12) dX12_noteChoice_49 (by decide) ?_
        refine n_L (L' := [some (.ref 177), some (.int (y1 + 1))]) (le_s (le_s (le_e))) ?_
        exact ih _ _ h
      · replace h := h.2 c
        refine r_aload_n (pc := 26) (x := 177) dX12_noteChoice_26 rfl ?_
        refine n_getR (pc := 27) (j := 19) (q := 183) dX12_noteChoice_27 fl_RX12_27 (by decide) sh_177 rfl rfl rfl ?_
        refine r_bipush (pc := 30) (v := 6) dX12_noteChoice_30 (by decide) ?_
        refine r_iload_n (pc := 32) (x := y1) dX12_noteChoice_32 rfl ?_
        refine r_imul (pc := 33) dX12_noteChoice_33 ?_
        refine r_aload_n (pc := 34) (x := 177) dX12_noteChoice_34 rfl ?_
        refine n_getR (pc := 35) (j := 16) (q := 182) dX12_noteChoice_35 fl_RX12_24 (by decide) sh_177 rfl rfl rfl ?_
        refine r_iload_n (pc := 38) (x := y1) dX12_noteChoice_38 rfl ?_
        obtain ⟨b6, h⟩ := h
        refine n_iald (pc := 39) (j := (ix y1)) dX12_noteChoice_39 (by decide) sh_182 b6 rfl ?_
        refine r_iadd (pc := 40) dX12_noteChoice_40 ?_
        refine r_dup2 (pc := 41) dX12_noteChoice_41 rfl rfl ?_
        obtain ⟨b7, h⟩ := h
        refine n_iald (pc := 42) (j := (ix ((6 * y1) + (gi s5 182 (ix y1))))) dX12_noteChoice_42 (by decide) sh_183 b7 rfl ?_
        refine r_iconst (pc := 43) (v := 1) dX12_noteChoice_43 (by decide) ?_
        refine r_iadd (pc := 44) dX12_noteChoice_44 ?_
        obtain ⟨b8, h⟩ := h
        refine n_iast (pc := 45) (j := (ix ((6 * y1) + (gi s5 182 (ix y1))))) dX12_noteChoice_45 (by decide) sh_183 b8 rfl ?_
        refine n_iinc (pc := 46) (x := y1) (w := 1) (L' := [some (.ref 177), some (.int (y1 + 1))]) dX12_noteChoice_46 rfl (by decide) rfl (by decide) rfl ?_
        refine r_goto (pc := 49) (tgt := 12) dX12_noteChoice_49 (by decide) ?_
        refine n_L (L' := [some (.ref 177), some (.int (y1 + 1))]) (le_s (le_s (le_e))) ?_
        exact ih _ _ h
def wpX12_noteChoice  (s : gS) (Q : gS → Prop) : Prop := ∃ n12, wX12_noteChoice_12  Q n12 0 (wi s 177 17 ((gi s 177 17) + 1))
set_option maxRecDepth 20000 in
theorem spX12_noteChoice {l : Launch}   {s : gS} {Q : gS → Prop} (h : wpX12_noteChoice  s Q) : Ct l mX12_noteChoice 5 0 0 [.ref 177] (nrm s) (q_v Q) := by
  refine Ct.of (by decide) (Nat.le_of_ble_eq_true rfl) (fun X => ?_)
  refine n_L (L' := [some (.ref 177), none]) (le_s (le_p (le_e))) ?_
  refine r_aload_n (pc := 0) (x := 177) dX12_noteChoice_0 rfl ?_
  refine r_dup (pc := 1) dX12_noteChoice_1 rfl ?_
  refine n_getI (pc := 2) (j := 17) dX12_noteChoice_2 fl_RX12_357 (by decide) sh_177 rfl rfl ?_
  refine r_iconst (pc := 5) (v := 1) dX12_noteChoice_5 (by decide) ?_
  refine r_iadd (pc := 6) dX12_noteChoice_6 ?_
  refine n_putI (pc := 7) (j := 17) dX12_noteChoice_7 fl_RX12_357 fw_12_17 (by decide) sh_177 rfl rfl ?_
  refine r_iconst (pc := 10) (v := 0) dX12_noteChoice_10 (by decide) ?_
  refine r_istore_n (pc := 11) (L' := [some (.ref 177), some (.int 0)]) dX12_noteChoice_11 rfl (by decide) rfl ?_
  refine n_L (L' := [some (.ref 177), some (.int 0)]) (le_s (le_s (le_e))) ?_
  obtain ⟨n, h⟩ := h
  exact pX12_noteChoice_12  n _ _ h 
def wX12_survey_69  (Q : gS → Prop) (k44 : Int32 → gS → Prop)  (s : gS) : Prop := wpX12_nextPicks s (fun r5 s5 => k44 r5 s5)
set_option maxRecDepth 20000 in
theorem pX12_survey_69 {l : Launch} {X : gX}   {Q : gS → Prop} {k44 : Int32 → gS → Prop}  (s : gS) (h : wX12_survey_69  Q k44  s) (hk44 : ∀ (y1 : Int32) (s : gS), k44 y1 s → Gw l mX12_survey (g_rm 6 0 0) X 44 [some (.ref 177), some (.int y1)] [] (nrm s) 0 0 (g_Z X (q_v Q) 0 0)) : Gw l mX12_survey (g_rm 6 0 0) X 69 [some (.ref 177), none] [] (nrm s) 0 0 (g_Z X (q_v Q) 0 0) := by
  refine r_aload_n (pc := 69) (x := 177) dX12_survey_69 rfl ?_
  refine n_Vi0 (pc := 70) (S0 := []) (spX12_nextPicks h) gmX12_nextPicks selX12_nextPicks lk_RX12_375 dX12_survey_70 rfl (by decide) sh_177 ⟨rfl, by decide⟩ rfl ⟨Nat.le_of_ble_eq_true rfl, Nat.le_of_ble_eq_true rfl⟩ (Nat.le_of_ble_eq_true rfl) ⟨Nat.zero_le _, Nat.zero_le _⟩ (fun r5 s5 h => ?_)
  refine r_istore_n (pc := 73) (L' := [some (.ref 177), some (.int r5)]) dX12_survey_73 rfl (by decide) rfl ?_
  refine r_goto (pc := 74) (tgt := 44) dX12_survey_74 (by decide) ?_
  refine n_L (L' := [some (.ref 177), some (.int r5)]) (le_s (le_s (le_e))) ?_
  exact hk44 _ _ h
def wX12_survey_44  (Q : gS → Prop)  : Nat → Int32 → gS → Prop
  | 0, _, _ => False
  | n + 1, y1, s => (y1 = 0 → Q s) ∧ (¬ (y1 = 0) → wpX12_brokenNow (wi s 177 18 ((gi s 177 18) + 1)) (fun r3 s3 => (¬ r3 = 0 → wX12_survey_69  Q (fun y1 s => wX12_survey_44  Q n y1 s) s3) ∧ (r3 = 0 → wpX12_noteChoice s3 (fun s4 => wX12_survey_69  Q (fun y1 s => wX12_survey_44  Q n y1 s) s4))))
set_option maxRecDepth 20000 in
theorem pX12_survey_44 {l : Launch} {X : gX}   {Q : gS → Prop}  : ∀ (n : Nat) (y1 : Int32) (s : gS) (h : wX12_survey_44  Q n y1 s) , Gw l mX12_survey (g_rm 6 0 0) X 44 [some (.ref 177), some (.int y1)] [] (nrm s) 0 0 (g_Z X (q_v Q) 0 0) := by
  intro n
  induction n with
  | zero => intro y1 s h; exact h.elim
  | succ n ih0 =>
    intro y1 s h 
    have ih : ∀ (y1 : Int32) (s : gS), wX12_survey_44  Q n y1 s → Gw l mX12_survey (g_rm 6 0 0) X 44 [some (.ref 177), some (.int y1)] [] (nrm s) 0 0 (g_Z X (q_v Q) 0 0) := fun y1 s h => ih0 y1 s h 
    refine r_iload_n (pc := 44) (x := y1) dX12_survey_44 rfl ?_
    refine r_if_eq (pc := 45) (tgt := 77) dX12_survey_45 (by decide) (fun c => ?_) (fun c => ?_)
    · replace h := h.1 c
      exact n_vret (pc := 77) dX12_survey_77 rfl (Nat.le_refl _) (Nat.le_refl _) h
    · replace h := h.2 c
      refine r_aload_n (pc := 48) (x := 177) dX12_survey_48 rfl ?_
      refine r_dup (pc := 49) dX12_survey_49 rfl ?_
      refine n_getI (pc := 50) (j := 18) dX12_survey_50 fl_RX12_360 (by decide) sh_177 rfl rfl ?_
      refine r_iconst (pc := 53) (v := 1) dX12_survey_53 (by decide) ?_
      refine r_iadd (pc := 54) dX12_survey_54 ?_
      refine n_putI (pc := 55) (j := 18) dX12_survey_55 fl_RX12_360 fw_12_18 (by decide) sh_177 rfl rfl ?_
      refine r_aload_n (pc := 58) (x := 177) dX12_survey_58 rfl ?_
      refine n_Vi0 (pc := 59) (S0 := []) (spX12_brokenNow h) gmX12_brokenNow selX12_brokenNow lk_RX12_369 dX12_survey_59 rfl (by decide) sh_177 ⟨rfl, by decide⟩ rfl ⟨Nat.le_of_ble_eq_true rfl, Nat.le_of_ble_eq_true rfl⟩ (Nat.le_of_ble_eq_true rfl) ⟨Nat.zero_le _, Nat.zero_le _⟩ (fun r3 s3 h => ?_)
      refine r_if_ne (pc := 62) (tgt := 69) dX12_survey_62 (by decide) (fun c => ?_) (fun c => ?_)
      · replace h := h.1 c
        refine n_L (L' := [some (.ref 177), none]) (le_s (le_n (le_e))) ?_
        exact pX12_survey_69   _ h ih
      · replace h := h.2 c
        refine r_aload_n (pc := 65) (x := 177) dX12_survey_65 rfl ?_
        refine n_Vv0 (pc := 66) (S0 := []) (spX12_noteChoice h) gmX12_noteChoice selX12_noteChoice lk_RX12_372 dX12_survey_66 rfl (by decide) sh_177 ⟨rfl, by decide⟩ rfl ⟨Nat.le_of_ble_eq_true rfl, Nat.le_of_ble_eq_true rfl⟩ (Nat.le_of_ble_eq_true rfl) ⟨Nat.zero_le _, Nat.zero_le _⟩ (fun s4 h => ?_)
        refine n_L (L' := [some (.ref 177), none]) (le_s (le_n (le_e))) ?_
        exact pX12_survey_69   _ h ih
def wX12_survey_17  (Q : gS → Prop)  : Nat → Int32 → gS → Prop
  | 0, _, _ => False
  | n + 1, y1, s => (36 ≤ y1 → wpX12_startPicks s (fun r1 s1 => ∃ n44, wX12_survey_44  Q n44 r1 s1)) ∧ (¬ (36 ≤ y1) → vp_in y1 36 ∧ (wX12_survey_17  Q n (y1 + 1) (wi s 183 (ix y1) 0)))
set_option maxRecDepth 20000 in
theorem pX12_survey_17 {l : Launch} {X : gX}   {Q : gS → Prop}  : ∀ (n : Nat) (y1 : Int32) (s : gS) (h : wX12_survey_17  Q n y1 s) , Gw l mX12_survey (g_rm 6 0 0) X 17 [some (.ref 177), some (.int y1)] [] (nrm s) 0 0 (g_Z X (q_v Q) 0 0) := by
  intro n
  induction n with
  | zero => intro y1 s h; exact h.elim
  | succ n ih0 =>
    intro y1 s h 
    have ih : ∀ (y1 : Int32) (s : gS), wX12_survey_17  Q n y1 s → Gw l mX12_survey (g_rm 6 0 0) X 17 [some (.ref 177), some (.int y1)] [] (nrm s) 0 0 (g_Z X (q_v Q) 0 0) := fun y1 s h => ih0 y1 s h 
    refine r_iload_n (pc := 17) (x := y1) dX12_survey_17 rfl ?_
    refine r_aload_n (pc := 18) (x := 177) dX12_survey_18 rfl ?_
    refine n_getR (pc := 19) (j := 19) (q := 183) dX12_survey_19 fl_RX12_27 (by decide) sh_177 rfl rfl rfl ?_
    refine n_alen (pc := 22) (v := 36) dX12_survey_22 (by decide) sh_183 (by decide) (by decide) ?_
    refine r_icmp_ge (pc := 23) (tgt := 39) dX12_survey_23 (by decide) (fun c => ?_) (fun c => ?_)
    · replace h := h.1 c
      refine r_aload_n (pc := 39) (x := 177) dX12_survey_39 rfl ?_
      refine n_Vi0 (pc := 40) (S0 := []) (spX12_startPicks h) gmX12_startPicks selX12_startPicks lk_RX12_366 dX12_survey_40 rfl (by decide) sh_177 ⟨rfl, by decide⟩ rfl ⟨Nat.le_of_ble_eq_true rfl, Nat.le_of_ble_eq_true rfl⟩ (Nat.le_of_ble_eq_true rfl) ⟨Nat.zero_le _, Nat.zero_le _⟩ (fun r1 s1 h => ?_)
      refine r_istore_n (pc := 43) (L' := [some (.ref 177), some (.int r1)]) dX12_survey_43 rfl (by decide) rfl ?_
      refine n_L (L' := [some (.ref 177), some (.int r1)]) (le_s (le_s (le_e))) ?_
      obtain ⟨n, h⟩ := h
      exact pX12_survey_44  n _ _ h 
    · replace h := h.2 c
      refine r_aload_n (pc := 26) (x := 177) dX12_survey_26 rfl ?_
      refine n_getR (pc := 27) (j := 19) (q := 183) dX12_survey_27 fl_RX12_27 (by decide) sh_177 rfl rfl rfl ?_
      refine r_iload_n (pc := 30) (x := y1) dX12_survey_30 rfl ?_
      refine r_iconst (pc := 31) (v := 0) dX12_survey_31 (by decide) ?_
      obtain ⟨b2, h⟩ := h
      refine n_iast (pc := 32) (j := (ix y1)) dX12_survey_32 (by decide) sh_183 b2 rfl ?_
      refine n_iinc (pc := 33) (x := y1) (w := 1) (L' := [some (.ref 177), some (.int (y1 + 1))]) dX12_survey_33 rfl (by decide) rfl (by decide) rfl ?_
      refine r_goto (pc := 36) (tgt := 17) dX12_survey_36 (by decide) ?_
      refine n_L (L' := [some (.ref 177), some (.int (y1 + 1))]) (le_s (le_s (le_e))) ?_
      exact ih _ _ h
def wpX12_survey  (s : gS) (Q : gS → Prop) : Prop := ∃ n17, wX12_survey_17  Q n17 0 (wi (wi (wi s 177 17 0) 177 18 0) 177 21 (-1))
set_option maxRecDepth 20000 in
theorem spX12_survey {l : Launch}   {s : gS} {Q : gS → Prop} (h : wpX12_survey  s Q) : Ct l mX12_survey 6 0 0 [.ref 177] (nrm s) (q_v Q) := by
  refine Ct.of (by decide) (Nat.le_of_ble_eq_true rfl) (fun X => ?_)
  refine n_L (L' := [some (.ref 177), none]) (le_s (le_p (le_e))) ?_
  refine r_aload_n (pc := 0) (x := 177) dX12_survey_0 rfl ?_
  refine r_iconst (pc := 1) (v := 0) dX12_survey_1 (by decide) ?_
  refine n_putI (pc := 2) (j := 17) dX12_survey_2 fl_RX12_357 fw_12_17 (by decide) sh_177 rfl rfl ?_
  refine r_aload_n (pc := 5) (x := 177) dX12_survey_5 rfl ?_
  refine r_iconst (pc := 6) (v := 0) dX12_survey_6 (by decide) ?_
  refine n_putI (pc := 7) (j := 18) dX12_survey_7 fl_RX12_360 fw_12_18 (by decide) sh_177 rfl rfl ?_
  refine r_aload_n (pc := 10) (x := 177) dX12_survey_10 rfl ?_
  refine r_iconst (pc := 11) (v := (-1)) dX12_survey_11 (by decide) ?_
  refine n_putI (pc := 12) (j := 21) dX12_survey_12 fl_RX12_363 fw_12_21 (by decide) sh_177 rfl rfl ?_
  refine r_iconst (pc := 15) (v := 0) dX12_survey_15 (by decide) ?_
  refine r_istore_n (pc := 16) (L' := [some (.ref 177), some (.int 0)]) dX12_survey_16 rfl (by decide) rfl ?_
  refine n_L (L' := [some (.ref 177), some (.int 0)]) (le_s (le_s (le_e))) ?_
  obtain ⟨n, h⟩ := h
  exact pX12_survey_17  n _ _ h 
def wpX12_isLeft (x1 : Int32) (x2 : Int32) (s : gS) (Q : Int32 → gS → Prop) : Prop := vp_in ((6 * x1) + x2) 36 ∧ (((gi s 183 (ix ((6 * x1) + x2))) ≤ 0 → Q 0 s) ∧ (¬ ((gi s 183 (ix ((6 * x1) + x2))) ≤ 0) → Q 1 s))
set_option maxRecDepth 20000 in
theorem spX12_isLeft {l : Launch} {x1 : Int32} {x2 : Int32}  {s : gS} {Q : Int32 → gS → Prop} (h : wpX12_isLeft x1 x2 s Q) : Ct l mX12_isLeft 1 0 0 [.ref 177, .int x1, .int x2] (nrm s) (q_i Q) := by
  refine Ct.of (by decide) (Nat.le_of_ble_eq_true rfl) (fun X => ?_)
  refine n_L (L' := [some (.ref 177), some (.int x1), some (.int x2)]) (le_s (le_s (le_s (le_e)))) ?_
  refine r_aload_n (pc := 0) (x := 177) dX12_isLeft_0 rfl ?_
  refine n_getR (pc := 1) (j := 19) (q := 183) dX12_isLeft_1 fl_RX12_27 (by decide) sh_177 rfl rfl rfl ?_
  refine r_bipush (pc := 4) (v := 6) dX12_isLeft_4 (by decide) ?_
  refine r_iload_n (pc := 6) (x := x1) dX12_isLeft_6 rfl ?_
  refine r_imul (pc := 7) dX12_isLeft_7 ?_
  refine r_iload_n (pc := 8) (x := x2) dX12_isLeft_8 rfl ?_
  refine r_iadd (pc := 9) dX12_isLeft_9 ?_
  obtain ⟨b1, h⟩ := h
  refine n_iald (pc := 10) (j := (ix ((6 * x1) + x2))) dX12_isLeft_10 (by decide) sh_183 b1 rfl ?_
  refine r_if_le (pc := 11) (tgt := 18) dX12_isLeft_11 (by decide) (fun c => ?_) (fun c => ?_)
  · replace h := h.1 c
    refine r_iconst (pc := 18) (v := 0) dX12_isLeft_18 (by decide) ?_
    exact n_zret (pc := 19) dX12_isLeft_19 rfl (by decide) (Nat.le_refl _) (Nat.le_refl _) h
  · replace h := h.2 c
    refine r_iconst (pc := 14) (v := 1) dX12_isLeft_14 (by decide) ?_
    refine r_goto (pc := 15) (tgt := 19) dX12_isLeft_15 (by decide) ?_
    exact n_zret (pc := 19) dX12_isLeft_19 rfl (by decide) (Nat.le_refl _) (Nat.le_refl _) h
def wX12_leftMany_4 (x1 : Int32) (Q : Int32 → gS → Prop)  : Nat → Int32 → Int32 → gS → Prop
  | 0, _, _, _ => False
  | n + 1, y2, y3, s => (6 ≤ y3 → Q y2 s) ∧ (¬ (6 ≤ y3) → wpX12_isLeft x1 y3 s (fun r1 s1 => (r1 = 0 → wX12_leftMany_4 x1 Q n (y2 + 0) (y3 + 1) s1) ∧ (¬ (r1 = 0) → wX12_leftMany_4 x1 Q n (y2 + 1) (y3 + 1) s1)))
set_option maxRecDepth 20000 in
theorem pX12_leftMany_4 {l : Launch} {X : gX} {x1 : Int32}  {Q : Int32 → gS → Prop}  : ∀ (n : Nat) (y2 : Int32) (y3 : Int32) (s : gS) (h : wX12_leftMany_4 x1 Q n y2 y3 s) , Gw l mX12_leftMany (g_rm 2 0 0) X 4 [some (.ref 177), some (.int x1), some (.int y2), some (.int y3)] [] (nrm s) 0 0 (g_Z X (q_i Q) 0 0) := by
  intro n
  induction n with
  | zero => intro y2 y3 s h; exact h.elim
  | succ n ih0 =>
    intro y2 y3 s h 
    have ih : ∀ (y2 : Int32) (y3 : Int32) (s : gS), wX12_leftMany_4 x1 Q n y2 y3 s → Gw l mX12_leftMany (g_rm 2 0 0) X 4 [some (.ref 177), some (.int x1), some (.int y2), some (.int y3)] [] (nrm s) 0 0 (g_Z X (q_i Q) 0 0) := fun y2 y3 s h => ih0 y2 y3 s h 
    refine r_iload_n (pc := 4) (x := y3) dX12_leftMany_4 rfl ?_
    refine r_bipush (pc := 5) (v := 6) dX12_leftMany_5 (by decide) ?_
    refine r_icmp_ge (pc := 7) (tgt := 33) dX12_leftMany_7 (by decide) (fun c => ?_) (fun c => ?_)
    · replace h := h.1 c
      refine r_iload_n (pc := 33) (x := y2) dX12_leftMany_33 rfl ?_
      exact n_iret (pc := 34) dX12_leftMany_34 rfl (Nat.le_refl _) (Nat.le_refl _) h
    · replace h := h.2 c
      refine r_iload_n (pc := 10) (x := y2) dX12_leftMany_10 rfl ?_
      refine r_aload_n (pc := 11) (x := 177) dX12_leftMany_11 rfl ?_
      refine r_iload_n (pc := 12) (x := x1) dX12_leftMany_12 rfl ?_
      refine r_iload_n (pc := 13) (x := y3) dX12_leftMany_13 rfl ?_
      refine n_Vi0 (pc := 14) (S0 := [.int y2]) (spX12_isLeft h) gmX12_isLeft selX12_isLeft lk_RX12_381 dX12_leftMany_14 rfl (by decide) sh_177 ⟨rfl, by decide⟩ rfl ⟨Nat.le_of_ble_eq_true rfl, Nat.le_of_ble_eq_true rfl⟩ (Nat.le_of_ble_eq_true rfl) ⟨Nat.zero_le _, Nat.zero_le _⟩ (fun r1 s1 h => ?_)
      refine r_if_eq (pc := 17) (tgt := 24) dX12_leftMany_17 (by decide) (fun c => ?_) (fun c => ?_)
      · replace h := h.1 c
        refine r_iconst (pc := 24) (v := 0) dX12_leftMany_24 (by decide) ?_
        refine r_iadd (pc := 25) dX12_leftMany_25 ?_
        refine r_istore_n (pc := 26) (L' := [some (.ref 177), some (.int x1), some (.int (y2 + 0)), some (.int y3)]) dX12_leftMany_26 rfl (by decide) rfl ?_
        refine n_iinc (pc := 27) (x := y3) (w := 1) (L' := [some (.ref 177), some (.int x1), some (.int (y2 + 0)), some (.int (y3 + 1))]) dX12_leftMany_27 rfl (by decide) rfl (by decide) rfl ?_
        refine r_goto (pc := 30) (tgt := 4) dX12_leftMany_30 (by decide) ?_
        refine n_L (L' := [some (.ref 177), some (.int x1), some (.int (y2 + 0)), some (.int (y3 + 1))]) (le_s (le_s (le_s (le_s (le_e))))) ?_
        exact ih _ _ _ h
      · replace h := h.2 c
        refine r_iconst (pc := 20) (v := 1) dX12_leftMany_20 (by decide) ?_
        refine r_goto (pc := 21) (tgt := 25) dX12_leftMany_21 (by decide) ?_
        refine r_iadd (pc := 25) dX12_leftMany_25 ?_
        refine r_istore_n (pc := 26) (L' := [some (.ref 177), some (.int x1), some (.int (y2 + 1)), some (.int y3)]) dX12_leftMany_26 rfl (by decide) rfl ?_
        refine n_iinc (pc := 27) (x := y3) (w := 1) (L' := [some (.ref 177), some (.int x1), some (.int (y2 + 1)), some (.int (y3 + 1))]) dX12_leftMany_27 rfl (by decide) rfl (by decide) rfl ?_
        refine r_goto (pc := 30) (tgt := 4) dX12_leftMany_30 (by decide) ?_
        refine n_L (L' := [some (.ref 177), some (.int x1), some (.int (y2 + 1)), some (.int (y3 + 1))]) (le_s (le_s (le_s (le_s (le_e))))) ?_
        exact ih _ _ _ h
def wpX12_leftMany (x1 : Int32) (s : gS) (Q : Int32 → gS → Prop) : Prop := ∃ n4, wX12_leftMany_4 x1 Q n4 0 0 s
set_option maxRecDepth 20000 in
theorem spX12_leftMany {l : Launch} {x1 : Int32}  {s : gS} {Q : Int32 → gS → Prop} (h : wpX12_leftMany x1 s Q) : Ct l mX12_leftMany 2 0 0 [.ref 177, .int x1] (nrm s) (q_i Q) := by
  refine Ct.of (by decide) (Nat.le_of_ble_eq_true rfl) (fun X => ?_)
  refine n_L (L' := [some (.ref 177), some (.int x1), none, none]) (le_s (le_s (le_p (le_p (le_e))))) ?_
  refine r_iconst (pc := 0) (v := 0) dX12_leftMany_0 (by decide) ?_
  refine r_istore_n (pc := 1) (L' := [some (.ref 177), some (.int x1), some (.int 0), none]) dX12_leftMany_1 rfl (by decide) rfl ?_
  refine r_iconst (pc := 2) (v := 0) dX12_leftMany_2 (by decide) ?_
  refine r_istore_n (pc := 3) (L' := [some (.ref 177), some (.int x1), some (.int 0), some (.int 0)]) dX12_leftMany_3 rfl (by decide) rfl ?_
  refine n_L (L' := [some (.ref 177), some (.int x1), some (.int 0), some (.int 0)]) (le_s (le_s (le_s (le_s (le_e))))) ?_
  obtain ⟨n, h⟩ := h
  exact pX12_leftMany_4  n _ _ _ h 
def wX12_leftAll_4  (Q : Int32 → gS → Prop)  : Nat → Int32 → Int32 → gS → Prop
  | 0, _, _, _ => False
  | n + 1, y1, y2, s => (6 ≤ y2 → Q y1 s) ∧ (¬ (6 ≤ y2) → wpX12_leftMany y2 s (fun r1 s1 => wX12_leftAll_4  Q n (y1 + r1) (y2 + 1) s1))
set_option maxRecDepth 20000 in
theorem pX12_leftAll_4 {l : Launch} {X : gX}   {Q : Int32 → gS → Prop}  : ∀ (n : Nat) (y1 : Int32) (y2 : Int32) (s : gS) (h : wX12_leftAll_4  Q n y1 y2 s) , Gw l mX12_leftAll (g_rm 3 0 0) X 4 [some (.ref 177), some (.int y1), some (.int y2)] [] (nrm s) 0 0 (g_Z X (q_i Q) 0 0) := by
  intro n
  induction n with
  | zero => intro y1 y2 s h; exact h.elim
  | succ n ih0 =>
    intro y1 y2 s h 
    have ih : ∀ (y1 : Int32) (y2 : Int32) (s : gS), wX12_leftAll_4  Q n y1 y2 s → Gw l mX12_leftAll (g_rm 3 0 0) X 4 [some (.ref 177), some (.int y1), some (.int y2)] [] (nrm s) 0 0 (g_Z X (q_i Q) 0 0) := fun y1 y2 s h => ih0 y1 y2 s h 
    refine r_iload_n (pc := 4) (x := y2) dX12_leftAll_4 rfl ?_
    refine r_bipush (pc := 5) (v := 6) dX12_leftAll_5 (by decide) ?_
    refine r_icmp_ge (pc := 7) (tgt := 24) dX12_leftAll_7 (by decide) (fun c => ?_) (fun c => ?_)
    · replace h := h.1 c
      refine r_iload_n (pc := 24) (x := y1) dX12_leftAll_24 rfl ?_
      exact n_iret (pc := 25) dX12_leftAll_25 rfl (Nat.le_refl _) (Nat.le_refl _) h
    · replace h := h.2 c
      refine r_iload_n (pc := 10) (x := y1) dX12_leftAll_10 rfl ?_
      refine r_aload_n (pc := 11) (x := 177) dX12_leftAll_11 rfl ?_
      refine r_iload_n (pc := 12) (x := y2) dX12_leftAll_12 rfl ?_
      refine n_Vi0 (pc := 13) (S0 := [.int y1]) (spX12_leftMany h) gmX12_leftMany selX12_leftMany lk_RX12_385 dX12_leftAll_13 rfl (by decide) sh_177 ⟨rfl, by decide⟩ rfl ⟨Nat.le_of_ble_eq_true rfl, Nat.le_of_ble_eq_true rfl⟩ (Nat.le_of_ble_eq_true rfl) ⟨Nat.zero_le _, Nat.zero_le _⟩ (fun r1 s1 h => ?_)
      refine r_iadd (pc := 16) dX12_leftAll_16 ?_
      refine r_istore_n (pc := 17) (L' := [some (.ref 177), some (.int (y1 + r1)), some (.int y2)]) dX12_leftAll_17 rfl (by decide) rfl ?_
      refine n_iinc (pc := 18) (x := y2) (w := 1) (L' := [some (.ref 177), some (.int (y1 + r1)), some (.int (y2 + 1))]) dX12_leftAll_18 rfl (by decide) rfl (by decide) rfl ?_
      refine r_goto (pc := 21) (tgt := 4) dX12_leftAll_21 (by decide) ?_
      refine n_L (L' := [some (.ref 177), some (.int (y1 + r1)), some (.int (y2 + 1))]) (le_s (le_s (le_s (le_e)))) ?_
      exact ih _ _ _ h
def wpX12_leftAll  (s : gS) (Q : Int32 → gS → Prop) : Prop := ∃ n4, wX12_leftAll_4  Q n4 0 0 s
set_option maxRecDepth 20000 in
theorem spX12_leftAll {l : Launch}   {s : gS} {Q : Int32 → gS → Prop} (h : wpX12_leftAll  s Q) : Ct l mX12_leftAll 3 0 0 [.ref 177] (nrm s) (q_i Q) := by
  refine Ct.of (by decide) (Nat.le_of_ble_eq_true rfl) (fun X => ?_)
  refine n_L (L' := [some (.ref 177), none, none]) (le_s (le_p (le_p (le_e)))) ?_
  refine r_iconst (pc := 0) (v := 0) dX12_leftAll_0 (by decide) ?_
  refine r_istore_n (pc := 1) (L' := [some (.ref 177), some (.int 0), none]) dX12_leftAll_1 rfl (by decide) rfl ?_
  refine r_iconst (pc := 2) (v := 0) dX12_leftAll_2 (by decide) ?_
  refine r_istore_n (pc := 3) (L' := [some (.ref 177), some (.int 0), some (.int 0)]) dX12_leftAll_3 rfl (by decide) rfl ?_
  refine n_L (L' := [some (.ref 177), some (.int 0), some (.int 0)]) (le_s (le_s (le_s (le_e)))) ?_
  obtain ⟨n, h⟩ := h
  exact pX12_leftAll_4  n _ _ _ h 
def wX12_readings_37 (x1 : Int32) (Q : Int32 → gS → Prop)  : Nat → Int32 → Int32 → Int32 → gS → Prop
  | 0, _, _, _, _ => False
  | n + 1, y2, y3, y4, s => vp_in (2 + x1) 218 ∧ (((gi s 178 (ix (2 + x1))) ≤ y4 → wpX12_tell y2.toInt64 (wi s 177 4 0) (fun s5 => wpX12_tell y3.toInt64 s5 (fun s6 => vp_in (2 + x1) 218 ∧ (Q (gi s6 178 (ix (2 + x1))) s6)))) ∧ (¬ ((gi s 178 (ix (2 + x1))) ≤ y4) → wpX12_of x1 y4 4 s (fun r8 s8 => wpX12_isLeft x1 y4 s8 (fun r9 s9 => (r9 = 0 → wX12_readings_37 x1 Q n (y2 ||| (jshl r8 y4)) (y3 ||| 0) (y4 + 1) s9) ∧ (¬ (r9 = 0) → wX12_readings_37 x1 Q n (y2 ||| (jshl r8 y4)) (y3 ||| (jshl 1 y4)) (y4 + 1) s9)))))
set_option maxRecDepth 20000 in
theorem pX12_readings_37 {l : Launch} {X : gX} {x1 : Int32}  {Q : Int32 → gS → Prop}  : ∀ (n : Nat) (y2 : Int32) (y3 : Int32) (y4 : Int32) (s : gS) (h : wX12_readings_37 x1 Q n y2 y3 y4 s) , Gw l mX12_readings (g_rm 7 0 0) X 37 [some (.ref 177), some (.int x1), some (.int y2), some (.int y3), some (.int y4)] [] (nrm s) 0 0 (g_Z X (q_i Q) 0 0) := by
  intro n
  induction n with
  | zero => intro y2 y3 y4 s h; exact h.elim
  | succ n ih0 =>
    intro y2 y3 y4 s h 
    have ih : ∀ (y2 : Int32) (y3 : Int32) (y4 : Int32) (s : gS), wX12_readings_37 x1 Q n y2 y3 y4 s → Gw l mX12_readings (g_rm 7 0 0) X 37 [some (.ref 177), some (.int x1), some (.int y2), some (.int y3), some (.int y4)] [] (nrm s) 0 0 (g_Z X (q_i Q) 0 0) := fun y2 y3 y4 s h => ih0 y2 y3 y4 s h 
    refine r_iload (pc := 37) (x := y4) dX12_readings_37 rfl ?_
    refine r_aload_n (pc := 39) (x := 177) dX12_readings_39 rfl ?_
    refine n_getR (pc := 40) (j := 0) (q := 178) dX12_readings_40 fl_RX12_9 (by decide) sh_177 rfl rfl rfl ?_
    refine r_iconst (pc := 43) (v := 2) dX12_readings_43 (by decide) ?_
    refine r_iload_n (pc := 44) (x := x1) dX12_readings_44 rfl ?_
    refine r_iadd (pc := 45) dX12_readings_45 ?_
    obtain ⟨b4, h⟩ := h
    refine n_iald (pc := 46) (j := (ix (2 + x1))) dX12_readings_46 (by decide) sh_178 b4 rfl ?_
    refine r_icmp_ge (pc := 47) (tgt := 91) dX12_readings_47 (by decide) (fun c => ?_) (fun c => ?_)
    · replace h := h.1 c
      refine r_aload_n (pc := 91) (x := 177) dX12_readings_91 rfl ?_
      refine r_iconst (pc := 92) (v := 0) dX12_readings_92 (by decide) ?_
      refine n_putI (pc := 93) (j := 4) dX12_readings_93 fl_RX12_59 fw_12_4 (by decide) sh_177 rfl rfl ?_
      refine r_aload_n (pc := 96) (x := 177) dX12_readings_96 rfl ?_
      refine r_iload_n (pc := 97) (x := y2) dX12_readings_97 rfl ?_
      refine r_i2l (pc := 98) dX12_readings_98 ?_
      refine n_Vv0 (pc := 99) (S0 := []) (spX12_tell h) gmX12_tell selX12_tell lk_RX12_91 dX12_readings_99 rfl (by decide) sh_177 ⟨rfl, by decide⟩ rfl ⟨Nat.le_of_ble_eq_true rfl, Nat.le_of_ble_eq_true rfl⟩ (Nat.le_of_ble_eq_true rfl) ⟨Nat.zero_le _, Nat.zero_le _⟩ (fun s5 h => ?_)
      refine r_aload_n (pc := 102) (x := 177) dX12_readings_102 rfl ?_
      refine r_iload_n (pc := 103) (x := y3) dX12_readings_103 rfl ?_
      refine r_i2l (pc := 104) dX12_readings_104 ?_
      refine n_Vv0 (pc := 105) (S0 := []) (spX12_tell h) gmX12_tell selX12_tell lk_RX12_91 dX12_readings_105 rfl (by decide) sh_177 ⟨rfl, by decide⟩ rfl ⟨Nat.le_of_ble_eq_true rfl, Nat.le_of_ble_eq_true rfl⟩ (Nat.le_of_ble_eq_true rfl) ⟨Nat.zero_le _, Nat.zero_le _⟩ (fun s6 h => ?_)
      refine r_aload_n (pc := 108) (x := 177) dX12_readings_108 rfl ?_
      refine n_getR (pc := 109) (j := 0) (q := 178) dX12_readings_109 fl_RX12_9 (by decide) sh_177 rfl rfl rfl ?_
      refine r_iconst (pc := 112) (v := 2) dX12_readings_112 (by decide) ?_
      refine r_iload_n (pc := 113) (x := x1) dX12_readings_113 rfl ?_
      refine r_iadd (pc := 114) dX12_readings_114 ?_
      obtain ⟨b7, h⟩ := h
      refine n_iald (pc := 115) (j := (ix (2 + x1))) dX12_readings_115 (by decide) sh_178 b7 rfl ?_
      exact n_iret (pc := 116) dX12_readings_116 rfl (Nat.le_refl _) (Nat.le_refl _) h
    · replace h := h.2 c
      refine r_iload_n (pc := 50) (x := y2) dX12_readings_50 rfl ?_
      refine r_aload_n (pc := 51) (x := 177) dX12_readings_51 rfl ?_
      refine r_iload_n (pc := 52) (x := x1) dX12_readings_52 rfl ?_
      refine r_iload (pc := 53) (x := y4) dX12_readings_53 rfl ?_
      refine r_iconst (pc := 55) (v := 4) dX12_readings_55 (by decide) ?_
      refine n_Vi0 (pc := 56) (S0 := [.int y2]) (spX12_of h) gmX12_of selX12_of lk_RX12_333 dX12_readings_56 rfl (by decide) sh_177 ⟨rfl, by decide⟩ rfl ⟨Nat.le_of_ble_eq_true rfl, Nat.le_of_ble_eq_true rfl⟩ (Nat.le_of_ble_eq_true rfl) ⟨Nat.zero_le _, Nat.zero_le _⟩ (fun r8 s8 h => ?_)
      refine r_iload (pc := 59) (x := y4) dX12_readings_59 rfl ?_
      refine n_ishl (pc := 61) dX12_readings_61 ?_
      refine r_ior (pc := 62) dX12_readings_62 ?_
      refine r_istore_n (pc := 63) (L' := [some (.ref 177), some (.int x1), some (.int (y2 ||| (jshl r8 y4))), some (.int y3), some (.int y4)]) dX12_readings_63 rfl (by decide) rfl ?_
      refine r_iload_n (pc := 64) (x := y3) dX12_readings_64 rfl ?_
      refine r_aload_n (pc := 65) (x := 177) dX12_readings_65 rfl ?_
      refine r_iload_n (pc := 66) (x := x1) dX12_readings_66 rfl ?_
      refine r_iload (pc := 67) (x := y4) dX12_readings_67 rfl ?_
      refine n_Vi0 (pc := 69) (S0 := [.int y3]) (spX12_isLeft h) gmX12_isLeft selX12_isLeft lk_RX12_381 dX12_readings_69 rfl (by decide) sh_177 ⟨rfl, by decide⟩ rfl ⟨Nat.le_of_ble_eq_true rfl, Nat.le_of_ble_eq_true rfl⟩ (Nat.le_of_ble_eq_true rfl) ⟨Nat.zero_le _, Nat.zero_le _⟩ (fun r9 s9 h => ?_)
      refine r_if_eq (pc := 72) (tgt := 82) dX12_readings_72 (by decide) (fun c => ?_) (fun c => ?_)
      · replace h := h.1 c
        refine r_iconst (pc := 82) (v := 0) dX12_readings_82 (by decide) ?_
        refine r_ior (pc := 83) dX12_readings_83 ?_
        refine r_istore_n (pc := 84) (L' := [some (.ref 177), some (.int x1), some (.int (y2 ||| (jshl r8 y4))), some (.int (y3 ||| 0)), some (.int y4)]) dX12_readings_84 rfl (by decide) rfl ?_
        refine n_iinc (pc := 85) (x := y4) (w := 1) (L' := [some (.ref 177), some (.int x1), some (.int (y2 ||| (jshl r8 y4))), some (.int (y3 ||| 0)), some (.int (y4 + 1))]) dX12_readings_85 rfl (by decide) rfl (by decide) rfl ?_
        refine r_goto (pc := 88) (tgt := 37) dX12_readings_88 (by decide) ?_
        refine n_L (L' := [some (.ref 177), some (.int x1), some (.int (y2 ||| (jshl r8 y4))), some (.int (y3 ||| 0)), some (.int (y4 + 1))]) (le_s (le_s (le_s (le_s (le_s (le_e)))))) ?_
        exact ih _ _ _ _ h
      · replace h := h.2 c
        refine r_iconst (pc := 75) (v := 1) dX12_readings_75 (by decide) ?_
        refine r_iload (pc := 76) (x := y4) dX12_readings_76 rfl ?_
        refine n_ishl (pc := 78) dX12_readings_78 ?_
        refine r_goto (pc := 79) (tgt := 83) dX12_readings_79 (by decide) ?_
        refine r_ior (pc := 83) dX12_readings_83 ?_
        refine r_istore_n (pc := 84) (L' := [some (.ref 177), some (.int x1), some (.int (y2 ||| (jshl r8 y4))), some (.int (y3 ||| (jshl 1 y4))), some (.int y4)]) dX12_readings_84 rfl (by decide) rfl ?_
        refine n_iinc (pc := 85) (x := y4) (w := 1) (L' := [some (.ref 177), some (.int x1), some (.int (y2 ||| (jshl r8 y4))), some (.int (y3 ||| (jshl 1 y4))), some (.int (y4 + 1))]) dX12_readings_85 rfl (by decide) rfl (by decide) rfl ?_
        refine r_goto (pc := 88) (tgt := 37) dX12_readings_88 (by decide) ?_
        refine n_L (L' := [some (.ref 177), some (.int x1), some (.int (y2 ||| (jshl r8 y4))), some (.int (y3 ||| (jshl 1 y4))), some (.int (y4 + 1))]) (le_s (le_s (le_s (le_s (le_s (le_e)))))) ?_
        exact ih _ _ _ _ h
def wpX12_readings (x1 : Int32) (s : gS) (Q : Int32 → gS → Prop) : Prop := wpX12_isEvent x1 (wi s 177 5 0) (fun r1 s1 => (¬ r1 = 0 → wpX12_isTold x1 s1 (fun r2 s2 => (¬ r2 = 0 → wpX12_survey s2 (fun s3 => ∃ n37, wX12_readings_37 x1 Q n37 0 0 0 s3)) ∧ (r2 = 0 → Q (-2) s2))) ∧ (r1 = 0 → Q (-1) s1))
set_option maxRecDepth 20000 in
theorem spX12_readings {l : Launch} {x1 : Int32}  {s : gS} {Q : Int32 → gS → Prop} (h : wpX12_readings x1 s Q) : Ct l mX12_readings 7 0 0 [.ref 177, .int x1] (nrm s) (q_i Q) := by
  refine Ct.of (by decide) (Nat.le_of_ble_eq_true rfl) (fun X => ?_)
  refine n_L (L' := [some (.ref 177), some (.int x1), none, none, none]) (le_s (le_s (le_p (le_p (le_p (le_e)))))) ?_
  refine r_aload_n (pc := 0) (x := 177) dX12_readings_0 rfl ?_
  refine r_iconst (pc := 1) (v := 0) dX12_readings_1 (by decide) ?_
  refine n_putI (pc := 2) (j := 5) dX12_readings_2 fl_RX12_55 fw_12_5 (by decide) sh_177 rfl rfl ?_
  refine r_aload_n (pc := 5) (x := 177) dX12_readings_5 rfl ?_
  refine r_iload_n (pc := 6) (x := x1) dX12_readings_6 rfl ?_
  refine n_Vi0 (pc := 7) (S0 := []) (spX12_isEvent h) gmX12_isEvent selX12_isEvent lk_RX12_321 dX12_readings_7 rfl (by decide) sh_177 ⟨rfl, by decide⟩ rfl ⟨Nat.le_of_ble_eq_true rfl, Nat.le_of_ble_eq_true rfl⟩ (Nat.le_of_ble_eq_true rfl) ⟨Nat.zero_le _, Nat.zero_le _⟩ (fun r1 s1 h => ?_)
  refine r_if_ne (pc := 10) (tgt := 15) dX12_readings_10 (by decide) (fun c => ?_) (fun c => ?_)
  · replace h := h.1 c
    refine r_aload_n (pc := 15) (x := 177) dX12_readings_15 rfl ?_
    refine r_iload_n (pc := 16) (x := x1) dX12_readings_16 rfl ?_
    refine n_Vi0 (pc := 17) (S0 := []) (spX12_isTold h) gmX12_isTold selX12_isTold lk_RX12_330 dX12_readings_17 rfl (by decide) sh_177 ⟨rfl, by decide⟩ rfl ⟨Nat.le_of_ble_eq_true rfl, Nat.le_of_ble_eq_true rfl⟩ (Nat.le_of_ble_eq_true rfl) ⟨Nat.zero_le _, Nat.zero_le _⟩ (fun r2 s2 h => ?_)
    refine r_if_ne (pc := 20) (tgt := 26) dX12_readings_20 (by decide) (fun c => ?_) (fun c => ?_)
    · replace h := h.1 c
      refine r_aload_n (pc := 26) (x := 177) dX12_readings_26 rfl ?_
      refine n_Vv0 (pc := 27) (S0 := []) (spX12_survey h) gmX12_survey selX12_survey lk_RX12_388 dX12_readings_27 rfl (by decide) sh_177 ⟨rfl, by decide⟩ rfl ⟨Nat.le_of_ble_eq_true rfl, Nat.le_of_ble_eq_true rfl⟩ (Nat.le_of_ble_eq_true rfl) ⟨Nat.zero_le _, Nat.zero_le _⟩ (fun s3 h => ?_)
      refine r_iconst (pc := 30) (v := 0) dX12_readings_30 (by decide) ?_
      refine r_istore_n (pc := 31) (L' := [some (.ref 177), some (.int x1), some (.int 0), none, none]) dX12_readings_31 rfl (by decide) rfl ?_
      refine r_iconst (pc := 32) (v := 0) dX12_readings_32 (by decide) ?_
      refine r_istore_n (pc := 33) (L' := [some (.ref 177), some (.int x1), some (.int 0), some (.int 0), none]) dX12_readings_33 rfl (by decide) rfl ?_
      refine r_iconst (pc := 34) (v := 0) dX12_readings_34 (by decide) ?_
      refine r_istore (pc := 35) (L' := [some (.ref 177), some (.int x1), some (.int 0), some (.int 0), some (.int 0)]) dX12_readings_35 rfl (by decide) rfl ?_
      refine n_L (L' := [some (.ref 177), some (.int x1), some (.int 0), some (.int 0), some (.int 0)]) (le_s (le_s (le_s (le_s (le_s (le_e)))))) ?_
      obtain ⟨n, h⟩ := h
      exact pX12_readings_37  n _ _ _ _ h 
    · replace h := h.2 c
      refine r_bipush (pc := 23) (v := (-2)) dX12_readings_23 (by decide) ?_
      exact n_iret (pc := 25) dX12_readings_25 rfl (Nat.le_refl _) (Nat.le_refl _) h
  · replace h := h.2 c
    refine r_iconst (pc := 13) (v := (-1)) dX12_readings_13 (by decide) ?_
    exact n_iret (pc := 14) dX12_readings_14 rfl (Nat.le_refl _) (Nat.le_refl _) h
def wpX12_isReading (x1 : Int32) (x2 : Int32) (s : gS) (Q : Int32 → gS → Prop) : Prop := wpX12_isTold x1 s (fun r1 s1 => (r1 = 0 → Q 0 s1) ∧ (¬ (r1 = 0) → vp_in (2 + x1) 218 ∧ (wpX12_in x2 0 ((gi s1 178 (ix (2 + x1))) - 1) s1 (fun r3 s3 => (r3 = 0 → Q 0 s3) ∧ (¬ (r3 = 0) → Q 1 s3)))))
set_option maxRecDepth 20000 in
theorem spX12_isReading {l : Launch} {x1 : Int32} {x2 : Int32}  {s : gS} {Q : Int32 → gS → Prop} (h : wpX12_isReading x1 x2 s Q) : Ct l mX12_isReading 4 0 0 [.ref 177, .int x1, .int x2] (nrm s) (q_i Q) := by
  refine Ct.of (by decide) (Nat.le_of_ble_eq_true rfl) (fun X => ?_)
  refine n_L (L' := [some (.ref 177), some (.int x1), some (.int x2)]) (le_s (le_s (le_s (le_e)))) ?_
  refine r_aload_n (pc := 0) (x := 177) dX12_isReading_0 rfl ?_
  refine r_iload_n (pc := 1) (x := x1) dX12_isReading_1 rfl ?_
  refine n_Vi0 (pc := 2) (S0 := []) (spX12_isTold h) gmX12_isTold selX12_isTold lk_RX12_330 dX12_isReading_2 rfl (by decide) sh_177 ⟨rfl, by decide⟩ rfl ⟨Nat.le_of_ble_eq_true rfl, Nat.le_of_ble_eq_true rfl⟩ (Nat.le_of_ble_eq_true rfl) ⟨Nat.zero_le _, Nat.zero_le _⟩ (fun r1 s1 h => ?_)
  refine r_if_eq (pc := 5) (tgt := 30) dX12_isReading_5 (by decide) (fun c => ?_) (fun c => ?_)
  · replace h := h.1 c
    refine r_iconst (pc := 30) (v := 0) dX12_isReading_30 (by decide) ?_
    exact n_zret (pc := 31) dX12_isReading_31 rfl (by decide) (Nat.le_refl _) (Nat.le_refl _) h
  · replace h := h.2 c
    refine r_iload_n (pc := 8) (x := x2) dX12_isReading_8 rfl ?_
    refine r_iconst (pc := 9) (v := 0) dX12_isReading_9 (by decide) ?_
    refine r_aload_n (pc := 10) (x := 177) dX12_isReading_10 rfl ?_
    refine n_getR (pc := 11) (j := 0) (q := 178) dX12_isReading_11 fl_RX12_9 (by decide) sh_177 rfl rfl rfl ?_
    refine r_iconst (pc := 14) (v := 2) dX12_isReading_14 (by decide) ?_
    refine r_iload_n (pc := 15) (x := x1) dX12_isReading_15 rfl ?_
    refine r_iadd (pc := 16) dX12_isReading_16 ?_
    obtain ⟨b2, h⟩ := h
    refine n_iald (pc := 17) (j := (ix (2 + x1))) dX12_isReading_17 (by decide) sh_178 b2 rfl ?_
    refine r_iconst (pc := 18) (v := 1) dX12_isReading_18 (by decide) ?_
    refine r_isub (pc := 19) dX12_isReading_19 ?_
    refine n_Si0 (pc := 20) (S0 := []) (spX12_in h) gmX12_in lk_RX12_62 dX12_isReading_20 rfl rfl ⟨Nat.le_of_ble_eq_true rfl, Nat.le_of_ble_eq_true rfl⟩ (Nat.le_of_ble_eq_true rfl) ⟨Nat.zero_le _, Nat.zero_le _⟩ (fun r3 s3 h => ?_)
    refine r_if_eq (pc := 23) (tgt := 30) dX12_isReading_23 (by decide) (fun c => ?_) (fun c => ?_)
    · replace h := h.1 c
      refine r_iconst (pc := 30) (v := 0) dX12_isReading_30 (by decide) ?_
      exact n_zret (pc := 31) dX12_isReading_31 rfl (by decide) (Nat.le_refl _) (Nat.le_refl _) h
    · replace h := h.2 c
      refine r_iconst (pc := 26) (v := 1) dX12_isReading_26 (by decide) ?_
      refine r_goto (pc := 27) (tgt := 31) dX12_isReading_27 (by decide) ?_
      exact n_zret (pc := 31) dX12_isReading_31 rfl (by decide) (Nat.le_refl _) (Nat.le_refl _) h
def wX12_reading_33 (x1 : Int32) (x2 : Int32) (x3 : Int32) (Q : Int32 → gS → Prop)   (s : gS) : Prop := wpX12_lost s (fun r4 s4 => Q r4 s4)
set_option maxRecDepth 20000 in
theorem pX12_reading_33 {l : Launch} {X : gX} {x1 : Int32} {x2 : Int32} {x3 : Int32}  {Q : Int32 → gS → Prop}   (s : gS) (h : wX12_reading_33 x1 x2 x3 Q  s)  : Gw l mX12_reading (g_rm 5 0 0) X 33 [some (.ref 177), none, none, none] [] (nrm s) 0 0 (g_Z X (q_i Q) 0 0) := by
  refine r_aload_n (pc := 33) (x := 177) dX12_reading_33 rfl ?_
  refine n_Vi0 (pc := 34) (S0 := []) (spX12_lost h) gmX12_lost selX12_lost lk_RX12_394 dX12_reading_34 rfl (by decide) sh_177 ⟨rfl, by decide⟩ rfl ⟨Nat.le_of_ble_eq_true rfl, Nat.le_of_ble_eq_true rfl⟩ (Nat.le_of_ble_eq_true rfl) ⟨Nat.zero_le _, Nat.zero_le _⟩ (fun r4 s4 h => ?_)
  exact n_iret (pc := 37) dX12_reading_37 rfl (Nat.le_refl _) (Nat.le_refl _) h
def wpX12_reading (x1 : Int32) (x2 : Int32) (x3 : Int32) (s : gS) (Q : Int32 → gS → Prop) : Prop := wpX12_isReading x1 x2 (wi s 177 5 0) (fun r1 s1 => (r1 = 0 → wX12_reading_33 x1 x2 x3 Q s1) ∧ (¬ (r1 = 0) → wpX12_in x3 0 4 s1 (fun r2 s2 => (r2 = 0 → wX12_reading_33 x1 x2 x3 Q s2) ∧ (¬ (r2 = 0) → wpX12_of x1 x2 x3 s2 (fun r3 s3 => Q r3 s3)))))
set_option maxRecDepth 20000 in
theorem spX12_reading {l : Launch} {x1 : Int32} {x2 : Int32} {x3 : Int32}  {s : gS} {Q : Int32 → gS → Prop} (h : wpX12_reading x1 x2 x3 s Q) : Ct l mX12_reading 5 0 0 [.ref 177, .int x1, .int x2, .int x3] (nrm s) (q_i Q) := by
  refine Ct.of (by decide) (Nat.le_of_ble_eq_true rfl) (fun X => ?_)
  refine n_L (L' := [some (.ref 177), some (.int x1), some (.int x2), some (.int x3)]) (le_s (le_s (le_s (le_s (le_e))))) ?_
  refine r_aload_n (pc := 0) (x := 177) dX12_reading_0 rfl ?_
  refine r_iconst (pc := 1) (v := 0) dX12_reading_1 (by decide) ?_
  refine n_putI (pc := 2) (j := 5) dX12_reading_2 fl_RX12_55 fw_12_5 (by decide) sh_177 rfl rfl ?_
  refine r_aload_n (pc := 5) (x := 177) dX12_reading_5 rfl ?_
  refine r_iload_n (pc := 6) (x := x1) dX12_reading_6 rfl ?_
  refine r_iload_n (pc := 7) (x := x2) dX12_reading_7 rfl ?_
  refine n_Vi0 (pc := 8) (S0 := []) (spX12_isReading h) gmX12_isReading selX12_isReading lk_RX12_391 dX12_reading_8 rfl (by decide) sh_177 ⟨rfl, by decide⟩ rfl ⟨Nat.le_of_ble_eq_true rfl, Nat.le_of_ble_eq_true rfl⟩ (Nat.le_of_ble_eq_true rfl) ⟨Nat.zero_le _, Nat.zero_le _⟩ (fun r1 s1 h => ?_)
  refine r_if_eq (pc := 11) (tgt := 33) dX12_reading_11 (by decide) (fun c => ?_) (fun c => ?_)
  · replace h := h.1 c
    refine n_L (L' := [some (.ref 177), none, none, none]) (le_s (le_n (le_n (le_n (le_e))))) ?_
    exact pX12_reading_33   _ h 
  · replace h := h.2 c
    refine r_iload_n (pc := 14) (x := x3) dX12_reading_14 rfl ?_
    refine r_iconst (pc := 15) (v := 0) dX12_reading_15 (by decide) ?_
    refine r_iconst (pc := 16) (v := 4) dX12_reading_16 (by decide) ?_
    refine n_Si0 (pc := 17) (S0 := []) (spX12_in h) gmX12_in lk_RX12_62 dX12_reading_17 rfl rfl ⟨Nat.le_of_ble_eq_true rfl, Nat.le_of_ble_eq_true rfl⟩ (Nat.le_of_ble_eq_true rfl) ⟨Nat.zero_le _, Nat.zero_le _⟩ (fun r2 s2 h => ?_)
    refine r_if_eq (pc := 20) (tgt := 33) dX12_reading_20 (by decide) (fun c => ?_) (fun c => ?_)
    · replace h := h.1 c
      refine n_L (L' := [some (.ref 177), none, none, none]) (le_s (le_n (le_n (le_n (le_e))))) ?_
      exact pX12_reading_33   _ h 
    · replace h := h.2 c
      refine r_aload_n (pc := 23) (x := 177) dX12_reading_23 rfl ?_
      refine r_iload_n (pc := 24) (x := x1) dX12_reading_24 rfl ?_
      refine r_iload_n (pc := 25) (x := x2) dX12_reading_25 rfl ?_
      refine r_iload_n (pc := 26) (x := x3) dX12_reading_26 rfl ?_
      refine n_Vi0 (pc := 27) (S0 := []) (spX12_of h) gmX12_of selX12_of lk_RX12_333 dX12_reading_27 rfl (by decide) sh_177 ⟨rfl, by decide⟩ rfl ⟨Nat.le_of_ble_eq_true rfl, Nat.le_of_ble_eq_true rfl⟩ (Nat.le_of_ble_eq_true rfl) ⟨Nat.zero_le _, Nat.zero_le _⟩ (fun r3 s3 h => ?_)
      refine r_goto (pc := 30) (tgt := 37) dX12_reading_30 (by decide) ?_
      exact n_iret (pc := 37) dX12_reading_37 rfl (Nat.le_refl _) (Nat.le_refl _) h
def wX12_hull_28 (x1 : Int32) (Q : Int32 → gS → Prop)  : Nat → Int32 → Int32 → Int32 → gS → Prop
  | 0, _, _, _, _ => False
  | n + 1, y2, y3, y4, s => (6 ≤ y4 → (¬ y3 = (-1) → wpX12_tell y2.toInt64 (wi s 177 4 0) (fun s3 => wpX12_tell y3.toInt64 s3 (fun s4 => Q ((y3 - y2) + 1) s4))) ∧ (y3 = (-1) → Q (-2) s)) ∧ (¬ (6 ≤ y4) → wpX12_isLeft x1 y4 s (fun r5 s5 => (¬ r5 = 0 → wpX12_of x1 y4 0 s5 (fun r6 s6 => wpX12_of x1 y4 1 s6 (fun r7 s7 => wX12_hull_28 x1 Q n (jmin y2 r6) (jmax y3 r7) (y4 + 1) s7))) ∧ (r5 = 0 → wX12_hull_28 x1 Q n y2 y3 (y4 + 1) s5)))
set_option maxRecDepth 20000 in
theorem pX12_hull_28 {l : Launch} {X : gX} {x1 : Int32}  {Q : Int32 → gS → Prop}  : ∀ (n : Nat) (y2 : Int32) (y3 : Int32) (y4 : Int32) (s : gS) (h : wX12_hull_28 x1 Q n y2 y3 y4 s) , Gw l mX12_hull (g_rm 7 0 0) X 28 [some (.ref 177), some (.int x1), some (.int y2), some (.int y3), some (.int y4)] [] (nrm s) 0 0 (g_Z X (q_i Q) 0 0) := by
  intro n
  induction n with
  | zero => intro y2 y3 y4 s h; exact h.elim
  | succ n ih0 =>
    intro y2 y3 y4 s h 
    have ih : ∀ (y2 : Int32) (y3 : Int32) (y4 : Int32) (s : gS), wX12_hull_28 x1 Q n y2 y3 y4 s → Gw l mX12_hull (g_rm 7 0 0) X 28 [some (.ref 177), some (.int x1), some (.int y2), some (.int y3), some (.int y4)] [] (nrm s) 0 0 (g_Z X (q_i Q) 0 0) := fun y2 y3 y4 s h => ih0 y2 y3 y4 s h 
    refine r_iload (pc := 28) (x := y4) dX12_hull_28 rfl ?_
    refine r_bipush (pc := 30) (v := 6) dX12_hull_30 (by decide) ?_
    refine r_icmp_ge (pc := 32) (tgt := 80) dX12_hull_32 (by decide) (fun c => ?_) (fun c => ?_)
    · replace h := h.1 c
      refine r_iload_n (pc := 80) (x := y3) dX12_hull_80 rfl ?_
      refine r_iconst (pc := 81) (v := (-1)) dX12_hull_81 (by decide) ?_
      refine r_icmp_ne (pc := 82) (tgt := 88) dX12_hull_82 (by decide) (fun c => ?_) (fun c => ?_)
      · replace h := h.1 c
        refine r_aload_n (pc := 88) (x := 177) dX12_hull_88 rfl ?_
        refine r_iconst (pc := 89) (v := 0) dX12_hull_89 (by decide) ?_
        refine n_putI (pc := 90) (j := 4) dX12_hull_90 fl_RX12_59 fw_12_4 (by decide) sh_177 rfl rfl ?_
        refine r_aload_n (pc := 93) (x := 177) dX12_hull_93 rfl ?_
        refine r_iload_n (pc := 94) (x := y2) dX12_hull_94 rfl ?_
        refine r_i2l (pc := 95) dX12_hull_95 ?_
        refine n_Vv0 (pc := 96) (S0 := []) (spX12_tell h) gmX12_tell selX12_tell lk_RX12_91 dX12_hull_96 rfl (by decide) sh_177 ⟨rfl, by decide⟩ rfl ⟨Nat.le_of_ble_eq_true rfl, Nat.le_of_ble_eq_true rfl⟩ (Nat.le_of_ble_eq_true rfl) ⟨Nat.zero_le _, Nat.zero_le _⟩ (fun s3 h => ?_)
        refine r_aload_n (pc := 99) (x := 177) dX12_hull_99 rfl ?_
        refine r_iload_n (pc := 100) (x := y3) dX12_hull_100 rfl ?_
        refine r_i2l (pc := 101) dX12_hull_101 ?_
        refine n_Vv0 (pc := 102) (S0 := []) (spX12_tell h) gmX12_tell selX12_tell lk_RX12_91 dX12_hull_102 rfl (by decide) sh_177 ⟨rfl, by decide⟩ rfl ⟨Nat.le_of_ble_eq_true rfl, Nat.le_of_ble_eq_true rfl⟩ (Nat.le_of_ble_eq_true rfl) ⟨Nat.zero_le _, Nat.zero_le _⟩ (fun s4 h => ?_)
        refine r_iload_n (pc := 105) (x := y3) dX12_hull_105 rfl ?_
        refine r_iload_n (pc := 106) (x := y2) dX12_hull_106 rfl ?_
        refine r_isub (pc := 107) dX12_hull_107 ?_
        refine r_iconst (pc := 108) (v := 1) dX12_hull_108 (by decide) ?_
        refine r_iadd (pc := 109) dX12_hull_109 ?_
        exact n_iret (pc := 110) dX12_hull_110 rfl (Nat.le_refl _) (Nat.le_refl _) h
      · replace h := h.2 c
        refine r_bipush (pc := 85) (v := (-2)) dX12_hull_85 (by decide) ?_
        exact n_iret (pc := 87) dX12_hull_87 rfl (Nat.le_refl _) (Nat.le_refl _) h
    · replace h := h.2 c
      refine r_aload_n (pc := 35) (x := 177) dX12_hull_35 rfl ?_
      refine r_iload_n (pc := 36) (x := x1) dX12_hull_36 rfl ?_
      refine r_iload (pc := 37) (x := y4) dX12_hull_37 rfl ?_
      refine n_Vi0 (pc := 39) (S0 := []) (spX12_isLeft h) gmX12_isLeft selX12_isLeft lk_RX12_381 dX12_hull_39 rfl (by decide) sh_177 ⟨rfl, by decide⟩ rfl ⟨Nat.le_of_ble_eq_true rfl, Nat.le_of_ble_eq_true rfl⟩ (Nat.le_of_ble_eq_true rfl) ⟨Nat.zero_le _, Nat.zero_le _⟩ (fun r5 s5 h => ?_)
      refine r_if_ne (pc := 42) (tgt := 48) dX12_hull_42 (by decide) (fun c => ?_) (fun c => ?_)
      · replace h := h.1 c
        refine r_iload_n (pc := 48) (x := y2) dX12_hull_48 rfl ?_
        refine r_aload_n (pc := 49) (x := 177) dX12_hull_49 rfl ?_
        refine r_iload_n (pc := 50) (x := x1) dX12_hull_50 rfl ?_
        refine r_iload (pc := 51) (x := y4) dX12_hull_51 rfl ?_
        refine r_iconst (pc := 53) (v := 0) dX12_hull_53 (by decide) ?_
        refine n_Vi0 (pc := 54) (S0 := [.int y2]) (spX12_of h) gmX12_of selX12_of lk_RX12_333 dX12_hull_54 rfl (by decide) sh_177 ⟨rfl, by decide⟩ rfl ⟨Nat.le_of_ble_eq_true rfl, Nat.le_of_ble_eq_true rfl⟩ (Nat.le_of_ble_eq_true rfl) ⟨Nat.zero_le _, Nat.zero_le _⟩ (fun r6 s6 h => ?_)
        refine n_min (pc := 57) dX12_hull_57 lk_RX12_101 ⟨Nat.le_of_ble_eq_true rfl, Nat.le_of_ble_eq_true rfl⟩ ⟨Nat.zero_le _, Nat.zero_le _⟩ ?_
        refine r_istore_n (pc := 60) (L' := [some (.ref 177), some (.int x1), some (.int (jmin y2 r6)), some (.int y3), some (.int y4)]) dX12_hull_60 rfl (by decide) rfl ?_
        refine r_iload_n (pc := 61) (x := y3) dX12_hull_61 rfl ?_
        refine r_aload_n (pc := 62) (x := 177) dX12_hull_62 rfl ?_
        refine r_iload_n (pc := 63) (x := x1) dX12_hull_63 rfl ?_
        refine r_iload (pc := 64) (x := y4) dX12_hull_64 rfl ?_
        refine r_iconst (pc := 66) (v := 1) dX12_hull_66 (by decide) ?_
        refine n_Vi0 (pc := 67) (S0 := [.int y3]) (spX12_of h) gmX12_of selX12_of lk_RX12_333 dX12_hull_67 rfl (by decide) sh_177 ⟨rfl, by decide⟩ rfl ⟨Nat.le_of_ble_eq_true rfl, Nat.le_of_ble_eq_true rfl⟩ (Nat.le_of_ble_eq_true rfl) ⟨Nat.zero_le _, Nat.zero_le _⟩ (fun r7 s7 h => ?_)
        refine n_max (pc := 70) dX12_hull_70 lk_RX12_179 ⟨Nat.le_of_ble_eq_true rfl, Nat.le_of_ble_eq_true rfl⟩ ⟨Nat.zero_le _, Nat.zero_le _⟩ ?_
        refine r_istore_n (pc := 73) (L' := [some (.ref 177), some (.int x1), some (.int (jmin y2 r6)), some (.int (jmax y3 r7)), some (.int y4)]) dX12_hull_73 rfl (by decide) rfl ?_
        refine n_iinc (pc := 74) (x := y4) (w := 1) (L' := [some (.ref 177), some (.int x1), some (.int (jmin y2 r6)), some (.int (jmax y3 r7)), some (.int (y4 + 1))]) dX12_hull_74 rfl (by decide) rfl (by decide) rfl ?_
        refine r_goto (pc := 77) (tgt := 28) dX12_hull_77 (by decide) ?_
        refine n_L (L' := [some (.ref 177), some (.int x1), some (.int (jmin y2 r6)), some (.int (jmax y3 r7)), some (.int (y4 + 1))]) (le_s (le_s (le_s (le_s (le_s (le_e)))))) ?_
        exact ih _ _ _ _ h
      · replace h := h.2 c
        refine r_goto (pc := 45) (tgt := 74) dX12_hull_45 (by decide) ?_
        refine n_iinc (pc := 74) (x := y4) (w := 1) (L' := [some (.ref 177), some (.int x1), some (.int y2), some (.int y3), some (.int (y4 + 1))]) dX12_hull_74 rfl (by decide) rfl (by decide) rfl ?_
        refine r_goto (pc := 77) (tgt := 28) dX12_hull_77 (by decide) ?_
        refine n_L (L' := [some (.ref 177), some (.int x1), some (.int y2), some (.int y3), some (.int (y4 + 1))]) (le_s (le_s (le_s (le_s (le_s (le_e)))))) ?_
        exact ih _ _ _ _ h
def wpX12_hull (x1 : Int32) (s : gS) (Q : Int32 → gS → Prop) : Prop := wpX12_isEvent x1 (wi s 177 5 0) (fun r1 s1 => (¬ r1 = 0 → wpX12_survey s1 (fun s2 => ∃ n28, wX12_hull_28 x1 Q n28 10000 (-1) 0 s2)) ∧ (r1 = 0 → Q (-1) s1))
set_option maxRecDepth 20000 in
theorem spX12_hull {l : Launch} {x1 : Int32}  {s : gS} {Q : Int32 → gS → Prop} (h : wpX12_hull x1 s Q) : Ct l mX12_hull 7 0 0 [.ref 177, .int x1] (nrm s) (q_i Q) := by
  refine Ct.of (by decide) (Nat.le_of_ble_eq_true rfl) (fun X => ?_)
  refine n_L (L' := [some (.ref 177), some (.int x1), none, none, none]) (le_s (le_s (le_p (le_p (le_p (le_e)))))) ?_
  refine r_aload_n (pc := 0) (x := 177) dX12_hull_0 rfl ?_
  refine r_iconst (pc := 1) (v := 0) dX12_hull_1 (by decide) ?_
  refine n_putI (pc := 2) (j := 5) dX12_hull_2 fl_RX12_55 fw_12_5 (by decide) sh_177 rfl rfl ?_
  refine r_aload_n (pc := 5) (x := 177) dX12_hull_5 rfl ?_
  refine r_iload_n (pc := 6) (x := x1) dX12_hull_6 rfl ?_
  refine n_Vi0 (pc := 7) (S0 := []) (spX12_isEvent h) gmX12_isEvent selX12_isEvent lk_RX12_321 dX12_hull_7 rfl (by decide) sh_177 ⟨rfl, by decide⟩ rfl ⟨Nat.le_of_ble_eq_true rfl, Nat.le_of_ble_eq_true rfl⟩ (Nat.le_of_ble_eq_true rfl) ⟨Nat.zero_le _, Nat.zero_le _⟩ (fun r1 s1 h => ?_)
  refine r_if_ne (pc := 10) (tgt := 15) dX12_hull_10 (by decide) (fun c => ?_) (fun c => ?_)
  · replace h := h.1 c
    refine r_aload_n (pc := 15) (x := 177) dX12_hull_15 rfl ?_
    refine n_Vv0 (pc := 16) (S0 := []) (spX12_survey h) gmX12_survey selX12_survey lk_RX12_388 dX12_hull_16 rfl (by decide) sh_177 ⟨rfl, by decide⟩ rfl ⟨Nat.le_of_ble_eq_true rfl, Nat.le_of_ble_eq_true rfl⟩ (Nat.le_of_ble_eq_true rfl) ⟨Nat.zero_le _, Nat.zero_le _⟩ (fun s2 h => ?_)
    refine r_sipush (pc := 19) (v := 10000) dX12_hull_19 (by decide) ?_
    refine r_istore_n (pc := 22) (L' := [some (.ref 177), some (.int x1), some (.int 10000), none, none]) dX12_hull_22 rfl (by decide) rfl ?_
    refine r_iconst (pc := 23) (v := (-1)) dX12_hull_23 (by decide) ?_
    refine r_istore_n (pc := 24) (L' := [some (.ref 177), some (.int x1), some (.int 10000), some (.int (-1)), none]) dX12_hull_24 rfl (by decide) rfl ?_
    refine r_iconst (pc := 25) (v := 0) dX12_hull_25 (by decide) ?_
    refine r_istore (pc := 26) (L' := [some (.ref 177), some (.int x1), some (.int 10000), some (.int (-1)), some (.int 0)]) dX12_hull_26 rfl (by decide) rfl ?_
    refine n_L (L' := [some (.ref 177), some (.int x1), some (.int 10000), some (.int (-1)), some (.int 0)]) (le_s (le_s (le_s (le_s (le_s (le_e)))))) ?_
    obtain ⟨n, h⟩ := h
    exact pX12_hull_28  n _ _ _ _ h 
  · replace h := h.2 c
    refine r_iconst (pc := 13) (v := (-1)) dX12_hull_13 (by decide) ?_
    exact n_iret (pc := 14) dX12_hull_14 rfl (Nat.le_refl _) (Nat.le_refl _) h
def wpX12_isOrder (x1 : Int32) (x2 : Int32) (x3 : Int32) (s : gS) (Q : Int32 → gS → Prop) : Prop := wpX12_in x1 0 4 s (fun r1 s1 => (r1 = 0 → Q 0 s1) ∧ (¬ (r1 = 0) → wpX12_isEvent x2 s1 (fun r2 s2 => (r2 = 0 → Q 0 s2) ∧ (¬ (r2 = 0) → wpX12_isEvent x3 s2 (fun r3 s3 => (r3 = 0 → Q 0 s3) ∧ (¬ (r3 = 0) → (x2 = x3 → Q 0 s3) ∧ (¬ (x2 = x3) → Q 1 s3)))))))
set_option maxRecDepth 20000 in
theorem spX12_isOrder {l : Launch} {x1 : Int32} {x2 : Int32} {x3 : Int32}  {s : gS} {Q : Int32 → gS → Prop} (h : wpX12_isOrder x1 x2 x3 s Q) : Ct l mX12_isOrder 3 0 0 [.ref 177, .int x1, .int x2, .int x3] (nrm s) (q_i Q) := by
  refine Ct.of (by decide) (Nat.le_of_ble_eq_true rfl) (fun X => ?_)
  refine n_L (L' := [some (.ref 177), some (.int x1), some (.int x2), some (.int x3)]) (le_s (le_s (le_s (le_s (le_e))))) ?_
  refine r_iload_n (pc := 0) (x := x1) dX12_isOrder_0 rfl ?_
  refine r_iconst (pc := 1) (v := 0) dX12_isOrder_1 (by decide) ?_
  refine r_iconst (pc := 2) (v := 4) dX12_isOrder_2 (by decide) ?_
  refine n_Si0 (pc := 3) (S0 := []) (spX12_in h) gmX12_in lk_RX12_62 dX12_isOrder_3 rfl rfl ⟨Nat.le_of_ble_eq_true rfl, Nat.le_of_ble_eq_true rfl⟩ (Nat.le_of_ble_eq_true rfl) ⟨Nat.zero_le _, Nat.zero_le _⟩ (fun r1 s1 h => ?_)
  refine r_if_eq (pc := 6) (tgt := 34) dX12_isOrder_6 (by decide) (fun c => ?_) (fun c => ?_)
  · replace h := h.1 c
    refine r_iconst (pc := 34) (v := 0) dX12_isOrder_34 (by decide) ?_
    exact n_zret (pc := 35) dX12_isOrder_35 rfl (by decide) (Nat.le_refl _) (Nat.le_refl _) h
  · replace h := h.2 c
    refine r_aload_n (pc := 9) (x := 177) dX12_isOrder_9 rfl ?_
    refine r_iload_n (pc := 10) (x := x2) dX12_isOrder_10 rfl ?_
    refine n_Vi0 (pc := 11) (S0 := []) (spX12_isEvent h) gmX12_isEvent selX12_isEvent lk_RX12_321 dX12_isOrder_11 rfl (by decide) sh_177 ⟨rfl, by decide⟩ rfl ⟨Nat.le_of_ble_eq_true rfl, Nat.le_of_ble_eq_true rfl⟩ (Nat.le_of_ble_eq_true rfl) ⟨Nat.zero_le _, Nat.zero_le _⟩ (fun r2 s2 h => ?_)
    refine r_if_eq (pc := 14) (tgt := 34) dX12_isOrder_14 (by decide) (fun c => ?_) (fun c => ?_)
    · replace h := h.1 c
      refine r_iconst (pc := 34) (v := 0) dX12_isOrder_34 (by decide) ?_
      exact n_zret (pc := 35) dX12_isOrder_35 rfl (by decide) (Nat.le_refl _) (Nat.le_refl _) h
    · replace h := h.2 c
      refine r_aload_n (pc := 17) (x := 177) dX12_isOrder_17 rfl ?_
      refine r_iload_n (pc := 18) (x := x3) dX12_isOrder_18 rfl ?_
      refine n_Vi0 (pc := 19) (S0 := []) (spX12_isEvent h) gmX12_isEvent selX12_isEvent lk_RX12_321 dX12_isOrder_19 rfl (by decide) sh_177 ⟨rfl, by decide⟩ rfl ⟨Nat.le_of_ble_eq_true rfl, Nat.le_of_ble_eq_true rfl⟩ (Nat.le_of_ble_eq_true rfl) ⟨Nat.zero_le _, Nat.zero_le _⟩ (fun r3 s3 h => ?_)
      refine r_if_eq (pc := 22) (tgt := 34) dX12_isOrder_22 (by decide) (fun c => ?_) (fun c => ?_)
      · replace h := h.1 c
        refine r_iconst (pc := 34) (v := 0) dX12_isOrder_34 (by decide) ?_
        exact n_zret (pc := 35) dX12_isOrder_35 rfl (by decide) (Nat.le_refl _) (Nat.le_refl _) h
      · replace h := h.2 c
        refine r_iload_n (pc := 25) (x := x2) dX12_isOrder_25 rfl ?_
        refine r_iload_n (pc := 26) (x := x3) dX12_isOrder_26 rfl ?_
        refine r_icmp_eq (pc := 27) (tgt := 34) dX12_isOrder_27 (by decide) (fun c => ?_) (fun c => ?_)
        · replace h := h.1 c
          refine r_iconst (pc := 34) (v := 0) dX12_isOrder_34 (by decide) ?_
          exact n_zret (pc := 35) dX12_isOrder_35 rfl (by decide) (Nat.le_refl _) (Nat.le_refl _) h
        · replace h := h.2 c
          refine r_iconst (pc := 30) (v := 1) dX12_isOrder_30 (by decide) ?_
          refine r_goto (pc := 31) (tgt := 35) dX12_isOrder_31 (by decide) ?_
          exact n_zret (pc := 35) dX12_isOrder_35 rfl (by decide) (Nat.le_refl _) (Nat.le_refl _) h
def wX12_refusesOrder_15 (x1 : Int32) (x2 : Int32) (x3 : Int32) (Q : Int32 → gS → Prop)  : Nat → Int32 → gS → Prop
  | 0, _, _ => False
  | n + 1, y4, s => ((gi s 178 1) ≤ y4 → (¬ (gi s 178 1) = 10 → Q 0 s) ∧ ((gi s 178 1) = 10 → Q (-3) s)) ∧ (¬ ((gi s 178 1) ≤ y4) → vp_in (188 + (3 * y4)) 218 ∧ ((¬ (gi s 178 (ix (188 + (3 * y4)))) = x1 → wX12_refusesOrder_15 x1 x2 x3 Q n (y4 + 1) s) ∧ ((gi s 178 (ix (188 + (3 * y4)))) = x1 → vp_in ((188 + (3 * y4)) + 1) 218 ∧ ((¬ (gi s 178 (ix ((188 + (3 * y4)) + 1))) = x2 → wX12_refusesOrder_15 x1 x2 x3 Q n (y4 + 1) s) ∧ ((gi s 178 (ix ((188 + (3 * y4)) + 1))) = x2 → vp_in ((188 + (3 * y4)) + 2) 218 ∧ ((¬ (gi s 178 (ix ((188 + (3 * y4)) + 2))) = x3 → wX12_refusesOrder_15 x1 x2 x3 Q n (y4 + 1) s) ∧ ((gi s 178 (ix ((188 + (3 * y4)) + 2))) = x3 → Q (-2) s)))))))
set_option maxRecDepth 20000 in
theorem pX12_refusesOrder_15 {l : Launch} {X : gX} {x1 : Int32} {x2 : Int32} {x3 : Int32}  {Q : Int32 → gS → Prop}  : ∀ (n : Nat) (y4 : Int32) (s : gS) (h : wX12_refusesOrder_15 x1 x2 x3 Q n y4 s) , Gw l mX12_refusesOrder (g_rm 4 0 0) X 15 [some (.ref 177), some (.int x1), some (.int x2), some (.int x3), some (.int y4)] [] (nrm s) 0 0 (g_Z X (q_i Q) 0 0) := by
  intro n
  induction n with
  | zero => intro y4 s h; exact h.elim
  | succ n ih0 =>
    intro y4 s h 
    have ih : ∀ (y4 : Int32) (s : gS), wX12_refusesOrder_15 x1 x2 x3 Q n y4 s → Gw l mX12_refusesOrder (g_rm 4 0 0) X 15 [some (.ref 177), some (.int x1), some (.int x2), some (.int x3), some (.int y4)] [] (nrm s) 0 0 (g_Z X (q_i Q) 0 0) := fun y4 s h => ih0 y4 s h 
    refine r_iload (pc := 15) (x := y4) dX12_refusesOrder_15 rfl ?_
    refine r_aload_n (pc := 17) (x := 177) dX12_refusesOrder_17 rfl ?_
    refine n_getR (pc := 18) (j := 0) (q := 178) dX12_refusesOrder_18 fl_RX12_9 (by decide) sh_177 rfl rfl rfl ?_
    refine r_iconst (pc := 21) (v := 1) dX12_refusesOrder_21 (by decide) ?_
    refine n_iald (pc := 22) (j := 1) dX12_refusesOrder_22 (by decide) sh_178 (vp_inc (by decide)) (by decide) ?_
    refine r_icmp_ge (pc := 23) (tgt := 90) dX12_refusesOrder_23 (by decide) (fun c => ?_) (fun c => ?_)
    · replace h := h.1 c
      refine r_aload_n (pc := 90) (x := 177) dX12_refusesOrder_90 rfl ?_
      refine n_getR (pc := 91) (j := 0) (q := 178) dX12_refusesOrder_91 fl_RX12_9 (by decide) sh_177 rfl rfl rfl ?_
      refine r_iconst (pc := 94) (v := 1) dX12_refusesOrder_94 (by decide) ?_
      refine n_iald (pc := 95) (j := 1) dX12_refusesOrder_95 (by decide) sh_178 (vp_inc (by decide)) (by decide) ?_
      refine r_bipush (pc := 96) (v := 10) dX12_refusesOrder_96 (by decide) ?_
      refine r_icmp_ne (pc := 98) (tgt := 106) dX12_refusesOrder_98 (by decide) (fun c => ?_) (fun c => ?_)
      · replace h := h.1 c
        refine r_iconst (pc := 106) (v := 0) dX12_refusesOrder_106 (by decide) ?_
        exact n_iret (pc := 107) dX12_refusesOrder_107 rfl (Nat.le_refl _) (Nat.le_refl _) h
      · replace h := h.2 c
        refine r_bipush (pc := 101) (v := (-3)) dX12_refusesOrder_101 (by decide) ?_
        refine r_goto (pc := 103) (tgt := 107) dX12_refusesOrder_103 (by decide) ?_
        exact n_iret (pc := 107) dX12_refusesOrder_107 rfl (Nat.le_refl _) (Nat.le_refl _) h
    · replace h := h.2 c
      refine r_aload_n (pc := 26) (x := 177) dX12_refusesOrder_26 rfl ?_
      refine n_getR (pc := 27) (j := 0) (q := 178) dX12_refusesOrder_27 fl_RX12_9 (by decide) sh_177 rfl rfl rfl ?_
      refine r_sipush (pc := 30) (v := 188) dX12_refusesOrder_30 (by decide) ?_
      refine r_iconst (pc := 33) (v := 3) dX12_refusesOrder_33 (by decide) ?_
      refine r_iload (pc := 34) (x := y4) dX12_refusesOrder_34 rfl ?_
      refine r_imul (pc := 36) dX12_refusesOrder_36 ?_
      refine r_iadd (pc := 37) dX12_refusesOrder_37 ?_
      obtain ⟨b2, h⟩ := h
      refine n_iald (pc := 38) (j := (ix (188 + (3 * y4)))) dX12_refusesOrder_38 (by decide) sh_178 b2 rfl ?_
      refine r_iload_n (pc := 39) (x := x1) dX12_refusesOrder_39 rfl ?_
      refine r_icmp_ne (pc := 40) (tgt := 84) dX12_refusesOrder_40 (by decide) (fun c => ?_) (fun c => ?_)
      · replace h := h.1 c
        refine n_iinc (pc := 84) (x := y4) (w := 1) (L' := [some (.ref 177), some (.int x1), some (.int x2), some (.int x3), some (.int (y4 + 1))]) dX12_refusesOrder_84 rfl (by decide) rfl (by decide) rfl ?_
        refine r_goto (pc := 87) (tgt := 15) dX12_refusesOrder_87 (by decide) ?_
        refine n_L (L' := [some (.ref 177), some (.int x1), some (.int x2), some (.int x3), some (.int (y4 + 1))]) (le_s (le_s (le_s (le_s (le_s (le_e)))))) ?_
        exact ih _ _ h
      · replace h := h.2 c
        refine r_aload_n (pc := 43) (x := 177) dX12_refusesOrder_43 rfl ?_
        refine n_getR (pc := 44) (j := 0) (q := 178) dX12_refusesOrder_44 fl_RX12_9 (by decide) sh_177 rfl rfl rfl ?_
        refine r_sipush (pc := 47) (v := 188) dX12_refusesOrder_47 (by decide) ?_
        refine r_iconst (pc := 50) (v := 3) dX12_refusesOrder_50 (by decide) ?_
        refine r_iload (pc := 51) (x := y4) dX12_refusesOrder_51 rfl ?_
        refine r_imul (pc := 53) dX12_refusesOrder_53 ?_
        refine r_iadd (pc := 54) dX12_refusesOrder_54 ?_
        refine r_iconst (pc := 55) (v := 1) dX12_refusesOrder_55 (by decide) ?_
        refine r_iadd (pc := 56) dX12_refusesOrder_56 ?_
        obtain ⟨b3, h⟩ := h
        refine n_iald (pc := 57) (j := (ix ((188 + (3 * y4)) + 1))) dX12_refusesOrder_57 (by decide) sh_178 b3 rfl ?_
        refine r_iload_n (pc := 58) (x := x2) dX12_refusesOrder_58 rfl ?_
        refine r_icmp_ne (pc := 59) (tgt := 84) dX12_refusesOrder_59 (by decide) (fun c => ?_) (fun c => ?_)
        · replace h := h.1 c
          refine n_iinc (pc := 84) (x := y4) (w := 1) (L' := [some (.ref 177), some (.int x1), some (.int x2), some (.int x3), some (.int (y4 + 1))]) dX12_refusesOrder_84 rfl (by decide) rfl (by decide) rfl ?_
          refine r_goto (pc := 87) (tgt := 15) dX12_refusesOrder_87 (by decide) ?_
          refine n_L (L' := [some (.ref 177), some (.int x1), some (.int x2), some (.int x3), some (.int (y4 + 1))]) (le_s (le_s (le_s (le_s (le_s (le_e)))))) ?_
          exact ih _ _ h
        · replace h := h.2 c
          refine r_aload_n (pc := 62) (x := 177) dX12_refusesOrder_62 rfl ?_
          refine n_getR (pc := 63) (j := 0) (q := 178) dX12_refusesOrder_63 fl_RX12_9 (by decide) sh_177 rfl rfl rfl ?_
          refine r_sipush (pc := 66) (v := 188) dX12_refusesOrder_66 (by decide) ?_
          refine r_iconst (pc := 69) (v := 3) dX12_refusesOrder_69 (by decide) ?_
          refine r_iload (pc := 70) (x := y4) dX12_refusesOrder_70 rfl ?_
          refine r_imul (pc := 72) dX12_refusesOrder_72 ?_
          refine r_iadd (pc := 73) dX12_refusesOrder_73 ?_
          refine r_iconst (pc := 74) (v := 2) dX12_refusesOrder_74 (by decide) ?_
          refine r_iadd (pc := 75) dX12_refusesOrder_75 ?_
          obtain ⟨b4, h⟩ := h
          refine n_iald (pc := 76) (j := (ix ((188 + (3 * y4)) + 2))) dX12_refusesOrder_76 (by decide) sh_178 b4 rfl ?_
          refine r_iload_n (pc := 77) (x := x3) dX12_refusesOrder_77 rfl ?_
          refine r_icmp_ne (pc := 78) (tgt := 84) dX12_refusesOrder_78 (by decide) (fun c => ?_) (fun c => ?_)
          · replace h := h.1 c
            refine n_iinc (pc := 84) (x := y4) (w := 1) (L' := [some (.ref 177), some (.int x1), some (.int x2), some (.int x3), some (.int (y4 + 1))]) dX12_refusesOrder_84 rfl (by decide) rfl (by decide) rfl ?_
            refine r_goto (pc := 87) (tgt := 15) dX12_refusesOrder_87 (by decide) ?_
            refine n_L (L' := [some (.ref 177), some (.int x1), some (.int x2), some (.int x3), some (.int (y4 + 1))]) (le_s (le_s (le_s (le_s (le_s (le_e)))))) ?_
            exact ih _ _ h
          · replace h := h.2 c
            refine r_bipush (pc := 81) (v := (-2)) dX12_refusesOrder_81 (by decide) ?_
            exact n_iret (pc := 83) dX12_refusesOrder_83 rfl (Nat.le_refl _) (Nat.le_refl _) h
def wpX12_refusesOrder (x1 : Int32) (x2 : Int32) (x3 : Int32) (s : gS) (Q : Int32 → gS → Prop) : Prop := wpX12_isOrder x1 x2 x3 s (fun r1 s1 => (¬ r1 = 0 → ∃ n15, wX12_refusesOrder_15 x1 x2 x3 Q n15 0 s1) ∧ (r1 = 0 → Q (-1) s1))
set_option maxRecDepth 20000 in
theorem spX12_refusesOrder {l : Launch} {x1 : Int32} {x2 : Int32} {x3 : Int32}  {s : gS} {Q : Int32 → gS → Prop} (h : wpX12_refusesOrder x1 x2 x3 s Q) : Ct l mX12_refusesOrder 4 0 0 [.ref 177, .int x1, .int x2, .int x3] (nrm s) (q_i Q) := by
  refine Ct.of (by decide) (Nat.le_of_ble_eq_true rfl) (fun X => ?_)
  refine n_L (L' := [some (.ref 177), some (.int x1), some (.int x2), some (.int x3), none]) (le_s (le_s (le_s (le_s (le_p (le_e)))))) ?_
  refine r_aload_n (pc := 0) (x := 177) dX12_refusesOrder_0 rfl ?_
  refine r_iload_n (pc := 1) (x := x1) dX12_refusesOrder_1 rfl ?_
  refine r_iload_n (pc := 2) (x := x2) dX12_refusesOrder_2 rfl ?_
  refine r_iload_n (pc := 3) (x := x3) dX12_refusesOrder_3 rfl ?_
  refine n_Vi0 (pc := 4) (S0 := []) (spX12_isOrder h) gmX12_isOrder selX12_isOrder lk_RX12_397 dX12_refusesOrder_4 rfl (by decide) sh_177 ⟨rfl, by decide⟩ rfl ⟨Nat.le_of_ble_eq_true rfl, Nat.le_of_ble_eq_true rfl⟩ (Nat.le_of_ble_eq_true rfl) ⟨Nat.zero_le _, Nat.zero_le _⟩ (fun r1 s1 h => ?_)
  refine r_if_ne (pc := 7) (tgt := 12) dX12_refusesOrder_7 (by decide) (fun c => ?_) (fun c => ?_)
  · replace h := h.1 c
    refine r_iconst (pc := 12) (v := 0) dX12_refusesOrder_12 (by decide) ?_
    refine r_istore (pc := 13) (L' := [some (.ref 177), some (.int x1), some (.int x2), some (.int x3), some (.int 0)]) dX12_refusesOrder_13 rfl (by decide) rfl ?_
    refine n_L (L' := [some (.ref 177), some (.int x1), some (.int x2), some (.int x3), some (.int 0)]) (le_s (le_s (le_s (le_s (le_s (le_e)))))) ?_
    obtain ⟨n, h⟩ := h
    exact pX12_refusesOrder_15  n _ _ h 
  · replace h := h.2 c
    refine r_iconst (pc := 10) (v := (-1)) dX12_refusesOrder_10 (by decide) ?_
    exact n_iret (pc := 11) dX12_refusesOrder_11 rfl (Nat.le_refl _) (Nat.le_refl _) h
def wpX12_goOrder (x1 : Int32) (x2 : Int32) (x3 : Int32) (s : gS) (Q : gS → Prop) : Prop := vp_in (188 + (3 * (gi s 178 1))) 218 ∧ (vp_in ((188 + (3 * (gi s 178 1))) + 1) 218 ∧ (vp_in ((188 + (3 * (gi s 178 1))) + 2) 218 ∧ (Q (wi (wi (wi (wi s 178 (ix (188 + (3 * (gi s 178 1)))) x1) 178 (ix ((188 + (3 * (gi s 178 1))) + 1)) x2) 178 (ix ((188 + (3 * (gi s 178 1))) + 2)) x3) 178 1 ((gi (wi (wi (wi s 178 (ix (188 + (3 * (gi s 178 1)))) x1) 178 (ix ((188 + (3 * (gi s 178 1))) + 1)) x2) 178 (ix ((188 + (3 * (gi s 178 1))) + 2)) x3) 178 1) + 1)))))
set_option maxRecDepth 20000 in
theorem spX12_goOrder {l : Launch} {x1 : Int32} {x2 : Int32} {x3 : Int32}  {s : gS} {Q : gS → Prop} (h : wpX12_goOrder x1 x2 x3 s Q) : Ct l mX12_goOrder 1 0 0 [.ref 177, .int x1, .int x2, .int x3] (nrm s) (q_v Q) := by
  refine Ct.of (by decide) (Nat.le_of_ble_eq_true rfl) (fun X => ?_)
  refine n_L (L' := [some (.ref 177), some (.int x1), some (.int x2), some (.int x3), none]) (le_s (le_s (le_s (le_s (le_p (le_e)))))) ?_
  refine r_sipush (pc := 0) (v := 188) dX12_goOrder_0 (by decide) ?_
  refine r_iconst (pc := 3) (v := 3) dX12_goOrder_3 (by decide) ?_
  refine r_aload_n (pc := 4) (x := 177) dX12_goOrder_4 rfl ?_
  refine n_getR (pc := 5) (j := 0) (q := 178) dX12_goOrder_5 fl_RX12_9 (by decide) sh_177 rfl rfl rfl ?_
  refine r_iconst (pc := 8) (v := 1) dX12_goOrder_8 (by decide) ?_
  refine n_iald (pc := 9) (j := 1) dX12_goOrder_9 (by decide) sh_178 (vp_inc (by decide)) (by decide) ?_
  refine r_imul (pc := 10) dX12_goOrder_10 ?_
  refine r_iadd (pc := 11) dX12_goOrder_11 ?_
  refine r_istore (pc := 12) (L' := [some (.ref 177), some (.int x1), some (.int x2), some (.int x3), some (.int (188 + (3 * (gi s 178 1))))]) dX12_goOrder_12 rfl (by decide) rfl ?_
  refine r_aload_n (pc := 14) (x := 177) dX12_goOrder_14 rfl ?_
  refine n_getR (pc := 15) (j := 0) (q := 178) dX12_goOrder_15 fl_RX12_9 (by decide) sh_177 rfl rfl rfl ?_
  refine r_iload (pc := 18) (x := 188 + (3 * (gi s 178 1))) dX12_goOrder_18 rfl ?_
  refine r_iload_n (pc := 20) (x := x1) dX12_goOrder_20 rfl ?_
  obtain ⟨b1, h⟩ := h
  refine n_iast (pc := 21) (j := (ix (188 + (3 * (gi s 178 1))))) dX12_goOrder_21 (by decide) sh_178 b1 rfl ?_
  refine r_aload_n (pc := 22) (x := 177) dX12_goOrder_22 rfl ?_
  refine n_getR (pc := 23) (j := 0) (q := 178) dX12_goOrder_23 fl_RX12_9 (by decide) sh_177 rfl rfl rfl ?_
  refine r_iload (pc := 26) (x := 188 + (3 * (gi s 178 1))) dX12_goOrder_26 rfl ?_
  refine r_iconst (pc := 28) (v := 1) dX12_goOrder_28 (by decide) ?_
  refine r_iadd (pc := 29) dX12_goOrder_29 ?_
  refine r_iload_n (pc := 30) (x := x2) dX12_goOrder_30 rfl ?_
  obtain ⟨b2, h⟩ := h
  refine n_iast (pc := 31) (j := (ix ((188 + (3 * (gi s 178 1))) + 1))) dX12_goOrder_31 (by decide) sh_178 b2 rfl ?_
  refine r_aload_n (pc := 32) (x := 177) dX12_goOrder_32 rfl ?_
  refine n_getR (pc := 33) (j := 0) (q := 178) dX12_goOrder_33 fl_RX12_9 (by decide) sh_177 rfl rfl rfl ?_
  refine r_iload (pc := 36) (x := 188 + (3 * (gi s 178 1))) dX12_goOrder_36 rfl ?_
  refine r_iconst (pc := 38) (v := 2) dX12_goOrder_38 (by decide) ?_
  refine r_iadd (pc := 39) dX12_goOrder_39 ?_
  refine r_iload_n (pc := 40) (x := x3) dX12_goOrder_40 rfl ?_
  obtain ⟨b3, h⟩ := h
  refine n_iast (pc := 41) (j := (ix ((188 + (3 * (gi s 178 1))) + 2))) dX12_goOrder_41 (by decide) sh_178 b3 rfl ?_
  refine r_aload_n (pc := 42) (x := 177) dX12_goOrder_42 rfl ?_
  refine n_getR (pc := 43) (j := 0) (q := 178) dX12_goOrder_43 fl_RX12_9 (by decide) sh_177 rfl rfl rfl ?_
  refine r_iconst (pc := 46) (v := 1) dX12_goOrder_46 (by decide) ?_
  refine r_dup2 (pc := 47) dX12_goOrder_47 rfl rfl ?_
  refine n_iald (pc := 48) (j := 1) dX12_goOrder_48 (by decide) sh_178 (vp_inc (by decide)) (by decide) ?_
  refine r_iconst (pc := 49) (v := 1) dX12_goOrder_49 (by decide) ?_
  refine r_iadd (pc := 50) dX12_goOrder_50 ?_
  refine n_iast (pc := 51) (j := 1) dX12_goOrder_51 (by decide) sh_178 (vp_inc (by decide)) (by decide) ?_
  exact n_vret (pc := 52) dX12_goOrder_52 rfl (Nat.le_refl _) (Nat.le_refl _) h
def wpX12_order (x1 : Int32) (x2 : Int32) (x3 : Int32) (s : gS) (Q : Int32 → gS → Prop) : Prop := wpX12_refusesOrder x1 x2 x3 (wi s 177 5 0) (fun r1 s1 => (0 ≤ r1 → wpX12_change s1 (fun s2 => wpX12_goOrder x1 x2 x3 s2 (fun s3 => Q ((gi s3 178 1) - 1) s3))) ∧ (¬ (0 ≤ r1) → Q r1 s1))
set_option maxRecDepth 20000 in
theorem spX12_order {l : Launch} {x1 : Int32} {x2 : Int32} {x3 : Int32}  {s : gS} {Q : Int32 → gS → Prop} (h : wpX12_order x1 x2 x3 s Q) : Ct l mX12_order 5 0 0 [.ref 177, .int x1, .int x2, .int x3] (nrm s) (q_i Q) := by
  refine Ct.of (by decide) (Nat.le_of_ble_eq_true rfl) (fun X => ?_)
  refine n_L (L' := [some (.ref 177), some (.int x1), some (.int x2), some (.int x3), none]) (le_s (le_s (le_s (le_s (le_p (le_e)))))) ?_
  refine r_aload_n (pc := 0) (x := 177) dX12_order_0 rfl ?_
  refine r_iconst (pc := 1) (v := 0) dX12_order_1 (by decide) ?_
  refine n_putI (pc := 2) (j := 5) dX12_order_2 fl_RX12_55 fw_12_5 (by decide) sh_177 rfl rfl ?_
  refine r_aload_n (pc := 5) (x := 177) dX12_order_5 rfl ?_
  refine r_iload_n (pc := 6) (x := x1) dX12_order_6 rfl ?_
  refine r_iload_n (pc := 7) (x := x2) dX12_order_7 rfl ?_
  refine r_iload_n (pc := 8) (x := x3) dX12_order_8 rfl ?_
  refine n_Vi0 (pc := 9) (S0 := []) (spX12_refusesOrder h) gmX12_refusesOrder selX12_refusesOrder lk_RX12_400 dX12_order_9 rfl (by decide) sh_177 ⟨rfl, by decide⟩ rfl ⟨Nat.le_of_ble_eq_true rfl, Nat.le_of_ble_eq_true rfl⟩ (Nat.le_of_ble_eq_true rfl) ⟨Nat.zero_le _, Nat.zero_le _⟩ (fun r1 s1 h => ?_)
  refine r_istore (pc := 12) (L' := [some (.ref 177), some (.int x1), some (.int x2), some (.int x3), some (.int r1)]) dX12_order_12 rfl (by decide) rfl ?_
  refine r_iload (pc := 14) (x := r1) dX12_order_14 rfl ?_
  refine r_if_ge (pc := 16) (tgt := 22) dX12_order_16 (by decide) (fun c => ?_) (fun c => ?_)
  · replace h := h.1 c
    refine r_aload_n (pc := 22) (x := 177) dX12_order_22 rfl ?_
    refine n_Vv0 (pc := 23) (S0 := []) (spX12_change h) gmX12_change selX12_change lk_RX12_344 dX12_order_23 rfl (by decide) sh_177 ⟨rfl, by decide⟩ rfl ⟨Nat.le_of_ble_eq_true rfl, Nat.le_of_ble_eq_true rfl⟩ (Nat.le_of_ble_eq_true rfl) ⟨Nat.zero_le _, Nat.zero_le _⟩ (fun s2 h => ?_)
    refine r_aload_n (pc := 26) (x := 177) dX12_order_26 rfl ?_
    refine r_iload_n (pc := 27) (x := x1) dX12_order_27 rfl ?_
    refine r_iload_n (pc := 28) (x := x2) dX12_order_28 rfl ?_
    refine r_iload_n (pc := 29) (x := x3) dX12_order_29 rfl ?_
    refine n_Vv0 (pc := 30) (S0 := []) (spX12_goOrder h) gmX12_goOrder selX12_goOrder lk_RX12_403 dX12_order_30 rfl (by decide) sh_177 ⟨rfl, by decide⟩ rfl ⟨Nat.le_of_ble_eq_true rfl, Nat.le_of_ble_eq_true rfl⟩ (Nat.le_of_ble_eq_true rfl) ⟨Nat.zero_le _, Nat.zero_le _⟩ (fun s3 h => ?_)
    refine r_aload_n (pc := 33) (x := 177) dX12_order_33 rfl ?_
    refine n_getR (pc := 34) (j := 0) (q := 178) dX12_order_34 fl_RX12_9 (by decide) sh_177 rfl rfl rfl ?_
    refine r_iconst (pc := 37) (v := 1) dX12_order_37 (by decide) ?_
    refine n_iald (pc := 38) (j := 1) dX12_order_38 (by decide) sh_178 (vp_inc (by decide)) (by decide) ?_
    refine r_iconst (pc := 39) (v := 1) dX12_order_39 (by decide) ?_
    refine r_isub (pc := 40) dX12_order_40 ?_
    exact n_iret (pc := 41) dX12_order_41 rfl (Nat.le_refl _) (Nat.le_refl _) h
  · replace h := h.2 c
    refine r_iload (pc := 19) (x := r1) dX12_order_19 rfl ?_
    exact n_iret (pc := 21) dX12_order_21 rfl (Nat.le_refl _) (Nat.le_refl _) h
def wX12_told_125 (x1 : Int32) (Q : Int32 → gS → Prop) (k97 : Int32 → Int32 → Int32 → Int32 → Int32 → Int32 → gS → Prop) (y2 : Int32) (y3 : Int32) (y4 : Int32) (y6 : Int32) (y7 : Int32) (z0 : Int32) (z1 : Int32) (s : gS) : Prop := wpX12_inFrom y4 (y7 + 1) s (fun r12 s12 => k97 y2 y3 y4 (z1 + z0) y6 r12 s12)
set_option maxRecDepth 20000 in
theorem pX12_told_125 {l : Launch} {X : gX} {x1 : Int32}  {Q : Int32 → gS → Prop} {k97 : Int32 → Int32 → Int32 → Int32 → Int32 → Int32 → gS → Prop} (y2 : Int32) (y3 : Int32) (y4 : Int32) (y6 : Int32) (y7 : Int32) (z0 : Int32) (z1 : Int32) (s : gS) (h : wX12_told_125 x1 Q k97 y2 y3 y4 y6 y7 z0 z1 s) (hk97 : ∀ (y2 : Int32) (y3 : Int32) (y4 : Int32) (y5 : Int32) (y6 : Int32) (y7 : Int32) (s : gS), k97 y2 y3 y4 y5 y6 y7 s → Gw l mX12_told (g_rm 7 0 0) X 97 [some (.ref 177), none, some (.int y2), some (.int y3), some (.int y4), some (.int y5), some (.int y6), some (.int y7)] [] (nrm s) 0 0 (g_Z X (q_i Q) 0 0)) : Gw l mX12_told (g_rm 7 0 0) X 125 [some (.ref 177), none, some (.int y2), some (.int y3), some (.int y4), none, some (.int y6), some (.int y7)] [.int z0, .int z1] (nrm s) 0 0 (g_Z X (q_i Q) 0 0) := by
  refine r_iadd (pc := 125) dX12_told_125 ?_
  refine r_istore (pc := 126) (L' := [some (.ref 177), none, some (.int y2), some (.int y3), some (.int y4), some (.int (z1 + z0)), some (.int y6), some (.int y7)]) dX12_told_126 rfl (by decide) rfl ?_
  refine r_aload_n (pc := 128) (x := 177) dX12_told_128 rfl ?_
  refine r_iload (pc := 129) (x := y4) dX12_told_129 rfl ?_
  refine r_iload (pc := 131) (x := y7) dX12_told_131 rfl ?_
  refine r_iconst (pc := 133) (v := 1) dX12_told_133 (by decide) ?_
  refine r_iadd (pc := 134) dX12_told_134 ?_
  refine n_Vi0 (pc := 135) (S0 := []) (spX12_inFrom h) gmX12_inFrom selX12_inFrom lk_RX12_351 dX12_told_135 rfl (by decide) sh_177 ⟨rfl, by decide⟩ rfl ⟨Nat.le_of_ble_eq_true rfl, Nat.le_of_ble_eq_true rfl⟩ (Nat.le_of_ble_eq_true rfl) ⟨Nat.zero_le _, Nat.zero_le _⟩ (fun r12 s12 h => ?_)
  refine r_istore (pc := 138) (L' := [some (.ref 177), none, some (.int y2), some (.int y3), some (.int y4), some (.int (z1 + z0)), some (.int y6), some (.int r12)]) dX12_told_138 rfl (by decide) rfl ?_
  refine r_goto (pc := 140) (tgt := 97) dX12_told_140 (by decide) ?_
  refine n_L (L' := [some (.ref 177), none, some (.int y2), some (.int y3), some (.int y4), some (.int (z1 + z0)), some (.int y6), some (.int r12)]) (le_s (le_n (le_s (le_s (le_s (le_s (le_s (le_s (le_e))))))))) ?_
  exact hk97 _ _ _ _ _ _ _ h
def wX12_told_177 (x1 : Int32) (Q : Int32 → gS → Prop)  (y2 : Int32) (y3 : Int32) (y4 : Int32) (y5 : Int32) (z0 : Int64) (s : gS) : Prop := wpX12_tell z0 s (fun s10 => wpX12_tell y5.toInt64 s10 (fun s11 => Q (((100 * y2) + (10 * y3)) + y4) s11))
set_option maxRecDepth 20000 in
theorem pX12_told_177 {l : Launch} {X : gX} {x1 : Int32}  {Q : Int32 → gS → Prop}  (y2 : Int32) (y3 : Int32) (y4 : Int32) (y5 : Int32) (z0 : Int64) (s : gS) (h : wX12_told_177 x1 Q y2 y3 y4 y5 z0 s)  : Gw l mX12_told (g_rm 7 0 0) X 177 [some (.ref 177), none, some (.int y2), some (.int y3), some (.int y4), some (.int y5), none, none] [.long z0, .ref 177] (nrm s) 0 0 (g_Z X (q_i Q) 0 0) := by
  refine n_Vv0 (pc := 177) (S0 := []) (spX12_tell h) gmX12_tell selX12_tell lk_RX12_91 dX12_told_177 rfl (by decide) sh_177 ⟨rfl, by decide⟩ rfl ⟨Nat.le_of_ble_eq_true rfl, Nat.le_of_ble_eq_true rfl⟩ (Nat.le_of_ble_eq_true rfl) ⟨Nat.zero_le _, Nat.zero_le _⟩ (fun s10 h => ?_)
  refine r_aload_n (pc := 180) (x := 177) dX12_told_180 rfl ?_
  refine r_iload (pc := 181) (x := y5) dX12_told_181 rfl ?_
  refine r_i2l (pc := 183) dX12_told_183 ?_
  refine n_Vv0 (pc := 184) (S0 := []) (spX12_tell h) gmX12_tell selX12_tell lk_RX12_91 dX12_told_184 rfl (by decide) sh_177 ⟨rfl, by decide⟩ rfl ⟨Nat.le_of_ble_eq_true rfl, Nat.le_of_ble_eq_true rfl⟩ (Nat.le_of_ble_eq_true rfl) ⟨Nat.zero_le _, Nat.zero_le _⟩ (fun s11 h => ?_)
  refine r_bipush (pc := 187) (v := 100) dX12_told_187 (by decide) ?_
  refine r_iload_n (pc := 189) (x := y2) dX12_told_189 rfl ?_
  refine r_imul (pc := 190) dX12_told_190 ?_
  refine r_bipush (pc := 191) (v := 10) dX12_told_191 (by decide) ?_
  refine r_iload_n (pc := 193) (x := y3) dX12_told_193 rfl ?_
  refine r_imul (pc := 194) dX12_told_194 ?_
  refine r_iadd (pc := 195) dX12_told_195 ?_
  refine r_iload (pc := 196) (x := y4) dX12_told_196 rfl ?_
  refine r_iadd (pc := 198) dX12_told_198 ?_
  exact n_iret (pc := 199) dX12_told_199 rfl (Nat.le_refl _) (Nat.le_refl _) h
def wX12_told_97 (x1 : Int32) (Q : Int32 → gS → Prop) (k82 : Int32 → Int32 → Int32 → Int32 → Int32 → gS → Prop) : Nat → Int32 → Int32 → Int32 → Int32 → Int32 → Int32 → gS → Prop
  | 0, _, _, _, _, _, _, _ => False
  | n + 1, y2, y3, y4, y5, y6, y7, s => (y7 = (-1) → wpX12_inFrom y3 (y6 + 1) s (fun r7 s7 => k82 y2 y3 y4 y5 r7 s7)) ∧ (¬ (y7 = (-1)) → wpX12_holdsBy y2 y3 y6 y4 y7 s (fun r8 s8 => (r8 = 0 → wX12_told_125 x1 Q (fun y2 y3 y4 y5 y6 y7 s => wX12_told_97 x1 Q k82 n y2 y3 y4 y5 y6 y7 s) y2 y3 y4 y6 y7 0 y5 s8) ∧ (¬ (r8 = 0) → wX12_told_125 x1 Q (fun y2 y3 y4 y5 y6 y7 s => wX12_told_97 x1 Q k82 n y2 y3 y4 y5 y6 y7 s) y2 y3 y4 y6 y7 1 y5 s8)))
set_option maxRecDepth 20000 in
theorem pX12_told_97 {l : Launch} {X : gX} {x1 : Int32}  {Q : Int32 → gS → Prop} {k82 : Int32 → Int32 → Int32 → Int32 → Int32 → gS → Prop} : ∀ (n : Nat) (y2 : Int32) (y3 : Int32) (y4 : Int32) (y5 : Int32) (y6 : Int32) (y7 : Int32) (s : gS) (h : wX12_told_97 x1 Q k82 n y2 y3 y4 y5 y6 y7 s) (hk82 : ∀ (y2 : Int32) (y3 : Int32) (y4 : Int32) (y5 : Int32) (y6 : Int32) (s : gS), k82 y2 y3 y4 y5 y6 s → Gw l mX12_told (g_rm 7 0 0) X 82 [some (.ref 177), none, some (.int y2), some (.int y3), some (.int y4), some (.int y5), some (.int y6), none] [] (nrm s) 0 0 (g_Z X (q_i Q) 0 0)), Gw l mX12_told (g_rm 7 0 0) X 97 [some (.ref 177), none, some (.int y2), some (.int y3), some (.int y4), some (.int y5), some (.int y6), some (.int y7)] [] (nrm s) 0 0 (g_Z X (q_i Q) 0 0) := by
  intro n
  induction n with
  | zero => intro y2 y3 y4 y5 y6 y7 s h; exact h.elim
  | succ n ih0 =>
    intro y2 y3 y4 y5 y6 y7 s h hk82
    have ih : ∀ (y2 : Int32) (y3 : Int32) (y4 : Int32) (y5 : Int32) (y6 : Int32) (y7 : Int32) (s : gS), wX12_told_97 x1 Q k82 n y2 y3 y4 y5 y6 y7 s → Gw l mX12_told (g_rm 7 0 0) X 97 [some (.ref 177), none, some (.int y2), some (.int y3), some (.int y4), some (.int y5), some (.int y6), some (.int y7)] [] (nrm s) 0 0 (g_Z X (q_i Q) 0 0) := fun y2 y3 y4 y5 y6 y7 s h => ih0 y2 y3 y4 y5 y6 y7 s h hk82
    refine r_iload (pc := 97) (x := y7) dX12_told_97 rfl ?_
    refine r_iconst (pc := 99) (v := (-1)) dX12_told_99 (by decide) ?_
    refine r_icmp_eq (pc := 100) (tgt := 143) dX12_told_100 (by decide) (fun c => ?_) (fun c => ?_)
    · replace h := h.1 c
      refine r_aload_n (pc := 143) (x := 177) dX12_told_143 rfl ?_
      refine r_iload_n (pc := 144) (x := y3) dX12_told_144 rfl ?_
      refine r_iload (pc := 145) (x := y6) dX12_told_145 rfl ?_
      refine r_iconst (pc := 147) (v := 1) dX12_told_147 (by decide) ?_
      refine r_iadd (pc := 148) dX12_told_148 ?_
      refine n_Vi0 (pc := 149) (S0 := []) (spX12_inFrom h) gmX12_inFrom selX12_inFrom lk_RX12_351 dX12_told_149 rfl (by decide) sh_177 ⟨rfl, by decide⟩ rfl ⟨Nat.le_of_ble_eq_true rfl, Nat.le_of_ble_eq_true rfl⟩ (Nat.le_of_ble_eq_true rfl) ⟨Nat.zero_le _, Nat.zero_le _⟩ (fun r7 s7 h => ?_)
      refine r_istore (pc := 152) (L' := [some (.ref 177), none, some (.int y2), some (.int y3), some (.int y4), some (.int y5), some (.int r7), some (.int y7)]) dX12_told_152 rfl (by decide) rfl ?_
      refine r_goto (pc := 154) (tgt := 82) dX12_told_154 (by decide) ?_
      refine n_L (L' := [some (.ref 177), none, some (.int y2), some (.int y3), some (.int y4), some (.int y5), some (.int r7), none]) (le_s (le_n (le_s (le_s (le_s (le_s (le_s (le_n (le_e))))))))) ?_
      exact hk82 _ _ _ _ _ _ h
    · replace h := h.2 c
      refine r_iload (pc := 103) (x := y5) dX12_told_103 rfl ?_
      refine r_aload_n (pc := 105) (x := 177) dX12_told_105 rfl ?_
      refine r_iload_n (pc := 106) (x := y2) dX12_told_106 rfl ?_
      refine r_iload_n (pc := 107) (x := y3) dX12_told_107 rfl ?_
      refine r_iload (pc := 108) (x := y6) dX12_told_108 rfl ?_
      refine r_iload (pc := 110) (x := y4) dX12_told_110 rfl ?_
      refine r_iload (pc := 112) (x := y7) dX12_told_112 rfl ?_
      refine n_Vi0 (pc := 114) (S0 := [.int y5]) (spX12_holdsBy h) gmX12_holdsBy selX12_holdsBy lk_RX12_347 dX12_told_114 rfl (by decide) sh_177 ⟨rfl, by decide⟩ rfl ⟨Nat.le_of_ble_eq_true rfl, Nat.le_of_ble_eq_true rfl⟩ (Nat.le_of_ble_eq_true rfl) ⟨Nat.zero_le _, Nat.zero_le _⟩ (fun r8 s8 h => ?_)
      refine r_if_eq (pc := 117) (tgt := 124) dX12_told_117 (by decide) (fun c => ?_) (fun c => ?_)
      · replace h := h.1 c
        refine r_iconst (pc := 124) (v := 0) dX12_told_124 (by decide) ?_
        refine n_L (L' := [some (.ref 177), none, some (.int y2), some (.int y3), some (.int y4), none, some (.int y6), some (.int y7)]) (le_s (le_n (le_s (le_s (le_s (le_n (le_s (le_s (le_e))))))))) ?_
        exact pX12_told_125  _ _ _ _ _ _ _ _ h ih
      · replace h := h.2 c
        refine r_iconst (pc := 120) (v := 1) dX12_told_120 (by decide) ?_
        refine r_goto (pc := 121) (tgt := 125) dX12_told_121 (by decide) ?_
        refine n_L (L' := [some (.ref 177), none, some (.int y2), some (.int y3), some (.int y4), none, some (.int y6), some (.int y7)]) (le_s (le_n (le_s (le_s (le_s (le_n (le_s (le_s (le_e))))))))) ?_
        exact pX12_told_125  _ _ _ _ _ _ _ _ h ih
def wX12_told_82 (x1 : Int32) (Q : Int32 → gS → Prop)  : Nat → Int32 → Int32 → Int32 → Int32 → Int32 → gS → Prop
  | 0, _, _, _, _, _, _ => False
  | n + 1, y2, y3, y4, y5, y6, s => (y6 = (-1) → (¬ (gi (wi s 177 4 0) 177 17) = 0 → wX12_told_177 x1 Q y2 y3 y4 y5 1 (wi s 177 4 0)) ∧ ((gi (wi s 177 4 0) 177 17) = 0 → wX12_told_177 x1 Q y2 y3 y4 y5 2 (wi s 177 4 0))) ∧ (¬ (y6 = (-1)) → wpX12_inFrom y4 0 s (fun r9 s9 => ∃ n97, wX12_told_97 x1 Q (fun y2 y3 y4 y5 y6 s => wX12_told_82 x1 Q n y2 y3 y4 y5 y6 s) n97 y2 y3 y4 y5 y6 r9 s9))
set_option maxRecDepth 20000 in
theorem pX12_told_82 {l : Launch} {X : gX} {x1 : Int32}  {Q : Int32 → gS → Prop}  : ∀ (n : Nat) (y2 : Int32) (y3 : Int32) (y4 : Int32) (y5 : Int32) (y6 : Int32) (s : gS) (h : wX12_told_82 x1 Q n y2 y3 y4 y5 y6 s) , Gw l mX12_told (g_rm 7 0 0) X 82 [some (.ref 177), none, some (.int y2), some (.int y3), some (.int y4), some (.int y5), some (.int y6), none] [] (nrm s) 0 0 (g_Z X (q_i Q) 0 0) := by
  intro n
  induction n with
  | zero => intro y2 y3 y4 y5 y6 s h; exact h.elim
  | succ n ih0 =>
    intro y2 y3 y4 y5 y6 s h 
    have ih : ∀ (y2 : Int32) (y3 : Int32) (y4 : Int32) (y5 : Int32) (y6 : Int32) (s : gS), wX12_told_82 x1 Q n y2 y3 y4 y5 y6 s → Gw l mX12_told (g_rm 7 0 0) X 82 [some (.ref 177), none, some (.int y2), some (.int y3), some (.int y4), some (.int y5), some (.int y6), none] [] (nrm s) 0 0 (g_Z X (q_i Q) 0 0) := fun y2 y3 y4 y5 y6 s h => ih0 y2 y3 y4 y5 y6 s h 
    refine r_iload (pc := 82) (x := y6) dX12_told_82 rfl ?_
    refine r_iconst (pc := 84) (v := (-1)) dX12_told_84 (by decide) ?_
    refine r_icmp_eq (pc := 85) (tgt := 157) dX12_told_85 (by decide) (fun c => ?_) (fun c => ?_)
    · replace h := h.1 c
      refine r_aload_n (pc := 157) (x := 177) dX12_told_157 rfl ?_
      refine r_iconst (pc := 158) (v := 0) dX12_told_158 (by decide) ?_
      refine n_putI (pc := 159) (j := 4) dX12_told_159 fl_RX12_59 fw_12_4 (by decide) sh_177 rfl rfl ?_
      refine r_aload_n (pc := 162) (x := 177) dX12_told_162 rfl ?_
      refine r_aload_n (pc := 163) (x := 177) dX12_told_163 rfl ?_
      refine n_getI (pc := 164) (j := 17) dX12_told_164 fl_RX12_357 (by decide) sh_177 rfl rfl ?_
      refine r_if_ne (pc := 167) (tgt := 176) dX12_told_167 (by decide) (fun c => ?_) (fun c => ?_)
      · replace h := h.1 c
        refine r_lconst (pc := 176) (v := 1) dX12_told_176 (by decide) ?_
        refine n_L (L' := [some (.ref 177), none, some (.int y2), some (.int y3), some (.int y4), some (.int y5), none, none]) (le_s (le_n (le_s (le_s (le_s (le_s (le_n (le_n (le_e))))))))) ?_
        exact pX12_told_177  _ _ _ _ _ _ h 
      · replace h := h.2 c
        refine r_ldc2 (pc := 170) (v := 2) dX12_told_170 kc_RX12_406 ?_
        refine r_goto (pc := 173) (tgt := 177) dX12_told_173 (by decide) ?_
        refine n_L (L' := [some (.ref 177), none, some (.int y2), some (.int y3), some (.int y4), some (.int y5), none, none]) (le_s (le_n (le_s (le_s (le_s (le_s (le_n (le_n (le_e))))))))) ?_
        exact pX12_told_177  _ _ _ _ _ _ h 
    · replace h := h.2 c
      refine r_aload_n (pc := 88) (x := 177) dX12_told_88 rfl ?_
      refine r_iload (pc := 89) (x := y4) dX12_told_89 rfl ?_
      refine r_iconst (pc := 91) (v := 0) dX12_told_91 (by decide) ?_
      refine n_Vi0 (pc := 92) (S0 := []) (spX12_inFrom h) gmX12_inFrom selX12_inFrom lk_RX12_351 dX12_told_92 rfl (by decide) sh_177 ⟨rfl, by decide⟩ rfl ⟨Nat.le_of_ble_eq_true rfl, Nat.le_of_ble_eq_true rfl⟩ (Nat.le_of_ble_eq_true rfl) ⟨Nat.zero_le _, Nat.zero_le _⟩ (fun r9 s9 h => ?_)
      refine r_istore (pc := 95) (L' := [some (.ref 177), none, some (.int y2), some (.int y3), some (.int y4), some (.int y5), some (.int y6), some (.int r9)]) dX12_told_95 rfl (by decide) rfl ?_
      refine n_L (L' := [some (.ref 177), none, some (.int y2), some (.int y3), some (.int y4), some (.int y5), some (.int y6), some (.int r9)]) (le_s (le_n (le_s (le_s (le_s (le_s (le_s (le_s (le_e))))))))) ?_
      obtain ⟨n, h⟩ := h
      exact pX12_told_97  n _ _ _ _ _ _ _ h ih
def wpX12_told (x1 : Int32) (s : gS) (Q : Int32 → gS → Prop) : Prop := wpX12_in x1 0 ((gi (wi s 177 5 0) 178 1) - 1) (wi s 177 5 0) (fun r1 s1 => (¬ r1 = 0 → vp_in (188 + (3 * x1)) 218 ∧ (vp_in ((188 + (3 * x1)) + 1) 218 ∧ (vp_in ((188 + (3 * x1)) + 2) 218 ∧ (wpX12_survey s1 (fun s5 => wpX12_inFrom (gi s1 178 (ix ((188 + (3 * x1)) + 1))) 0 s5 (fun r6 s6 => ∃ n82, wX12_told_82 x1 Q n82 (gi s1 178 (ix (188 + (3 * x1)))) (gi s1 178 (ix ((188 + (3 * x1)) + 1))) (gi s1 178 (ix ((188 + (3 * x1)) + 2))) 0 r6 s6)))))) ∧ (r1 = 0 → Q (-1) s1))
set_option maxRecDepth 20000 in
theorem spX12_told {l : Launch} {x1 : Int32}  {s : gS} {Q : Int32 → gS → Prop} (h : wpX12_told x1 s Q) : Ct l mX12_told 7 0 0 [.ref 177, .int x1] (nrm s) (q_i Q) := by
  refine Ct.of (by decide) (Nat.le_of_ble_eq_true rfl) (fun X => ?_)
  refine n_L (L' := [some (.ref 177), some (.int x1), none, none, none, none, none, none]) (le_s (le_s (le_p (le_p (le_p (le_p (le_p (le_p (le_e))))))))) ?_
  refine r_aload_n (pc := 0) (x := 177) dX12_told_0 rfl ?_
  refine r_iconst (pc := 1) (v := 0) dX12_told_1 (by decide) ?_
  refine n_putI (pc := 2) (j := 5) dX12_told_2 fl_RX12_55 fw_12_5 (by decide) sh_177 rfl rfl ?_
  refine r_iload_n (pc := 5) (x := x1) dX12_told_5 rfl ?_
  refine r_iconst (pc := 6) (v := 0) dX12_told_6 (by decide) ?_
  refine r_aload_n (pc := 7) (x := 177) dX12_told_7 rfl ?_
  refine n_getR (pc := 8) (j := 0) (q := 178) dX12_told_8 fl_RX12_9 (by decide) sh_177 rfl rfl rfl ?_
  refine r_iconst (pc := 11) (v := 1) dX12_told_11 (by decide) ?_
  refine n_iald (pc := 12) (j := 1) dX12_told_12 (by decide) sh_178 (vp_inc (by decide)) (by decide) ?_
  refine r_iconst (pc := 13) (v := 1) dX12_told_13 (by decide) ?_
  refine r_isub (pc := 14) dX12_told_14 ?_
  refine n_Si0 (pc := 15) (S0 := []) (spX12_in h) gmX12_in lk_RX12_62 dX12_told_15 rfl rfl ⟨Nat.le_of_ble_eq_true rfl, Nat.le_of_ble_eq_true rfl⟩ (Nat.le_of_ble_eq_true rfl) ⟨Nat.zero_le _, Nat.zero_le _⟩ (fun r1 s1 h => ?_)
  refine r_if_ne (pc := 18) (tgt := 23) dX12_told_18 (by decide) (fun c => ?_) (fun c => ?_)
  · replace h := h.1 c
    refine r_aload_n (pc := 23) (x := 177) dX12_told_23 rfl ?_
    refine n_getR (pc := 24) (j := 0) (q := 178) dX12_told_24 fl_RX12_9 (by decide) sh_177 rfl rfl rfl ?_
    refine r_sipush (pc := 27) (v := 188) dX12_told_27 (by decide) ?_
    refine r_iconst (pc := 30) (v := 3) dX12_told_30 (by decide) ?_
    refine r_iload_n (pc := 31) (x := x1) dX12_told_31 rfl ?_
    refine r_imul (pc := 32) dX12_told_32 ?_
    refine r_iadd (pc := 33) dX12_told_33 ?_
    obtain ⟨b2, h⟩ := h
    refine n_iald (pc := 34) (j := (ix (188 + (3 * x1)))) dX12_told_34 (by decide) sh_178 b2 rfl ?_
    refine r_istore_n (pc := 35) (L' := [some (.ref 177), some (.int x1), some (.int (gi s1 178 (ix (188 + (3 * x1))))), none, none, none, none, none]) dX12_told_35 rfl (by decide) rfl ?_
    refine r_aload_n (pc := 36) (x := 177) dX12_told_36 rfl ?_
    refine n_getR (pc := 37) (j := 0) (q := 178) dX12_told_37 fl_RX12_9 (by decide) sh_177 rfl rfl rfl ?_
    refine r_sipush (pc := 40) (v := 188) dX12_told_40 (by decide) ?_
    refine r_iconst (pc := 43) (v := 3) dX12_told_43 (by decide) ?_
    refine r_iload_n (pc := 44) (x := x1) dX12_told_44 rfl ?_
    refine r_imul (pc := 45) dX12_told_45 ?_
    refine r_iadd (pc := 46) dX12_told_46 ?_
    refine r_iconst (pc := 47) (v := 1) dX12_told_47 (by decide) ?_
    refine r_iadd (pc := 48) dX12_told_48 ?_
    obtain ⟨b3, h⟩ := h
    refine n_iald (pc := 49) (j := (ix ((188 + (3 * x1)) + 1))) dX12_told_49 (by decide) sh_178 b3 rfl ?_
    refine r_istore_n (pc := 50) (L' := [some (.ref 177), some (.int x1), some (.int (gi s1 178 (ix (188 + (3 * x1))))), some (.int (gi s1 178 (ix ((188 + (3 * x1)) + 1)))), none, none, none, none]) dX12_told_50 rfl (by decide) rfl ?_
    refine r_aload_n (pc := 51) (x := 177) dX12_told_51 rfl ?_
    refine n_getR (pc := 52) (j := 0) (q := 178) dX12_told_52 fl_RX12_9 (by decide) sh_177 rfl rfl rfl ?_
    refine r_sipush (pc := 55) (v := 188) dX12_told_55 (by decide) ?_
    refine r_iconst (pc := 58) (v := 3) dX12_told_58 (by decide) ?_
    refine r_iload_n (pc := 59) (x := x1) dX12_told_59 rfl ?_
    refine r_imul (pc := 60) dX12_told_60 ?_
    refine r_iadd (pc := 61) dX12_told_61 ?_
    refine r_iconst (pc := 62) (v := 2) dX12_told_62 (by decide) ?_
    refine r_iadd (pc := 63) dX12_told_63 ?_
    obtain ⟨b4, h⟩ := h
    refine n_iald (pc := 64) (j := (ix ((188 + (3 * x1)) + 2))) dX12_told_64 (by decide) sh_178 b4 rfl ?_
    refine r_istore (pc := 65) (L' := [some (.ref 177), some (.int x1), some (.int (gi s1 178 (ix (188 + (3 * x1))))), some (.int (gi s1 178 (ix ((188 + (3 * x1)) + 1)))), some (.int (gi s1 178 (ix ((188 + (3 * x1)) + 2)))), none, none, none]) dX12_told_65 rfl (by decide) rfl ?_
    refine r_aload_n (pc := 67) (x := 177) dX12_told_67 rfl ?_
    refine n_Vv0 (pc := 68) (S0 := []) (spX12_survey h) gmX12_survey selX12_survey lk_RX12_388 dX12_told_68 rfl (by decide) sh_177 ⟨rfl, by decide⟩ rfl ⟨Nat.le_of_ble_eq_true rfl, Nat.le_of_ble_eq_true rfl⟩ (Nat.le_of_ble_eq_true rfl) ⟨Nat.zero_le _, Nat.zero_le _⟩ (fun s5 h => ?_)
    refine r_iconst (pc := 71) (v := 0) dX12_told_71 (by decide) ?_
    refine r_istore (pc := 72) (L' := [some (.ref 177), some (.int x1), some (.int (gi s1 178 (ix (188 + (3 * x1))))), some (.int (gi s1 178 (ix ((188 + (3 * x1)) + 1)))), some (.int (gi s1 178 (ix ((188 + (3 * x1)) + 2)))), some (.int 0), none, none]) dX12_told_72 rfl (by decide) rfl ?_
    refine r_aload_n (pc := 74) (x := 177) dX12_told_74 rfl ?_
    refine r_iload_n (pc := 75) (x := gi s1 178 (ix ((188 + (3 * x1)) + 1))) dX12_told_75 rfl ?_
    refine r_iconst (pc := 76) (v := 0) dX12_told_76 (by decide) ?_
    refine n_Vi0 (pc := 77) (S0 := []) (spX12_inFrom h) gmX12_inFrom selX12_inFrom lk_RX12_351 dX12_told_77 rfl (by decide) sh_177 ⟨rfl, by decide⟩ rfl ⟨Nat.le_of_ble_eq_true rfl, Nat.le_of_ble_eq_true rfl⟩ (Nat.le_of_ble_eq_true rfl) ⟨Nat.zero_le _, Nat.zero_le _⟩ (fun r6 s6 h => ?_)
    refine r_istore (pc := 80) (L' := [some (.ref 177), some (.int x1), some (.int (gi s1 178 (ix (188 + (3 * x1))))), some (.int (gi s1 178 (ix ((188 + (3 * x1)) + 1)))), some (.int (gi s1 178 (ix ((188 + (3 * x1)) + 2)))), some (.int 0), some (.int r6), none]) dX12_told_80 rfl (by decide) rfl ?_
    refine n_L (L' := [some (.ref 177), none, some (.int (gi s1 178 (ix (188 + (3 * x1))))), some (.int (gi s1 178 (ix ((188 + (3 * x1)) + 1)))), some (.int (gi s1 178 (ix ((188 + (3 * x1)) + 2)))), some (.int 0), some (.int r6), none]) (le_s (le_n (le_s (le_s (le_s (le_s (le_s (le_n (le_e))))))))) ?_
    obtain ⟨n, h⟩ := h
    exact pX12_told_82  n _ _ _ _ _ _ h 
  · replace h := h.2 c
    refine r_iconst (pc := 21) (v := (-1)) dX12_told_21 (by decide) ?_
    exact n_iret (pc := 22) dX12_told_22 rfl (Nat.le_refl _) (Nat.le_refl _) h
def wpX12_choices  (s : gS) (Q : Int32 → gS → Prop) : Prop := wpX12_survey (wi s 177 5 0) (fun s1 => wpX12_tell ((gi (wi s1 177 4 0) 177 18).toInt64) (wi s1 177 4 0) (fun s2 => Q (gi s2 177 17) s2))
set_option maxRecDepth 20000 in
theorem spX12_choices {l : Launch}   {s : gS} {Q : Int32 → gS → Prop} (h : wpX12_choices  s Q) : Ct l mX12_choices 7 0 0 [.ref 177] (nrm s) (q_i Q) := by
  refine Ct.of (by decide) (Nat.le_of_ble_eq_true rfl) (fun X => ?_)
  refine n_L (L' := [some (.ref 177)]) (le_s (le_e)) ?_
  refine r_aload_n (pc := 0) (x := 177) dX12_choices_0 rfl ?_
  refine r_iconst (pc := 1) (v := 0) dX12_choices_1 (by decide) ?_
  refine n_putI (pc := 2) (j := 5) dX12_choices_2 fl_RX12_55 fw_12_5 (by decide) sh_177 rfl rfl ?_
  refine r_aload_n (pc := 5) (x := 177) dX12_choices_5 rfl ?_
  refine n_Vv0 (pc := 6) (S0 := []) (spX12_survey h) gmX12_survey selX12_survey lk_RX12_388 dX12_choices_6 rfl (by decide) sh_177 ⟨rfl, by decide⟩ rfl ⟨Nat.le_of_ble_eq_true rfl, Nat.le_of_ble_eq_true rfl⟩ (Nat.le_of_ble_eq_true rfl) ⟨Nat.zero_le _, Nat.zero_le _⟩ (fun s1 h => ?_)
  refine r_aload_n (pc := 9) (x := 177) dX12_choices_9 rfl ?_
  refine r_iconst (pc := 10) (v := 0) dX12_choices_10 (by decide) ?_
  refine n_putI (pc := 11) (j := 4) dX12_choices_11 fl_RX12_59 fw_12_4 (by decide) sh_177 rfl rfl ?_
  refine r_aload_n (pc := 14) (x := 177) dX12_choices_14 rfl ?_
  refine r_aload_n (pc := 15) (x := 177) dX12_choices_15 rfl ?_
  refine n_getI (pc := 16) (j := 18) dX12_choices_16 fl_RX12_360 (by decide) sh_177 rfl rfl ?_
  refine r_i2l (pc := 19) dX12_choices_19 ?_
  refine n_Vv0 (pc := 20) (S0 := []) (spX12_tell h) gmX12_tell selX12_tell lk_RX12_91 dX12_choices_20 rfl (by decide) sh_177 ⟨rfl, by decide⟩ rfl ⟨Nat.le_of_ble_eq_true rfl, Nat.le_of_ble_eq_true rfl⟩ (Nat.le_of_ble_eq_true rfl) ⟨Nat.zero_le _, Nat.zero_le _⟩ (fun s2 h => ?_)
  refine r_aload_n (pc := 23) (x := 177) dX12_choices_23 rfl ?_
  refine n_getI (pc := 24) (j := 17) dX12_choices_24 fl_RX12_357 (by decide) sh_177 rfl rfl ?_
  exact n_iret (pc := 27) dX12_choices_27 rfl (Nat.le_refl _) (Nat.le_refl _) h
def wX12_tellPicks_7 (a1 : Nat) (Q : gS → Prop)  : Nat → Int32 → gS → Prop
  | 0, _, _ => False
  | n + 1, y2, s => (6 ≤ y2 → Q s) ∧ (¬ (6 ≤ y2) → vp_in y2 6 ∧ (wpX12_tell ((gi s a1 (ix y2)).toInt64) s (fun s2 => wX12_tellPicks_7 a1 Q n (y2 + 1) s2)))
set_option maxRecDepth 20000 in
theorem pX12_tellPicks_7 {l : Launch} {X : gX} {a1 : Nat} (ha1 : isA6 a1) {Q : gS → Prop}  : ∀ (n : Nat) (y2 : Int32) (s : gS) (h : wX12_tellPicks_7 a1 Q n y2 s) , Gw l mX12_tellPicks (g_rm 2 0 0) X 7 [some (.ref 177), some (.ref a1), some (.int y2)] [] (nrm s) 0 0 (g_Z X (q_v Q) 0 0) := by
  intro n
  induction n with
  | zero => intro y2 s h; exact h.elim
  | succ n ih0 =>
    intro y2 s h 
    have ih : ∀ (y2 : Int32) (s : gS), wX12_tellPicks_7 a1 Q n y2 s → Gw l mX12_tellPicks (g_rm 2 0 0) X 7 [some (.ref 177), some (.ref a1), some (.int y2)] [] (nrm s) 0 0 (g_Z X (q_v Q) 0 0) := fun y2 s h => ih0 y2 s h 
    refine r_iload_n (pc := 7) (x := y2) dX12_tellPicks_7 rfl ?_
    refine r_bipush (pc := 8) (v := 6) dX12_tellPicks_8 (by decide) ?_
    refine r_icmp_ge (pc := 10) (tgt := 27) dX12_tellPicks_10 (by decide) (fun c => ?_) (fun c => ?_)
    · replace h := h.1 c
      exact n_vret (pc := 27) dX12_tellPicks_27 rfl (Nat.le_refl _) (Nat.le_refl _) h
    · replace h := h.2 c
      refine r_aload_n (pc := 13) (x := 177) dX12_tellPicks_13 rfl ?_
      refine r_aload_n (pc := 14) (x := a1) dX12_tellPicks_14 rfl ?_
      refine r_iload_n (pc := 15) (x := y2) dX12_tellPicks_15 rfl ?_
      obtain ⟨b1, h⟩ := h
      refine n_iald (pc := 16) (j := (ix y2)) dX12_tellPicks_16 (lt_A6 ha1) (sh_A6 ha1) b1 rfl ?_
      refine r_i2l (pc := 17) dX12_tellPicks_17 ?_
      refine n_Vv0 (pc := 18) (S0 := []) (spX12_tell h) gmX12_tell selX12_tell lk_RX12_91 dX12_tellPicks_18 rfl (by decide) sh_177 ⟨rfl, by decide⟩ rfl ⟨Nat.le_of_ble_eq_true rfl, Nat.le_of_ble_eq_true rfl⟩ (Nat.le_of_ble_eq_true rfl) ⟨Nat.zero_le _, Nat.zero_le _⟩ (fun s2 h => ?_)
      refine n_iinc (pc := 21) (x := y2) (w := 1) (L' := [some (.ref 177), some (.ref a1), some (.int (y2 + 1))]) dX12_tellPicks_21 rfl (by decide) rfl (by decide) rfl ?_
      refine r_goto (pc := 24) (tgt := 7) dX12_tellPicks_24 (by decide) ?_
      refine n_L (L' := [some (.ref 177), some (.ref a1), some (.int (y2 + 1))]) (le_s (le_s (le_s (le_e)))) ?_
      exact ih _ _ h
def wpX12_tellPicks (a1 : Nat) (s : gS) (Q : gS → Prop) : Prop := ∃ n7, wX12_tellPicks_7 a1 Q n7 0 (wi s 177 4 0)
set_option maxRecDepth 20000 in
theorem spX12_tellPicks {l : Launch} {a1 : Nat} (ha1 : isA6 a1) {s : gS} {Q : gS → Prop} (h : wpX12_tellPicks a1 s Q) : Ct l mX12_tellPicks 2 0 0 [.ref 177, .ref a1] (nrm s) (q_v Q) := by
  refine Ct.of (by decide) (Nat.le_of_ble_eq_true rfl) (fun X => ?_)
  refine n_L (L' := [some (.ref 177), some (.ref a1), none]) (le_s (le_s (le_p (le_e)))) ?_
  refine r_aload_n (pc := 0) (x := 177) dX12_tellPicks_0 rfl ?_
  refine r_iconst (pc := 1) (v := 0) dX12_tellPicks_1 (by decide) ?_
  refine n_putI (pc := 2) (j := 4) dX12_tellPicks_2 fl_RX12_59 fw_12_4 (by decide) sh_177 rfl rfl ?_
  refine r_iconst (pc := 5) (v := 0) dX12_tellPicks_5 (by decide) ?_
  refine r_istore_n (pc := 6) (L' := [some (.ref 177), some (.ref a1), some (.int 0)]) dX12_tellPicks_6 rfl (by decide) rfl ?_
  refine n_L (L' := [some (.ref 177), some (.ref a1), some (.int 0)]) (le_s (le_s (le_s (le_e)))) ?_
  obtain ⟨n, h⟩ := h
  exact pX12_tellPicks_7 ha1 n _ _ h 
def wpX12_best  (s : gS) (Q : Int32 → gS → Prop) : Prop := wpX12_survey (wi s 177 5 0) (fun s1 => (¬ (gi s1 177 17) = 0 → wpX12_tellPicks 184 s1 (fun s2 => Q (gi s2 177 21) s2)) ∧ ((gi s1 177 17) = 0 → Q (-2) s1))
set_option maxRecDepth 20000 in
theorem spX12_best {l : Launch}   {s : gS} {Q : Int32 → gS → Prop} (h : wpX12_best  s Q) : Ct l mX12_best 7 0 0 [.ref 177] (nrm s) (q_i Q) := by
  refine Ct.of (by decide) (Nat.le_of_ble_eq_true rfl) (fun X => ?_)
  refine n_L (L' := [some (.ref 177)]) (le_s (le_e)) ?_
  refine r_aload_n (pc := 0) (x := 177) dX12_best_0 rfl ?_
  refine r_iconst (pc := 1) (v := 0) dX12_best_1 (by decide) ?_
  refine n_putI (pc := 2) (j := 5) dX12_best_2 fl_RX12_55 fw_12_5 (by decide) sh_177 rfl rfl ?_
  refine r_aload_n (pc := 5) (x := 177) dX12_best_5 rfl ?_
  refine n_Vv0 (pc := 6) (S0 := []) (spX12_survey h) gmX12_survey selX12_survey lk_RX12_388 dX12_best_6 rfl (by decide) sh_177 ⟨rfl, by decide⟩ rfl ⟨Nat.le_of_ble_eq_true rfl, Nat.le_of_ble_eq_true rfl⟩ (Nat.le_of_ble_eq_true rfl) ⟨Nat.zero_le _, Nat.zero_le _⟩ (fun s1 h => ?_)
  refine r_aload_n (pc := 9) (x := 177) dX12_best_9 rfl ?_
  refine n_getI (pc := 10) (j := 17) dX12_best_10 fl_RX12_357 (by decide) sh_177 rfl rfl ?_
  refine r_if_ne (pc := 13) (tgt := 19) dX12_best_13 (by decide) (fun c => ?_) (fun c => ?_)
  · replace h := h.1 c
    refine r_aload_n (pc := 19) (x := 177) dX12_best_19 rfl ?_
    refine r_aload_n (pc := 20) (x := 177) dX12_best_20 rfl ?_
    refine n_getR (pc := 21) (j := 20) (q := 184) dX12_best_21 fl_RX12_30 (by decide) sh_177 rfl rfl rfl ?_
    refine n_Vv0 (pc := 24) (S0 := []) (spX12_tellPicks (by unfold isA6; decide) h) gmX12_tellPicks selX12_tellPicks lk_RX12_408 dX12_best_24 rfl (by decide) sh_177 ⟨rfl, by decide⟩ rfl ⟨Nat.le_of_ble_eq_true rfl, Nat.le_of_ble_eq_true rfl⟩ (Nat.le_of_ble_eq_true rfl) ⟨Nat.zero_le _, Nat.zero_le _⟩ (fun s2 h => ?_)
    refine r_aload_n (pc := 27) (x := 177) dX12_best_27 rfl ?_
    refine n_getI (pc := 28) (j := 21) dX12_best_28 fl_RX12_363 (by decide) sh_177 rfl rfl ?_
    exact n_iret (pc := 31) dX12_best_31 rfl (Nat.le_refl _) (Nat.le_refl _) h
  · replace h := h.2 c
    refine r_bipush (pc := 16) (v := (-2)) dX12_best_16 (by decide) ?_
    exact n_iret (pc := 18) dX12_best_18 rfl (Nat.le_refl _) (Nat.le_refl _) h
def wX12_isOther_2  (Q : Int32 → gS → Prop)  : Nat → Int32 → gS → Prop
  | 0, _, _ => False
  | n + 1, y1, s => (6 ≤ y1 → Q 1 s) ∧ (¬ (6 ≤ y1) → wpX12_leftMany y1 s (fun r1 s1 => (r1 ≤ 1 → wX12_isOther_2  Q n (y1 + 1) s1) ∧ (¬ (r1 ≤ 1) → vp_in y1 6 ∧ (vp_in y1 6 ∧ ((¬ (gi s1 182 (ix y1)) = (gi s1 184 (ix y1)) → wX12_isOther_2  Q n (y1 + 1) s1) ∧ ((gi s1 182 (ix y1)) = (gi s1 184 (ix y1)) → Q 0 s1))))))
set_option maxRecDepth 20000 in
theorem pX12_isOther_2 {l : Launch} {X : gX}   {Q : Int32 → gS → Prop}  : ∀ (n : Nat) (y1 : Int32) (s : gS) (h : wX12_isOther_2  Q n y1 s) , Gw l mX12_isOther (g_rm 3 0 0) X 2 [some (.ref 177), some (.int y1)] [] (nrm s) 0 0 (g_Z X (q_i Q) 0 0) := by
  intro n
  induction n with
  | zero => intro y1 s h; exact h.elim
  | succ n ih0 =>
    intro y1 s h 
    have ih : ∀ (y1 : Int32) (s : gS), wX12_isOther_2  Q n y1 s → Gw l mX12_isOther (g_rm 3 0 0) X 2 [some (.ref 177), some (.int y1)] [] (nrm s) 0 0 (g_Z X (q_i Q) 0 0) := fun y1 s h => ih0 y1 s h 
    refine r_iload_n (pc := 2) (x := y1) dX12_isOther_2 rfl ?_
    refine r_bipush (pc := 3) (v := 6) dX12_isOther_3 (by decide) ?_
    refine r_icmp_ge (pc := 5) (tgt := 40) dX12_isOther_5 (by decide) (fun c => ?_) (fun c => ?_)
    · replace h := h.1 c
      refine r_iconst (pc := 40) (v := 1) dX12_isOther_40 (by decide) ?_
      exact n_zret (pc := 41) dX12_isOther_41 rfl (by decide) (Nat.le_refl _) (Nat.le_refl _) h
    · replace h := h.2 c
      refine r_aload_n (pc := 8) (x := 177) dX12_isOther_8 rfl ?_
      refine r_iload_n (pc := 9) (x := y1) dX12_isOther_9 rfl ?_
      refine n_Vi0 (pc := 10) (S0 := []) (spX12_leftMany h) gmX12_leftMany selX12_leftMany lk_RX12_385 dX12_isOther_10 rfl (by decide) sh_177 ⟨rfl, by decide⟩ rfl ⟨Nat.le_of_ble_eq_true rfl, Nat.le_of_ble_eq_true rfl⟩ (Nat.le_of_ble_eq_true rfl) ⟨Nat.zero_le _, Nat.zero_le _⟩ (fun r1 s1 h => ?_)
      refine r_iconst (pc := 13) (v := 1) dX12_isOther_13 (by decide) ?_
      refine r_icmp_le (pc := 14) (tgt := 34) dX12_isOther_14 (by decide) (fun c => ?_) (fun c => ?_)
      · replace h := h.1 c
        refine n_iinc (pc := 34) (x := y1) (w := 1) (L' := [some (.ref 177), some (.int (y1 + 1))]) dX12_isOther_34 rfl (by decide) rfl (by decide) rfl ?_
        refine r_goto (pc := 37) (tgt := 2) dX12_isOther_37 (by decide) ?_
        refine n_L (L' := [some (.ref 177), some (.int (y1 + 1))]) (le_s (le_s (le_e))) ?_
        exact ih _ _ h
      · replace h := h.2 c
        refine r_aload_n (pc := 17) (x := 177) dX12_isOther_17 rfl ?_
        refine n_getR (pc := 18) (j := 16) (q := 182) dX12_isOther_18 fl_RX12_24 (by decide) sh_177 rfl rfl rfl ?_
        refine r_iload_n (pc := 21) (x := y1) dX12_isOther_21 rfl ?_
        obtain ⟨b2, h⟩ := h
        refine n_iald (pc := 22) (j := (ix y1)) dX12_isOther_22 (by decide) sh_182 b2 rfl ?_
        refine r_aload_n (pc := 23) (x := 177) dX12_isOther_23 rfl ?_
        refine n_getR (pc := 24) (j := 20) (q := 184) dX12_isOther_24 fl_RX12_30 (by decide) sh_177 rfl rfl rfl ?_
        refine r_iload_n (pc := 27) (x := y1) dX12_isOther_27 rfl ?_
        obtain ⟨b3, h⟩ := h
        refine n_iald (pc := 28) (j := (ix y1)) dX12_isOther_28 (by decide) sh_184 b3 rfl ?_
        refine r_icmp_ne (pc := 29) (tgt := 34) dX12_isOther_29 (by decide) (fun c => ?_) (fun c => ?_)
        · replace h := h.1 c
          refine n_iinc (pc := 34) (x := y1) (w := 1) (L' := [some (.ref 177), some (.int (y1 + 1))]) dX12_isOther_34 rfl (by decide) rfl (by decide) rfl ?_
          refine r_goto (pc := 37) (tgt := 2) dX12_isOther_37 (by decide) ?_
          refine n_L (L' := [some (.ref 177), some (.int (y1 + 1))]) (le_s (le_s (le_e))) ?_
          exact ih _ _ h
        · replace h := h.2 c
          refine r_iconst (pc := 32) (v := 0) dX12_isOther_32 (by decide) ?_
          exact n_zret (pc := 33) dX12_isOther_33 rfl (by decide) (Nat.le_refl _) (Nat.le_refl _) h
def wpX12_isOther  (s : gS) (Q : Int32 → gS → Prop) : Prop := ∃ n2, wX12_isOther_2  Q n2 0 s
set_option maxRecDepth 20000 in
theorem spX12_isOther {l : Launch}   {s : gS} {Q : Int32 → gS → Prop} (h : wpX12_isOther  s Q) : Ct l mX12_isOther 3 0 0 [.ref 177] (nrm s) (q_i Q) := by
  refine Ct.of (by decide) (Nat.le_of_ble_eq_true rfl) (fun X => ?_)
  refine n_L (L' := [some (.ref 177), none]) (le_s (le_p (le_e))) ?_
  refine r_iconst (pc := 0) (v := 0) dX12_isOther_0 (by decide) ?_
  refine r_istore_n (pc := 1) (L' := [some (.ref 177), some (.int 0)]) dX12_isOther_1 rfl (by decide) rfl ?_
  refine n_L (L' := [some (.ref 177), some (.int 0)]) (le_s (le_s (le_e))) ?_
  obtain ⟨n, h⟩ := h
  exact pX12_isOther_2  n _ _ h 
def wX12_isBest_2  (Q : Int32 → gS → Prop)  : Nat → Int32 → gS → Prop
  | 0, _, _ => False
  | n + 1, y1, s => (6 ≤ y1 → Q 1 s) ∧ (¬ (6 ≤ y1) → vp_in y1 6 ∧ (vp_in y1 6 ∧ (((gi s 182 (ix y1)) = (gi s 184 (ix y1)) → wX12_isBest_2  Q n (y1 + 1) s) ∧ (¬ ((gi s 182 (ix y1)) = (gi s 184 (ix y1))) → Q 0 s))))
set_option maxRecDepth 20000 in
theorem pX12_isBest_2 {l : Launch} {X : gX}   {Q : Int32 → gS → Prop}  : ∀ (n : Nat) (y1 : Int32) (s : gS) (h : wX12_isBest_2  Q n y1 s) , Gw l mX12_isBest (g_rm 1 0 0) X 2 [some (.ref 177), some (.int y1)] [] (nrm s) 0 0 (g_Z X (q_i Q) 0 0) := by
  intro n
  induction n with
  | zero => intro y1 s h; exact h.elim
  | succ n ih0 =>
    intro y1 s h 
    have ih : ∀ (y1 : Int32) (s : gS), wX12_isBest_2  Q n y1 s → Gw l mX12_isBest (g_rm 1 0 0) X 2 [some (.ref 177), some (.int y1)] [] (nrm s) 0 0 (g_Z X (q_i Q) 0 0) := fun y1 s h => ih0 y1 s h 
    refine r_iload_n (pc := 2) (x := y1) dX12_isBest_2 rfl ?_
    refine r_bipush (pc := 3) (v := 6) dX12_isBest_3 (by decide) ?_
    refine r_icmp_ge (pc := 5) (tgt := 31) dX12_isBest_5 (by decide) (fun c => ?_) (fun c => ?_)
    · replace h := h.1 c
      refine r_iconst (pc := 31) (v := 1) dX12_isBest_31 (by decide) ?_
      exact n_zret (pc := 32) dX12_isBest_32 rfl (by decide) (Nat.le_refl _) (Nat.le_refl _) h
    · replace h := h.2 c
      refine r_aload_n (pc := 8) (x := 177) dX12_isBest_8 rfl ?_
      refine n_getR (pc := 9) (j := 16) (q := 182) dX12_isBest_9 fl_RX12_24 (by decide) sh_177 rfl rfl rfl ?_
      refine r_iload_n (pc := 12) (x := y1) dX12_isBest_12 rfl ?_
      obtain ⟨b1, h⟩ := h
      refine n_iald (pc := 13) (j := (ix y1)) dX12_isBest_13 (by decide) sh_182 b1 rfl ?_
      refine r_aload_n (pc := 14) (x := 177) dX12_isBest_14 rfl ?_
      refine n_getR (pc := 15) (j := 20) (q := 184) dX12_isBest_15 fl_RX12_30 (by decide) sh_177 rfl rfl rfl ?_
      refine r_iload_n (pc := 18) (x := y1) dX12_isBest_18 rfl ?_
      obtain ⟨b2, h⟩ := h
      refine n_iald (pc := 19) (j := (ix y1)) dX12_isBest_19 (by decide) sh_184 b2 rfl ?_
      refine r_icmp_eq (pc := 20) (tgt := 25) dX12_isBest_20 (by decide) (fun c => ?_) (fun c => ?_)
      · replace h := h.1 c
        refine n_iinc (pc := 25) (x := y1) (w := 1) (L' := [some (.ref 177), some (.int (y1 + 1))]) dX12_isBest_25 rfl (by decide) rfl (by decide) rfl ?_
        refine r_goto (pc := 28) (tgt := 2) dX12_isBest_28 (by decide) ?_
        refine n_L (L' := [some (.ref 177), some (.int (y1 + 1))]) (le_s (le_s (le_e))) ?_
        exact ih _ _ h
      · replace h := h.2 c
        refine r_iconst (pc := 23) (v := 0) dX12_isBest_23 (by decide) ?_
        exact n_zret (pc := 24) dX12_isBest_24 rfl (by decide) (Nat.le_refl _) (Nat.le_refl _) h
def wpX12_isBest  (s : gS) (Q : Int32 → gS → Prop) : Prop := ∃ n2, wX12_isBest_2  Q n2 0 s
set_option maxRecDepth 20000 in
theorem spX12_isBest {l : Launch}   {s : gS} {Q : Int32 → gS → Prop} (h : wpX12_isBest  s Q) : Ct l mX12_isBest 1 0 0 [.ref 177] (nrm s) (q_i Q) := by
  refine Ct.of (by decide) (Nat.le_of_ble_eq_true rfl) (fun X => ?_)
  refine n_L (L' := [some (.ref 177), none]) (le_s (le_p (le_e))) ?_
  refine r_iconst (pc := 0) (v := 0) dX12_isBest_0 (by decide) ?_
  refine r_istore_n (pc := 1) (L' := [some (.ref 177), some (.int 0)]) dX12_isBest_1 rfl (by decide) rfl ?_
  refine n_L (L' := [some (.ref 177), some (.int 0)]) (le_s (le_s (le_e))) ?_
  obtain ⟨n, h⟩ := h
  exact pX12_isBest_2  n _ _ h 
def wX12_other_90  (Q : Int32 → gS → Prop) (k26 : Int32 → Int32 → gS → Prop) (y1 : Int32) (s : gS) : Prop := wpX12_nextPicks s (fun r11 s11 => k26 y1 r11 s11)
set_option maxRecDepth 20000 in
theorem pX12_other_90 {l : Launch} {X : gX}   {Q : Int32 → gS → Prop} {k26 : Int32 → Int32 → gS → Prop} (y1 : Int32) (s : gS) (h : wX12_other_90  Q k26 y1 s) (hk26 : ∀ (y1 : Int32) (y2 : Int32) (s : gS), k26 y1 y2 s → Gw l mX12_other (g_rm 7 0 0) X 26 [some (.ref 177), some (.int y1), some (.int y2), none] [] (nrm s) 0 0 (g_Z X (q_i Q) 0 0)) : Gw l mX12_other (g_rm 7 0 0) X 90 [some (.ref 177), some (.int y1), none, none] [] (nrm s) 0 0 (g_Z X (q_i Q) 0 0) := by
  refine r_aload_n (pc := 90) (x := 177) dX12_other_90 rfl ?_
  refine n_Vi0 (pc := 91) (S0 := []) (spX12_nextPicks h) gmX12_nextPicks selX12_nextPicks lk_RX12_375 dX12_other_91 rfl (by decide) sh_177 ⟨rfl, by decide⟩ rfl ⟨Nat.le_of_ble_eq_true rfl, Nat.le_of_ble_eq_true rfl⟩ (Nat.le_of_ble_eq_true rfl) ⟨Nat.zero_le _, Nat.zero_le _⟩ (fun r11 s11 h => ?_)
  refine r_istore_n (pc := 94) (L' := [some (.ref 177), some (.int y1), some (.int r11), none]) dX12_other_94 rfl (by decide) rfl ?_
  refine r_goto (pc := 95) (tgt := 26) dX12_other_95 (by decide) ?_
  refine n_L (L' := [some (.ref 177), some (.int y1), some (.int r11), none]) (le_s (le_s (le_s (le_n (le_e))))) ?_
  exact hk26 _ _ _ h
def wX12_other_66  (Q : Int32 → gS → Prop) (k90 : Int32 → gS → Prop) : Nat → Int32 → Int32 → gS → Prop
  | 0, _, _, _ => False
  | n + 1, y1, y3, s => (6 ≤ y3 → k90 y1 s) ∧ (¬ (6 ≤ y3) → vp_in y3 6 ∧ (vp_in y3 6 ∧ (wX12_other_66  Q k90 n y1 (y3 + 1) (wi s 185 (ix y3) (gi s 182 (ix y3))))))
set_option maxRecDepth 20000 in
theorem pX12_other_66 {l : Launch} {X : gX}   {Q : Int32 → gS → Prop} {k90 : Int32 → gS → Prop} : ∀ (n : Nat) (y1 : Int32) (y3 : Int32) (s : gS) (h : wX12_other_66  Q k90 n y1 y3 s) (hk90 : ∀ (y1 : Int32) (s : gS), k90 y1 s → Gw l mX12_other (g_rm 7 0 0) X 90 [some (.ref 177), some (.int y1), none, none] [] (nrm s) 0 0 (g_Z X (q_i Q) 0 0)), Gw l mX12_other (g_rm 7 0 0) X 66 [some (.ref 177), some (.int y1), none, some (.int y3)] [] (nrm s) 0 0 (g_Z X (q_i Q) 0 0) := by
  intro n
  induction n with
  | zero => intro y1 y3 s h; exact h.elim
  | succ n ih0 =>
    intro y1 y3 s h hk90
    have ih : ∀ (y1 : Int32) (y3 : Int32) (s : gS), wX12_other_66  Q k90 n y1 y3 s → Gw l mX12_other (g_rm 7 0 0) X 66 [some (.ref 177), some (.int y1), none, some (.int y3)] [] (nrm s) 0 0 (g_Z X (q_i Q) 0 0) := fun y1 y3 s h => ih0 y1 y3 s h hk90
    refine r_iload_n (pc := 66) (x := y3) dX12_other_66 rfl ?_
    refine r_bipush (pc := 67) (v := 6) dX12_other_67 (by decide) ?_
    refine r_icmp_ge (pc := 69) (tgt := 90) dX12_other_69 (by decide) (fun c => ?_) (fun c => ?_)
    · replace h := h.1 c
      refine n_L (L' := [some (.ref 177), some (.int y1), none, none]) (le_s (le_s (le_n (le_n (le_e))))) ?_
      exact hk90 _ _ h
    · replace h := h.2 c
      refine r_aload_n (pc := 72) (x := 177) dX12_other_72 rfl ?_
      refine n_getR (pc := 73) (j := 22) (q := 185) dX12_other_73 fl_RX12_33 (by decide) sh_177 rfl rfl rfl ?_
      refine r_iload_n (pc := 76) (x := y3) dX12_other_76 rfl ?_
      refine r_aload_n (pc := 77) (x := 177) dX12_other_77 rfl ?_
      refine n_getR (pc := 78) (j := 16) (q := 182) dX12_other_78 fl_RX12_24 (by decide) sh_177 rfl rfl rfl ?_
      refine r_iload_n (pc := 81) (x := y3) dX12_other_81 rfl ?_
      obtain ⟨b3, h⟩ := h
      refine n_iald (pc := 82) (j := (ix y3)) dX12_other_82 (by decide) sh_182 b3 rfl ?_
      obtain ⟨b4, h⟩ := h
      refine n_iast (pc := 83) (j := (ix y3)) dX12_other_83 (by decide) sh_185 b4 rfl ?_
      refine n_iinc (pc := 84) (x := y3) (w := 1) (L' := [some (.ref 177), some (.int y1), none, some (.int (y3 + 1))]) dX12_other_84 rfl (by decide) rfl (by decide) rfl ?_
      refine r_goto (pc := 87) (tgt := 66) dX12_other_87 (by decide) ?_
      refine n_L (L' := [some (.ref 177), some (.int y1), none, some (.int (y3 + 1))]) (le_s (le_s (le_n (le_s (le_e))))) ?_
      exact ih _ _ _ h
def wX12_other_26  (Q : Int32 → gS → Prop)  : Nat → Int32 → Int32 → gS → Prop
  | 0, _, _, _ => False
  | n + 1, y1, y2, s => (y2 = 0 → (¬ y1 = (-1) → wpX12_tellPicks 185 s (fun s5 => Q y1 s5)) ∧ (y1 = (-1) → Q (-2) s)) ∧ (¬ (y2 = 0) → wpX12_brokenNow s (fun r6 s6 => (¬ r6 = 0 → wX12_other_90  Q (fun y1 y2 s => wX12_other_26  Q n y1 y2 s) y1 s6) ∧ (r6 = 0 → wpX12_isBest s6 (fun r7 s7 => (¬ r7 = 0 → wX12_other_90  Q (fun y1 y2 s => wX12_other_26  Q n y1 y2 s) y1 s7) ∧ (r7 = 0 → wpX12_isOther s7 (fun r8 s8 => (r8 = 0 → wX12_other_90  Q (fun y1 y2 s => wX12_other_26  Q n y1 y2 s) y1 s8) ∧ (¬ (r8 = 0) → wpX12_worthNow s8 (fun r9 s9 => (r9 ≤ y1 → wX12_other_90  Q (fun y1 y2 s => wX12_other_26  Q n y1 y2 s) y1 s9) ∧ (¬ (r9 ≤ y1) → wpX12_worthNow s9 (fun r10 s10 => ∃ n66, wX12_other_66  Q (wX12_other_90  Q (fun y1 y2 s => wX12_other_26  Q n y1 y2 s)) n66 r10 0 s10))))))))))
set_option maxRecDepth 20000 in
theorem pX12_other_26 {l : Launch} {X : gX}   {Q : Int32 → gS → Prop}  : ∀ (n : Nat) (y1 : Int32) (y2 : Int32) (s : gS) (h : wX12_other_26  Q n y1 y2 s) , Gw l mX12_other (g_rm 7 0 0) X 26 [some (.ref 177), some (.int y1), some (.int y2), none] [] (nrm s) 0 0 (g_Z X (q_i Q) 0 0) := by
  intro n
  induction n with
  | zero => intro y1 y2 s h; exact h.elim
  | succ n ih0 =>
    intro y1 y2 s h 
    have ih : ∀ (y1 : Int32) (y2 : Int32) (s : gS), wX12_other_26  Q n y1 y2 s → Gw l mX12_other (g_rm 7 0 0) X 26 [some (.ref 177), some (.int y1), some (.int y2), none] [] (nrm s) 0 0 (g_Z X (q_i Q) 0 0) := fun y1 y2 s h => ih0 y1 y2 s h 
    refine r_iload_n (pc := 26) (x := y2) dX12_other_26 rfl ?_
    refine r_if_eq (pc := 27) (tgt := 98) dX12_other_27 (by decide) (fun c => ?_) (fun c => ?_)
    · replace h := h.1 c
      refine r_iload_n (pc := 98) (x := y1) dX12_other_98 rfl ?_
      refine r_iconst (pc := 99) (v := (-1)) dX12_other_99 (by decide) ?_
      refine r_icmp_ne (pc := 100) (tgt := 106) dX12_other_100 (by decide) (fun c => ?_) (fun c => ?_)
      · replace h := h.1 c
        refine r_aload_n (pc := 106) (x := 177) dX12_other_106 rfl ?_
        refine r_aload_n (pc := 107) (x := 177) dX12_other_107 rfl ?_
        refine n_getR (pc := 108) (j := 22) (q := 185) dX12_other_108 fl_RX12_33 (by decide) sh_177 rfl rfl rfl ?_
        refine n_Vv0 (pc := 111) (S0 := []) (spX12_tellPicks (by unfold isA6; decide) h) gmX12_tellPicks selX12_tellPicks lk_RX12_408 dX12_other_111 rfl (by decide) sh_177 ⟨rfl, by decide⟩ rfl ⟨Nat.le_of_ble_eq_true rfl, Nat.le_of_ble_eq_true rfl⟩ (Nat.le_of_ble_eq_true rfl) ⟨Nat.zero_le _, Nat.zero_le _⟩ (fun s5 h => ?_)
        refine r_iload_n (pc := 114) (x := y1) dX12_other_114 rfl ?_
        exact n_iret (pc := 115) dX12_other_115 rfl (Nat.le_refl _) (Nat.le_refl _) h
      · replace h := h.2 c
        refine r_bipush (pc := 103) (v := (-2)) dX12_other_103 (by decide) ?_
        exact n_iret (pc := 105) dX12_other_105 rfl (Nat.le_refl _) (Nat.le_refl _) h
    · replace h := h.2 c
      refine r_aload_n (pc := 30) (x := 177) dX12_other_30 rfl ?_
      refine n_Vi0 (pc := 31) (S0 := []) (spX12_brokenNow h) gmX12_brokenNow selX12_brokenNow lk_RX12_369 dX12_other_31 rfl (by decide) sh_177 ⟨rfl, by decide⟩ rfl ⟨Nat.le_of_ble_eq_true rfl, Nat.le_of_ble_eq_true rfl⟩ (Nat.le_of_ble_eq_true rfl) ⟨Nat.zero_le _, Nat.zero_le _⟩ (fun r6 s6 h => ?_)
      refine r_if_ne (pc := 34) (tgt := 90) dX12_other_34 (by decide) (fun c => ?_) (fun c => ?_)
      · replace h := h.1 c
        refine n_L (L' := [some (.ref 177), some (.int y1), none, none]) (le_s (le_s (le_n (le_n (le_e))))) ?_
        exact pX12_other_90  _ _ h ih
      · replace h := h.2 c
        refine r_aload_n (pc := 37) (x := 177) dX12_other_37 rfl ?_
        refine n_Vi0 (pc := 38) (S0 := []) (spX12_isBest h) gmX12_isBest selX12_isBest lk_RX12_412 dX12_other_38 rfl (by decide) sh_177 ⟨rfl, by decide⟩ rfl ⟨Nat.le_of_ble_eq_true rfl, Nat.le_of_ble_eq_true rfl⟩ (Nat.le_of_ble_eq_true rfl) ⟨Nat.zero_le _, Nat.zero_le _⟩ (fun r7 s7 h => ?_)
        refine r_if_ne (pc := 41) (tgt := 90) dX12_other_41 (by decide) (fun c => ?_) (fun c => ?_)
        · replace h := h.1 c
          refine n_L (L' := [some (.ref 177), some (.int y1), none, none]) (le_s (le_s (le_n (le_n (le_e))))) ?_
          exact pX12_other_90  _ _ h ih
        · replace h := h.2 c
          refine r_aload_n (pc := 44) (x := 177) dX12_other_44 rfl ?_
          refine n_Vi0 (pc := 45) (S0 := []) (spX12_isOther h) gmX12_isOther selX12_isOther lk_RX12_415 dX12_other_45 rfl (by decide) sh_177 ⟨rfl, by decide⟩ rfl ⟨Nat.le_of_ble_eq_true rfl, Nat.le_of_ble_eq_true rfl⟩ (Nat.le_of_ble_eq_true rfl) ⟨Nat.zero_le _, Nat.zero_le _⟩ (fun r8 s8 h => ?_)
          refine r_if_eq (pc := 48) (tgt := 90) dX12_other_48 (by decide) (fun c => ?_) (fun c => ?_)
          · replace h := h.1 c
            refine n_L (L' := [some (.ref 177), some (.int y1), none, none]) (le_s (le_s (le_n (le_n (le_e))))) ?_
            exact pX12_other_90  _ _ h ih
          · replace h := h.2 c
            refine r_aload_n (pc := 51) (x := 177) dX12_other_51 rfl ?_
            refine n_Vi0 (pc := 52) (S0 := []) (spX12_worthNow h) gmX12_worthNow selX12_worthNow lk_RX12_378 dX12_other_52 rfl (by decide) sh_177 ⟨rfl, by decide⟩ rfl ⟨Nat.le_of_ble_eq_true rfl, Nat.le_of_ble_eq_true rfl⟩ (Nat.le_of_ble_eq_true rfl) ⟨Nat.zero_le _, Nat.zero_le _⟩ (fun r9 s9 h => ?_)
            refine r_iload_n (pc := 55) (x := y1) dX12_other_55 rfl ?_
            refine r_icmp_le (pc := 56) (tgt := 90) dX12_other_56 (by decide) (fun c => ?_) (fun c => ?_)
            · replace h := h.1 c
              refine n_L (L' := [some (.ref 177), some (.int y1), none, none]) (le_s (le_s (le_n (le_n (le_e))))) ?_
              exact pX12_other_90  _ _ h ih
            · replace h := h.2 c
              refine r_aload_n (pc := 59) (x := 177) dX12_other_59 rfl ?_
              refine n_Vi0 (pc := 60) (S0 := []) (spX12_worthNow h) gmX12_worthNow selX12_worthNow lk_RX12_378 dX12_other_60 rfl (by decide) sh_177 ⟨rfl, by decide⟩ rfl ⟨Nat.le_of_ble_eq_true rfl, Nat.le_of_ble_eq_true rfl⟩ (Nat.le_of_ble_eq_true rfl) ⟨Nat.zero_le _, Nat.zero_le _⟩ (fun r10 s10 h => ?_)
              refine r_istore_n (pc := 63) (L' := [some (.ref 177), some (.int r10), some (.int y2), none]) dX12_other_63 rfl (by decide) rfl ?_
              refine r_iconst (pc := 64) (v := 0) dX12_other_64 (by decide) ?_
              refine r_istore_n (pc := 65) (L' := [some (.ref 177), some (.int r10), some (.int y2), some (.int 0)]) dX12_other_65 rfl (by decide) rfl ?_
              refine n_L (L' := [some (.ref 177), some (.int r10), none, some (.int 0)]) (le_s (le_s (le_n (le_s (le_e))))) ?_
              obtain ⟨n, h⟩ := h
              exact pX12_other_66  n _ _ _ h (fun _ _ h => pX12_other_90  _ _ h ih)
def wpX12_other  (s : gS) (Q : Int32 → gS → Prop) : Prop := wpX12_survey (wi s 177 5 0) (fun s1 => (¬ (gi s1 177 17) = 0 → wpX12_startPicks s1 (fun r2 s2 => ∃ n26, wX12_other_26  Q n26 (-1) r2 s2)) ∧ ((gi s1 177 17) = 0 → Q (-2) s1))
set_option maxRecDepth 20000 in
theorem spX12_other {l : Launch}   {s : gS} {Q : Int32 → gS → Prop} (h : wpX12_other  s Q) : Ct l mX12_other 7 0 0 [.ref 177] (nrm s) (q_i Q) := by
  refine Ct.of (by decide) (Nat.le_of_ble_eq_true rfl) (fun X => ?_)
  refine n_L (L' := [some (.ref 177), none, none, none]) (le_s (le_p (le_p (le_p (le_e))))) ?_
  refine r_aload_n (pc := 0) (x := 177) dX12_other_0 rfl ?_
  refine r_iconst (pc := 1) (v := 0) dX12_other_1 (by decide) ?_
  refine n_putI (pc := 2) (j := 5) dX12_other_2 fl_RX12_55 fw_12_5 (by decide) sh_177 rfl rfl ?_
  refine r_aload_n (pc := 5) (x := 177) dX12_other_5 rfl ?_
  refine n_Vv0 (pc := 6) (S0 := []) (spX12_survey h) gmX12_survey selX12_survey lk_RX12_388 dX12_other_6 rfl (by decide) sh_177 ⟨rfl, by decide⟩ rfl ⟨Nat.le_of_ble_eq_true rfl, Nat.le_of_ble_eq_true rfl⟩ (Nat.le_of_ble_eq_true rfl) ⟨Nat.zero_le _, Nat.zero_le _⟩ (fun s1 h => ?_)
  refine r_aload_n (pc := 9) (x := 177) dX12_other_9 rfl ?_
  refine n_getI (pc := 10) (j := 17) dX12_other_10 fl_RX12_357 (by decide) sh_177 rfl rfl ?_
  refine r_if_ne (pc := 13) (tgt := 19) dX12_other_13 (by decide) (fun c => ?_) (fun c => ?_)
  · replace h := h.1 c
    refine r_iconst (pc := 19) (v := (-1)) dX12_other_19 (by decide) ?_
    refine r_istore_n (pc := 20) (L' := [some (.ref 177), some (.int (-1)), none, none]) dX12_other_20 rfl (by decide) rfl ?_
    refine r_aload_n (pc := 21) (x := 177) dX12_other_21 rfl ?_
    refine n_Vi0 (pc := 22) (S0 := []) (spX12_startPicks h) gmX12_startPicks selX12_startPicks lk_RX12_366 dX12_other_22 rfl (by decide) sh_177 ⟨rfl, by decide⟩ rfl ⟨Nat.le_of_ble_eq_true rfl, Nat.le_of_ble_eq_true rfl⟩ (Nat.le_of_ble_eq_true rfl) ⟨Nat.zero_le _, Nat.zero_le _⟩ (fun r2 s2 h => ?_)
    refine r_istore_n (pc := 25) (L' := [some (.ref 177), some (.int (-1)), some (.int r2), none]) dX12_other_25 rfl (by decide) rfl ?_
    refine n_L (L' := [some (.ref 177), some (.int (-1)), some (.int r2), none]) (le_s (le_s (le_s (le_n (le_e))))) ?_
    obtain ⟨n, h⟩ := h
    exact pX12_other_26  n _ _ _ h 
  · replace h := h.2 c
    refine r_bipush (pc := 16) (v := (-2)) dX12_other_16 (by decide) ?_
    exact n_iret (pc := 18) dX12_other_18 rfl (Nat.le_refl _) (Nat.le_refl _) h
def wX12_conflict_67  (Q : Int32 → gS → Prop) (k69 : Int32 → gS → Prop) (y3 : Int32) (s : gS) : Prop := k69 y3 s
set_option maxRecDepth 20000 in
theorem pX12_conflict_67 {l : Launch} {X : gX}   {Q : Int32 → gS → Prop} {k69 : Int32 → gS → Prop} (y3 : Int32) (s : gS) (h : wX12_conflict_67  Q k69 y3 s) (hk69 : ∀ (y1 : Int32) (s : gS), k69 y1 s → Gw l mX12_conflict (g_rm 7 0 0) X 69 [some (.ref 177), some (.int y1), none, none] [] (nrm s) 0 0 (g_Z X (q_i Q) 0 0)) : Gw l mX12_conflict (g_rm 7 0 0) X 67 [some (.ref 177), none, none, some (.int y3)] [] (nrm s) 0 0 (g_Z X (q_i Q) 0 0) := by
  refine r_iload_n (pc := 67) (x := y3) dX12_conflict_67 rfl ?_
  refine r_istore_n (pc := 68) (L' := [some (.ref 177), some (.int y3), none, some (.int y3)]) dX12_conflict_68 rfl (by decide) rfl ?_
  refine n_L (L' := [some (.ref 177), some (.int y3), none, none]) (le_s (le_s (le_n (le_n (le_e))))) ?_
  exact hk69 _ _ h
def wX12_conflict_69  (Q : Int32 → gS → Prop) (k26 : Int32 → Int32 → gS → Prop) (y1 : Int32) (s : gS) : Prop := wpX12_nextPicks s (fun r3 s3 => k26 y1 r3 s3)
set_option maxRecDepth 20000 in
theorem pX12_conflict_69 {l : Launch} {X : gX}   {Q : Int32 → gS → Prop} {k26 : Int32 → Int32 → gS → Prop} (y1 : Int32) (s : gS) (h : wX12_conflict_69  Q k26 y1 s) (hk26 : ∀ (y1 : Int32) (y2 : Int32) (s : gS), k26 y1 y2 s → Gw l mX12_conflict (g_rm 7 0 0) X 26 [some (.ref 177), some (.int y1), some (.int y2), none] [] (nrm s) 0 0 (g_Z X (q_i Q) 0 0)) : Gw l mX12_conflict (g_rm 7 0 0) X 69 [some (.ref 177), some (.int y1), none, none] [] (nrm s) 0 0 (g_Z X (q_i Q) 0 0) := by
  refine r_aload_n (pc := 69) (x := 177) dX12_conflict_69 rfl ?_
  refine n_Vi0 (pc := 70) (S0 := []) (spX12_nextPicks h) gmX12_nextPicks selX12_nextPicks lk_RX12_375 dX12_conflict_70 rfl (by decide) sh_177 ⟨rfl, by decide⟩ rfl ⟨Nat.le_of_ble_eq_true rfl, Nat.le_of_ble_eq_true rfl⟩ (Nat.le_of_ble_eq_true rfl) ⟨Nat.zero_le _, Nat.zero_le _⟩ (fun r3 s3 h => ?_)
  refine r_istore_n (pc := 73) (L' := [some (.ref 177), some (.int y1), some (.int r3), none]) dX12_conflict_73 rfl (by decide) rfl ?_
  refine r_goto (pc := 74) (tgt := 26) dX12_conflict_74 (by decide) ?_
  refine n_L (L' := [some (.ref 177), some (.int y1), some (.int r3), none]) (le_s (le_s (le_s (le_n (le_e))))) ?_
  exact hk26 _ _ _ h
def wX12_conflict_113  (Q : Int32 → gS → Prop) (k92 : Int32 → Int32 → Int32 → gS → Prop) (y1 : Int32) (z0 : Int32) (z1 : Int32) (s : gS) : Prop := wpX12_nextPicks s (fun r4 s4 => k92 y1 r4 (z1 + z0) s4)
set_option maxRecDepth 20000 in
theorem pX12_conflict_113 {l : Launch} {X : gX}   {Q : Int32 → gS → Prop} {k92 : Int32 → Int32 → Int32 → gS → Prop} (y1 : Int32) (z0 : Int32) (z1 : Int32) (s : gS) (h : wX12_conflict_113  Q k92 y1 z0 z1 s) (hk92 : ∀ (y1 : Int32) (y2 : Int32) (y3 : Int32) (s : gS), k92 y1 y2 y3 s → Gw l mX12_conflict (g_rm 7 0 0) X 92 [some (.ref 177), some (.int y1), some (.int y2), some (.int y3)] [] (nrm s) 0 0 (g_Z X (q_i Q) 0 0)) : Gw l mX12_conflict (g_rm 7 0 0) X 113 [some (.ref 177), some (.int y1), none, none] [.int z0, .int z1] (nrm s) 0 0 (g_Z X (q_i Q) 0 0) := by
  refine r_iadd (pc := 113) dX12_conflict_113 ?_
  refine r_istore_n (pc := 114) (L' := [some (.ref 177), some (.int y1), none, some (.int (z1 + z0))]) dX12_conflict_114 rfl (by decide) rfl ?_
  refine r_aload_n (pc := 115) (x := 177) dX12_conflict_115 rfl ?_
  refine n_Vi0 (pc := 116) (S0 := []) (spX12_nextPicks h) gmX12_nextPicks selX12_nextPicks lk_RX12_375 dX12_conflict_116 rfl (by decide) sh_177 ⟨rfl, by decide⟩ rfl ⟨Nat.le_of_ble_eq_true rfl, Nat.le_of_ble_eq_true rfl⟩ (Nat.le_of_ble_eq_true rfl) ⟨Nat.zero_le _, Nat.zero_le _⟩ (fun r4 s4 h => ?_)
  refine r_istore_n (pc := 119) (L' := [some (.ref 177), some (.int y1), some (.int r4), some (.int (z1 + z0))]) dX12_conflict_119 rfl (by decide) rfl ?_
  refine r_goto (pc := 120) (tgt := 92) dX12_conflict_120 (by decide) ?_
  refine n_L (L' := [some (.ref 177), some (.int y1), some (.int r4), some (.int (z1 + z0))]) (le_s (le_s (le_s (le_s (le_e))))) ?_
  exact hk92 _ _ _ _ h
def wX12_conflict_92  (Q : Int32 → gS → Prop)  : Nat → Int32 → Int32 → Int32 → gS → Prop
  | 0, _, _, _, _ => False
  | n + 1, y1, y2, y3, s => (y2 = 0 → wpX12_tell y3.toInt64 (wi s 177 4 0) (fun s11 => Q y1 s11)) ∧ (¬ (y2 = 0) → wpX12_brokenNow s (fun r12 s12 => (¬ (r12 &&& (y1 ^^^ (-1))) = 0 → wX12_conflict_113  Q (fun y1 y2 y3 s => wX12_conflict_92  Q n y1 y2 y3 s) y1 0 y3 s12) ∧ ((r12 &&& (y1 ^^^ (-1))) = 0 → wX12_conflict_113  Q (fun y1 y2 y3 s => wX12_conflict_92  Q n y1 y2 y3 s) y1 1 y3 s12)))
set_option maxRecDepth 20000 in
theorem pX12_conflict_92 {l : Launch} {X : gX}   {Q : Int32 → gS → Prop}  : ∀ (n : Nat) (y1 : Int32) (y2 : Int32) (y3 : Int32) (s : gS) (h : wX12_conflict_92  Q n y1 y2 y3 s) , Gw l mX12_conflict (g_rm 7 0 0) X 92 [some (.ref 177), some (.int y1), some (.int y2), some (.int y3)] [] (nrm s) 0 0 (g_Z X (q_i Q) 0 0) := by
  intro n
  induction n with
  | zero => intro y1 y2 y3 s h; exact h.elim
  | succ n ih0 =>
    intro y1 y2 y3 s h 
    have ih : ∀ (y1 : Int32) (y2 : Int32) (y3 : Int32) (s : gS), wX12_conflict_92  Q n y1 y2 y3 s → Gw l mX12_conflict (g_rm 7 0 0) X 92 [some (.ref 177), some (.int y1), some (.int y2), some (.int y3)] [] (nrm s) 0 0 (g_Z X (q_i Q) 0 0) := fun y1 y2 y3 s h => ih0 y1 y2 y3 s h 
    refine r_iload_n (pc := 92) (x := y2) dX12_conflict_92 rfl ?_
    refine r_if_eq (pc := 93) (tgt := 123) dX12_conflict_93 (by decide) (fun c => ?_) (fun c => ?_)
    · replace h := h.1 c
      refine r_aload_n (pc := 123) (x := 177) dX12_conflict_123 rfl ?_
      refine r_iconst (pc := 124) (v := 0) dX12_conflict_124 (by decide) ?_
      refine n_putI (pc := 125) (j := 4) dX12_conflict_125 fl_RX12_59 fw_12_4 (by decide) sh_177 rfl rfl ?_
      refine r_aload_n (pc := 128) (x := 177) dX12_conflict_128 rfl ?_
      refine r_iload_n (pc := 129) (x := y3) dX12_conflict_129 rfl ?_
      refine r_i2l (pc := 130) dX12_conflict_130 ?_
      refine n_Vv0 (pc := 131) (S0 := []) (spX12_tell h) gmX12_tell selX12_tell lk_RX12_91 dX12_conflict_131 rfl (by decide) sh_177 ⟨rfl, by decide⟩ rfl ⟨Nat.le_of_ble_eq_true rfl, Nat.le_of_ble_eq_true rfl⟩ (Nat.le_of_ble_eq_true rfl) ⟨Nat.zero_le _, Nat.zero_le _⟩ (fun s11 h => ?_)
      refine r_iload_n (pc := 134) (x := y1) dX12_conflict_134 rfl ?_
      exact n_iret (pc := 135) dX12_conflict_135 rfl (Nat.le_refl _) (Nat.le_refl _) h
    · replace h := h.2 c
      refine r_iload_n (pc := 96) (x := y3) dX12_conflict_96 rfl ?_
      refine r_aload_n (pc := 97) (x := 177) dX12_conflict_97 rfl ?_
      refine n_Vi0 (pc := 98) (S0 := [.int y3]) (spX12_brokenNow h) gmX12_brokenNow selX12_brokenNow lk_RX12_369 dX12_conflict_98 rfl (by decide) sh_177 ⟨rfl, by decide⟩ rfl ⟨Nat.le_of_ble_eq_true rfl, Nat.le_of_ble_eq_true rfl⟩ (Nat.le_of_ble_eq_true rfl) ⟨Nat.zero_le _, Nat.zero_le _⟩ (fun r12 s12 h => ?_)
      refine r_iload_n (pc := 101) (x := y1) dX12_conflict_101 rfl ?_
      refine r_iconst (pc := 102) (v := (-1)) dX12_conflict_102 (by decide) ?_
      refine r_ixor (pc := 103) dX12_conflict_103 ?_
      refine r_iand (pc := 104) dX12_conflict_104 ?_
      refine r_if_ne (pc := 105) (tgt := 112) dX12_conflict_105 (by decide) (fun c => ?_) (fun c => ?_)
      · replace h := h.1 c
        refine r_iconst (pc := 112) (v := 0) dX12_conflict_112 (by decide) ?_
        refine n_L (L' := [some (.ref 177), some (.int y1), none, none]) (le_s (le_s (le_n (le_n (le_e))))) ?_
        exact pX12_conflict_113  _ _ _ _ h ih
      · replace h := h.2 c
        refine r_iconst (pc := 108) (v := 1) dX12_conflict_108 (by decide) ?_
        refine r_goto (pc := 109) (tgt := 113) dX12_conflict_109 (by decide) ?_
        refine n_L (L' := [some (.ref 177), some (.int y1), none, none]) (le_s (le_s (le_n (le_n (le_e))))) ?_
        exact pX12_conflict_113  _ _ _ _ h ih
def wX12_conflict_26  (Q : Int32 → gS → Prop)  : Nat → Int32 → Int32 → gS → Prop
  | 0, _, _, _ => False
  | n + 1, y1, y2, s => (y2 = 0 → (¬ y1 = (-1) → wpX12_startPicks s (fun r5 s5 => ∃ n92, wX12_conflict_92  Q n92 y1 r5 0 s5)) ∧ (y1 = (-1) → Q (-3) s)) ∧ (¬ (y2 = 0) → wpX12_brokenNow s (fun r6 s6 => (y1 = (-1) → wX12_conflict_67  Q (wX12_conflict_69  Q (fun y1 y2 s => wX12_conflict_26  Q n y1 y2 s)) r6 s6) ∧ (¬ (y1 = (-1)) → wpX12_countBits r6 s6 (fun r7 s7 => wpX12_countBits y1 s7 (fun r8 s8 => (r7 < r8 → wX12_conflict_67  Q (wX12_conflict_69  Q (fun y1 y2 s => wX12_conflict_26  Q n y1 y2 s)) r6 s8) ∧ (¬ (r7 < r8) → wpX12_countBits r6 s8 (fun r9 s9 => wpX12_countBits y1 s9 (fun r10 s10 => (¬ r9 = r10 → wX12_conflict_69  Q (fun y1 y2 s => wX12_conflict_26  Q n y1 y2 s) y1 s10) ∧ (r9 = r10 → (y1 ≤ r6 → wX12_conflict_69  Q (fun y1 y2 s => wX12_conflict_26  Q n y1 y2 s) y1 s10) ∧ (¬ (y1 ≤ r6) → wX12_conflict_67  Q (wX12_conflict_69  Q (fun y1 y2 s => wX12_conflict_26  Q n y1 y2 s)) r6 s10))))))))))
set_option maxRecDepth 20000 in
theorem pX12_conflict_26 {l : Launch} {X : gX}   {Q : Int32 → gS → Prop}  : ∀ (n : Nat) (y1 : Int32) (y2 : Int32) (s : gS) (h : wX12_conflict_26  Q n y1 y2 s) , Gw l mX12_conflict (g_rm 7 0 0) X 26 [some (.ref 177), some (.int y1), some (.int y2), none] [] (nrm s) 0 0 (g_Z X (q_i Q) 0 0) := by
  intro n
  induction n with
  | zero => intro y1 y2 s h; exact h.elim
  | succ n ih0 =>
    intro y1 y2 s h 
    have ih : ∀ (y1 : Int32) (y2 : Int32) (s : gS), wX12_conflict_26  Q n y1 y2 s → Gw l mX12_conflict (g_rm 7 0 0) X 26 [some (.ref 177), some (.int y1), some (.int y2), none] [] (nrm s) 0 0 (g_Z X (q_i Q) 0 0) := fun y1 y2 s h => ih0 y1 y2 s h 
    refine r_iload_n (pc := 26) (x := y2) dX12_conflict_26 rfl ?_
    refine r_if_eq (pc := 27) (tgt := 77) dX12_conflict_27 (by decide) (fun c => ?_) (fun c => ?_)
    · replace h := h.1 c
      refine r_iload_n (pc := 77) (x := y1) dX12_conflict_77 rfl ?_
      refine r_iconst (pc := 78) (v := (-1)) dX12_conflict_78 (by decide) ?_
      refine r_icmp_ne (pc := 79) (tgt := 85) dX12_conflict_79 (by decide) (fun c => ?_) (fun c => ?_)
      · replace h := h.1 c
        refine r_iconst (pc := 85) (v := 0) dX12_conflict_85 (by decide) ?_
        refine r_istore_n (pc := 86) (L' := [some (.ref 177), some (.int y1), some (.int y2), some (.int 0)]) dX12_conflict_86 rfl (by decide) rfl ?_
        refine r_aload_n (pc := 87) (x := 177) dX12_conflict_87 rfl ?_
        refine n_Vi0 (pc := 88) (S0 := []) (spX12_startPicks h) gmX12_startPicks selX12_startPicks lk_RX12_366 dX12_conflict_88 rfl (by decide) sh_177 ⟨rfl, by decide⟩ rfl ⟨Nat.le_of_ble_eq_true rfl, Nat.le_of_ble_eq_true rfl⟩ (Nat.le_of_ble_eq_true rfl) ⟨Nat.zero_le _, Nat.zero_le _⟩ (fun r5 s5 h => ?_)
        refine r_istore_n (pc := 91) (L' := [some (.ref 177), some (.int y1), some (.int r5), some (.int 0)]) dX12_conflict_91 rfl (by decide) rfl ?_
        refine n_L (L' := [some (.ref 177), some (.int y1), some (.int r5), some (.int 0)]) (le_s (le_s (le_s (le_s (le_e))))) ?_
        obtain ⟨n, h⟩ := h
        exact pX12_conflict_92  n _ _ _ _ h 
      · replace h := h.2 c
        refine r_bipush (pc := 82) (v := (-3)) dX12_conflict_82 (by decide) ?_
        exact n_iret (pc := 84) dX12_conflict_84 rfl (Nat.le_refl _) (Nat.le_refl _) h
    · replace h := h.2 c
      refine r_aload_n (pc := 30) (x := 177) dX12_conflict_30 rfl ?_
      refine n_Vi0 (pc := 31) (S0 := []) (spX12_brokenNow h) gmX12_brokenNow selX12_brokenNow lk_RX12_369 dX12_conflict_31 rfl (by decide) sh_177 ⟨rfl, by decide⟩ rfl ⟨Nat.le_of_ble_eq_true rfl, Nat.le_of_ble_eq_true rfl⟩ (Nat.le_of_ble_eq_true rfl) ⟨Nat.zero_le _, Nat.zero_le _⟩ (fun r6 s6 h => ?_)
      refine r_istore_n (pc := 34) (L' := [some (.ref 177), some (.int y1), some (.int y2), some (.int r6)]) dX12_conflict_34 rfl (by decide) rfl ?_
      refine r_iload_n (pc := 35) (x := y1) dX12_conflict_35 rfl ?_
      refine r_iconst (pc := 36) (v := (-1)) dX12_conflict_36 (by decide) ?_
      refine r_icmp_eq (pc := 37) (tgt := 67) dX12_conflict_37 (by decide) (fun c => ?_) (fun c => ?_)
      · replace h := h.1 c
        refine n_L (L' := [some (.ref 177), none, none, some (.int r6)]) (le_s (le_n (le_n (le_s (le_e))))) ?_
        exact pX12_conflict_67  _ _ h (fun _ _ h => pX12_conflict_69  _ _ h ih)
      · replace h := h.2 c
        refine r_iload_n (pc := 40) (x := r6) dX12_conflict_40 rfl ?_
        refine n_Si0 (pc := 41) (S0 := []) (spX12_countBits h) gmX12_countBits lk_RX12_418 dX12_conflict_41 rfl rfl ⟨Nat.le_of_ble_eq_true rfl, Nat.le_of_ble_eq_true rfl⟩ (Nat.le_of_ble_eq_true rfl) ⟨Nat.zero_le _, Nat.zero_le _⟩ (fun r7 s7 h => ?_)
        refine r_iload_n (pc := 44) (x := y1) dX12_conflict_44 rfl ?_
        refine n_Si0 (pc := 45) (S0 := [.int r7]) (spX12_countBits h) gmX12_countBits lk_RX12_418 dX12_conflict_45 rfl rfl ⟨Nat.le_of_ble_eq_true rfl, Nat.le_of_ble_eq_true rfl⟩ (Nat.le_of_ble_eq_true rfl) ⟨Nat.zero_le _, Nat.zero_le _⟩ (fun r8 s8 h => ?_)
        refine r_icmp_lt (pc := 48) (tgt := 67) dX12_conflict_48 (by decide) (fun c => ?_) (fun c => ?_)
        · replace h := h.1 c
          refine n_L (L' := [some (.ref 177), none, none, some (.int r6)]) (le_s (le_n (le_n (le_s (le_e))))) ?_
          exact pX12_conflict_67  _ _ h (fun _ _ h => pX12_conflict_69  _ _ h ih)
        · replace h := h.2 c
          refine r_iload_n (pc := 51) (x := r6) dX12_conflict_51 rfl ?_
          refine n_Si0 (pc := 52) (S0 := []) (spX12_countBits h) gmX12_countBits lk_RX12_418 dX12_conflict_52 rfl rfl ⟨Nat.le_of_ble_eq_true rfl, Nat.le_of_ble_eq_true rfl⟩ (Nat.le_of_ble_eq_true rfl) ⟨Nat.zero_le _, Nat.zero_le _⟩ (fun r9 s9 h => ?_)
          refine r_iload_n (pc := 55) (x := y1) dX12_conflict_55 rfl ?_
          refine n_Si0 (pc := 56) (S0 := [.int r9]) (spX12_countBits h) gmX12_countBits lk_RX12_418 dX12_conflict_56 rfl rfl ⟨Nat.le_of_ble_eq_true rfl, Nat.le_of_ble_eq_true rfl⟩ (Nat.le_of_ble_eq_true rfl) ⟨Nat.zero_le _, Nat.zero_le _⟩ (fun r10 s10 h => ?_)
          refine r_icmp_ne (pc := 59) (tgt := 69) dX12_conflict_59 (by decide) (fun c => ?_) (fun c => ?_)
          · replace h := h.1 c
            refine n_L (L' := [some (.ref 177), some (.int y1), none, none]) (le_s (le_s (le_n (le_n (le_e))))) ?_
            exact pX12_conflict_69  _ _ h ih
          · replace h := h.2 c
            refine r_iload_n (pc := 62) (x := r6) dX12_conflict_62 rfl ?_
            refine r_iload_n (pc := 63) (x := y1) dX12_conflict_63 rfl ?_
            refine r_icmp_ge (pc := 64) (tgt := 69) dX12_conflict_64 (by decide) (fun c => ?_) (fun c => ?_)
            · replace h := h.1 c
              refine n_L (L' := [some (.ref 177), some (.int y1), none, none]) (le_s (le_s (le_n (le_n (le_e))))) ?_
              exact pX12_conflict_69  _ _ h ih
            · replace h := h.2 c
              refine n_L (L' := [some (.ref 177), none, none, some (.int r6)]) (le_s (le_n (le_n (le_s (le_e))))) ?_
              exact pX12_conflict_67  _ _ h (fun _ _ h => pX12_conflict_69  _ _ h ih)
def wpX12_conflict  (s : gS) (Q : Int32 → gS → Prop) : Prop := wpX12_survey (wi s 177 5 0) (fun s1 => ((gi s1 177 17) ≤ 0 → wpX12_startPicks s1 (fun r2 s2 => ∃ n26, wX12_conflict_26  Q n26 (-1) r2 s2)) ∧ (¬ ((gi s1 177 17) ≤ 0) → Q (-2) s1))
set_option maxRecDepth 20000 in
theorem spX12_conflict {l : Launch}   {s : gS} {Q : Int32 → gS → Prop} (h : wpX12_conflict  s Q) : Ct l mX12_conflict 7 0 0 [.ref 177] (nrm s) (q_i Q) := by
  refine Ct.of (by decide) (Nat.le_of_ble_eq_true rfl) (fun X => ?_)
  refine n_L (L' := [some (.ref 177), none, none, none]) (le_s (le_p (le_p (le_p (le_e))))) ?_
  refine r_aload_n (pc := 0) (x := 177) dX12_conflict_0 rfl ?_
  refine r_iconst (pc := 1) (v := 0) dX12_conflict_1 (by decide) ?_
  refine n_putI (pc := 2) (j := 5) dX12_conflict_2 fl_RX12_55 fw_12_5 (by decide) sh_177 rfl rfl ?_
  refine r_aload_n (pc := 5) (x := 177) dX12_conflict_5 rfl ?_
  refine n_Vv0 (pc := 6) (S0 := []) (spX12_survey h) gmX12_survey selX12_survey lk_RX12_388 dX12_conflict_6 rfl (by decide) sh_177 ⟨rfl, by decide⟩ rfl ⟨Nat.le_of_ble_eq_true rfl, Nat.le_of_ble_eq_true rfl⟩ (Nat.le_of_ble_eq_true rfl) ⟨Nat.zero_le _, Nat.zero_le _⟩ (fun s1 h => ?_)
  refine r_aload_n (pc := 9) (x := 177) dX12_conflict_9 rfl ?_
  refine n_getI (pc := 10) (j := 17) dX12_conflict_10 fl_RX12_357 (by decide) sh_177 rfl rfl ?_
  refine r_if_le (pc := 13) (tgt := 19) dX12_conflict_13 (by decide) (fun c => ?_) (fun c => ?_)
  · replace h := h.1 c
    refine r_iconst (pc := 19) (v := (-1)) dX12_conflict_19 (by decide) ?_
    refine r_istore_n (pc := 20) (L' := [some (.ref 177), some (.int (-1)), none, none]) dX12_conflict_20 rfl (by decide) rfl ?_
    refine r_aload_n (pc := 21) (x := 177) dX12_conflict_21 rfl ?_
    refine n_Vi0 (pc := 22) (S0 := []) (spX12_startPicks h) gmX12_startPicks selX12_startPicks lk_RX12_366 dX12_conflict_22 rfl (by decide) sh_177 ⟨rfl, by decide⟩ rfl ⟨Nat.le_of_ble_eq_true rfl, Nat.le_of_ble_eq_true rfl⟩ (Nat.le_of_ble_eq_true rfl) ⟨Nat.zero_le _, Nat.zero_le _⟩ (fun r2 s2 h => ?_)
    refine r_istore_n (pc := 25) (L' := [some (.ref 177), some (.int (-1)), some (.int r2), none]) dX12_conflict_25 rfl (by decide) rfl ?_
    refine n_L (L' := [some (.ref 177), some (.int (-1)), some (.int r2), none]) (le_s (le_s (le_s (le_n (le_e))))) ?_
    obtain ⟨n, h⟩ := h
    exact pX12_conflict_26  n _ _ _ h 
  · replace h := h.2 c
    refine r_bipush (pc := 16) (v := (-2)) dX12_conflict_16 (by decide) ?_
    exact n_iret (pc := 18) dX12_conflict_18 rfl (Nat.le_refl _) (Nat.le_refl _) h
def wX12_layAside_2  (Q : gS → Prop)  : Nat → Int32 → gS → Prop
  | 0, _, _ => False
  | n + 1, y1, s => (218 ≤ y1 → Q s) ∧ (¬ (218 ≤ y1) → vp_in y1 218 ∧ (vp_in y1 218 ∧ (wX12_layAside_2  Q n (y1 + 1) (wi s 186 (ix y1) (gi s 178 (ix y1))))))
set_option maxRecDepth 20000 in
theorem pX12_layAside_2 {l : Launch} {X : gX}   {Q : gS → Prop}  : ∀ (n : Nat) (y1 : Int32) (s : gS) (h : wX12_layAside_2  Q n y1 s) , Gw l mX12_layAside (g_rm 1 0 0) X 2 [some (.ref 177), some (.int y1)] [] (nrm s) 0 0 (g_Z X (q_v Q) 0 0) := by
  intro n
  induction n with
  | zero => intro y1 s h; exact h.elim
  | succ n ih0 =>
    intro y1 s h 
    have ih : ∀ (y1 : Int32) (s : gS), wX12_layAside_2  Q n y1 s → Gw l mX12_layAside (g_rm 1 0 0) X 2 [some (.ref 177), some (.int y1)] [] (nrm s) 0 0 (g_Z X (q_v Q) 0 0) := fun y1 s h => ih0 y1 s h 
    refine r_iload_n (pc := 2) (x := y1) dX12_layAside_2 rfl ?_
    refine r_sipush (pc := 3) (v := 218) dX12_layAside_3 (by decide) ?_
    refine r_icmp_ge (pc := 6) (tgt := 27) dX12_layAside_6 (by decide) (fun c => ?_) (fun c => ?_)
    · replace h := h.1 c
      exact n_vret (pc := 27) dX12_layAside_27 rfl (Nat.le_refl _) (Nat.le_refl _) h
    · replace h := h.2 c
      refine r_aload_n (pc := 9) (x := 177) dX12_layAside_9 rfl ?_
      refine n_getR (pc := 10) (j := 23) (q := 186) dX12_layAside_10 fl_RX12_36 (by decide) sh_177 rfl rfl rfl ?_
      refine r_iload_n (pc := 13) (x := y1) dX12_layAside_13 rfl ?_
      refine r_aload_n (pc := 14) (x := 177) dX12_layAside_14 rfl ?_
      refine n_getR (pc := 15) (j := 0) (q := 178) dX12_layAside_15 fl_RX12_9 (by decide) sh_177 rfl rfl rfl ?_
      refine r_iload_n (pc := 18) (x := y1) dX12_layAside_18 rfl ?_
      obtain ⟨b1, h⟩ := h
      refine n_iald (pc := 19) (j := (ix y1)) dX12_layAside_19 (by decide) sh_178 b1 rfl ?_
      obtain ⟨b2, h⟩ := h
      refine n_iast (pc := 20) (j := (ix y1)) dX12_layAside_20 (by decide) sh_186 b2 rfl ?_
      refine n_iinc (pc := 21) (x := y1) (w := 1) (L' := [some (.ref 177), some (.int (y1 + 1))]) dX12_layAside_21 rfl (by decide) rfl (by decide) rfl ?_
      refine r_goto (pc := 24) (tgt := 2) dX12_layAside_24 (by decide) ?_
      refine n_L (L' := [some (.ref 177), some (.int (y1 + 1))]) (le_s (le_s (le_e))) ?_
      exact ih _ _ h
def wpX12_layAside  (s : gS) (Q : gS → Prop) : Prop := ∃ n2, wX12_layAside_2  Q n2 0 s
set_option maxRecDepth 20000 in
theorem spX12_layAside {l : Launch}   {s : gS} {Q : gS → Prop} (h : wpX12_layAside  s Q) : Ct l mX12_layAside 1 0 0 [.ref 177] (nrm s) (q_v Q) := by
  refine Ct.of (by decide) (Nat.le_of_ble_eq_true rfl) (fun X => ?_)
  refine n_L (L' := [some (.ref 177), none]) (le_s (le_p (le_e))) ?_
  refine r_iconst (pc := 0) (v := 0) dX12_layAside_0 (by decide) ?_
  refine r_istore_n (pc := 1) (L' := [some (.ref 177), some (.int 0)]) dX12_layAside_1 rfl (by decide) rfl ?_
  refine n_L (L' := [some (.ref 177), some (.int 0)]) (le_s (le_s (le_e))) ?_
  obtain ⟨n, h⟩ := h
  exact pX12_layAside_2  n _ _ h 
def wX12_comesBack_2  (Q : gS → Prop)  : Nat → Int32 → gS → Prop
  | 0, _, _ => False
  | n + 1, y1, s => (218 ≤ y1 → Q s) ∧ (¬ (218 ≤ y1) → vp_in y1 218 ∧ (vp_in y1 218 ∧ (wX12_comesBack_2  Q n (y1 + 1) (wi s 178 (ix y1) (gi s 186 (ix y1))))))
set_option maxRecDepth 20000 in
theorem pX12_comesBack_2 {l : Launch} {X : gX}   {Q : gS → Prop}  : ∀ (n : Nat) (y1 : Int32) (s : gS) (h : wX12_comesBack_2  Q n y1 s) , Gw l mX12_comesBack (g_rm 1 0 0) X 2 [some (.ref 177), some (.int y1)] [] (nrm s) 0 0 (g_Z X (q_v Q) 0 0) := by
  intro n
  induction n with
  | zero => intro y1 s h; exact h.elim
  | succ n ih0 =>
    intro y1 s h 
    have ih : ∀ (y1 : Int32) (s : gS), wX12_comesBack_2  Q n y1 s → Gw l mX12_comesBack (g_rm 1 0 0) X 2 [some (.ref 177), some (.int y1)] [] (nrm s) 0 0 (g_Z X (q_v Q) 0 0) := fun y1 s h => ih0 y1 s h 
    refine r_iload_n (pc := 2) (x := y1) dX12_comesBack_2 rfl ?_
    refine r_sipush (pc := 3) (v := 218) dX12_comesBack_3 (by decide) ?_
    refine r_icmp_ge (pc := 6) (tgt := 27) dX12_comesBack_6 (by decide) (fun c => ?_) (fun c => ?_)
    · replace h := h.1 c
      exact n_vret (pc := 27) dX12_comesBack_27 rfl (Nat.le_refl _) (Nat.le_refl _) h
    · replace h := h.2 c
      refine r_aload_n (pc := 9) (x := 177) dX12_comesBack_9 rfl ?_
      refine n_getR (pc := 10) (j := 0) (q := 178) dX12_comesBack_10 fl_RX12_9 (by decide) sh_177 rfl rfl rfl ?_
      refine r_iload_n (pc := 13) (x := y1) dX12_comesBack_13 rfl ?_
      refine r_aload_n (pc := 14) (x := 177) dX12_comesBack_14 rfl ?_
      refine n_getR (pc := 15) (j := 23) (q := 186) dX12_comesBack_15 fl_RX12_36 (by decide) sh_177 rfl rfl rfl ?_
      refine r_iload_n (pc := 18) (x := y1) dX12_comesBack_18 rfl ?_
      obtain ⟨b1, h⟩ := h
      refine n_iald (pc := 19) (j := (ix y1)) dX12_comesBack_19 (by decide) sh_186 b1 rfl ?_
      obtain ⟨b2, h⟩ := h
      refine n_iast (pc := 20) (j := (ix y1)) dX12_comesBack_20 (by decide) sh_178 b2 rfl ?_
      refine n_iinc (pc := 21) (x := y1) (w := 1) (L' := [some (.ref 177), some (.int (y1 + 1))]) dX12_comesBack_21 rfl (by decide) rfl (by decide) rfl ?_
      refine r_goto (pc := 24) (tgt := 2) dX12_comesBack_24 (by decide) ?_
      refine n_L (L' := [some (.ref 177), some (.int (y1 + 1))]) (le_s (le_s (le_e))) ?_
      exact ih _ _ h
def wpX12_comesBack  (s : gS) (Q : gS → Prop) : Prop := ∃ n2, wX12_comesBack_2  Q n2 0 s
set_option maxRecDepth 20000 in
theorem spX12_comesBack {l : Launch}   {s : gS} {Q : gS → Prop} (h : wpX12_comesBack  s Q) : Ct l mX12_comesBack 1 0 0 [.ref 177] (nrm s) (q_v Q) := by
  refine Ct.of (by decide) (Nat.le_of_ble_eq_true rfl) (fun X => ?_)
  refine n_L (L' := [some (.ref 177), none]) (le_s (le_p (le_e))) ?_
  refine r_iconst (pc := 0) (v := 0) dX12_comesBack_0 (by decide) ?_
  refine r_istore_n (pc := 1) (L' := [some (.ref 177), some (.int 0)]) dX12_comesBack_1 rfl (by decide) rfl ?_
  refine n_L (L' := [some (.ref 177), some (.int 0)]) (le_s (le_s (le_e))) ?_
  obtain ⟨n, h⟩ := h
  exact pX12_comesBack_2  n _ _ h 
def wX12_goGo_41 (x1 : Int32) (Q : gS → Prop) (k8 : Int32 → gS → Prop) (y2 : Int32) (z0 : Int32) (z1 : Int32) (s : gS) : Prop := vp_in z1 218 ∧ (k8 (y2 + 1) (wi s 178 (ix z1) z0))
set_option maxRecDepth 20000 in
theorem pX12_goGo_41 {l : Launch} {X : gX} {x1 : Int32}  {Q : gS → Prop} {k8 : Int32 → gS → Prop} (y2 : Int32) (z0 : Int32) (z1 : Int32) (s : gS) (h : wX12_goGo_41 x1 Q k8 y2 z0 z1 s) (hk8 : ∀ (y2 : Int32) (s : gS), k8 y2 s → Gw l mX12_goGo (g_rm 1 0 0) X 8 [some (.ref 177), none, some (.int y2)] [] (nrm s) 0 0 (g_Z X (q_v Q) 0 0)) : Gw l mX12_goGo (g_rm 1 0 0) X 41 [some (.ref 177), none, some (.int y2)] [.int z0, .int z1, .ref 178] (nrm s) 0 0 (g_Z X (q_v Q) 0 0) := by
  obtain ⟨b2, h⟩ := h
  refine n_iast (pc := 41) (j := (ix z1)) dX12_goGo_41 (by decide) sh_178 b2 rfl ?_
  refine n_iinc (pc := 42) (x := y2) (w := 1) (L' := [some (.ref 177), none, some (.int (y2 + 1))]) dX12_goGo_42 rfl (by decide) rfl (by decide) rfl ?_
  refine r_goto (pc := 45) (tgt := 8) dX12_goGo_45 (by decide) ?_
  refine n_L (L' := [some (.ref 177), none, some (.int (y2 + 1))]) (le_s (le_n (le_s (le_e)))) ?_
  exact hk8 _ _ h
def wX12_goGo_8 (x1 : Int32) (Q : gS → Prop)  : Nat → Int32 → gS → Prop
  | 0, _, _ => False
  | n + 1, y2, s => (218 ≤ y2 → Q (wi s 178 1 ((gi s 178 1) - 1))) ∧ (¬ (218 ≤ y2) → (218 ≤ (y2 + 3) → wX12_goGo_41 x1 Q (fun y2 s => wX12_goGo_8 x1 Q n y2 s) y2 0 y2 s) ∧ (¬ (218 ≤ (y2 + 3)) → vp_in (y2 + 3) 218 ∧ (wX12_goGo_41 x1 Q (fun y2 s => wX12_goGo_8 x1 Q n y2 s) y2 (gi s 178 (ix (y2 + 3))) y2 s)))
set_option maxRecDepth 20000 in
theorem pX12_goGo_8 {l : Launch} {X : gX} {x1 : Int32}  {Q : gS → Prop}  : ∀ (n : Nat) (y2 : Int32) (s : gS) (h : wX12_goGo_8 x1 Q n y2 s) , Gw l mX12_goGo (g_rm 1 0 0) X 8 [some (.ref 177), none, some (.int y2)] [] (nrm s) 0 0 (g_Z X (q_v Q) 0 0) := by
  intro n
  induction n with
  | zero => intro y2 s h; exact h.elim
  | succ n ih0 =>
    intro y2 s h 
    have ih : ∀ (y2 : Int32) (s : gS), wX12_goGo_8 x1 Q n y2 s → Gw l mX12_goGo (g_rm 1 0 0) X 8 [some (.ref 177), none, some (.int y2)] [] (nrm s) 0 0 (g_Z X (q_v Q) 0 0) := fun y2 s h => ih0 y2 s h 
    refine r_iload_n (pc := 8) (x := y2) dX12_goGo_8 rfl ?_
    refine r_sipush (pc := 9) (v := 218) dX12_goGo_9 (by decide) ?_
    refine r_icmp_ge (pc := 12) (tgt := 48) dX12_goGo_12 (by decide) (fun c => ?_) (fun c => ?_)
    · replace h := h.1 c
      refine r_aload_n (pc := 48) (x := 177) dX12_goGo_48 rfl ?_
      refine n_getR (pc := 49) (j := 0) (q := 178) dX12_goGo_49 fl_RX12_9 (by decide) sh_177 rfl rfl rfl ?_
      refine r_iconst (pc := 52) (v := 1) dX12_goGo_52 (by decide) ?_
      refine r_dup2 (pc := 53) dX12_goGo_53 rfl rfl ?_
      refine n_iald (pc := 54) (j := 1) dX12_goGo_54 (by decide) sh_178 (vp_inc (by decide)) (by decide) ?_
      refine r_iconst (pc := 55) (v := 1) dX12_goGo_55 (by decide) ?_
      refine r_isub (pc := 56) dX12_goGo_56 ?_
      refine n_iast (pc := 57) (j := 1) dX12_goGo_57 (by decide) sh_178 (vp_inc (by decide)) (by decide) ?_
      exact n_vret (pc := 58) dX12_goGo_58 rfl (Nat.le_refl _) (Nat.le_refl _) h
    · replace h := h.2 c
      refine r_aload_n (pc := 15) (x := 177) dX12_goGo_15 rfl ?_
      refine n_getR (pc := 16) (j := 0) (q := 178) dX12_goGo_16 fl_RX12_9 (by decide) sh_177 rfl rfl rfl ?_
      refine r_iload_n (pc := 19) (x := y2) dX12_goGo_19 rfl ?_
      refine r_iload_n (pc := 20) (x := y2) dX12_goGo_20 rfl ?_
      refine r_iconst (pc := 21) (v := 3) dX12_goGo_21 (by decide) ?_
      refine r_iadd (pc := 22) dX12_goGo_22 ?_
      refine r_sipush (pc := 23) (v := 218) dX12_goGo_23 (by decide) ?_
      refine r_icmp_ge (pc := 26) (tgt := 40) dX12_goGo_26 (by decide) (fun c => ?_) (fun c => ?_)
      · replace h := h.1 c
        refine r_iconst (pc := 40) (v := 0) dX12_goGo_40 (by decide) ?_
        refine n_L (L' := [some (.ref 177), none, some (.int y2)]) (le_s (le_n (le_s (le_e)))) ?_
        exact pX12_goGo_41  _ _ _ _ h ih
      · replace h := h.2 c
        refine r_aload_n (pc := 29) (x := 177) dX12_goGo_29 rfl ?_
        refine n_getR (pc := 30) (j := 0) (q := 178) dX12_goGo_30 fl_RX12_9 (by decide) sh_177 rfl rfl rfl ?_
        refine r_iload_n (pc := 33) (x := y2) dX12_goGo_33 rfl ?_
        refine r_iconst (pc := 34) (v := 3) dX12_goGo_34 (by decide) ?_
        refine r_iadd (pc := 35) dX12_goGo_35 ?_
        obtain ⟨b1, h⟩ := h
        refine n_iald (pc := 36) (j := (ix (y2 + 3))) dX12_goGo_36 (by decide) sh_178 b1 rfl ?_
        refine r_goto (pc := 37) (tgt := 41) dX12_goGo_37 (by decide) ?_
        refine n_L (L' := [some (.ref 177), none, some (.int y2)]) (le_s (le_n (le_s (le_e)))) ?_
        exact pX12_goGo_41  _ _ _ _ h ih
def wpX12_goGo (x1 : Int32) (s : gS) (Q : gS → Prop) : Prop := ∃ n8, wX12_goGo_8 x1 Q n8 (188 + (3 * x1)) s
set_option maxRecDepth 20000 in
theorem spX12_goGo {l : Launch} {x1 : Int32}  {s : gS} {Q : gS → Prop} (h : wpX12_goGo x1 s Q) : Ct l mX12_goGo 1 0 0 [.ref 177, .int x1] (nrm s) (q_v Q) := by
  refine Ct.of (by decide) (Nat.le_of_ble_eq_true rfl) (fun X => ?_)
  refine n_L (L' := [some (.ref 177), some (.int x1), none]) (le_s (le_s (le_p (le_e)))) ?_
  refine r_sipush (pc := 0) (v := 188) dX12_goGo_0 (by decide) ?_
  refine r_iconst (pc := 3) (v := 3) dX12_goGo_3 (by decide) ?_
  refine r_iload_n (pc := 4) (x := x1) dX12_goGo_4 rfl ?_
  refine r_imul (pc := 5) dX12_goGo_5 ?_
  refine r_iadd (pc := 6) dX12_goGo_6 ?_
  refine r_istore_n (pc := 7) (L' := [some (.ref 177), some (.int x1), some (.int (188 + (3 * x1)))]) dX12_goGo_7 rfl (by decide) rfl ?_
  refine n_L (L' := [some (.ref 177), none, some (.int (188 + (3 * x1)))]) (le_s (le_n (le_s (le_e)))) ?_
  obtain ⟨n, h⟩ := h
  exact pX12_goGo_8  n _ _ h 
def wpX12_without (x1 : Int32) (s : gS) (Q : Int32 → gS → Prop) : Prop := wpX12_in x1 0 ((gi (wi s 177 5 0) 178 1) - 1) (wi s 177 5 0) (fun r1 s1 => (¬ r1 = 0 → wpX12_survey s1 (fun s2 => wpX12_leftAll s2 (fun r3 s3 => wpX12_layAside s3 (fun s4 => wpX12_goGo x1 s4 (fun s5 => wpX12_survey s5 (fun s6 => wpX12_comesBack s6 (fun s7 => wpX12_leftAll (wi s7 177 4 0) (fun r8 s8 => wpX12_tell ((r8 - r3).toInt64) s8 (fun s9 => Q (gi s9 177 17) s9))))))))) ∧ (r1 = 0 → Q (-1) s1))
set_option maxRecDepth 20000 in
theorem spX12_without {l : Launch} {x1 : Int32}  {s : gS} {Q : Int32 → gS → Prop} (h : wpX12_without x1 s Q) : Ct l mX12_without 7 0 0 [.ref 177, .int x1] (nrm s) (q_i Q) := by
  refine Ct.of (by decide) (Nat.le_of_ble_eq_true rfl) (fun X => ?_)
  refine n_L (L' := [some (.ref 177), some (.int x1), none]) (le_s (le_s (le_p (le_e)))) ?_
  refine r_aload_n (pc := 0) (x := 177) dX12_without_0 rfl ?_
  refine r_iconst (pc := 1) (v := 0) dX12_without_1 (by decide) ?_
  refine n_putI (pc := 2) (j := 5) dX12_without_2 fl_RX12_55 fw_12_5 (by decide) sh_177 rfl rfl ?_
  refine r_iload_n (pc := 5) (x := x1) dX12_without_5 rfl ?_
  refine r_iconst (pc := 6) (v := 0) dX12_without_6 (by decide) ?_
  refine r_aload_n (pc := 7) (x := 177) dX12_without_7 rfl ?_
  refine n_getR (pc := 8) (j := 0) (q := 178) dX12_without_8 fl_RX12_9 (by decide) sh_177 rfl rfl rfl ?_
  refine r_iconst (pc := 11) (v := 1) dX12_without_11 (by decide) ?_
  refine n_iald (pc := 12) (j := 1) dX12_without_12 (by decide) sh_178 (vp_inc (by decide)) (by decide) ?_
  refine r_iconst (pc := 13) (v := 1) dX12_without_13 (by decide) ?_
  refine r_isub (pc := 14) dX12_without_14 ?_
  refine n_Si0 (pc := 15) (S0 := []) (spX12_in h) gmX12_in lk_RX12_62 dX12_without_15 rfl rfl ⟨Nat.le_of_ble_eq_true rfl, Nat.le_of_ble_eq_true rfl⟩ (Nat.le_of_ble_eq_true rfl) ⟨Nat.zero_le _, Nat.zero_le _⟩ (fun r1 s1 h => ?_)
  refine r_if_ne (pc := 18) (tgt := 23) dX12_without_18 (by decide) (fun c => ?_) (fun c => ?_)
  · replace h := h.1 c
    refine r_aload_n (pc := 23) (x := 177) dX12_without_23 rfl ?_
    refine n_Vv0 (pc := 24) (S0 := []) (spX12_survey h) gmX12_survey selX12_survey lk_RX12_388 dX12_without_24 rfl (by decide) sh_177 ⟨rfl, by decide⟩ rfl ⟨Nat.le_of_ble_eq_true rfl, Nat.le_of_ble_eq_true rfl⟩ (Nat.le_of_ble_eq_true rfl) ⟨Nat.zero_le _, Nat.zero_le _⟩ (fun s2 h => ?_)
    refine r_aload_n (pc := 27) (x := 177) dX12_without_27 rfl ?_
    refine n_Vi0 (pc := 28) (S0 := []) (spX12_leftAll h) gmX12_leftAll selX12_leftAll lk_RX12_421 dX12_without_28 rfl (by decide) sh_177 ⟨rfl, by decide⟩ rfl ⟨Nat.le_of_ble_eq_true rfl, Nat.le_of_ble_eq_true rfl⟩ (Nat.le_of_ble_eq_true rfl) ⟨Nat.zero_le _, Nat.zero_le _⟩ (fun r3 s3 h => ?_)
    refine r_istore_n (pc := 31) (L' := [some (.ref 177), some (.int x1), some (.int r3)]) dX12_without_31 rfl (by decide) rfl ?_
    refine r_aload_n (pc := 32) (x := 177) dX12_without_32 rfl ?_
    refine n_Vv0 (pc := 33) (S0 := []) (spX12_layAside h) gmX12_layAside selX12_layAside lk_RX12_424 dX12_without_33 rfl (by decide) sh_177 ⟨rfl, by decide⟩ rfl ⟨Nat.le_of_ble_eq_true rfl, Nat.le_of_ble_eq_true rfl⟩ (Nat.le_of_ble_eq_true rfl) ⟨Nat.zero_le _, Nat.zero_le _⟩ (fun s4 h => ?_)
    refine r_aload_n (pc := 36) (x := 177) dX12_without_36 rfl ?_
    refine r_iload_n (pc := 37) (x := x1) dX12_without_37 rfl ?_
    refine n_Vv0 (pc := 38) (S0 := []) (spX12_goGo h) gmX12_goGo selX12_goGo lk_RX12_427 dX12_without_38 rfl (by decide) sh_177 ⟨rfl, by decide⟩ rfl ⟨Nat.le_of_ble_eq_true rfl, Nat.le_of_ble_eq_true rfl⟩ (Nat.le_of_ble_eq_true rfl) ⟨Nat.zero_le _, Nat.zero_le _⟩ (fun s5 h => ?_)
    refine r_aload_n (pc := 41) (x := 177) dX12_without_41 rfl ?_
    refine n_Vv0 (pc := 42) (S0 := []) (spX12_survey h) gmX12_survey selX12_survey lk_RX12_388 dX12_without_42 rfl (by decide) sh_177 ⟨rfl, by decide⟩ rfl ⟨Nat.le_of_ble_eq_true rfl, Nat.le_of_ble_eq_true rfl⟩ (Nat.le_of_ble_eq_true rfl) ⟨Nat.zero_le _, Nat.zero_le _⟩ (fun s6 h => ?_)
    refine r_aload_n (pc := 45) (x := 177) dX12_without_45 rfl ?_
    refine n_Vv0 (pc := 46) (S0 := []) (spX12_comesBack h) gmX12_comesBack selX12_comesBack lk_RX12_430 dX12_without_46 rfl (by decide) sh_177 ⟨rfl, by decide⟩ rfl ⟨Nat.le_of_ble_eq_true rfl, Nat.le_of_ble_eq_true rfl⟩ (Nat.le_of_ble_eq_true rfl) ⟨Nat.zero_le _, Nat.zero_le _⟩ (fun s7 h => ?_)
    refine r_aload_n (pc := 49) (x := 177) dX12_without_49 rfl ?_
    refine r_iconst (pc := 50) (v := 0) dX12_without_50 (by decide) ?_
    refine n_putI (pc := 51) (j := 4) dX12_without_51 fl_RX12_59 fw_12_4 (by decide) sh_177 rfl rfl ?_
    refine r_aload_n (pc := 54) (x := 177) dX12_without_54 rfl ?_
    refine r_aload_n (pc := 55) (x := 177) dX12_without_55 rfl ?_
    refine n_Vi0 (pc := 56) (S0 := [.ref 177]) (spX12_leftAll h) gmX12_leftAll selX12_leftAll lk_RX12_421 dX12_without_56 rfl (by decide) sh_177 ⟨rfl, by decide⟩ rfl ⟨Nat.le_of_ble_eq_true rfl, Nat.le_of_ble_eq_true rfl⟩ (Nat.le_of_ble_eq_true rfl) ⟨Nat.zero_le _, Nat.zero_le _⟩ (fun r8 s8 h => ?_)
    refine r_iload_n (pc := 59) (x := r3) dX12_without_59 rfl ?_
    refine r_isub (pc := 60) dX12_without_60 ?_
    refine r_i2l (pc := 61) dX12_without_61 ?_
    refine n_Vv0 (pc := 62) (S0 := []) (spX12_tell h) gmX12_tell selX12_tell lk_RX12_91 dX12_without_62 rfl (by decide) sh_177 ⟨rfl, by decide⟩ rfl ⟨Nat.le_of_ble_eq_true rfl, Nat.le_of_ble_eq_true rfl⟩ (Nat.le_of_ble_eq_true rfl) ⟨Nat.zero_le _, Nat.zero_le _⟩ (fun s9 h => ?_)
    refine r_aload_n (pc := 65) (x := 177) dX12_without_65 rfl ?_
    refine n_getI (pc := 66) (j := 17) dX12_without_66 fl_RX12_357 (by decide) sh_177 rfl rfl ?_
    exact n_iret (pc := 69) dX12_without_69 rfl (Nat.le_refl _) (Nat.le_refl _) h
  · replace h := h.2 c
    refine r_iconst (pc := 21) (v := (-1)) dX12_without_21 (by decide) ?_
    exact n_iret (pc := 22) dX12_without_22 rfl (Nat.le_refl _) (Nat.le_refl _) h
def wX12_with_124 (x1 : Int32) (x2 : Int32) (x3 : Int32) (Q : Int32 → gS → Prop) (k129 : Int32 → Int32 → Int32 → gS → Prop) (y4 : Int32) (y5 : Int32) (s : gS) : Prop := k129 y4 y5 1 s
set_option maxRecDepth 20000 in
theorem pX12_with_124 {l : Launch} {X : gX} {x1 : Int32} {x2 : Int32} {x3 : Int32}  {Q : Int32 → gS → Prop} {k129 : Int32 → Int32 → Int32 → gS → Prop} (y4 : Int32) (y5 : Int32) (s : gS) (h : wX12_with_124 x1 x2 x3 Q k129 y4 y5 s) (hk129 : ∀ (y4 : Int32) (y5 : Int32) (z0 : Int32) (s : gS), k129 y4 y5 z0 s → Gw l mX12_with (g_rm 7 0 0) X 129 [some (.ref 177), some (.int x1), some (.int x2), some (.int x3), some (.int y4), some (.int y5), none, none, none, none] [.int z0] (nrm s) 0 0 (g_Z X (q_i Q) 0 0)) : Gw l mX12_with (g_rm 7 0 0) X 124 [some (.ref 177), some (.int x1), some (.int x2), some (.int x3), some (.int y4), some (.int y5), none, none, none, none] [] (nrm s) 0 0 (g_Z X (q_i Q) 0 0) := by
  refine r_iconst (pc := 124) (v := 1) dX12_with_124 (by decide) ?_
  refine r_goto (pc := 125) (tgt := 129) dX12_with_125 (by decide) ?_
  refine n_L (L' := [some (.ref 177), some (.int x1), some (.int x2), some (.int x3), some (.int y4), some (.int y5), none, none, none, none]) (le_s (le_s (le_s (le_s (le_s (le_s (le_n (le_n (le_n (le_n (le_e))))))))))) ?_
  exact hk129 _ _ _ _ h
def wX12_with_193 (x1 : Int32) (x2 : Int32) (x3 : Int32) (Q : Int32 → gS → Prop) (k81 : Int32 → Int32 → Int32 → gS → Prop) (y4 : Int32) (y5 : Int32) (s : gS) : Prop := wpX12_nextPicks s (fun r6 s6 => k81 y4 y5 r6 s6)
set_option maxRecDepth 20000 in
theorem pX12_with_193 {l : Launch} {X : gX} {x1 : Int32} {x2 : Int32} {x3 : Int32}  {Q : Int32 → gS → Prop} {k81 : Int32 → Int32 → Int32 → gS → Prop} (y4 : Int32) (y5 : Int32) (s : gS) (h : wX12_with_193 x1 x2 x3 Q k81 y4 y5 s) (hk81 : ∀ (y4 : Int32) (y5 : Int32) (y7 : Int32) (s : gS), k81 y4 y5 y7 s → Gw l mX12_with (g_rm 7 0 0) X 81 [some (.ref 177), some (.int x1), some (.int x2), some (.int x3), some (.int y4), some (.int y5), none, some (.int y7), none, none] [] (nrm s) 0 0 (g_Z X (q_i Q) 0 0)) : Gw l mX12_with (g_rm 7 0 0) X 193 [some (.ref 177), some (.int x1), some (.int x2), some (.int x3), some (.int y4), some (.int y5), none, none, none, none] [] (nrm s) 0 0 (g_Z X (q_i Q) 0 0) := by
  refine r_aload_n (pc := 193) (x := 177) dX12_with_193 rfl ?_
  refine n_Vi0 (pc := 194) (S0 := []) (spX12_nextPicks h) gmX12_nextPicks selX12_nextPicks lk_RX12_375 dX12_with_194 rfl (by decide) sh_177 ⟨rfl, by decide⟩ rfl ⟨Nat.le_of_ble_eq_true rfl, Nat.le_of_ble_eq_true rfl⟩ (Nat.le_of_ble_eq_true rfl) ⟨Nat.zero_le _, Nat.zero_le _⟩ (fun r6 s6 h => ?_)
  refine r_istore (pc := 197) (L' := [some (.ref 177), some (.int x1), some (.int x2), some (.int x3), some (.int y4), some (.int y5), none, some (.int r6), none, none]) dX12_with_197 rfl (by decide) rfl ?_
  refine r_goto (pc := 199) (tgt := 81) dX12_with_199 (by decide) ?_
  refine n_L (L' := [some (.ref 177), some (.int x1), some (.int x2), some (.int x3), some (.int y4), some (.int y5), none, some (.int r6), none, none]) (le_s (le_s (le_s (le_s (le_s (le_s (le_n (le_s (le_n (le_n (le_e))))))))))) ?_
  exact hk81 _ _ _ _ h
def wX12_with_149 (x1 : Int32) (x2 : Int32) (x3 : Int32) (Q : Int32 → gS → Prop) (k193 : Int32 → Int32 → gS → Prop) : Nat → Int32 → Int32 → Int32 → gS → Prop
  | 0, _, _, _, _ => False
  | n + 1, y4, y5, y9, s => (6 ≤ y9 → k193 y4 y5 s) ∧ (¬ (6 ≤ y9) → wpX12_isTold y9 s (fun r16 s16 => (r16 = 0 → wX12_with_149 x1 x2 x3 Q k193 n y4 y5 (y9 + 1) s16) ∧ (¬ (r16 = 0) → vp_in y9 6 ∧ (vp_in ((6 * y9) + (gi s16 182 (ix y9))) 36 ∧ (vp_in ((6 * y9) + (gi s16 182 (ix y9))) 36 ∧ (wX12_with_149 x1 x2 x3 Q k193 n y4 y5 (y9 + 1) (wi s16 183 (ix ((6 * y9) + (gi s16 182 (ix y9)))) ((gi s16 183 (ix ((6 * y9) + (gi s16 182 (ix y9))))) + 1))))))))
set_option maxRecDepth 20000 in
theorem pX12_with_149 {l : Launch} {X : gX} {x1 : Int32} {x2 : Int32} {x3 : Int32}  {Q : Int32 → gS → Prop} {k193 : Int32 → Int32 → gS → Prop} : ∀ (n : Nat) (y4 : Int32) (y5 : Int32) (y9 : Int32) (s : gS) (h : wX12_with_149 x1 x2 x3 Q k193 n y4 y5 y9 s) (hk193 : ∀ (y4 : Int32) (y5 : Int32) (s : gS), k193 y4 y5 s → Gw l mX12_with (g_rm 7 0 0) X 193 [some (.ref 177), some (.int x1), some (.int x2), some (.int x3), some (.int y4), some (.int y5), none, none, none, none] [] (nrm s) 0 0 (g_Z X (q_i Q) 0 0)), Gw l mX12_with (g_rm 7 0 0) X 149 [some (.ref 177), some (.int x1), some (.int x2), some (.int x3), some (.int y4), some (.int y5), none, none, none, some (.int y9)] [] (nrm s) 0 0 (g_Z X (q_i Q) 0 0) := by
  intro n
  induction n with
  | zero => intro y4 y5 y9 s h; exact h.elim
  | succ n ih0 =>
    intro y4 y5 y9 s h hk193
    have ih : ∀ (y4 : Int32) (y5 : Int32) (y9 : Int32) (s : gS), wX12_with_149 x1 x2 x3 Q k193 n y4 y5 y9 s → Gw l mX12_with (g_rm 7 0 0) X 149 [some (.ref 177), some (.int x1), some (.int x2), some (.int x3), some (.int y4), some (.int y5), none, none, none, some (.int y9)] [] (nrm s) 0 0 (g_Z X (q_i Q) 0 0) := fun y4 y5 y9 s h => ih0 y4 y5 y9 s h hk193
    refine r_iload (pc := 149) (x := y9) dX12_with_149 rfl ?_
    refine r_bipush (pc := 151) (v := 6) dX12_with_151 (by decide) ?_
    refine r_icmp_ge (pc := 153) (tgt := 193) dX12_with_153 (by decide) (fun c => ?_) (fun c => ?_)
    · replace h := h.1 c
      refine n_L (L' := [some (.ref 177), some (.int x1), some (.int x2), some (.int x3), some (.int y4), some (.int y5), none, none, none, none]) (le_s (le_s (le_s (le_s (le_s (le_s (le_n (le_n (le_n (le_n (le_e))))))))))) ?_
      exact hk193 _ _ _ h
    · replace h := h.2 c
      refine r_aload_n (pc := 156) (x := 177) dX12_with_156 rfl ?_
      refine r_iload (pc := 157) (x := y9) dX12_with_157 rfl ?_
      refine n_Vi0 (pc := 159) (S0 := []) (spX12_isTold h) gmX12_isTold selX12_isTold lk_RX12_330 dX12_with_159 rfl (by decide) sh_177 ⟨rfl, by decide⟩ rfl ⟨Nat.le_of_ble_eq_true rfl, Nat.le_of_ble_eq_true rfl⟩ (Nat.le_of_ble_eq_true rfl) ⟨Nat.zero_le _, Nat.zero_le _⟩ (fun r16 s16 h => ?_)
      refine r_if_eq (pc := 162) (tgt := 187) dX12_with_162 (by decide) (fun c => ?_) (fun c => ?_)
      · replace h := h.1 c
        refine n_iinc (pc := 187) (x := y9) (w := 1) (L' := [some (.ref 177), some (.int x1), some (.int x2), some (.int x3), some (.int y4), some (.int y5), none, none, none, some (.int (y9 + 1))]) dX12_with_187 rfl (by decide) rfl (by decide) rfl ?_
        refine r_goto (pc := 190) (tgt := 149) dX12_with_190 (by decide) ?_
        refine n_L (L' := [some (.ref 177), some (.int x1), some (.int x2), some (.int x3), some (.int y4), some (.int y5), none, none, none, some (.int (y9 + 1))]) (le_s (le_s (le_s (le_s (le_s (le_s (le_n (le_n (le_n (le_s (le_e))))))))))) ?_
        exact ih _ _ _ _ h
      · replace h := h.2 c
        refine r_aload_n (pc := 165) (x := 177) dX12_with_165 rfl ?_
        refine n_getR (pc := 166) (j := 19) (q := 183) dX12_with_166 fl_RX12_27 (by decide) sh_177 rfl rfl rfl ?_
        refine r_bipush (pc := 169) (v := 6) dX12_with_169 (by decide) ?_
        refine r_iload (pc := 171) (x := y9) dX12_with_171 rfl ?_
        refine r_imul (pc := 173) dX12_with_173 ?_
        refine r_aload_n (pc := 174) (x := 177) dX12_with_174 rfl ?_
        refine n_getR (pc := 175) (j := 16) (q := 182) dX12_with_175 fl_RX12_24 (by decide) sh_177 rfl rfl rfl ?_
        refine r_iload (pc := 178) (x := y9) dX12_with_178 rfl ?_
        obtain ⟨b17, h⟩ := h
        refine n_iald (pc := 180) (j := (ix y9)) dX12_with_180 (by decide) sh_182 b17 rfl ?_
        refine r_iadd (pc := 181) dX12_with_181 ?_
        refine r_dup2 (pc := 182) dX12_with_182 rfl rfl ?_
        obtain ⟨b18, h⟩ := h
        refine n_iald (pc := 183) (j := (ix ((6 * y9) + (gi s16 182 (ix y9))))) dX12_with_183 (by decide) sh_183 b18 rfl ?_
        refine r_iconst (pc := 184) (v := 1) dX12_with_184 (by decide) ?_
        refine r_iadd (pc := 185) dX12_with_185 ?_
        obtain ⟨b19, h⟩ := h
        refine n_iast (pc := 186) (j := (ix ((6 * y9) + (gi s16 182 (ix y9))))) dX12_with_186 (by decide) sh_183 b19 rfl ?_
        refine n_iinc (pc := 187) (x := y9) (w := 1) (L' := [some (.ref 177), some (.int x1), some (.int x2), some (.int x3), some (.int y4), some (.int y5), none, none, none, some (.int (y9 + 1))]) dX12_with_187 rfl (by decide) rfl (by decide) rfl ?_
        refine r_goto (pc := 190) (tgt := 149) dX12_with_190 (by decide) ?_
        refine n_L (L' := [some (.ref 177), some (.int x1), some (.int x2), some (.int x3), some (.int y4), some (.int y5), none, none, none, some (.int (y9 + 1))]) (le_s (le_s (le_s (le_s (le_s (le_s (le_n (le_n (le_n (le_s (le_e))))))))))) ?_
        exact ih _ _ _ _ h
def wX12_with_129 (x1 : Int32) (x2 : Int32) (x3 : Int32) (Q : Int32 → gS → Prop) (k81 : Int32 → Int32 → Int32 → gS → Prop) (y4 : Int32) (y5 : Int32) (z0 : Int32) (s : gS) : Prop := (z0 = 0 → wX12_with_193 x1 x2 x3 Q k81 y4 y5 s) ∧ (¬ (z0 = 0) → wpX12_brokenNow s (fun r5 s5 => (¬ r5 = 0 → wX12_with_193 x1 x2 x3 Q k81 y4 y5 s5) ∧ (r5 = 0 → ∃ n149, wX12_with_149 x1 x2 x3 Q (wX12_with_193 x1 x2 x3 Q k81) n149 y4 (y5 + 1) 0 s5)))
set_option maxRecDepth 20000 in
theorem pX12_with_129 {l : Launch} {X : gX} {x1 : Int32} {x2 : Int32} {x3 : Int32}  {Q : Int32 → gS → Prop} {k81 : Int32 → Int32 → Int32 → gS → Prop} (y4 : Int32) (y5 : Int32) (z0 : Int32) (s : gS) (h : wX12_with_129 x1 x2 x3 Q k81 y4 y5 z0 s) (hk81 : ∀ (y4 : Int32) (y5 : Int32) (y7 : Int32) (s : gS), k81 y4 y5 y7 s → Gw l mX12_with (g_rm 7 0 0) X 81 [some (.ref 177), some (.int x1), some (.int x2), some (.int x3), some (.int y4), some (.int y5), none, some (.int y7), none, none] [] (nrm s) 0 0 (g_Z X (q_i Q) 0 0)) : Gw l mX12_with (g_rm 7 0 0) X 129 [some (.ref 177), some (.int x1), some (.int x2), some (.int x3), some (.int y4), some (.int y5), none, none, none, none] [.int z0] (nrm s) 0 0 (g_Z X (q_i Q) 0 0) := by
  refine r_istore (pc := 129) (L' := [some (.ref 177), some (.int x1), some (.int x2), some (.int x3), some (.int y4), some (.int y5), none, none, some (.int z0), none]) dX12_with_129 rfl (by decide) rfl ?_
  refine r_iload (pc := 131) (x := z0) dX12_with_131 rfl ?_
  refine r_if_eq (pc := 133) (tgt := 193) dX12_with_133 (by decide) (fun c => ?_) (fun c => ?_)
  · replace h := h.1 c
    refine n_L (L' := [some (.ref 177), some (.int x1), some (.int x2), some (.int x3), some (.int y4), some (.int y5), none, none, none, none]) (le_s (le_s (le_s (le_s (le_s (le_s (le_n (le_n (le_n (le_n (le_e))))))))))) ?_
    exact pX12_with_193  _ _ _ h hk81
  · replace h := h.2 c
    refine r_aload_n (pc := 136) (x := 177) dX12_with_136 rfl ?_
    refine n_Vi0 (pc := 137) (S0 := []) (spX12_brokenNow h) gmX12_brokenNow selX12_brokenNow lk_RX12_369 dX12_with_137 rfl (by decide) sh_177 ⟨rfl, by decide⟩ rfl ⟨Nat.le_of_ble_eq_true rfl, Nat.le_of_ble_eq_true rfl⟩ (Nat.le_of_ble_eq_true rfl) ⟨Nat.zero_le _, Nat.zero_le _⟩ (fun r5 s5 h => ?_)
    refine r_if_ne (pc := 140) (tgt := 193) dX12_with_140 (by decide) (fun c => ?_) (fun c => ?_)
    · replace h := h.1 c
      refine n_L (L' := [some (.ref 177), some (.int x1), some (.int x2), some (.int x3), some (.int y4), some (.int y5), none, none, none, none]) (le_s (le_s (le_s (le_s (le_s (le_s (le_n (le_n (le_n (le_n (le_e))))))))))) ?_
      exact pX12_with_193  _ _ _ h hk81
    · replace h := h.2 c
      refine n_iinc (pc := 143) (x := y5) (w := 1) (L' := [some (.ref 177), some (.int x1), some (.int x2), some (.int x3), some (.int y4), some (.int (y5 + 1)), none, none, some (.int z0), none]) dX12_with_143 rfl (by decide) rfl (by decide) rfl ?_
      refine r_iconst (pc := 146) (v := 0) dX12_with_146 (by decide) ?_
      refine r_istore (pc := 147) (L' := [some (.ref 177), some (.int x1), some (.int x2), some (.int x3), some (.int y4), some (.int (y5 + 1)), none, none, some (.int z0), some (.int 0)]) dX12_with_147 rfl (by decide) rfl ?_
      refine n_L (L' := [some (.ref 177), some (.int x1), some (.int x2), some (.int x3), some (.int y4), some (.int (y5 + 1)), none, none, none, some (.int 0)]) (le_s (le_s (le_s (le_s (le_s (le_s (le_n (le_n (le_n (le_s (le_e))))))))))) ?_
      obtain ⟨n, h⟩ := h
      exact pX12_with_149  n _ _ _ _ h (fun _ _ _ h => pX12_with_193  _ _ _ h hk81)
def wX12_with_81 (x1 : Int32) (x2 : Int32) (x3 : Int32) (Q : Int32 → gS → Prop)  : Nat → Int32 → Int32 → Int32 → gS → Prop
  | 0, _, _, _, _ => False
  | n + 1, y4, y5, y7, s => (y7 = 0 → wpX12_leftAll s (fun r7 s7 => wpX12_tell ((y4 - r7).toInt64) (wi s7 177 4 0) (fun s8 => Q y5 s8))) ∧ (¬ (y7 = 0) → wpX12_isTold x2 s (fun r9 s9 => (r9 = 0 → wX12_with_124 x1 x2 x3 Q (wX12_with_129 x1 x2 x3 Q (fun y4 y5 y7 s => wX12_with_81 x1 x2 x3 Q n y4 y5 y7 s)) y4 y5 s9) ∧ (¬ (r9 = 0) → wpX12_isTold x3 s9 (fun r10 s10 => (r10 = 0 → wX12_with_124 x1 x2 x3 Q (wX12_with_129 x1 x2 x3 Q (fun y4 y5 y7 s => wX12_with_81 x1 x2 x3 Q n y4 y5 y7 s)) y4 y5 s10) ∧ (¬ (r10 = 0) → vp_in x2 6 ∧ (vp_in x3 6 ∧ (wpX12_holdsBy x1 x2 (gi s10 182 (ix x2)) x3 (gi s10 182 (ix x3)) s10 (fun r13 s13 => (r13 = 0 → wX12_with_129 x1 x2 x3 Q (fun y4 y5 y7 s => wX12_with_81 x1 x2 x3 Q n y4 y5 y7 s) y4 y5 0 s13) ∧ (¬ (r13 = 0) → wX12_with_124 x1 x2 x3 Q (wX12_with_129 x1 x2 x3 Q (fun y4 y5 y7 s => wX12_with_81 x1 x2 x3 Q n y4 y5 y7 s)) y4 y5 s13)))))))))
set_option maxRecDepth 20000 in
theorem pX12_with_81 {l : Launch} {X : gX} {x1 : Int32} {x2 : Int32} {x3 : Int32}  {Q : Int32 → gS → Prop}  : ∀ (n : Nat) (y4 : Int32) (y5 : Int32) (y7 : Int32) (s : gS) (h : wX12_with_81 x1 x2 x3 Q n y4 y5 y7 s) , Gw l mX12_with (g_rm 7 0 0) X 81 [some (.ref 177), some (.int x1), some (.int x2), some (.int x3), some (.int y4), some (.int y5), none, some (.int y7), none, none] [] (nrm s) 0 0 (g_Z X (q_i Q) 0 0) := by
  intro n
  induction n with
  | zero => intro y4 y5 y7 s h; exact h.elim
  | succ n ih0 =>
    intro y4 y5 y7 s h 
    have ih : ∀ (y4 : Int32) (y5 : Int32) (y7 : Int32) (s : gS), wX12_with_81 x1 x2 x3 Q n y4 y5 y7 s → Gw l mX12_with (g_rm 7 0 0) X 81 [some (.ref 177), some (.int x1), some (.int x2), some (.int x3), some (.int y4), some (.int y5), none, some (.int y7), none, none] [] (nrm s) 0 0 (g_Z X (q_i Q) 0 0) := fun y4 y5 y7 s h => ih0 y4 y5 y7 s h 
    refine r_iload (pc := 81) (x := y7) dX12_with_81 rfl ?_
    refine r_if_eq (pc := 83) (tgt := 202) dX12_with_83 (by decide) (fun c => ?_) (fun c => ?_)
    · replace h := h.1 c
      refine r_aload_n (pc := 202) (x := 177) dX12_with_202 rfl ?_
      refine n_Vi0 (pc := 203) (S0 := []) (spX12_leftAll h) gmX12_leftAll selX12_leftAll lk_RX12_421 dX12_with_203 rfl (by decide) sh_177 ⟨rfl, by decide⟩ rfl ⟨Nat.le_of_ble_eq_true rfl, Nat.le_of_ble_eq_true rfl⟩ (Nat.le_of_ble_eq_true rfl) ⟨Nat.zero_le _, Nat.zero_le _⟩ (fun r7 s7 h => ?_)
      refine r_istore (pc := 206) (L' := [some (.ref 177), some (.int x1), some (.int x2), some (.int x3), some (.int y4), some (.int y5), some (.int r7), some (.int y7), none, none]) dX12_with_206 rfl (by decide) rfl ?_
      refine r_aload_n (pc := 208) (x := 177) dX12_with_208 rfl ?_
      refine r_iconst (pc := 209) (v := 0) dX12_with_209 (by decide) ?_
      refine n_putI (pc := 210) (j := 4) dX12_with_210 fl_RX12_59 fw_12_4 (by decide) sh_177 rfl rfl ?_
      refine r_aload_n (pc := 213) (x := 177) dX12_with_213 rfl ?_
      refine r_iload (pc := 214) (x := y4) dX12_with_214 rfl ?_
      refine r_iload (pc := 216) (x := r7) dX12_with_216 rfl ?_
      refine r_isub (pc := 218) dX12_with_218 ?_
      refine r_i2l (pc := 219) dX12_with_219 ?_
      refine n_Vv0 (pc := 220) (S0 := []) (spX12_tell h) gmX12_tell selX12_tell lk_RX12_91 dX12_with_220 rfl (by decide) sh_177 ⟨rfl, by decide⟩ rfl ⟨Nat.le_of_ble_eq_true rfl, Nat.le_of_ble_eq_true rfl⟩ (Nat.le_of_ble_eq_true rfl) ⟨Nat.zero_le _, Nat.zero_le _⟩ (fun s8 h => ?_)
      refine r_iload (pc := 223) (x := y5) dX12_with_223 rfl ?_
      exact n_iret (pc := 225) dX12_with_225 rfl (Nat.le_refl _) (Nat.le_refl _) h
    · replace h := h.2 c
      refine r_aload_n (pc := 86) (x := 177) dX12_with_86 rfl ?_
      refine r_iload_n (pc := 87) (x := x2) dX12_with_87 rfl ?_
      refine n_Vi0 (pc := 88) (S0 := []) (spX12_isTold h) gmX12_isTold selX12_isTold lk_RX12_330 dX12_with_88 rfl (by decide) sh_177 ⟨rfl, by decide⟩ rfl ⟨Nat.le_of_ble_eq_true rfl, Nat.le_of_ble_eq_true rfl⟩ (Nat.le_of_ble_eq_true rfl) ⟨Nat.zero_le _, Nat.zero_le _⟩ (fun r9 s9 h => ?_)
      refine r_if_eq (pc := 91) (tgt := 124) dX12_with_91 (by decide) (fun c => ?_) (fun c => ?_)
      · replace h := h.1 c
        refine n_L (L' := [some (.ref 177), some (.int x1), some (.int x2), some (.int x3), some (.int y4), some (.int y5), none, none, none, none]) (le_s (le_s (le_s (le_s (le_s (le_s (le_n (le_n (le_n (le_n (le_e))))))))))) ?_
        exact pX12_with_124  _ _ _ h (fun _ _ _ _ h => pX12_with_129  _ _ _ _ h ih)
      · replace h := h.2 c
        refine r_aload_n (pc := 94) (x := 177) dX12_with_94 rfl ?_
        refine r_iload_n (pc := 95) (x := x3) dX12_with_95 rfl ?_
        refine n_Vi0 (pc := 96) (S0 := []) (spX12_isTold h) gmX12_isTold selX12_isTold lk_RX12_330 dX12_with_96 rfl (by decide) sh_177 ⟨rfl, by decide⟩ rfl ⟨Nat.le_of_ble_eq_true rfl, Nat.le_of_ble_eq_true rfl⟩ (Nat.le_of_ble_eq_true rfl) ⟨Nat.zero_le _, Nat.zero_le _⟩ (fun r10 s10 h => ?_)
        refine r_if_eq (pc := 99) (tgt := 124) dX12_with_99 (by decide) (fun c => ?_) (fun c => ?_)
        · replace h := h.1 c
          refine n_L (L' := [some (.ref 177), some (.int x1), some (.int x2), some (.int x3), some (.int y4), some (.int y5), none, none, none, none]) (le_s (le_s (le_s (le_s (le_s (le_s (le_n (le_n (le_n (le_n (le_e))))))))))) ?_
          exact pX12_with_124  _ _ _ h (fun _ _ _ _ h => pX12_with_129  _ _ _ _ h ih)
        · replace h := h.2 c
          refine r_aload_n (pc := 102) (x := 177) dX12_with_102 rfl ?_
          refine r_iload_n (pc := 103) (x := x1) dX12_with_103 rfl ?_
          refine r_iload_n (pc := 104) (x := x2) dX12_with_104 rfl ?_
          refine r_aload_n (pc := 105) (x := 177) dX12_with_105 rfl ?_
          refine n_getR (pc := 106) (j := 16) (q := 182) dX12_with_106 fl_RX12_24 (by decide) sh_177 rfl rfl rfl ?_
          refine r_iload_n (pc := 109) (x := x2) dX12_with_109 rfl ?_
          obtain ⟨b11, h⟩ := h
          refine n_iald (pc := 110) (j := (ix x2)) dX12_with_110 (by decide) sh_182 b11 rfl ?_
          refine r_iload_n (pc := 111) (x := x3) dX12_with_111 rfl ?_
          refine r_aload_n (pc := 112) (x := 177) dX12_with_112 rfl ?_
          refine n_getR (pc := 113) (j := 16) (q := 182) dX12_with_113 fl_RX12_24 (by decide) sh_177 rfl rfl rfl ?_
          refine r_iload_n (pc := 116) (x := x3) dX12_with_116 rfl ?_
          obtain ⟨b12, h⟩ := h
          refine n_iald (pc := 117) (j := (ix x3)) dX12_with_117 (by decide) sh_182 b12 rfl ?_
          refine n_Vi0 (pc := 118) (S0 := []) (spX12_holdsBy h) gmX12_holdsBy selX12_holdsBy lk_RX12_347 dX12_with_118 rfl (by decide) sh_177 ⟨rfl, by decide⟩ rfl ⟨Nat.le_of_ble_eq_true rfl, Nat.le_of_ble_eq_true rfl⟩ (Nat.le_of_ble_eq_true rfl) ⟨Nat.zero_le _, Nat.zero_le _⟩ (fun r13 s13 h => ?_)
          refine r_if_eq (pc := 121) (tgt := 128) dX12_with_121 (by decide) (fun c => ?_) (fun c => ?_)
          · replace h := h.1 c
            refine r_iconst (pc := 128) (v := 0) dX12_with_128 (by decide) ?_
            refine n_L (L' := [some (.ref 177), some (.int x1), some (.int x2), some (.int x3), some (.int y4), some (.int y5), none, none, none, none]) (le_s (le_s (le_s (le_s (le_s (le_s (le_n (le_n (le_n (le_n (le_e))))))))))) ?_
            exact pX12_with_129  _ _ _ _ h ih
          · replace h := h.2 c
            refine n_L (L' := [some (.ref 177), some (.int x1), some (.int x2), some (.int x3), some (.int y4), some (.int y5), none, none, none, none]) (le_s (le_s (le_s (le_s (le_s (le_s (le_n (le_n (le_n (le_n (le_e))))))))))) ?_
            exact pX12_with_124  _ _ _ h (fun _ _ _ _ h => pX12_with_129  _ _ _ _ h ih)
def wX12_with_51 (x1 : Int32) (x2 : Int32) (x3 : Int32) (Q : Int32 → gS → Prop)  : Nat → Int32 → Int32 → Int32 → gS → Prop
  | 0, _, _, _, _ => False
  | n + 1, y4, y5, y7, s => (36 ≤ y7 → wpX12_startPicks s (fun r14 s14 => ∃ n81, wX12_with_81 x1 x2 x3 Q n81 y4 y5 r14 s14)) ∧ (¬ (36 ≤ y7) → vp_in y7 36 ∧ (wX12_with_51 x1 x2 x3 Q n y4 y5 (y7 + 1) (wi s 183 (ix y7) 0)))
set_option maxRecDepth 20000 in
theorem pX12_with_51 {l : Launch} {X : gX} {x1 : Int32} {x2 : Int32} {x3 : Int32}  {Q : Int32 → gS → Prop}  : ∀ (n : Nat) (y4 : Int32) (y5 : Int32) (y7 : Int32) (s : gS) (h : wX12_with_51 x1 x2 x3 Q n y4 y5 y7 s) , Gw l mX12_with (g_rm 7 0 0) X 51 [some (.ref 177), some (.int x1), some (.int x2), some (.int x3), some (.int y4), some (.int y5), none, some (.int y7), none, none] [] (nrm s) 0 0 (g_Z X (q_i Q) 0 0) := by
  intro n
  induction n with
  | zero => intro y4 y5 y7 s h; exact h.elim
  | succ n ih0 =>
    intro y4 y5 y7 s h 
    have ih : ∀ (y4 : Int32) (y5 : Int32) (y7 : Int32) (s : gS), wX12_with_51 x1 x2 x3 Q n y4 y5 y7 s → Gw l mX12_with (g_rm 7 0 0) X 51 [some (.ref 177), some (.int x1), some (.int x2), some (.int x3), some (.int y4), some (.int y5), none, some (.int y7), none, none] [] (nrm s) 0 0 (g_Z X (q_i Q) 0 0) := fun y4 y5 y7 s h => ih0 y4 y5 y7 s h 
    refine r_iload (pc := 51) (x := y7) dX12_with_51 rfl ?_
    refine r_aload_n (pc := 53) (x := 177) dX12_with_53 rfl ?_
    refine n_getR (pc := 54) (j := 19) (q := 183) dX12_with_54 fl_RX12_27 (by decide) sh_177 rfl rfl rfl ?_
    refine n_alen (pc := 57) (v := 36) dX12_with_57 (by decide) sh_183 (by decide) (by decide) ?_
    refine r_icmp_ge (pc := 58) (tgt := 75) dX12_with_58 (by decide) (fun c => ?_) (fun c => ?_)
    · replace h := h.1 c
      refine r_aload_n (pc := 75) (x := 177) dX12_with_75 rfl ?_
      refine n_Vi0 (pc := 76) (S0 := []) (spX12_startPicks h) gmX12_startPicks selX12_startPicks lk_RX12_366 dX12_with_76 rfl (by decide) sh_177 ⟨rfl, by decide⟩ rfl ⟨Nat.le_of_ble_eq_true rfl, Nat.le_of_ble_eq_true rfl⟩ (Nat.le_of_ble_eq_true rfl) ⟨Nat.zero_le _, Nat.zero_le _⟩ (fun r14 s14 h => ?_)
      refine r_istore (pc := 79) (L' := [some (.ref 177), some (.int x1), some (.int x2), some (.int x3), some (.int y4), some (.int y5), none, some (.int r14), none, none]) dX12_with_79 rfl (by decide) rfl ?_
      refine n_L (L' := [some (.ref 177), some (.int x1), some (.int x2), some (.int x3), some (.int y4), some (.int y5), none, some (.int r14), none, none]) (le_s (le_s (le_s (le_s (le_s (le_s (le_n (le_s (le_n (le_n (le_e))))))))))) ?_
      obtain ⟨n, h⟩ := h
      exact pX12_with_81  n _ _ _ _ h 
    · replace h := h.2 c
      refine r_aload_n (pc := 61) (x := 177) dX12_with_61 rfl ?_
      refine n_getR (pc := 62) (j := 19) (q := 183) dX12_with_62 fl_RX12_27 (by decide) sh_177 rfl rfl rfl ?_
      refine r_iload (pc := 65) (x := y7) dX12_with_65 rfl ?_
      refine r_iconst (pc := 67) (v := 0) dX12_with_67 (by decide) ?_
      obtain ⟨b15, h⟩ := h
      refine n_iast (pc := 68) (j := (ix y7)) dX12_with_68 (by decide) sh_183 b15 rfl ?_
      refine n_iinc (pc := 69) (x := y7) (w := 1) (L' := [some (.ref 177), some (.int x1), some (.int x2), some (.int x3), some (.int y4), some (.int y5), none, some (.int (y7 + 1)), none, none]) dX12_with_69 rfl (by decide) rfl (by decide) rfl ?_
      refine r_goto (pc := 72) (tgt := 51) dX12_with_72 (by decide) ?_
      refine n_L (L' := [some (.ref 177), some (.int x1), some (.int x2), some (.int x3), some (.int y4), some (.int y5), none, some (.int (y7 + 1)), none, none]) (le_s (le_s (le_s (le_s (le_s (le_s (le_n (le_s (le_n (le_n (le_e))))))))))) ?_
      exact ih _ _ _ _ h
def wpX12_with (x1 : Int32) (x2 : Int32) (x3 : Int32) (s : gS) (Q : Int32 → gS → Prop) : Prop := wpX12_isOrder x1 x2 x3 (wi s 177 5 0) (fun r1 s1 => (¬ r1 = 0 → wpX12_refusesOrder x1 x2 x3 s1 (fun r2 s2 => (¬ r2 = (-2) → wpX12_survey s2 (fun s3 => wpX12_leftAll s3 (fun r4 s4 => ∃ n51, wX12_with_51 x1 x2 x3 Q n51 r4 0 0 s4))) ∧ (r2 = (-2) → Q (-2) s2))) ∧ (r1 = 0 → Q (-1) s1))
set_option maxRecDepth 20000 in
theorem spX12_with {l : Launch} {x1 : Int32} {x2 : Int32} {x3 : Int32}  {s : gS} {Q : Int32 → gS → Prop} (h : wpX12_with x1 x2 x3 s Q) : Ct l mX12_with 7 0 0 [.ref 177, .int x1, .int x2, .int x3] (nrm s) (q_i Q) := by
  refine Ct.of (by decide) (Nat.le_of_ble_eq_true rfl) (fun X => ?_)
  refine n_L (L' := [some (.ref 177), some (.int x1), some (.int x2), some (.int x3), none, none, none, none, none, none]) (le_s (le_s (le_s (le_s (le_p (le_p (le_p (le_p (le_p (le_p (le_e))))))))))) ?_
  refine r_aload_n (pc := 0) (x := 177) dX12_with_0 rfl ?_
  refine r_iconst (pc := 1) (v := 0) dX12_with_1 (by decide) ?_
  refine n_putI (pc := 2) (j := 5) dX12_with_2 fl_RX12_55 fw_12_5 (by decide) sh_177 rfl rfl ?_
  refine r_aload_n (pc := 5) (x := 177) dX12_with_5 rfl ?_
  refine r_iload_n (pc := 6) (x := x1) dX12_with_6 rfl ?_
  refine r_iload_n (pc := 7) (x := x2) dX12_with_7 rfl ?_
  refine r_iload_n (pc := 8) (x := x3) dX12_with_8 rfl ?_
  refine n_Vi0 (pc := 9) (S0 := []) (spX12_isOrder h) gmX12_isOrder selX12_isOrder lk_RX12_397 dX12_with_9 rfl (by decide) sh_177 ⟨rfl, by decide⟩ rfl ⟨Nat.le_of_ble_eq_true rfl, Nat.le_of_ble_eq_true rfl⟩ (Nat.le_of_ble_eq_true rfl) ⟨Nat.zero_le _, Nat.zero_le _⟩ (fun r1 s1 h => ?_)
  refine r_if_ne (pc := 12) (tgt := 17) dX12_with_12 (by decide) (fun c => ?_) (fun c => ?_)
  · replace h := h.1 c
    refine r_aload_n (pc := 17) (x := 177) dX12_with_17 rfl ?_
    refine r_iload_n (pc := 18) (x := x1) dX12_with_18 rfl ?_
    refine r_iload_n (pc := 19) (x := x2) dX12_with_19 rfl ?_
    refine r_iload_n (pc := 20) (x := x3) dX12_with_20 rfl ?_
    refine n_Vi0 (pc := 21) (S0 := []) (spX12_refusesOrder h) gmX12_refusesOrder selX12_refusesOrder lk_RX12_400 dX12_with_21 rfl (by decide) sh_177 ⟨rfl, by decide⟩ rfl ⟨Nat.le_of_ble_eq_true rfl, Nat.le_of_ble_eq_true rfl⟩ (Nat.le_of_ble_eq_true rfl) ⟨Nat.zero_le _, Nat.zero_le _⟩ (fun r2 s2 h => ?_)
    refine r_bipush (pc := 24) (v := (-2)) dX12_with_24 (by decide) ?_
    refine r_icmp_ne (pc := 26) (tgt := 32) dX12_with_26 (by decide) (fun c => ?_) (fun c => ?_)
    · replace h := h.1 c
      refine r_aload_n (pc := 32) (x := 177) dX12_with_32 rfl ?_
      refine n_Vv0 (pc := 33) (S0 := []) (spX12_survey h) gmX12_survey selX12_survey lk_RX12_388 dX12_with_33 rfl (by decide) sh_177 ⟨rfl, by decide⟩ rfl ⟨Nat.le_of_ble_eq_true rfl, Nat.le_of_ble_eq_true rfl⟩ (Nat.le_of_ble_eq_true rfl) ⟨Nat.zero_le _, Nat.zero_le _⟩ (fun s3 h => ?_)
      refine r_aload_n (pc := 36) (x := 177) dX12_with_36 rfl ?_
      refine n_Vi0 (pc := 37) (S0 := []) (spX12_leftAll h) gmX12_leftAll selX12_leftAll lk_RX12_421 dX12_with_37 rfl (by decide) sh_177 ⟨rfl, by decide⟩ rfl ⟨Nat.le_of_ble_eq_true rfl, Nat.le_of_ble_eq_true rfl⟩ (Nat.le_of_ble_eq_true rfl) ⟨Nat.zero_le _, Nat.zero_le _⟩ (fun r4 s4 h => ?_)
      refine r_istore (pc := 40) (L' := [some (.ref 177), some (.int x1), some (.int x2), some (.int x3), some (.int r4), none, none, none, none, none]) dX12_with_40 rfl (by decide) rfl ?_
      refine r_iconst (pc := 42) (v := 0) dX12_with_42 (by decide) ?_
      refine r_istore (pc := 43) (L' := [some (.ref 177), some (.int x1), some (.int x2), some (.int x3), some (.int r4), some (.int 0), none, none, none, none]) dX12_with_43 rfl (by decide) rfl ?_
      refine r_iconst (pc := 45) (v := 0) dX12_with_45 (by decide) ?_
      refine r_istore (pc := 46) (L' := [some (.ref 177), some (.int x1), some (.int x2), some (.int x3), some (.int r4), some (.int 0), some (.int 0), none, none, none]) dX12_with_46 rfl (by decide) rfl ?_
      refine r_iconst (pc := 48) (v := 0) dX12_with_48 (by decide) ?_
      refine r_istore (pc := 49) (L' := [some (.ref 177), some (.int x1), some (.int x2), some (.int x3), some (.int r4), some (.int 0), some (.int 0), some (.int 0), none, none]) dX12_with_49 rfl (by decide) rfl ?_
      refine n_L (L' := [some (.ref 177), some (.int x1), some (.int x2), some (.int x3), some (.int r4), some (.int 0), none, some (.int 0), none, none]) (le_s (le_s (le_s (le_s (le_s (le_s (le_n (le_s (le_n (le_n (le_e))))))))))) ?_
      obtain ⟨n, h⟩ := h
      exact pX12_with_51  n _ _ _ _ h 
    · replace h := h.2 c
      refine r_bipush (pc := 29) (v := (-2)) dX12_with_29 (by decide) ?_
      exact n_iret (pc := 31) dX12_with_31 rfl (Nat.le_refl _) (Nat.le_refl _) h
  · replace h := h.2 c
    refine r_iconst (pc := 15) (v := (-1)) dX12_with_15 (by decide) ?_
    exact n_iret (pc := 16) dX12_with_16 rfl (Nat.le_refl _) (Nat.le_refl _) h
def wX12_asks_85  (Q : Int32 → gS → Prop) (k15 : Int32 → Int32 → Int32 → gS → Prop) (y3 : Int32) (y4 : Int32) (s : gS) : Prop := k15 y3 y4 (y3 + 1) s
set_option maxRecDepth 20000 in
theorem pX12_asks_85 {l : Launch} {X : gX}   {Q : Int32 → gS → Prop} {k15 : Int32 → Int32 → Int32 → gS → Prop} (y3 : Int32) (y4 : Int32) (s : gS) (h : wX12_asks_85  Q k15 y3 y4 s) (hk15 : ∀ (y1 : Int32) (y2 : Int32) (y3 : Int32) (s : gS), k15 y1 y2 y3 s → Gw l mX12_asks (g_rm 7 0 0) X 15 [some (.ref 177), some (.int y1), some (.int y2), some (.int y3), none, none] [] (nrm s) 0 0 (g_Z X (q_i Q) 0 0)) : Gw l mX12_asks (g_rm 7 0 0) X 85 [some (.ref 177), none, none, some (.int y3), some (.int y4), none] [] (nrm s) 0 0 (g_Z X (q_i Q) 0 0) := by
  refine r_iload_n (pc := 85) (x := y3) dX12_asks_85 rfl ?_
  refine r_istore_n (pc := 86) (L' := [some (.ref 177), some (.int y3), none, some (.int y3), some (.int y4), none]) dX12_asks_86 rfl (by decide) rfl ?_
  refine r_iload (pc := 87) (x := y4) dX12_asks_87 rfl ?_
  refine r_istore_n (pc := 89) (L' := [some (.ref 177), some (.int y3), some (.int y4), some (.int y3), some (.int y4), none]) dX12_asks_89 rfl (by decide) rfl ?_
  refine n_iinc (pc := 90) (x := y3) (w := 1) (L' := [some (.ref 177), some (.int y3), some (.int y4), some (.int (y3 + 1)), some (.int y4), none]) dX12_asks_90 rfl (by decide) rfl (by decide) rfl ?_
  refine r_goto (pc := 93) (tgt := 15) dX12_asks_93 (by decide) ?_
  refine n_L (L' := [some (.ref 177), some (.int y3), some (.int y4), some (.int (y3 + 1)), none, none]) (le_s (le_s (le_s (le_s (le_n (le_n (le_e))))))) ?_
  exact hk15 _ _ _ _ h
def wX12_asks_39  (Q : Int32 → gS → Prop) (k15 : Int32 → Int32 → Int32 → gS → Prop) : Nat → Int32 → Int32 → Int32 → Int32 → Int32 → gS → Prop
  | 0, _, _, _, _, _, _ => False
  | n + 1, y1, y2, y3, y4, y5, s => (6 ≤ y5 → (y1 = (-1) → wX12_asks_85  Q k15 y3 y4 s) ∧ (¬ (y1 = (-1)) → (y4 < y2 → wX12_asks_85  Q k15 y3 y4 s) ∧ (¬ (y4 < y2) → k15 y1 y2 (y3 + 1) s))) ∧ (¬ (6 ≤ y5) → vp_in ((6 * y3) + y5) 36 ∧ (wX12_asks_39  Q k15 n y1 y2 y3 (jmax y4 (gi s 183 (ix ((6 * y3) + y5)))) (y5 + 1) s))
set_option maxRecDepth 20000 in
theorem pX12_asks_39 {l : Launch} {X : gX}   {Q : Int32 → gS → Prop} {k15 : Int32 → Int32 → Int32 → gS → Prop} : ∀ (n : Nat) (y1 : Int32) (y2 : Int32) (y3 : Int32) (y4 : Int32) (y5 : Int32) (s : gS) (h : wX12_asks_39  Q k15 n y1 y2 y3 y4 y5 s) (hk15 : ∀ (y1 : Int32) (y2 : Int32) (y3 : Int32) (s : gS), k15 y1 y2 y3 s → Gw l mX12_asks (g_rm 7 0 0) X 15 [some (.ref 177), some (.int y1), some (.int y2), some (.int y3), none, none] [] (nrm s) 0 0 (g_Z X (q_i Q) 0 0)), Gw l mX12_asks (g_rm 7 0 0) X 39 [some (.ref 177), some (.int y1), some (.int y2), some (.int y3), some (.int y4), some (.int y5)] [] (nrm s) 0 0 (g_Z X (q_i Q) 0 0) := by
  intro n
  induction n with
  | zero => intro y1 y2 y3 y4 y5 s h; exact h.elim
  | succ n ih0 =>
    intro y1 y2 y3 y4 y5 s h hk15
    have ih : ∀ (y1 : Int32) (y2 : Int32) (y3 : Int32) (y4 : Int32) (y5 : Int32) (s : gS), wX12_asks_39  Q k15 n y1 y2 y3 y4 y5 s → Gw l mX12_asks (g_rm 7 0 0) X 39 [some (.ref 177), some (.int y1), some (.int y2), some (.int y3), some (.int y4), some (.int y5)] [] (nrm s) 0 0 (g_Z X (q_i Q) 0 0) := fun y1 y2 y3 y4 y5 s h => ih0 y1 y2 y3 y4 y5 s h hk15
    refine r_iload (pc := 39) (x := y5) dX12_asks_39 rfl ?_
    refine r_bipush (pc := 41) (v := 6) dX12_asks_41 (by decide) ?_
    refine r_icmp_ge (pc := 43) (tgt := 71) dX12_asks_43 (by decide) (fun c => ?_) (fun c => ?_)
    · replace h := h.1 c
      refine r_iload_n (pc := 71) (x := y1) dX12_asks_71 rfl ?_
      refine r_iconst (pc := 72) (v := (-1)) dX12_asks_72 (by decide) ?_
      refine r_icmp_eq (pc := 73) (tgt := 85) dX12_asks_73 (by decide) (fun c => ?_) (fun c => ?_)
      · replace h := h.1 c
        refine n_L (L' := [some (.ref 177), none, none, some (.int y3), some (.int y4), none]) (le_s (le_n (le_n (le_s (le_s (le_n (le_e))))))) ?_
        exact pX12_asks_85  _ _ _ h hk15
      · replace h := h.2 c
        refine r_iload (pc := 76) (x := y4) dX12_asks_76 rfl ?_
        refine r_iload_n (pc := 78) (x := y2) dX12_asks_78 rfl ?_
        refine r_icmp_lt (pc := 79) (tgt := 85) dX12_asks_79 (by decide) (fun c => ?_) (fun c => ?_)
        · replace h := h.1 c
          refine n_L (L' := [some (.ref 177), none, none, some (.int y3), some (.int y4), none]) (le_s (le_n (le_n (le_s (le_s (le_n (le_e))))))) ?_
          exact pX12_asks_85  _ _ _ h hk15
        · replace h := h.2 c
          refine r_goto (pc := 82) (tgt := 90) dX12_asks_82 (by decide) ?_
          refine n_iinc (pc := 90) (x := y3) (w := 1) (L' := [some (.ref 177), some (.int y1), some (.int y2), some (.int (y3 + 1)), some (.int y4), some (.int y5)]) dX12_asks_90 rfl (by decide) rfl (by decide) rfl ?_
          refine r_goto (pc := 93) (tgt := 15) dX12_asks_93 (by decide) ?_
          refine n_L (L' := [some (.ref 177), some (.int y1), some (.int y2), some (.int (y3 + 1)), none, none]) (le_s (le_s (le_s (le_s (le_n (le_n (le_e))))))) ?_
          exact hk15 _ _ _ _ h
    · replace h := h.2 c
      refine r_iload (pc := 46) (x := y4) dX12_asks_46 rfl ?_
      refine r_aload_n (pc := 48) (x := 177) dX12_asks_48 rfl ?_
      refine n_getR (pc := 49) (j := 19) (q := 183) dX12_asks_49 fl_RX12_27 (by decide) sh_177 rfl rfl rfl ?_
      refine r_bipush (pc := 52) (v := 6) dX12_asks_52 (by decide) ?_
      refine r_iload_n (pc := 54) (x := y3) dX12_asks_54 rfl ?_
      refine r_imul (pc := 55) dX12_asks_55 ?_
      refine r_iload (pc := 56) (x := y5) dX12_asks_56 rfl ?_
      refine r_iadd (pc := 58) dX12_asks_58 ?_
      obtain ⟨b4, h⟩ := h
      refine n_iald (pc := 59) (j := (ix ((6 * y3) + y5))) dX12_asks_59 (by decide) sh_183 b4 rfl ?_
      refine n_max (pc := 60) dX12_asks_60 lk_RX12_179 ⟨Nat.le_of_ble_eq_true rfl, Nat.le_of_ble_eq_true rfl⟩ ⟨Nat.zero_le _, Nat.zero_le _⟩ ?_
      refine r_istore (pc := 63) (L' := [some (.ref 177), some (.int y1), some (.int y2), some (.int y3), some (.int (jmax y4 (gi s 183 (ix ((6 * y3) + y5))))), some (.int y5)]) dX12_asks_63 rfl (by decide) rfl ?_
      refine n_iinc (pc := 65) (x := y5) (w := 1) (L' := [some (.ref 177), some (.int y1), some (.int y2), some (.int y3), some (.int (jmax y4 (gi s 183 (ix ((6 * y3) + y5))))), some (.int (y5 + 1))]) dX12_asks_65 rfl (by decide) rfl (by decide) rfl ?_
      refine r_goto (pc := 68) (tgt := 39) dX12_asks_68 (by decide) ?_
      refine n_L (L' := [some (.ref 177), some (.int y1), some (.int y2), some (.int y3), some (.int (jmax y4 (gi s 183 (ix ((6 * y3) + y5))))), some (.int (y5 + 1))]) (le_s (le_s (le_s (le_s (le_s (le_s (le_e))))))) ?_
      exact ih _ _ _ _ _ _ h
def wX12_asks_15  (Q : Int32 → gS → Prop)  : Nat → Int32 → Int32 → Int32 → gS → Prop
  | 0, _, _, _, _ => False
  | n + 1, y1, y2, y3, s => (6 ≤ y3 → (¬ y1 = (-1) → wpX12_tell y2.toInt64 (wi s 177 4 0) (fun s2 => Q y1 s2)) ∧ (y1 = (-1) → Q (-2) s)) ∧ (¬ (6 ≤ y3) → wpX12_leftMany y3 s (fun r3 s3 => (2 ≤ r3 → ∃ n39, wX12_asks_39  Q (fun y1 y2 y3 s => wX12_asks_15  Q n y1 y2 y3 s) n39 y1 y2 y3 0 0 s3) ∧ (¬ (2 ≤ r3) → wX12_asks_15  Q n y1 y2 (y3 + 1) s3)))
set_option maxRecDepth 20000 in
theorem pX12_asks_15 {l : Launch} {X : gX}   {Q : Int32 → gS → Prop}  : ∀ (n : Nat) (y1 : Int32) (y2 : Int32) (y3 : Int32) (s : gS) (h : wX12_asks_15  Q n y1 y2 y3 s) , Gw l mX12_asks (g_rm 7 0 0) X 15 [some (.ref 177), some (.int y1), some (.int y2), some (.int y3), none, none] [] (nrm s) 0 0 (g_Z X (q_i Q) 0 0) := by
  intro n
  induction n with
  | zero => intro y1 y2 y3 s h; exact h.elim
  | succ n ih0 =>
    intro y1 y2 y3 s h 
    have ih : ∀ (y1 : Int32) (y2 : Int32) (y3 : Int32) (s : gS), wX12_asks_15  Q n y1 y2 y3 s → Gw l mX12_asks (g_rm 7 0 0) X 15 [some (.ref 177), some (.int y1), some (.int y2), some (.int y3), none, none] [] (nrm s) 0 0 (g_Z X (q_i Q) 0 0) := fun y1 y2 y3 s h => ih0 y1 y2 y3 s h 
    refine r_iload_n (pc := 15) (x := y3) dX12_asks_15 rfl ?_
    refine r_bipush (pc := 16) (v := 6) dX12_asks_16 (by decide) ?_
    refine r_icmp_ge (pc := 18) (tgt := 96) dX12_asks_18 (by decide) (fun c => ?_) (fun c => ?_)
    · replace h := h.1 c
      refine r_iload_n (pc := 96) (x := y1) dX12_asks_96 rfl ?_
      refine r_iconst (pc := 97) (v := (-1)) dX12_asks_97 (by decide) ?_
      refine r_icmp_ne (pc := 98) (tgt := 104) dX12_asks_98 (by decide) (fun c => ?_) (fun c => ?_)
      · replace h := h.1 c
        refine r_aload_n (pc := 104) (x := 177) dX12_asks_104 rfl ?_
        refine r_iconst (pc := 105) (v := 0) dX12_asks_105 (by decide) ?_
        refine n_putI (pc := 106) (j := 4) dX12_asks_106 fl_RX12_59 fw_12_4 (by decide) sh_177 rfl rfl ?_
        refine r_aload_n (pc := 109) (x := 177) dX12_asks_109 rfl ?_
        refine r_iload_n (pc := 110) (x := y2) dX12_asks_110 rfl ?_
        refine r_i2l (pc := 111) dX12_asks_111 ?_
        refine n_Vv0 (pc := 112) (S0 := []) (spX12_tell h) gmX12_tell selX12_tell lk_RX12_91 dX12_asks_112 rfl (by decide) sh_177 ⟨rfl, by decide⟩ rfl ⟨Nat.le_of_ble_eq_true rfl, Nat.le_of_ble_eq_true rfl⟩ (Nat.le_of_ble_eq_true rfl) ⟨Nat.zero_le _, Nat.zero_le _⟩ (fun s2 h => ?_)
        refine r_iload_n (pc := 115) (x := y1) dX12_asks_115 rfl ?_
        exact n_iret (pc := 116) dX12_asks_116 rfl (Nat.le_refl _) (Nat.le_refl _) h
      · replace h := h.2 c
        refine r_bipush (pc := 101) (v := (-2)) dX12_asks_101 (by decide) ?_
        exact n_iret (pc := 103) dX12_asks_103 rfl (Nat.le_refl _) (Nat.le_refl _) h
    · replace h := h.2 c
      refine r_aload_n (pc := 21) (x := 177) dX12_asks_21 rfl ?_
      refine r_iload_n (pc := 22) (x := y3) dX12_asks_22 rfl ?_
      refine n_Vi0 (pc := 23) (S0 := []) (spX12_leftMany h) gmX12_leftMany selX12_leftMany lk_RX12_385 dX12_asks_23 rfl (by decide) sh_177 ⟨rfl, by decide⟩ rfl ⟨Nat.le_of_ble_eq_true rfl, Nat.le_of_ble_eq_true rfl⟩ (Nat.le_of_ble_eq_true rfl) ⟨Nat.zero_le _, Nat.zero_le _⟩ (fun r3 s3 h => ?_)
      refine r_iconst (pc := 26) (v := 2) dX12_asks_26 (by decide) ?_
      refine r_icmp_ge (pc := 27) (tgt := 33) dX12_asks_27 (by decide) (fun c => ?_) (fun c => ?_)
      · replace h := h.1 c
        refine r_iconst (pc := 33) (v := 0) dX12_asks_33 (by decide) ?_
        refine r_istore (pc := 34) (L' := [some (.ref 177), some (.int y1), some (.int y2), some (.int y3), some (.int 0), none]) dX12_asks_34 rfl (by decide) rfl ?_
        refine r_iconst (pc := 36) (v := 0) dX12_asks_36 (by decide) ?_
        refine r_istore (pc := 37) (L' := [some (.ref 177), some (.int y1), some (.int y2), some (.int y3), some (.int 0), some (.int 0)]) dX12_asks_37 rfl (by decide) rfl ?_
        refine n_L (L' := [some (.ref 177), some (.int y1), some (.int y2), some (.int y3), some (.int 0), some (.int 0)]) (le_s (le_s (le_s (le_s (le_s (le_s (le_e))))))) ?_
        obtain ⟨n, h⟩ := h
        exact pX12_asks_39  n _ _ _ _ _ _ h ih
      · replace h := h.2 c
        refine r_goto (pc := 30) (tgt := 90) dX12_asks_30 (by decide) ?_
        refine n_iinc (pc := 90) (x := y3) (w := 1) (L' := [some (.ref 177), some (.int y1), some (.int y2), some (.int (y3 + 1)), none, none]) dX12_asks_90 rfl (by decide) rfl (by decide) rfl ?_
        refine r_goto (pc := 93) (tgt := 15) dX12_asks_93 (by decide) ?_
        refine n_L (L' := [some (.ref 177), some (.int y1), some (.int y2), some (.int (y3 + 1)), none, none]) (le_s (le_s (le_s (le_s (le_n (le_n (le_e))))))) ?_
        exact ih _ _ _ _ h
def wpX12_asks  (s : gS) (Q : Int32 → gS → Prop) : Prop := wpX12_survey (wi s 177 5 0) (fun s1 => ∃ n15, wX12_asks_15  Q n15 (-1) 0 0 s1)
set_option maxRecDepth 20000 in
theorem spX12_asks {l : Launch}   {s : gS} {Q : Int32 → gS → Prop} (h : wpX12_asks  s Q) : Ct l mX12_asks 7 0 0 [.ref 177] (nrm s) (q_i Q) := by
  refine Ct.of (by decide) (Nat.le_of_ble_eq_true rfl) (fun X => ?_)
  refine n_L (L' := [some (.ref 177), none, none, none, none, none]) (le_s (le_p (le_p (le_p (le_p (le_p (le_e))))))) ?_
  refine r_aload_n (pc := 0) (x := 177) dX12_asks_0 rfl ?_
  refine r_iconst (pc := 1) (v := 0) dX12_asks_1 (by decide) ?_
  refine n_putI (pc := 2) (j := 5) dX12_asks_2 fl_RX12_55 fw_12_5 (by decide) sh_177 rfl rfl ?_
  refine r_aload_n (pc := 5) (x := 177) dX12_asks_5 rfl ?_
  refine n_Vv0 (pc := 6) (S0 := []) (spX12_survey h) gmX12_survey selX12_survey lk_RX12_388 dX12_asks_6 rfl (by decide) sh_177 ⟨rfl, by decide⟩ rfl ⟨Nat.le_of_ble_eq_true rfl, Nat.le_of_ble_eq_true rfl⟩ (Nat.le_of_ble_eq_true rfl) ⟨Nat.zero_le _, Nat.zero_le _⟩ (fun s1 h => ?_)
  refine r_iconst (pc := 9) (v := (-1)) dX12_asks_9 (by decide) ?_
  refine r_istore_n (pc := 10) (L' := [some (.ref 177), some (.int (-1)), none, none, none, none]) dX12_asks_10 rfl (by decide) rfl ?_
  refine r_iconst (pc := 11) (v := 0) dX12_asks_11 (by decide) ?_
  refine r_istore_n (pc := 12) (L' := [some (.ref 177), some (.int (-1)), some (.int 0), none, none, none]) dX12_asks_12 rfl (by decide) rfl ?_
  refine r_iconst (pc := 13) (v := 0) dX12_asks_13 (by decide) ?_
  refine r_istore_n (pc := 14) (L' := [some (.ref 177), some (.int (-1)), some (.int 0), some (.int 0), none, none]) dX12_asks_14 rfl (by decide) rfl ?_
  refine n_L (L' := [some (.ref 177), some (.int (-1)), some (.int 0), some (.int 0), none, none]) (le_s (le_s (le_s (le_s (le_n (le_n (le_e))))))) ?_
  obtain ⟨n, h⟩ := h
  exact pX12_asks_15  n _ _ _ _ h 
def wpX12_hasDay (x1 : Int32) (x2 : Int32) (x3 : Int32) (s : gS) (Q : Int32 → gS → Prop) : Prop := wpX12_of x1 x2 0 s (fun r1 s1 => wpX12_of x1 x2 1 s1 (fun r2 s2 => wpX12_in x3 r1 r2 s2 (fun r3 s3 => (r3 = 0 ∨ r3 = 1) ∧ (Q r3 s3))))
set_option maxRecDepth 20000 in
theorem spX12_hasDay {l : Launch} {x1 : Int32} {x2 : Int32} {x3 : Int32}  {s : gS} {Q : Int32 → gS → Prop} (h : wpX12_hasDay x1 x2 x3 s Q) : Ct l mX12_hasDay 3 0 0 [.ref 177, .int x1, .int x2, .int x3] (nrm s) (q_i Q) := by
  refine Ct.of (by decide) (Nat.le_of_ble_eq_true rfl) (fun X => ?_)
  refine n_L (L' := [some (.ref 177), some (.int x1), some (.int x2), some (.int x3)]) (le_s (le_s (le_s (le_s (le_e))))) ?_
  refine r_iload_n (pc := 0) (x := x3) dX12_hasDay_0 rfl ?_
  refine r_aload_n (pc := 1) (x := 177) dX12_hasDay_1 rfl ?_
  refine r_iload_n (pc := 2) (x := x1) dX12_hasDay_2 rfl ?_
  refine r_iload_n (pc := 3) (x := x2) dX12_hasDay_3 rfl ?_
  refine r_iconst (pc := 4) (v := 0) dX12_hasDay_4 (by decide) ?_
  refine n_Vi0 (pc := 5) (S0 := [.int x3]) (spX12_of h) gmX12_of selX12_of lk_RX12_333 dX12_hasDay_5 rfl (by decide) sh_177 ⟨rfl, by decide⟩ rfl ⟨Nat.le_of_ble_eq_true rfl, Nat.le_of_ble_eq_true rfl⟩ (Nat.le_of_ble_eq_true rfl) ⟨Nat.zero_le _, Nat.zero_le _⟩ (fun r1 s1 h => ?_)
  refine r_aload_n (pc := 8) (x := 177) dX12_hasDay_8 rfl ?_
  refine r_iload_n (pc := 9) (x := x1) dX12_hasDay_9 rfl ?_
  refine r_iload_n (pc := 10) (x := x2) dX12_hasDay_10 rfl ?_
  refine r_iconst (pc := 11) (v := 1) dX12_hasDay_11 (by decide) ?_
  refine n_Vi0 (pc := 12) (S0 := [.int r1, .int x3]) (spX12_of h) gmX12_of selX12_of lk_RX12_333 dX12_hasDay_12 rfl (by decide) sh_177 ⟨rfl, by decide⟩ rfl ⟨Nat.le_of_ble_eq_true rfl, Nat.le_of_ble_eq_true rfl⟩ (Nat.le_of_ble_eq_true rfl) ⟨Nat.zero_le _, Nat.zero_le _⟩ (fun r2 s2 h => ?_)
  refine n_Si0 (pc := 15) (S0 := []) (spX12_in h) gmX12_in lk_RX12_62 dX12_hasDay_15 rfl rfl ⟨Nat.le_of_ble_eq_true rfl, Nat.le_of_ble_eq_true rfl⟩ (Nat.le_of_ble_eq_true rfl) ⟨Nat.zero_le _, Nat.zero_le _⟩ (fun r3 s3 h => ?_)
  obtain ⟨b4, h⟩ := h
  exact n_zret (pc := 18) dX12_hasDay_18 rfl b4 (Nat.le_refl _) (Nat.le_refl _) h
def wX12_mayHave_2 (x1 : Int32) (x2 : Int32) (Q : Int32 → gS → Prop)  : Nat → Int32 → gS → Prop
  | 0, _, _ => False
  | n + 1, y3, s => (6 ≤ y3 → Q 0 s) ∧ (¬ (6 ≤ y3) → wpX12_isLeft x1 y3 s (fun r1 s1 => (r1 = 0 → wX12_mayHave_2 x1 x2 Q n (y3 + 1) s1) ∧ (¬ (r1 = 0) → wpX12_hasDay x1 y3 x2 s1 (fun r2 s2 => (r2 = 0 → wX12_mayHave_2 x1 x2 Q n (y3 + 1) s2) ∧ (¬ (r2 = 0) → Q 1 s2)))))
set_option maxRecDepth 20000 in
theorem pX12_mayHave_2 {l : Launch} {X : gX} {x1 : Int32} {x2 : Int32}  {Q : Int32 → gS → Prop}  : ∀ (n : Nat) (y3 : Int32) (s : gS) (h : wX12_mayHave_2 x1 x2 Q n y3 s) , Gw l mX12_mayHave (g_rm 4 0 0) X 2 [some (.ref 177), some (.int x1), some (.int x2), some (.int y3)] [] (nrm s) 0 0 (g_Z X (q_i Q) 0 0) := by
  intro n
  induction n with
  | zero => intro y3 s h; exact h.elim
  | succ n ih0 =>
    intro y3 s h 
    have ih : ∀ (y3 : Int32) (s : gS), wX12_mayHave_2 x1 x2 Q n y3 s → Gw l mX12_mayHave (g_rm 4 0 0) X 2 [some (.ref 177), some (.int x1), some (.int x2), some (.int y3)] [] (nrm s) 0 0 (g_Z X (q_i Q) 0 0) := fun y3 s h => ih0 y3 s h 
    refine r_iload_n (pc := 2) (x := y3) dX12_mayHave_2 rfl ?_
    refine r_bipush (pc := 3) (v := 6) dX12_mayHave_3 (by decide) ?_
    refine r_icmp_ge (pc := 5) (tgt := 35) dX12_mayHave_5 (by decide) (fun c => ?_) (fun c => ?_)
    · replace h := h.1 c
      refine r_iconst (pc := 35) (v := 0) dX12_mayHave_35 (by decide) ?_
      exact n_zret (pc := 36) dX12_mayHave_36 rfl (by decide) (Nat.le_refl _) (Nat.le_refl _) h
    · replace h := h.2 c
      refine r_aload_n (pc := 8) (x := 177) dX12_mayHave_8 rfl ?_
      refine r_iload_n (pc := 9) (x := x1) dX12_mayHave_9 rfl ?_
      refine r_iload_n (pc := 10) (x := y3) dX12_mayHave_10 rfl ?_
      refine n_Vi0 (pc := 11) (S0 := []) (spX12_isLeft h) gmX12_isLeft selX12_isLeft lk_RX12_381 dX12_mayHave_11 rfl (by decide) sh_177 ⟨rfl, by decide⟩ rfl ⟨Nat.le_of_ble_eq_true rfl, Nat.le_of_ble_eq_true rfl⟩ (Nat.le_of_ble_eq_true rfl) ⟨Nat.zero_le _, Nat.zero_le _⟩ (fun r1 s1 h => ?_)
      refine r_if_eq (pc := 14) (tgt := 29) dX12_mayHave_14 (by decide) (fun c => ?_) (fun c => ?_)
      · replace h := h.1 c
        refine n_iinc (pc := 29) (x := y3) (w := 1) (L' := [some (.ref 177), some (.int x1), some (.int x2), some (.int (y3 + 1))]) dX12_mayHave_29 rfl (by decide) rfl (by decide) rfl ?_
        refine r_goto (pc := 32) (tgt := 2) dX12_mayHave_32 (by decide) ?_
        refine n_L (L' := [some (.ref 177), some (.int x1), some (.int x2), some (.int (y3 + 1))]) (le_s (le_s (le_s (le_s (le_e))))) ?_
        exact ih _ _ h
      · replace h := h.2 c
        refine r_aload_n (pc := 17) (x := 177) dX12_mayHave_17 rfl ?_
        refine r_iload_n (pc := 18) (x := x1) dX12_mayHave_18 rfl ?_
        refine r_iload_n (pc := 19) (x := y3) dX12_mayHave_19 rfl ?_
        refine r_iload_n (pc := 20) (x := x2) dX12_mayHave_20 rfl ?_
        refine n_Vi0 (pc := 21) (S0 := []) (spX12_hasDay h) gmX12_hasDay selX12_hasDay lk_RX12_433 dX12_mayHave_21 rfl (by decide) sh_177 ⟨rfl, by decide⟩ rfl ⟨Nat.le_of_ble_eq_true rfl, Nat.le_of_ble_eq_true rfl⟩ (Nat.le_of_ble_eq_true rfl) ⟨Nat.zero_le _, Nat.zero_le _⟩ (fun r2 s2 h => ?_)
        refine r_if_eq (pc := 24) (tgt := 29) dX12_mayHave_24 (by decide) (fun c => ?_) (fun c => ?_)
        · replace h := h.1 c
          refine n_iinc (pc := 29) (x := y3) (w := 1) (L' := [some (.ref 177), some (.int x1), some (.int x2), some (.int (y3 + 1))]) dX12_mayHave_29 rfl (by decide) rfl (by decide) rfl ?_
          refine r_goto (pc := 32) (tgt := 2) dX12_mayHave_32 (by decide) ?_
          refine n_L (L' := [some (.ref 177), some (.int x1), some (.int x2), some (.int (y3 + 1))]) (le_s (le_s (le_s (le_s (le_e))))) ?_
          exact ih _ _ h
        · replace h := h.2 c
          refine r_iconst (pc := 27) (v := 1) dX12_mayHave_27 (by decide) ?_
          exact n_zret (pc := 28) dX12_mayHave_28 rfl (by decide) (Nat.le_refl _) (Nat.le_refl _) h
def wpX12_mayHave (x1 : Int32) (x2 : Int32) (s : gS) (Q : Int32 → gS → Prop) : Prop := ∃ n2, wX12_mayHave_2 x1 x2 Q n2 0 s
set_option maxRecDepth 20000 in
theorem spX12_mayHave {l : Launch} {x1 : Int32} {x2 : Int32}  {s : gS} {Q : Int32 → gS → Prop} (h : wpX12_mayHave x1 x2 s Q) : Ct l mX12_mayHave 4 0 0 [.ref 177, .int x1, .int x2] (nrm s) (q_i Q) := by
  refine Ct.of (by decide) (Nat.le_of_ble_eq_true rfl) (fun X => ?_)
  refine n_L (L' := [some (.ref 177), some (.int x1), some (.int x2), none]) (le_s (le_s (le_s (le_p (le_e))))) ?_
  refine r_iconst (pc := 0) (v := 0) dX12_mayHave_0 (by decide) ?_
  refine r_istore_n (pc := 1) (L' := [some (.ref 177), some (.int x1), some (.int x2), some (.int 0)]) dX12_mayHave_1 rfl (by decide) rfl ?_
  refine n_L (L' := [some (.ref 177), some (.int x1), some (.int x2), some (.int 0)]) (le_s (le_s (le_s (le_s (le_e))))) ?_
  obtain ⟨n, h⟩ := h
  exact pX12_mayHave_2  n _ _ h 
def wX12_mustHave_2 (x1 : Int32) (x2 : Int32) (Q : Int32 → gS → Prop)  : Nat → Int32 → gS → Prop
  | 0, _, _ => False
  | n + 1, y3, s => (6 ≤ y3 → wpX12_leftMany x1 s (fun r1 s1 => (r1 ≤ 0 → Q 0 s1) ∧ (¬ (r1 ≤ 0) → Q 1 s1))) ∧ (¬ (6 ≤ y3) → wpX12_isLeft x1 y3 s (fun r2 s2 => (r2 = 0 → wX12_mustHave_2 x1 x2 Q n (y3 + 1) s2) ∧ (¬ (r2 = 0) → wpX12_hasDay x1 y3 x2 s2 (fun r3 s3 => (¬ r3 = 0 → wX12_mustHave_2 x1 x2 Q n (y3 + 1) s3) ∧ (r3 = 0 → Q 0 s3)))))
set_option maxRecDepth 20000 in
theorem pX12_mustHave_2 {l : Launch} {X : gX} {x1 : Int32} {x2 : Int32}  {Q : Int32 → gS → Prop}  : ∀ (n : Nat) (y3 : Int32) (s : gS) (h : wX12_mustHave_2 x1 x2 Q n y3 s) , Gw l mX12_mustHave (g_rm 4 0 0) X 2 [some (.ref 177), some (.int x1), some (.int x2), some (.int y3)] [] (nrm s) 0 0 (g_Z X (q_i Q) 0 0) := by
  intro n
  induction n with
  | zero => intro y3 s h; exact h.elim
  | succ n ih0 =>
    intro y3 s h 
    have ih : ∀ (y3 : Int32) (s : gS), wX12_mustHave_2 x1 x2 Q n y3 s → Gw l mX12_mustHave (g_rm 4 0 0) X 2 [some (.ref 177), some (.int x1), some (.int x2), some (.int y3)] [] (nrm s) 0 0 (g_Z X (q_i Q) 0 0) := fun y3 s h => ih0 y3 s h 
    refine r_iload_n (pc := 2) (x := y3) dX12_mustHave_2 rfl ?_
    refine r_bipush (pc := 3) (v := 6) dX12_mustHave_3 (by decide) ?_
    refine r_icmp_ge (pc := 5) (tgt := 35) dX12_mustHave_5 (by decide) (fun c => ?_) (fun c => ?_)
    · replace h := h.1 c
      refine r_aload_n (pc := 35) (x := 177) dX12_mustHave_35 rfl ?_
      refine r_iload_n (pc := 36) (x := x1) dX12_mustHave_36 rfl ?_
      refine n_Vi0 (pc := 37) (S0 := []) (spX12_leftMany h) gmX12_leftMany selX12_leftMany lk_RX12_385 dX12_mustHave_37 rfl (by decide) sh_177 ⟨rfl, by decide⟩ rfl ⟨Nat.le_of_ble_eq_true rfl, Nat.le_of_ble_eq_true rfl⟩ (Nat.le_of_ble_eq_true rfl) ⟨Nat.zero_le _, Nat.zero_le _⟩ (fun r1 s1 h => ?_)
      refine r_if_le (pc := 40) (tgt := 47) dX12_mustHave_40 (by decide) (fun c => ?_) (fun c => ?_)
      · replace h := h.1 c
        refine r_iconst (pc := 47) (v := 0) dX12_mustHave_47 (by decide) ?_
        exact n_zret (pc := 48) dX12_mustHave_48 rfl (by decide) (Nat.le_refl _) (Nat.le_refl _) h
      · replace h := h.2 c
        refine r_iconst (pc := 43) (v := 1) dX12_mustHave_43 (by decide) ?_
        refine r_goto (pc := 44) (tgt := 48) dX12_mustHave_44 (by decide) ?_
        exact n_zret (pc := 48) dX12_mustHave_48 rfl (by decide) (Nat.le_refl _) (Nat.le_refl _) h
    · replace h := h.2 c
      refine r_aload_n (pc := 8) (x := 177) dX12_mustHave_8 rfl ?_
      refine r_iload_n (pc := 9) (x := x1) dX12_mustHave_9 rfl ?_
      refine r_iload_n (pc := 10) (x := y3) dX12_mustHave_10 rfl ?_
      refine n_Vi0 (pc := 11) (S0 := []) (spX12_isLeft h) gmX12_isLeft selX12_isLeft lk_RX12_381 dX12_mustHave_11 rfl (by decide) sh_177 ⟨rfl, by decide⟩ rfl ⟨Nat.le_of_ble_eq_true rfl, Nat.le_of_ble_eq_true rfl⟩ (Nat.le_of_ble_eq_true rfl) ⟨Nat.zero_le _, Nat.zero_le _⟩ (fun r2 s2 h => ?_)
      refine r_if_eq (pc := 14) (tgt := 29) dX12_mustHave_14 (by decide) (fun c => ?_) (fun c => ?_)
      · replace h := h.1 c
        refine n_iinc (pc := 29) (x := y3) (w := 1) (L' := [some (.ref 177), some (.int x1), some (.int x2), some (.int (y3 + 1))]) dX12_mustHave_29 rfl (by decide) rfl (by decide) rfl ?_
        refine r_goto (pc := 32) (tgt := 2) dX12_mustHave_32 (by decide) ?_
        refine n_L (L' := [some (.ref 177), some (.int x1), some (.int x2), some (.int (y3 + 1))]) (le_s (le_s (le_s (le_s (le_e))))) ?_
        exact ih _ _ h
      · replace h := h.2 c
        refine r_aload_n (pc := 17) (x := 177) dX12_mustHave_17 rfl ?_
        refine r_iload_n (pc := 18) (x := x1) dX12_mustHave_18 rfl ?_
        refine r_iload_n (pc := 19) (x := y3) dX12_mustHave_19 rfl ?_
        refine r_iload_n (pc := 20) (x := x2) dX12_mustHave_20 rfl ?_
        refine n_Vi0 (pc := 21) (S0 := []) (spX12_hasDay h) gmX12_hasDay selX12_hasDay lk_RX12_433 dX12_mustHave_21 rfl (by decide) sh_177 ⟨rfl, by decide⟩ rfl ⟨Nat.le_of_ble_eq_true rfl, Nat.le_of_ble_eq_true rfl⟩ (Nat.le_of_ble_eq_true rfl) ⟨Nat.zero_le _, Nat.zero_le _⟩ (fun r3 s3 h => ?_)
        refine r_if_ne (pc := 24) (tgt := 29) dX12_mustHave_24 (by decide) (fun c => ?_) (fun c => ?_)
        · replace h := h.1 c
          refine n_iinc (pc := 29) (x := y3) (w := 1) (L' := [some (.ref 177), some (.int x1), some (.int x2), some (.int (y3 + 1))]) dX12_mustHave_29 rfl (by decide) rfl (by decide) rfl ?_
          refine r_goto (pc := 32) (tgt := 2) dX12_mustHave_32 (by decide) ?_
          refine n_L (L' := [some (.ref 177), some (.int x1), some (.int x2), some (.int (y3 + 1))]) (le_s (le_s (le_s (le_s (le_e))))) ?_
          exact ih _ _ h
        · replace h := h.2 c
          refine r_iconst (pc := 27) (v := 0) dX12_mustHave_27 (by decide) ?_
          exact n_zret (pc := 28) dX12_mustHave_28 rfl (by decide) (Nat.le_refl _) (Nat.le_refl _) h
def wpX12_mustHave (x1 : Int32) (x2 : Int32) (s : gS) (Q : Int32 → gS → Prop) : Prop := ∃ n2, wX12_mustHave_2 x1 x2 Q n2 0 s
set_option maxRecDepth 20000 in
theorem spX12_mustHave {l : Launch} {x1 : Int32} {x2 : Int32}  {s : gS} {Q : Int32 → gS → Prop} (h : wpX12_mustHave x1 x2 s Q) : Ct l mX12_mustHave 4 0 0 [.ref 177, .int x1, .int x2] (nrm s) (q_i Q) := by
  refine Ct.of (by decide) (Nat.le_of_ble_eq_true rfl) (fun X => ?_)
  refine n_L (L' := [some (.ref 177), some (.int x1), some (.int x2), none]) (le_s (le_s (le_s (le_p (le_e))))) ?_
  refine r_iconst (pc := 0) (v := 0) dX12_mustHave_0 (by decide) ?_
  refine r_istore_n (pc := 1) (L' := [some (.ref 177), some (.int x1), some (.int x2), some (.int 0)]) dX12_mustHave_1 rfl (by decide) rfl ?_
  refine n_L (L' := [some (.ref 177), some (.int x1), some (.int x2), some (.int 0)]) (le_s (le_s (le_s (le_s (le_e))))) ?_
  obtain ⟨n, h⟩ := h
  exact pX12_mustHave_2  n _ _ h 
def wX12_mayMany_4 (x1 : Int32) (Q : Int32 → gS → Prop)  : Nat → Int32 → Int32 → gS → Prop
  | 0, _, _, _ => False
  | n + 1, y2, y3, s => (6 ≤ y3 → Q y2 s) ∧ (¬ (6 ≤ y3) → wpX12_mayHave y3 x1 s (fun r1 s1 => (r1 = 0 → wX12_mayMany_4 x1 Q n (y2 + 0) (y3 + 1) s1) ∧ (¬ (r1 = 0) → wX12_mayMany_4 x1 Q n (y2 + 1) (y3 + 1) s1)))
set_option maxRecDepth 20000 in
theorem pX12_mayMany_4 {l : Launch} {X : gX} {x1 : Int32}  {Q : Int32 → gS → Prop}  : ∀ (n : Nat) (y2 : Int32) (y3 : Int32) (s : gS) (h : wX12_mayMany_4 x1 Q n y2 y3 s) , Gw l mX12_mayMany (g_rm 5 0 0) X 4 [some (.ref 177), some (.int x1), some (.int y2), some (.int y3)] [] (nrm s) 0 0 (g_Z X (q_i Q) 0 0) := by
  intro n
  induction n with
  | zero => intro y2 y3 s h; exact h.elim
  | succ n ih0 =>
    intro y2 y3 s h 
    have ih : ∀ (y2 : Int32) (y3 : Int32) (s : gS), wX12_mayMany_4 x1 Q n y2 y3 s → Gw l mX12_mayMany (g_rm 5 0 0) X 4 [some (.ref 177), some (.int x1), some (.int y2), some (.int y3)] [] (nrm s) 0 0 (g_Z X (q_i Q) 0 0) := fun y2 y3 s h => ih0 y2 y3 s h 
    refine r_iload_n (pc := 4) (x := y3) dX12_mayMany_4 rfl ?_
    refine r_bipush (pc := 5) (v := 6) dX12_mayMany_5 (by decide) ?_
    refine r_icmp_ge (pc := 7) (tgt := 33) dX12_mayMany_7 (by decide) (fun c => ?_) (fun c => ?_)
    · replace h := h.1 c
      refine r_iload_n (pc := 33) (x := y2) dX12_mayMany_33 rfl ?_
      exact n_iret (pc := 34) dX12_mayMany_34 rfl (Nat.le_refl _) (Nat.le_refl _) h
    · replace h := h.2 c
      refine r_iload_n (pc := 10) (x := y2) dX12_mayMany_10 rfl ?_
      refine r_aload_n (pc := 11) (x := 177) dX12_mayMany_11 rfl ?_
      refine r_iload_n (pc := 12) (x := y3) dX12_mayMany_12 rfl ?_
      refine r_iload_n (pc := 13) (x := x1) dX12_mayMany_13 rfl ?_
      refine n_Vi0 (pc := 14) (S0 := [.int y2]) (spX12_mayHave h) gmX12_mayHave selX12_mayHave lk_RX12_436 dX12_mayMany_14 rfl (by decide) sh_177 ⟨rfl, by decide⟩ rfl ⟨Nat.le_of_ble_eq_true rfl, Nat.le_of_ble_eq_true rfl⟩ (Nat.le_of_ble_eq_true rfl) ⟨Nat.zero_le _, Nat.zero_le _⟩ (fun r1 s1 h => ?_)
      refine r_if_eq (pc := 17) (tgt := 24) dX12_mayMany_17 (by decide) (fun c => ?_) (fun c => ?_)
      · replace h := h.1 c
        refine r_iconst (pc := 24) (v := 0) dX12_mayMany_24 (by decide) ?_
        refine r_iadd (pc := 25) dX12_mayMany_25 ?_
        refine r_istore_n (pc := 26) (L' := [some (.ref 177), some (.int x1), some (.int (y2 + 0)), some (.int y3)]) dX12_mayMany_26 rfl (by decide) rfl ?_
        refine n_iinc (pc := 27) (x := y3) (w := 1) (L' := [some (.ref 177), some (.int x1), some (.int (y2 + 0)), some (.int (y3 + 1))]) dX12_mayMany_27 rfl (by decide) rfl (by decide) rfl ?_
        refine r_goto (pc := 30) (tgt := 4) dX12_mayMany_30 (by decide) ?_
        refine n_L (L' := [some (.ref 177), some (.int x1), some (.int (y2 + 0)), some (.int (y3 + 1))]) (le_s (le_s (le_s (le_s (le_e))))) ?_
        exact ih _ _ _ h
      · replace h := h.2 c
        refine r_iconst (pc := 20) (v := 1) dX12_mayMany_20 (by decide) ?_
        refine r_goto (pc := 21) (tgt := 25) dX12_mayMany_21 (by decide) ?_
        refine r_iadd (pc := 25) dX12_mayMany_25 ?_
        refine r_istore_n (pc := 26) (L' := [some (.ref 177), some (.int x1), some (.int (y2 + 1)), some (.int y3)]) dX12_mayMany_26 rfl (by decide) rfl ?_
        refine n_iinc (pc := 27) (x := y3) (w := 1) (L' := [some (.ref 177), some (.int x1), some (.int (y2 + 1)), some (.int (y3 + 1))]) dX12_mayMany_27 rfl (by decide) rfl (by decide) rfl ?_
        refine r_goto (pc := 30) (tgt := 4) dX12_mayMany_30 (by decide) ?_
        refine n_L (L' := [some (.ref 177), some (.int x1), some (.int (y2 + 1)), some (.int (y3 + 1))]) (le_s (le_s (le_s (le_s (le_e))))) ?_
        exact ih _ _ _ h
def wpX12_mayMany (x1 : Int32) (s : gS) (Q : Int32 → gS → Prop) : Prop := ∃ n4, wX12_mayMany_4 x1 Q n4 0 0 s
set_option maxRecDepth 20000 in
theorem spX12_mayMany {l : Launch} {x1 : Int32}  {s : gS} {Q : Int32 → gS → Prop} (h : wpX12_mayMany x1 s Q) : Ct l mX12_mayMany 5 0 0 [.ref 177, .int x1] (nrm s) (q_i Q) := by
  refine Ct.of (by decide) (Nat.le_of_ble_eq_true rfl) (fun X => ?_)
  refine n_L (L' := [some (.ref 177), some (.int x1), none, none]) (le_s (le_s (le_p (le_p (le_e))))) ?_
  refine r_iconst (pc := 0) (v := 0) dX12_mayMany_0 (by decide) ?_
  refine r_istore_n (pc := 1) (L' := [some (.ref 177), some (.int x1), some (.int 0), none]) dX12_mayMany_1 rfl (by decide) rfl ?_
  refine r_iconst (pc := 2) (v := 0) dX12_mayMany_2 (by decide) ?_
  refine r_istore_n (pc := 3) (L' := [some (.ref 177), some (.int x1), some (.int 0), some (.int 0)]) dX12_mayMany_3 rfl (by decide) rfl ?_
  refine n_L (L' := [some (.ref 177), some (.int x1), some (.int 0), some (.int 0)]) (le_s (le_s (le_s (le_s (le_e))))) ?_
  obtain ⟨n, h⟩ := h
  exact pX12_mayMany_4  n _ _ _ h 
def wX12_on_51 (x1 : Int32) (Q : Int32 → gS → Prop) (k25 : Int32 → Int32 → Int32 → gS → Prop) (y3 : Int32) (y4 : Int32) (z0 : Int32) (z1 : Int32) (s : gS) : Prop := wpX12_mustHave y4 x1 s (fun r5 s5 => (r5 = 0 → k25 (z1 ||| z0) (y3 ||| 0) (y4 + 1) s5) ∧ (¬ (r5 = 0) → k25 (z1 ||| z0) (y3 ||| (jshl 1 y4)) (y4 + 1) s5))
set_option maxRecDepth 20000 in
theorem pX12_on_51 {l : Launch} {X : gX} {x1 : Int32}  {Q : Int32 → gS → Prop} {k25 : Int32 → Int32 → Int32 → gS → Prop} (y3 : Int32) (y4 : Int32) (z0 : Int32) (z1 : Int32) (s : gS) (h : wX12_on_51 x1 Q k25 y3 y4 z0 z1 s) (hk25 : ∀ (y2 : Int32) (y3 : Int32) (y4 : Int32) (s : gS), k25 y2 y3 y4 s → Gw l mX12_on (g_rm 7 0 0) X 25 [some (.ref 177), some (.int x1), some (.int y2), some (.int y3), some (.int y4)] [] (nrm s) 0 0 (g_Z X (q_i Q) 0 0)) : Gw l mX12_on (g_rm 7 0 0) X 51 [some (.ref 177), some (.int x1), none, some (.int y3), some (.int y4)] [.int z0, .int z1] (nrm s) 0 0 (g_Z X (q_i Q) 0 0) := by
  refine r_ior (pc := 51) dX12_on_51 ?_
  refine r_istore_n (pc := 52) (L' := [some (.ref 177), some (.int x1), some (.int (z1 ||| z0)), some (.int y3), some (.int y4)]) dX12_on_52 rfl (by decide) rfl ?_
  refine r_iload_n (pc := 53) (x := y3) dX12_on_53 rfl ?_
  refine r_aload_n (pc := 54) (x := 177) dX12_on_54 rfl ?_
  refine r_iload (pc := 55) (x := y4) dX12_on_55 rfl ?_
  refine r_iload_n (pc := 57) (x := x1) dX12_on_57 rfl ?_
  refine n_Vi0 (pc := 58) (S0 := [.int y3]) (spX12_mustHave h) gmX12_mustHave selX12_mustHave lk_RX12_439 dX12_on_58 rfl (by decide) sh_177 ⟨rfl, by decide⟩ rfl ⟨Nat.le_of_ble_eq_true rfl, Nat.le_of_ble_eq_true rfl⟩ (Nat.le_of_ble_eq_true rfl) ⟨Nat.zero_le _, Nat.zero_le _⟩ (fun r5 s5 h => ?_)
  refine r_if_eq (pc := 61) (tgt := 71) dX12_on_61 (by decide) (fun c => ?_) (fun c => ?_)
  · replace h := h.1 c
    refine r_iconst (pc := 71) (v := 0) dX12_on_71 (by decide) ?_
    refine r_ior (pc := 72) dX12_on_72 ?_
    refine r_istore_n (pc := 73) (L' := [some (.ref 177), some (.int x1), some (.int (z1 ||| z0)), some (.int (y3 ||| 0)), some (.int y4)]) dX12_on_73 rfl (by decide) rfl ?_
    refine n_iinc (pc := 74) (x := y4) (w := 1) (L' := [some (.ref 177), some (.int x1), some (.int (z1 ||| z0)), some (.int (y3 ||| 0)), some (.int (y4 + 1))]) dX12_on_74 rfl (by decide) rfl (by decide) rfl ?_
    refine r_goto (pc := 77) (tgt := 25) dX12_on_77 (by decide) ?_
    refine n_L (L' := [some (.ref 177), some (.int x1), some (.int (z1 ||| z0)), some (.int (y3 ||| 0)), some (.int (y4 + 1))]) (le_s (le_s (le_s (le_s (le_s (le_e)))))) ?_
    exact hk25 _ _ _ _ h
  · replace h := h.2 c
    refine r_iconst (pc := 64) (v := 1) dX12_on_64 (by decide) ?_
    refine r_iload (pc := 65) (x := y4) dX12_on_65 rfl ?_
    refine n_ishl (pc := 67) dX12_on_67 ?_
    refine r_goto (pc := 68) (tgt := 72) dX12_on_68 (by decide) ?_
    refine r_ior (pc := 72) dX12_on_72 ?_
    refine r_istore_n (pc := 73) (L' := [some (.ref 177), some (.int x1), some (.int (z1 ||| z0)), some (.int (y3 ||| (jshl 1 y4))), some (.int y4)]) dX12_on_73 rfl (by decide) rfl ?_
    refine n_iinc (pc := 74) (x := y4) (w := 1) (L' := [some (.ref 177), some (.int x1), some (.int (z1 ||| z0)), some (.int (y3 ||| (jshl 1 y4))), some (.int (y4 + 1))]) dX12_on_74 rfl (by decide) rfl (by decide) rfl ?_
    refine r_goto (pc := 77) (tgt := 25) dX12_on_77 (by decide) ?_
    refine n_L (L' := [some (.ref 177), some (.int x1), some (.int (z1 ||| z0)), some (.int (y3 ||| (jshl 1 y4))), some (.int (y4 + 1))]) (le_s (le_s (le_s (le_s (le_s (le_e)))))) ?_
    exact hk25 _ _ _ _ h
def wX12_on_25 (x1 : Int32) (Q : Int32 → gS → Prop)  : Nat → Int32 → Int32 → Int32 → gS → Prop
  | 0, _, _, _, _ => False
  | n + 1, y2, y3, y4, s => (6 ≤ y4 → wpX12_tell y3.toInt64 (wi s 177 4 0) (fun s3 => Q y2 s3)) ∧ (¬ (6 ≤ y4) → wpX12_mayHave y4 x1 s (fun r4 s4 => (r4 = 0 → wX12_on_51 x1 Q (fun y2 y3 y4 s => wX12_on_25 x1 Q n y2 y3 y4 s) y3 y4 0 y2 s4) ∧ (¬ (r4 = 0) → wX12_on_51 x1 Q (fun y2 y3 y4 s => wX12_on_25 x1 Q n y2 y3 y4 s) y3 y4 (jshl 1 y4) y2 s4)))
set_option maxRecDepth 20000 in
theorem pX12_on_25 {l : Launch} {X : gX} {x1 : Int32}  {Q : Int32 → gS → Prop}  : ∀ (n : Nat) (y2 : Int32) (y3 : Int32) (y4 : Int32) (s : gS) (h : wX12_on_25 x1 Q n y2 y3 y4 s) , Gw l mX12_on (g_rm 7 0 0) X 25 [some (.ref 177), some (.int x1), some (.int y2), some (.int y3), some (.int y4)] [] (nrm s) 0 0 (g_Z X (q_i Q) 0 0) := by
  intro n
  induction n with
  | zero => intro y2 y3 y4 s h; exact h.elim
  | succ n ih0 =>
    intro y2 y3 y4 s h 
    have ih : ∀ (y2 : Int32) (y3 : Int32) (y4 : Int32) (s : gS), wX12_on_25 x1 Q n y2 y3 y4 s → Gw l mX12_on (g_rm 7 0 0) X 25 [some (.ref 177), some (.int x1), some (.int y2), some (.int y3), some (.int y4)] [] (nrm s) 0 0 (g_Z X (q_i Q) 0 0) := fun y2 y3 y4 s h => ih0 y2 y3 y4 s h 
    refine r_iload (pc := 25) (x := y4) dX12_on_25 rfl ?_
    refine r_bipush (pc := 27) (v := 6) dX12_on_27 (by decide) ?_
    refine r_icmp_ge (pc := 29) (tgt := 80) dX12_on_29 (by decide) (fun c => ?_) (fun c => ?_)
    · replace h := h.1 c
      refine r_aload_n (pc := 80) (x := 177) dX12_on_80 rfl ?_
      refine r_iconst (pc := 81) (v := 0) dX12_on_81 (by decide) ?_
      refine n_putI (pc := 82) (j := 4) dX12_on_82 fl_RX12_59 fw_12_4 (by decide) sh_177 rfl rfl ?_
      refine r_aload_n (pc := 85) (x := 177) dX12_on_85 rfl ?_
      refine r_iload_n (pc := 86) (x := y3) dX12_on_86 rfl ?_
      refine r_i2l (pc := 87) dX12_on_87 ?_
      refine n_Vv0 (pc := 88) (S0 := []) (spX12_tell h) gmX12_tell selX12_tell lk_RX12_91 dX12_on_88 rfl (by decide) sh_177 ⟨rfl, by decide⟩ rfl ⟨Nat.le_of_ble_eq_true rfl, Nat.le_of_ble_eq_true rfl⟩ (Nat.le_of_ble_eq_true rfl) ⟨Nat.zero_le _, Nat.zero_le _⟩ (fun s3 h => ?_)
      refine r_iload_n (pc := 91) (x := y2) dX12_on_91 rfl ?_
      exact n_iret (pc := 92) dX12_on_92 rfl (Nat.le_refl _) (Nat.le_refl _) h
    · replace h := h.2 c
      refine r_iload_n (pc := 32) (x := y2) dX12_on_32 rfl ?_
      refine r_aload_n (pc := 33) (x := 177) dX12_on_33 rfl ?_
      refine r_iload (pc := 34) (x := y4) dX12_on_34 rfl ?_
      refine r_iload_n (pc := 36) (x := x1) dX12_on_36 rfl ?_
      refine n_Vi0 (pc := 37) (S0 := [.int y2]) (spX12_mayHave h) gmX12_mayHave selX12_mayHave lk_RX12_436 dX12_on_37 rfl (by decide) sh_177 ⟨rfl, by decide⟩ rfl ⟨Nat.le_of_ble_eq_true rfl, Nat.le_of_ble_eq_true rfl⟩ (Nat.le_of_ble_eq_true rfl) ⟨Nat.zero_le _, Nat.zero_le _⟩ (fun r4 s4 h => ?_)
      refine r_if_eq (pc := 40) (tgt := 50) dX12_on_40 (by decide) (fun c => ?_) (fun c => ?_)
      · replace h := h.1 c
        refine r_iconst (pc := 50) (v := 0) dX12_on_50 (by decide) ?_
        refine n_L (L' := [some (.ref 177), some (.int x1), none, some (.int y3), some (.int y4)]) (le_s (le_s (le_n (le_s (le_s (le_e)))))) ?_
        exact pX12_on_51  _ _ _ _ _ h ih
      · replace h := h.2 c
        refine r_iconst (pc := 43) (v := 1) dX12_on_43 (by decide) ?_
        refine r_iload (pc := 44) (x := y4) dX12_on_44 rfl ?_
        refine n_ishl (pc := 46) dX12_on_46 ?_
        refine r_goto (pc := 47) (tgt := 51) dX12_on_47 (by decide) ?_
        refine n_L (L' := [some (.ref 177), some (.int x1), none, some (.int y3), some (.int y4)]) (le_s (le_s (le_n (le_s (le_s (le_e)))))) ?_
        exact pX12_on_51  _ _ _ _ _ h ih
def wpX12_on (x1 : Int32) (s : gS) (Q : Int32 → gS → Prop) : Prop := wpX12_isDay x1 (wi s 177 5 0) (fun r1 s1 => (¬ r1 = 0 → wpX12_survey s1 (fun s2 => ∃ n25, wX12_on_25 x1 Q n25 0 0 0 s2)) ∧ (r1 = 0 → Q (-1) s1))
set_option maxRecDepth 20000 in
theorem spX12_on {l : Launch} {x1 : Int32}  {s : gS} {Q : Int32 → gS → Prop} (h : wpX12_on x1 s Q) : Ct l mX12_on 7 0 0 [.ref 177, .int x1] (nrm s) (q_i Q) := by
  refine Ct.of (by decide) (Nat.le_of_ble_eq_true rfl) (fun X => ?_)
  refine n_L (L' := [some (.ref 177), some (.int x1), none, none, none]) (le_s (le_s (le_p (le_p (le_p (le_e)))))) ?_
  refine r_aload_n (pc := 0) (x := 177) dX12_on_0 rfl ?_
  refine r_iconst (pc := 1) (v := 0) dX12_on_1 (by decide) ?_
  refine n_putI (pc := 2) (j := 5) dX12_on_2 fl_RX12_55 fw_12_5 (by decide) sh_177 rfl rfl ?_
  refine r_iload_n (pc := 5) (x := x1) dX12_on_5 rfl ?_
  refine n_Si0 (pc := 6) (S0 := []) (spX12_isDay h) gmX12_isDay lk_RX12_83 dX12_on_6 rfl rfl ⟨Nat.le_of_ble_eq_true rfl, Nat.le_of_ble_eq_true rfl⟩ (Nat.le_of_ble_eq_true rfl) ⟨Nat.zero_le _, Nat.zero_le _⟩ (fun r1 s1 h => ?_)
  refine r_if_ne (pc := 9) (tgt := 14) dX12_on_9 (by decide) (fun c => ?_) (fun c => ?_)
  · replace h := h.1 c
    refine r_aload_n (pc := 14) (x := 177) dX12_on_14 rfl ?_
    refine n_Vv0 (pc := 15) (S0 := []) (spX12_survey h) gmX12_survey selX12_survey lk_RX12_388 dX12_on_15 rfl (by decide) sh_177 ⟨rfl, by decide⟩ rfl ⟨Nat.le_of_ble_eq_true rfl, Nat.le_of_ble_eq_true rfl⟩ (Nat.le_of_ble_eq_true rfl) ⟨Nat.zero_le _, Nat.zero_le _⟩ (fun s2 h => ?_)
    refine r_iconst (pc := 18) (v := 0) dX12_on_18 (by decide) ?_
    refine r_istore_n (pc := 19) (L' := [some (.ref 177), some (.int x1), some (.int 0), none, none]) dX12_on_19 rfl (by decide) rfl ?_
    refine r_iconst (pc := 20) (v := 0) dX12_on_20 (by decide) ?_
    refine r_istore_n (pc := 21) (L' := [some (.ref 177), some (.int x1), some (.int 0), some (.int 0), none]) dX12_on_21 rfl (by decide) rfl ?_
    refine r_iconst (pc := 22) (v := 0) dX12_on_22 (by decide) ?_
    refine r_istore (pc := 23) (L' := [some (.ref 177), some (.int x1), some (.int 0), some (.int 0), some (.int 0)]) dX12_on_23 rfl (by decide) rfl ?_
    refine n_L (L' := [some (.ref 177), some (.int x1), some (.int 0), some (.int 0), some (.int 0)]) (le_s (le_s (le_s (le_s (le_s (le_e)))))) ?_
    obtain ⟨n, h⟩ := h
    exact pX12_on_25  n _ _ _ _ h 
  · replace h := h.2 c
    refine r_iconst (pc := 12) (v := (-1)) dX12_on_12 (by decide) ?_
    exact n_iret (pc := 13) dX12_on_13 rfl (Nat.le_refl _) (Nat.le_refl _) h
def wX12_busiest_83  (Q : Int32 → gS → Prop) (k24 : Int32 → Int32 → Int32 → Int32 → gS → Prop) (y3 : Int32) (y4 : Int32) (y5 : Int32) (y6 : Int32) (s : gS) : Prop := k24 y5 y6 y3 (y4 + 1) s
set_option maxRecDepth 20000 in
theorem pX12_busiest_83 {l : Launch} {X : gX}   {Q : Int32 → gS → Prop} {k24 : Int32 → Int32 → Int32 → Int32 → gS → Prop} (y3 : Int32) (y4 : Int32) (y5 : Int32) (y6 : Int32) (s : gS) (h : wX12_busiest_83  Q k24 y3 y4 y5 y6 s) (hk24 : ∀ (y1 : Int32) (y2 : Int32) (y3 : Int32) (y4 : Int32) (s : gS), k24 y1 y2 y3 y4 s → Gw l mX12_busiest (g_rm 7 0 0) X 24 [some (.ref 177), some (.int y1), some (.int y2), some (.int y3), some (.int y4), none, none] [] (nrm s) 0 0 (g_Z X (q_i Q) 0 0)) : Gw l mX12_busiest (g_rm 7 0 0) X 83 [some (.ref 177), none, none, some (.int y3), some (.int y4), some (.int y5), some (.int y6)] [] (nrm s) 0 0 (g_Z X (q_i Q) 0 0) := by
  refine r_iload (pc := 83) (x := y6) dX12_busiest_83 rfl ?_
  refine r_istore_n (pc := 85) (L' := [some (.ref 177), none, some (.int y6), some (.int y3), some (.int y4), some (.int y5), some (.int y6)]) dX12_busiest_85 rfl (by decide) rfl ?_
  refine r_iload (pc := 86) (x := y5) dX12_busiest_86 rfl ?_
  refine r_istore_n (pc := 88) (L' := [some (.ref 177), some (.int y5), some (.int y6), some (.int y3), some (.int y4), some (.int y5), some (.int y6)]) dX12_busiest_88 rfl (by decide) rfl ?_
  refine n_iinc (pc := 89) (x := y4) (w := 1) (L' := [some (.ref 177), some (.int y5), some (.int y6), some (.int y3), some (.int (y4 + 1)), some (.int y5), some (.int y6)]) dX12_busiest_89 rfl (by decide) rfl (by decide) rfl ?_
  refine r_goto (pc := 92) (tgt := 24) dX12_busiest_92 (by decide) ?_
  refine n_L (L' := [some (.ref 177), some (.int y5), some (.int y6), some (.int y3), some (.int (y4 + 1)), none, none]) (le_s (le_s (le_s (le_s (le_s (le_n (le_n (le_e)))))))) ?_
  exact hk24 _ _ _ _ _ h
def wX12_busiest_24  (Q : Int32 → gS → Prop) (k15 : Int32 → Int32 → Int32 → gS → Prop) : Nat → Int32 → Int32 → Int32 → Int32 → gS → Prop
  | 0, _, _, _, _, _ => False
  | n + 1, y1, y2, y3, y4, s => (6 ≤ y4 → k15 y1 y2 (y3 + 1) s) ∧ (¬ (6 ≤ y4) → wpX12_isLeft y3 y4 s (fun r2 s2 => (¬ r2 = 0 → wpX12_of y3 y4 0 s2 (fun r3 s3 => wpX12_mayMany r3 s3 (fun r4 s4 => (r4 < y2 → wX12_busiest_24  Q k15 n y1 y2 y3 (y4 + 1) s4) ∧ (¬ (r4 < y2) → (¬ r4 = y2 → wX12_busiest_83  Q (fun y1 y2 y3 y4 s => wX12_busiest_24  Q k15 n y1 y2 y3 y4 s) y3 y4 r3 r4 s4) ∧ (r4 = y2 → (r3 < y1 → wX12_busiest_83  Q (fun y1 y2 y3 y4 s => wX12_busiest_24  Q k15 n y1 y2 y3 y4 s) y3 y4 r3 r4 s4) ∧ (¬ (r3 < y1) → wX12_busiest_24  Q k15 n y1 y2 y3 (y4 + 1) s4)))))) ∧ (r2 = 0 → wX12_busiest_24  Q k15 n y1 y2 y3 (y4 + 1) s2)))
set_option maxRecDepth 20000 in
theorem pX12_busiest_24 {l : Launch} {X : gX}   {Q : Int32 → gS → Prop} {k15 : Int32 → Int32 → Int32 → gS → Prop} : ∀ (n : Nat) (y1 : Int32) (y2 : Int32) (y3 : Int32) (y4 : Int32) (s : gS) (h : wX12_busiest_24  Q k15 n y1 y2 y3 y4 s) (hk15 : ∀ (y1 : Int32) (y2 : Int32) (y3 : Int32) (s : gS), k15 y1 y2 y3 s → Gw l mX12_busiest (g_rm 7 0 0) X 15 [some (.ref 177), some (.int y1), some (.int y2), some (.int y3), none, none, none] [] (nrm s) 0 0 (g_Z X (q_i Q) 0 0)), Gw l mX12_busiest (g_rm 7 0 0) X 24 [some (.ref 177), some (.int y1), some (.int y2), some (.int y3), some (.int y4), none, none] [] (nrm s) 0 0 (g_Z X (q_i Q) 0 0) := by
  intro n
  induction n with
  | zero => intro y1 y2 y3 y4 s h; exact h.elim
  | succ n ih0 =>
    intro y1 y2 y3 y4 s h hk15
    have ih : ∀ (y1 : Int32) (y2 : Int32) (y3 : Int32) (y4 : Int32) (s : gS), wX12_busiest_24  Q k15 n y1 y2 y3 y4 s → Gw l mX12_busiest (g_rm 7 0 0) X 24 [some (.ref 177), some (.int y1), some (.int y2), some (.int y3), some (.int y4), none, none] [] (nrm s) 0 0 (g_Z X (q_i Q) 0 0) := fun y1 y2 y3 y4 s h => ih0 y1 y2 y3 y4 s h hk15
    refine r_iload (pc := 24) (x := y4) dX12_busiest_24 rfl ?_
    refine r_bipush (pc := 26) (v := 6) dX12_busiest_26 (by decide) ?_
    refine r_icmp_ge (pc := 28) (tgt := 95) dX12_busiest_28 (by decide) (fun c => ?_) (fun c => ?_)
    · replace h := h.1 c
      refine n_iinc (pc := 95) (x := y3) (w := 1) (L' := [some (.ref 177), some (.int y1), some (.int y2), some (.int (y3 + 1)), some (.int y4), none, none]) dX12_busiest_95 rfl (by decide) rfl (by decide) rfl ?_
      refine r_goto (pc := 98) (tgt := 15) dX12_busiest_98 (by decide) ?_
      refine n_L (L' := [some (.ref 177), some (.int y1), some (.int y2), some (.int (y3 + 1)), none, none, none]) (le_s (le_s (le_s (le_s (le_n (le_n (le_n (le_e)))))))) ?_
      exact hk15 _ _ _ _ h
    · replace h := h.2 c
      refine r_aload_n (pc := 31) (x := 177) dX12_busiest_31 rfl ?_
      refine r_iload_n (pc := 32) (x := y3) dX12_busiest_32 rfl ?_
      refine r_iload (pc := 33) (x := y4) dX12_busiest_33 rfl ?_
      refine n_Vi0 (pc := 35) (S0 := []) (spX12_isLeft h) gmX12_isLeft selX12_isLeft lk_RX12_381 dX12_busiest_35 rfl (by decide) sh_177 ⟨rfl, by decide⟩ rfl ⟨Nat.le_of_ble_eq_true rfl, Nat.le_of_ble_eq_true rfl⟩ (Nat.le_of_ble_eq_true rfl) ⟨Nat.zero_le _, Nat.zero_le _⟩ (fun r2 s2 h => ?_)
      refine r_if_ne (pc := 38) (tgt := 44) dX12_busiest_38 (by decide) (fun c => ?_) (fun c => ?_)
      · replace h := h.1 c
        refine r_aload_n (pc := 44) (x := 177) dX12_busiest_44 rfl ?_
        refine r_iload_n (pc := 45) (x := y3) dX12_busiest_45 rfl ?_
        refine r_iload (pc := 46) (x := y4) dX12_busiest_46 rfl ?_
        refine r_iconst (pc := 48) (v := 0) dX12_busiest_48 (by decide) ?_
        refine n_Vi0 (pc := 49) (S0 := []) (spX12_of h) gmX12_of selX12_of lk_RX12_333 dX12_busiest_49 rfl (by decide) sh_177 ⟨rfl, by decide⟩ rfl ⟨Nat.le_of_ble_eq_true rfl, Nat.le_of_ble_eq_true rfl⟩ (Nat.le_of_ble_eq_true rfl) ⟨Nat.zero_le _, Nat.zero_le _⟩ (fun r3 s3 h => ?_)
        refine r_istore (pc := 52) (L' := [some (.ref 177), some (.int y1), some (.int y2), some (.int y3), some (.int y4), some (.int r3), none]) dX12_busiest_52 rfl (by decide) rfl ?_
        refine r_aload_n (pc := 54) (x := 177) dX12_busiest_54 rfl ?_
        refine r_iload (pc := 55) (x := r3) dX12_busiest_55 rfl ?_
        refine n_Vi0 (pc := 57) (S0 := []) (spX12_mayMany h) gmX12_mayMany selX12_mayMany lk_RX12_442 dX12_busiest_57 rfl (by decide) sh_177 ⟨rfl, by decide⟩ rfl ⟨Nat.le_of_ble_eq_true rfl, Nat.le_of_ble_eq_true rfl⟩ (Nat.le_of_ble_eq_true rfl) ⟨Nat.zero_le _, Nat.zero_le _⟩ (fun r4 s4 h => ?_)
        refine r_istore (pc := 60) (L' := [some (.ref 177), some (.int y1), some (.int y2), some (.int y3), some (.int y4), some (.int r3), some (.int r4)]) dX12_busiest_60 rfl (by decide) rfl ?_
        refine r_iload (pc := 62) (x := r4) dX12_busiest_62 rfl ?_
        refine r_iload_n (pc := 64) (x := y2) dX12_busiest_64 rfl ?_
        refine r_icmp_lt (pc := 65) (tgt := 89) dX12_busiest_65 (by decide) (fun c => ?_) (fun c => ?_)
        · replace h := h.1 c
          refine n_iinc (pc := 89) (x := y4) (w := 1) (L' := [some (.ref 177), some (.int y1), some (.int y2), some (.int y3), some (.int (y4 + 1)), some (.int r3), some (.int r4)]) dX12_busiest_89 rfl (by decide) rfl (by decide) rfl ?_
          refine r_goto (pc := 92) (tgt := 24) dX12_busiest_92 (by decide) ?_
          refine n_L (L' := [some (.ref 177), some (.int y1), some (.int y2), some (.int y3), some (.int (y4 + 1)), none, none]) (le_s (le_s (le_s (le_s (le_s (le_n (le_n (le_e)))))))) ?_
          exact ih _ _ _ _ _ h
        · replace h := h.2 c
          refine r_iload (pc := 68) (x := r4) dX12_busiest_68 rfl ?_
          refine r_iload_n (pc := 70) (x := y2) dX12_busiest_70 rfl ?_
          refine r_icmp_ne (pc := 71) (tgt := 83) dX12_busiest_71 (by decide) (fun c => ?_) (fun c => ?_)
          · replace h := h.1 c
            refine n_L (L' := [some (.ref 177), none, none, some (.int y3), some (.int y4), some (.int r3), some (.int r4)]) (le_s (le_n (le_n (le_s (le_s (le_s (le_s (le_e)))))))) ?_
            exact pX12_busiest_83  _ _ _ _ _ h ih
          · replace h := h.2 c
            refine r_iload (pc := 74) (x := r3) dX12_busiest_74 rfl ?_
            refine r_iload_n (pc := 76) (x := y1) dX12_busiest_76 rfl ?_
            refine r_icmp_lt (pc := 77) (tgt := 83) dX12_busiest_77 (by decide) (fun c => ?_) (fun c => ?_)
            · replace h := h.1 c
              refine n_L (L' := [some (.ref 177), none, none, some (.int y3), some (.int y4), some (.int r3), some (.int r4)]) (le_s (le_n (le_n (le_s (le_s (le_s (le_s (le_e)))))))) ?_
              exact pX12_busiest_83  _ _ _ _ _ h ih
            · replace h := h.2 c
              refine r_goto (pc := 80) (tgt := 89) dX12_busiest_80 (by decide) ?_
              refine n_iinc (pc := 89) (x := y4) (w := 1) (L' := [some (.ref 177), some (.int y1), some (.int y2), some (.int y3), some (.int (y4 + 1)), some (.int r3), some (.int r4)]) dX12_busiest_89 rfl (by decide) rfl (by decide) rfl ?_
              refine r_goto (pc := 92) (tgt := 24) dX12_busiest_92 (by decide) ?_
              refine n_L (L' := [some (.ref 177), some (.int y1), some (.int y2), some (.int y3), some (.int (y4 + 1)), none, none]) (le_s (le_s (le_s (le_s (le_s (le_n (le_n (le_e)))))))) ?_
              exact ih _ _ _ _ _ h
      · replace h := h.2 c
        refine r_goto (pc := 41) (tgt := 89) dX12_busiest_41 (by decide) ?_
        refine n_iinc (pc := 89) (x := y4) (w := 1) (L' := [some (.ref 177), some (.int y1), some (.int y2), some (.int y3), some (.int (y4 + 1)), none, none]) dX12_busiest_89 rfl (by decide) rfl (by decide) rfl ?_
        refine r_goto (pc := 92) (tgt := 24) dX12_busiest_92 (by decide) ?_
        refine n_L (L' := [some (.ref 177), some (.int y1), some (.int y2), some (.int y3), some (.int (y4 + 1)), none, none]) (le_s (le_s (le_s (le_s (le_s (le_n (le_n (le_e)))))))) ?_
        exact ih _ _ _ _ _ h
def wX12_busiest_15  (Q : Int32 → gS → Prop)  : Nat → Int32 → Int32 → Int32 → gS → Prop
  | 0, _, _, _, _ => False
  | n + 1, y1, y2, y3, s => (6 ≤ y3 → (¬ y1 = (-1) → wpX12_tell y2.toInt64 (wi s 177 4 0) (fun s5 => Q y1 s5)) ∧ (y1 = (-1) → Q (-2) s)) ∧ (¬ (6 ≤ y3) → ∃ n24, wX12_busiest_24  Q (fun y1 y2 y3 s => wX12_busiest_15  Q n y1 y2 y3 s) n24 y1 y2 y3 0 s)
set_option maxRecDepth 20000 in
theorem pX12_busiest_15 {l : Launch} {X : gX}   {Q : Int32 → gS → Prop}  : ∀ (n : Nat) (y1 : Int32) (y2 : Int32) (y3 : Int32) (s : gS) (h : wX12_busiest_15  Q n y1 y2 y3 s) , Gw l mX12_busiest (g_rm 7 0 0) X 15 [some (.ref 177), some (.int y1), some (.int y2), some (.int y3), none, none, none] [] (nrm s) 0 0 (g_Z X (q_i Q) 0 0) := by
  intro n
  induction n with
  | zero => intro y1 y2 y3 s h; exact h.elim
  | succ n ih0 =>
    intro y1 y2 y3 s h 
    have ih : ∀ (y1 : Int32) (y2 : Int32) (y3 : Int32) (s : gS), wX12_busiest_15  Q n y1 y2 y3 s → Gw l mX12_busiest (g_rm 7 0 0) X 15 [some (.ref 177), some (.int y1), some (.int y2), some (.int y3), none, none, none] [] (nrm s) 0 0 (g_Z X (q_i Q) 0 0) := fun y1 y2 y3 s h => ih0 y1 y2 y3 s h 
    refine r_iload_n (pc := 15) (x := y3) dX12_busiest_15 rfl ?_
    refine r_bipush (pc := 16) (v := 6) dX12_busiest_16 (by decide) ?_
    refine r_icmp_ge (pc := 18) (tgt := 101) dX12_busiest_18 (by decide) (fun c => ?_) (fun c => ?_)
    · replace h := h.1 c
      refine r_iload_n (pc := 101) (x := y1) dX12_busiest_101 rfl ?_
      refine r_iconst (pc := 102) (v := (-1)) dX12_busiest_102 (by decide) ?_
      refine r_icmp_ne (pc := 103) (tgt := 109) dX12_busiest_103 (by decide) (fun c => ?_) (fun c => ?_)
      · replace h := h.1 c
        refine r_aload_n (pc := 109) (x := 177) dX12_busiest_109 rfl ?_
        refine r_iconst (pc := 110) (v := 0) dX12_busiest_110 (by decide) ?_
        refine n_putI (pc := 111) (j := 4) dX12_busiest_111 fl_RX12_59 fw_12_4 (by decide) sh_177 rfl rfl ?_
        refine r_aload_n (pc := 114) (x := 177) dX12_busiest_114 rfl ?_
        refine r_iload_n (pc := 115) (x := y2) dX12_busiest_115 rfl ?_
        refine r_i2l (pc := 116) dX12_busiest_116 ?_
        refine n_Vv0 (pc := 117) (S0 := []) (spX12_tell h) gmX12_tell selX12_tell lk_RX12_91 dX12_busiest_117 rfl (by decide) sh_177 ⟨rfl, by decide⟩ rfl ⟨Nat.le_of_ble_eq_true rfl, Nat.le_of_ble_eq_true rfl⟩ (Nat.le_of_ble_eq_true rfl) ⟨Nat.zero_le _, Nat.zero_le _⟩ (fun s5 h => ?_)
        refine r_iload_n (pc := 120) (x := y1) dX12_busiest_120 rfl ?_
        exact n_iret (pc := 121) dX12_busiest_121 rfl (Nat.le_refl _) (Nat.le_refl _) h
      · replace h := h.2 c
        refine r_bipush (pc := 106) (v := (-2)) dX12_busiest_106 (by decide) ?_
        exact n_iret (pc := 108) dX12_busiest_108 rfl (Nat.le_refl _) (Nat.le_refl _) h
    · replace h := h.2 c
      refine r_iconst (pc := 21) (v := 0) dX12_busiest_21 (by decide) ?_
      refine r_istore (pc := 22) (L' := [some (.ref 177), some (.int y1), some (.int y2), some (.int y3), some (.int 0), none, none]) dX12_busiest_22 rfl (by decide) rfl ?_
      refine n_L (L' := [some (.ref 177), some (.int y1), some (.int y2), some (.int y3), some (.int 0), none, none]) (le_s (le_s (le_s (le_s (le_s (le_n (le_n (le_e)))))))) ?_
      obtain ⟨n, h⟩ := h
      exact pX12_busiest_24  n _ _ _ _ _ h ih
def wpX12_busiest  (s : gS) (Q : Int32 → gS → Prop) : Prop := wpX12_survey (wi s 177 5 0) (fun s1 => ∃ n15, wX12_busiest_15  Q n15 (-1) 0 0 s1)
set_option maxRecDepth 20000 in
theorem spX12_busiest {l : Launch}   {s : gS} {Q : Int32 → gS → Prop} (h : wpX12_busiest  s Q) : Ct l mX12_busiest 7 0 0 [.ref 177] (nrm s) (q_i Q) := by
  refine Ct.of (by decide) (Nat.le_of_ble_eq_true rfl) (fun X => ?_)
  refine n_L (L' := [some (.ref 177), none, none, none, none, none, none]) (le_s (le_p (le_p (le_p (le_p (le_p (le_p (le_e)))))))) ?_
  refine r_aload_n (pc := 0) (x := 177) dX12_busiest_0 rfl ?_
  refine r_iconst (pc := 1) (v := 0) dX12_busiest_1 (by decide) ?_
  refine n_putI (pc := 2) (j := 5) dX12_busiest_2 fl_RX12_55 fw_12_5 (by decide) sh_177 rfl rfl ?_
  refine r_aload_n (pc := 5) (x := 177) dX12_busiest_5 rfl ?_
  refine n_Vv0 (pc := 6) (S0 := []) (spX12_survey h) gmX12_survey selX12_survey lk_RX12_388 dX12_busiest_6 rfl (by decide) sh_177 ⟨rfl, by decide⟩ rfl ⟨Nat.le_of_ble_eq_true rfl, Nat.le_of_ble_eq_true rfl⟩ (Nat.le_of_ble_eq_true rfl) ⟨Nat.zero_le _, Nat.zero_le _⟩ (fun s1 h => ?_)
  refine r_iconst (pc := 9) (v := (-1)) dX12_busiest_9 (by decide) ?_
  refine r_istore_n (pc := 10) (L' := [some (.ref 177), some (.int (-1)), none, none, none, none, none]) dX12_busiest_10 rfl (by decide) rfl ?_
  refine r_iconst (pc := 11) (v := 0) dX12_busiest_11 (by decide) ?_
  refine r_istore_n (pc := 12) (L' := [some (.ref 177), some (.int (-1)), some (.int 0), none, none, none, none]) dX12_busiest_12 rfl (by decide) rfl ?_
  refine r_iconst (pc := 13) (v := 0) dX12_busiest_13 (by decide) ?_
  refine r_istore_n (pc := 14) (L' := [some (.ref 177), some (.int (-1)), some (.int 0), some (.int 0), none, none, none]) dX12_busiest_14 rfl (by decide) rfl ?_
  refine n_L (L' := [some (.ref 177), some (.int (-1)), some (.int 0), some (.int 0), none, none, none]) (le_s (le_s (le_s (le_s (le_n (le_n (le_n (le_e)))))))) ?_
  obtain ⟨n, h⟩ := h
  exact pX12_busiest_15  n _ _ _ _ h 
def wX12_free_55 (x1 : Int32) (x2 : Int32) (Q : Int32 → gS → Prop) (k33 : Int32 → Int32 → gS → Prop) (y3 : Int32) (y4 : Int32) (s : gS) : Prop := (¬ ((y4 - y3) + 1) = x2 → k33 y3 (y4 + 1) s) ∧ (((y4 - y3) + 1) = x2 → Q y3 s)
set_option maxRecDepth 20000 in
theorem pX12_free_55 {l : Launch} {X : gX} {x1 : Int32} {x2 : Int32}  {Q : Int32 → gS → Prop} {k33 : Int32 → Int32 → gS → Prop} (y3 : Int32) (y4 : Int32) (s : gS) (h : wX12_free_55 x1 x2 Q k33 y3 y4 s) (hk33 : ∀ (y3 : Int32) (y4 : Int32) (s : gS), k33 y3 y4 s → Gw l mX12_free (g_rm 7 0 0) X 33 [some (.ref 177), none, some (.int x2), some (.int y3), some (.int y4)] [] (nrm s) 0 0 (g_Z X (q_i Q) 0 0)) : Gw l mX12_free (g_rm 7 0 0) X 55 [some (.ref 177), none, some (.int x2), some (.int y3), some (.int y4)] [] (nrm s) 0 0 (g_Z X (q_i Q) 0 0) := by
  refine r_iload (pc := 55) (x := y4) dX12_free_55 rfl ?_
  refine r_iload_n (pc := 57) (x := y3) dX12_free_57 rfl ?_
  refine r_isub (pc := 58) dX12_free_58 ?_
  refine r_iconst (pc := 59) (v := 1) dX12_free_59 (by decide) ?_
  refine r_iadd (pc := 60) dX12_free_60 ?_
  refine r_iload_n (pc := 61) (x := x2) dX12_free_61 rfl ?_
  refine r_icmp_ne (pc := 62) (tgt := 67) dX12_free_62 (by decide) (fun c => ?_) (fun c => ?_)
  · replace h := h.1 c
    refine n_iinc (pc := 67) (x := y4) (w := 1) (L' := [some (.ref 177), none, some (.int x2), some (.int y3), some (.int (y4 + 1))]) dX12_free_67 rfl (by decide) rfl (by decide) rfl ?_
    refine r_goto (pc := 70) (tgt := 33) dX12_free_70 (by decide) ?_
    refine n_L (L' := [some (.ref 177), none, some (.int x2), some (.int y3), some (.int (y4 + 1))]) (le_s (le_n (le_s (le_s (le_s (le_e)))))) ?_
    exact hk33 _ _ _ h
  · replace h := h.2 c
    refine r_iload_n (pc := 65) (x := y3) dX12_free_65 rfl ?_
    exact n_iret (pc := 66) dX12_free_66 rfl (Nat.le_refl _) (Nat.le_refl _) h
def wX12_free_33 (x1 : Int32) (x2 : Int32) (Q : Int32 → gS → Prop)  : Nat → Int32 → Int32 → gS → Prop
  | 0, _, _, _ => False
  | n + 1, y3, y4, s => (9999 < y4 → Q (-2) s) ∧ (¬ (9999 < y4) → wpX12_mayMany y4 s (fun r4 s4 => (r4 ≤ 0 → wX12_free_55 x1 x2 Q (fun y3 y4 s => wX12_free_33 x1 x2 Q n y3 y4 s) y3 y4 s4) ∧ (¬ (r4 ≤ 0) → wX12_free_55 x1 x2 Q (fun y3 y4 s => wX12_free_33 x1 x2 Q n y3 y4 s) (y4 + 1) y4 s4)))
set_option maxRecDepth 20000 in
theorem pX12_free_33 {l : Launch} {X : gX} {x1 : Int32} {x2 : Int32}  {Q : Int32 → gS → Prop}  : ∀ (n : Nat) (y3 : Int32) (y4 : Int32) (s : gS) (h : wX12_free_33 x1 x2 Q n y3 y4 s) , Gw l mX12_free (g_rm 7 0 0) X 33 [some (.ref 177), none, some (.int x2), some (.int y3), some (.int y4)] [] (nrm s) 0 0 (g_Z X (q_i Q) 0 0) := by
  intro n
  induction n with
  | zero => intro y3 y4 s h; exact h.elim
  | succ n ih0 =>
    intro y3 y4 s h 
    have ih : ∀ (y3 : Int32) (y4 : Int32) (s : gS), wX12_free_33 x1 x2 Q n y3 y4 s → Gw l mX12_free (g_rm 7 0 0) X 33 [some (.ref 177), none, some (.int x2), some (.int y3), some (.int y4)] [] (nrm s) 0 0 (g_Z X (q_i Q) 0 0) := fun y3 y4 s h => ih0 y3 y4 s h 
    refine r_iload (pc := 33) (x := y4) dX12_free_33 rfl ?_
    refine r_sipush (pc := 35) (v := 9999) dX12_free_35 (by decide) ?_
    refine r_icmp_gt (pc := 38) (tgt := 73) dX12_free_38 (by decide) (fun c => ?_) (fun c => ?_)
    · replace h := h.1 c
      refine r_bipush (pc := 73) (v := (-2)) dX12_free_73 (by decide) ?_
      exact n_iret (pc := 75) dX12_free_75 rfl (Nat.le_refl _) (Nat.le_refl _) h
    · replace h := h.2 c
      refine r_aload_n (pc := 41) (x := 177) dX12_free_41 rfl ?_
      refine r_iload (pc := 42) (x := y4) dX12_free_42 rfl ?_
      refine n_Vi0 (pc := 44) (S0 := []) (spX12_mayMany h) gmX12_mayMany selX12_mayMany lk_RX12_442 dX12_free_44 rfl (by decide) sh_177 ⟨rfl, by decide⟩ rfl ⟨Nat.le_of_ble_eq_true rfl, Nat.le_of_ble_eq_true rfl⟩ (Nat.le_of_ble_eq_true rfl) ⟨Nat.zero_le _, Nat.zero_le _⟩ (fun r4 s4 h => ?_)
      refine r_if_le (pc := 47) (tgt := 55) dX12_free_47 (by decide) (fun c => ?_) (fun c => ?_)
      · replace h := h.1 c
        refine n_L (L' := [some (.ref 177), none, some (.int x2), some (.int y3), some (.int y4)]) (le_s (le_n (le_s (le_s (le_s (le_e)))))) ?_
        exact pX12_free_55  _ _ _ h ih
      · replace h := h.2 c
        refine r_iload (pc := 50) (x := y4) dX12_free_50 rfl ?_
        refine r_iconst (pc := 52) (v := 1) dX12_free_52 (by decide) ?_
        refine r_iadd (pc := 53) dX12_free_53 ?_
        refine r_istore_n (pc := 54) (L' := [some (.ref 177), none, some (.int x2), some (.int (y4 + 1)), some (.int y4)]) dX12_free_54 rfl (by decide) rfl ?_
        refine n_L (L' := [some (.ref 177), none, some (.int x2), some (.int (y4 + 1)), some (.int y4)]) (le_s (le_n (le_s (le_s (le_s (le_e)))))) ?_
        exact pX12_free_55  _ _ _ h ih
def wpX12_free (x1 : Int32) (x2 : Int32) (s : gS) (Q : Int32 → gS → Prop) : Prop := wpX12_isDay x1 (wi s 177 5 0) (fun r1 s1 => (r1 = 0 → Q (-1) s1) ∧ (¬ (r1 = 0) → wpX12_in x2 1 99 s1 (fun r2 s2 => (¬ r2 = 0 → wpX12_survey s2 (fun s3 => ∃ n33, wX12_free_33 x1 x2 Q n33 x1 x1 s3)) ∧ (r2 = 0 → Q (-1) s2))))
set_option maxRecDepth 20000 in
theorem spX12_free {l : Launch} {x1 : Int32} {x2 : Int32}  {s : gS} {Q : Int32 → gS → Prop} (h : wpX12_free x1 x2 s Q) : Ct l mX12_free 7 0 0 [.ref 177, .int x1, .int x2] (nrm s) (q_i Q) := by
  refine Ct.of (by decide) (Nat.le_of_ble_eq_true rfl) (fun X => ?_)
  refine n_L (L' := [some (.ref 177), some (.int x1), some (.int x2), none, none]) (le_s (le_s (le_s (le_p (le_p (le_e)))))) ?_
  refine r_aload_n (pc := 0) (x := 177) dX12_free_0 rfl ?_
  refine r_iconst (pc := 1) (v := 0) dX12_free_1 (by decide) ?_
  refine n_putI (pc := 2) (j := 5) dX12_free_2 fl_RX12_55 fw_12_5 (by decide) sh_177 rfl rfl ?_
  refine r_iload_n (pc := 5) (x := x1) dX12_free_5 rfl ?_
  refine n_Si0 (pc := 6) (S0 := []) (spX12_isDay h) gmX12_isDay lk_RX12_83 dX12_free_6 rfl rfl ⟨Nat.le_of_ble_eq_true rfl, Nat.le_of_ble_eq_true rfl⟩ (Nat.le_of_ble_eq_true rfl) ⟨Nat.zero_le _, Nat.zero_le _⟩ (fun r1 s1 h => ?_)
  refine r_if_eq (pc := 9) (tgt := 22) dX12_free_9 (by decide) (fun c => ?_) (fun c => ?_)
  · replace h := h.1 c
    refine r_iconst (pc := 22) (v := (-1)) dX12_free_22 (by decide) ?_
    exact n_iret (pc := 23) dX12_free_23 rfl (Nat.le_refl _) (Nat.le_refl _) h
  · replace h := h.2 c
    refine r_iload_n (pc := 12) (x := x2) dX12_free_12 rfl ?_
    refine r_iconst (pc := 13) (v := 1) dX12_free_13 (by decide) ?_
    refine r_bipush (pc := 14) (v := 99) dX12_free_14 (by decide) ?_
    refine n_Si0 (pc := 16) (S0 := []) (spX12_in h) gmX12_in lk_RX12_62 dX12_free_16 rfl rfl ⟨Nat.le_of_ble_eq_true rfl, Nat.le_of_ble_eq_true rfl⟩ (Nat.le_of_ble_eq_true rfl) ⟨Nat.zero_le _, Nat.zero_le _⟩ (fun r2 s2 h => ?_)
    refine r_if_ne (pc := 19) (tgt := 24) dX12_free_19 (by decide) (fun c => ?_) (fun c => ?_)
    · replace h := h.1 c
      refine r_aload_n (pc := 24) (x := 177) dX12_free_24 rfl ?_
      refine n_Vv0 (pc := 25) (S0 := []) (spX12_survey h) gmX12_survey selX12_survey lk_RX12_388 dX12_free_25 rfl (by decide) sh_177 ⟨rfl, by decide⟩ rfl ⟨Nat.le_of_ble_eq_true rfl, Nat.le_of_ble_eq_true rfl⟩ (Nat.le_of_ble_eq_true rfl) ⟨Nat.zero_le _, Nat.zero_le _⟩ (fun s3 h => ?_)
      refine r_iload_n (pc := 28) (x := x1) dX12_free_28 rfl ?_
      refine r_istore_n (pc := 29) (L' := [some (.ref 177), some (.int x1), some (.int x2), some (.int x1), none]) dX12_free_29 rfl (by decide) rfl ?_
      refine r_iload_n (pc := 30) (x := x1) dX12_free_30 rfl ?_
      refine r_istore (pc := 31) (L' := [some (.ref 177), some (.int x1), some (.int x2), some (.int x1), some (.int x1)]) dX12_free_31 rfl (by decide) rfl ?_
      refine n_L (L' := [some (.ref 177), none, some (.int x2), some (.int x1), some (.int x1)]) (le_s (le_n (le_s (le_s (le_s (le_e)))))) ?_
      obtain ⟨n, h⟩ := h
      exact pX12_free_33  n _ _ _ h 
    · replace h := h.2 c
      refine r_iconst (pc := 22) (v := (-1)) dX12_free_22 (by decide) ?_
      exact n_iret (pc := 23) dX12_free_23 rfl (Nat.le_refl _) (Nat.le_refl _) h
def wpX12_refusesRef (x1 : Int32) (s : gS) (Q : Int32 → gS → Prop) : Prop := wpX12_isDay x1 s (fun r1 s1 => (¬ r1 = 0 → (¬ x1 = (gi s1 178 0) → Q 0 s1) ∧ (x1 = (gi s1 178 0) → Q (-2) s1)) ∧ (r1 = 0 → Q (-1) s1))
set_option maxRecDepth 20000 in
theorem spX12_refusesRef {l : Launch} {x1 : Int32}  {s : gS} {Q : Int32 → gS → Prop} (h : wpX12_refusesRef x1 s Q) : Ct l mX12_refusesRef 3 0 0 [.ref 177, .int x1] (nrm s) (q_i Q) := by
  refine Ct.of (by decide) (Nat.le_of_ble_eq_true rfl) (fun X => ?_)
  refine n_L (L' := [some (.ref 177), some (.int x1)]) (le_s (le_s (le_e))) ?_
  refine r_iload_n (pc := 0) (x := x1) dX12_refusesRef_0 rfl ?_
  refine n_Si0 (pc := 1) (S0 := []) (spX12_isDay h) gmX12_isDay lk_RX12_83 dX12_refusesRef_1 rfl rfl ⟨Nat.le_of_ble_eq_true rfl, Nat.le_of_ble_eq_true rfl⟩ (Nat.le_of_ble_eq_true rfl) ⟨Nat.zero_le _, Nat.zero_le _⟩ (fun r1 s1 h => ?_)
  refine r_if_ne (pc := 4) (tgt := 11) dX12_refusesRef_4 (by decide) (fun c => ?_) (fun c => ?_)
  · replace h := h.1 c
    refine r_iload_n (pc := 11) (x := x1) dX12_refusesRef_11 rfl ?_
    refine r_aload_n (pc := 12) (x := 177) dX12_refusesRef_12 rfl ?_
    refine n_getR (pc := 13) (j := 0) (q := 178) dX12_refusesRef_13 fl_RX12_9 (by decide) sh_177 rfl rfl rfl ?_
    refine r_iconst (pc := 16) (v := 0) dX12_refusesRef_16 (by decide) ?_
    refine n_iald (pc := 17) (j := 0) dX12_refusesRef_17 (by decide) sh_178 (vp_inc (by decide)) (by decide) ?_
    refine r_icmp_ne (pc := 18) (tgt := 26) dX12_refusesRef_18 (by decide) (fun c => ?_) (fun c => ?_)
    · replace h := h.1 c
      refine r_iconst (pc := 26) (v := 0) dX12_refusesRef_26 (by decide) ?_
      exact n_iret (pc := 27) dX12_refusesRef_27 rfl (Nat.le_refl _) (Nat.le_refl _) h
    · replace h := h.2 c
      refine r_bipush (pc := 21) (v := (-2)) dX12_refusesRef_21 (by decide) ?_
      refine r_goto (pc := 23) (tgt := 27) dX12_refusesRef_23 (by decide) ?_
      exact n_iret (pc := 27) dX12_refusesRef_27 rfl (Nat.le_refl _) (Nat.le_refl _) h
  · replace h := h.2 c
    refine r_iconst (pc := 7) (v := (-1)) dX12_refusesRef_7 (by decide) ?_
    refine r_goto (pc := 8) (tgt := 27) dX12_refusesRef_8 (by decide) ?_
    exact n_iret (pc := 27) dX12_refusesRef_27 rfl (Nat.le_refl _) (Nat.le_refl _) h
def wpX12_ref (x1 : Int32) (s : gS) (Q : Int32 → gS → Prop) : Prop := wpX12_refusesRef x1 (wi s 177 5 0) (fun r1 s1 => (0 ≤ r1 → wpX12_change s1 (fun s2 => Q (gi s2 178 0) (wi s2 178 0 x1))) ∧ (¬ (0 ≤ r1) → Q r1 s1))
set_option maxRecDepth 20000 in
theorem spX12_ref {l : Launch} {x1 : Int32}  {s : gS} {Q : Int32 → gS → Prop} (h : wpX12_ref x1 s Q) : Ct l mX12_ref 4 0 0 [.ref 177, .int x1] (nrm s) (q_i Q) := by
  refine Ct.of (by decide) (Nat.le_of_ble_eq_true rfl) (fun X => ?_)
  refine n_L (L' := [some (.ref 177), some (.int x1), none, none]) (le_s (le_s (le_p (le_p (le_e))))) ?_
  refine r_aload_n (pc := 0) (x := 177) dX12_ref_0 rfl ?_
  refine r_iconst (pc := 1) (v := 0) dX12_ref_1 (by decide) ?_
  refine n_putI (pc := 2) (j := 5) dX12_ref_2 fl_RX12_55 fw_12_5 (by decide) sh_177 rfl rfl ?_
  refine r_aload_n (pc := 5) (x := 177) dX12_ref_5 rfl ?_
  refine r_iload_n (pc := 6) (x := x1) dX12_ref_6 rfl ?_
  refine n_Vi0 (pc := 7) (S0 := []) (spX12_refusesRef h) gmX12_refusesRef selX12_refusesRef lk_RX12_454 dX12_ref_7 rfl (by decide) sh_177 ⟨rfl, by decide⟩ rfl ⟨Nat.le_of_ble_eq_true rfl, Nat.le_of_ble_eq_true rfl⟩ (Nat.le_of_ble_eq_true rfl) ⟨Nat.zero_le _, Nat.zero_le _⟩ (fun r1 s1 h => ?_)
  refine r_istore_n (pc := 10) (L' := [some (.ref 177), some (.int x1), some (.int r1), none]) dX12_ref_10 rfl (by decide) rfl ?_
  refine r_iload_n (pc := 11) (x := r1) dX12_ref_11 rfl ?_
  refine r_if_ge (pc := 12) (tgt := 17) dX12_ref_12 (by decide) (fun c => ?_) (fun c => ?_)
  · replace h := h.1 c
    refine r_aload_n (pc := 17) (x := 177) dX12_ref_17 rfl ?_
    refine n_Vv0 (pc := 18) (S0 := []) (spX12_change h) gmX12_change selX12_change lk_RX12_344 dX12_ref_18 rfl (by decide) sh_177 ⟨rfl, by decide⟩ rfl ⟨Nat.le_of_ble_eq_true rfl, Nat.le_of_ble_eq_true rfl⟩ (Nat.le_of_ble_eq_true rfl) ⟨Nat.zero_le _, Nat.zero_le _⟩ (fun s2 h => ?_)
    refine r_aload_n (pc := 21) (x := 177) dX12_ref_21 rfl ?_
    refine n_getR (pc := 22) (j := 0) (q := 178) dX12_ref_22 fl_RX12_9 (by decide) sh_177 rfl rfl rfl ?_
    refine r_iconst (pc := 25) (v := 0) dX12_ref_25 (by decide) ?_
    refine n_iald (pc := 26) (j := 0) dX12_ref_26 (by decide) sh_178 (vp_inc (by decide)) (by decide) ?_
    refine r_istore_n (pc := 27) (L' := [some (.ref 177), some (.int x1), some (.int r1), some (.int (gi s2 178 0))]) dX12_ref_27 rfl (by decide) rfl ?_
    refine r_aload_n (pc := 28) (x := 177) dX12_ref_28 rfl ?_
    refine n_getR (pc := 29) (j := 0) (q := 178) dX12_ref_29 fl_RX12_9 (by decide) sh_177 rfl rfl rfl ?_
    refine r_iconst (pc := 32) (v := 0) dX12_ref_32 (by decide) ?_
    refine r_iload_n (pc := 33) (x := x1) dX12_ref_33 rfl ?_
    refine n_iast (pc := 34) (j := 0) dX12_ref_34 (by decide) sh_178 (vp_inc (by decide)) (by decide) ?_
    refine r_iload_n (pc := 35) (x := gi s2 178 0) dX12_ref_35 rfl ?_
    exact n_iret (pc := 36) dX12_ref_36 rfl (Nat.le_refl _) (Nat.le_refl _) h
  · replace h := h.2 c
    refine r_iload_n (pc := 15) (x := r1) dX12_ref_15 rfl ?_
    exact n_iret (pc := 16) dX12_ref_16 rfl (Nat.le_refl _) (Nat.le_refl _) h
def wX12_refusesRule_29 (x1 : Int32) (x2 : Int32) (x3 : Int32) (Q : Int32 → gS → Prop)  (z0 : Int32) (z1 : Int32) (s : gS) : Prop := (¬ z1 = z0 → Q 0 s) ∧ (z1 = z0 → Q (-2) s)
set_option maxRecDepth 20000 in
theorem pX12_refusesRule_29 {l : Launch} {X : gX} {x1 : Int32} {x2 : Int32} {x3 : Int32}  {Q : Int32 → gS → Prop}  (z0 : Int32) (z1 : Int32) (s : gS) (h : wX12_refusesRule_29 x1 x2 x3 Q z0 z1 s)  : Gw l mX12_refusesRule (g_rm 5 0 0) X 29 [none, none, none, none] [.int z0, .int z1] (nrm s) 0 0 (g_Z X (q_i Q) 0 0) := by
  refine r_icmp_ne (pc := 29) (tgt := 37) dX12_refusesRule_29 (by decide) (fun c => ?_) (fun c => ?_)
  · replace h := h.1 c
    refine r_iconst (pc := 37) (v := 0) dX12_refusesRule_37 (by decide) ?_
    exact n_iret (pc := 38) dX12_refusesRule_38 rfl (Nat.le_refl _) (Nat.le_refl _) h
  · replace h := h.2 c
    refine r_bipush (pc := 32) (v := (-2)) dX12_refusesRule_32 (by decide) ?_
    refine r_goto (pc := 34) (tgt := 38) dX12_refusesRule_34 (by decide) ?_
    exact n_iret (pc := 38) dX12_refusesRule_38 rfl (Nat.le_refl _) (Nat.le_refl _) h
def wpX12_refusesRule (x1 : Int32) (x2 : Int32) (x3 : Int32) (s : gS) (Q : Int32 → gS → Prop) : Prop := wpX12_isReading x1 x2 s (fun r1 s1 => (¬ r1 = 0 → wpX12_of x1 x2 4 s1 (fun r2 s2 => (x3 = 0 → wX12_refusesRule_29 x1 x2 x3 Q 1 r2 s2) ∧ (¬ (x3 = 0) → wX12_refusesRule_29 x1 x2 x3 Q 0 r2 s2))) ∧ (r1 = 0 → Q (-1) s1))
set_option maxRecDepth 20000 in
theorem spX12_refusesRule {l : Launch} {x1 : Int32} {x2 : Int32} {x3 : Int32}  {s : gS} {Q : Int32 → gS → Prop} (h : wpX12_refusesRule x1 x2 x3 s Q) : Ct l mX12_refusesRule 5 0 0 [.ref 177, .int x1, .int x2, .int x3] (nrm s) (q_i Q) := by
  refine Ct.of (by decide) (Nat.le_of_ble_eq_true rfl) (fun X => ?_)
  refine n_L (L' := [some (.ref 177), some (.int x1), some (.int x2), some (.int x3)]) (le_s (le_s (le_s (le_s (le_e))))) ?_
  refine r_aload_n (pc := 0) (x := 177) dX12_refusesRule_0 rfl ?_
  refine r_iload_n (pc := 1) (x := x1) dX12_refusesRule_1 rfl ?_
  refine r_iload_n (pc := 2) (x := x2) dX12_refusesRule_2 rfl ?_
  refine n_Vi0 (pc := 3) (S0 := []) (spX12_isReading h) gmX12_isReading selX12_isReading lk_RX12_391 dX12_refusesRule_3 rfl (by decide) sh_177 ⟨rfl, by decide⟩ rfl ⟨Nat.le_of_ble_eq_true rfl, Nat.le_of_ble_eq_true rfl⟩ (Nat.le_of_ble_eq_true rfl) ⟨Nat.zero_le _, Nat.zero_le _⟩ (fun r1 s1 h => ?_)
  refine r_if_ne (pc := 6) (tgt := 13) dX12_refusesRule_6 (by decide) (fun c => ?_) (fun c => ?_)
  · replace h := h.1 c
    refine r_aload_n (pc := 13) (x := 177) dX12_refusesRule_13 rfl ?_
    refine r_iload_n (pc := 14) (x := x1) dX12_refusesRule_14 rfl ?_
    refine r_iload_n (pc := 15) (x := x2) dX12_refusesRule_15 rfl ?_
    refine r_iconst (pc := 16) (v := 4) dX12_refusesRule_16 (by decide) ?_
    refine n_Vi0 (pc := 17) (S0 := []) (spX12_of h) gmX12_of selX12_of lk_RX12_333 dX12_refusesRule_17 rfl (by decide) sh_177 ⟨rfl, by decide⟩ rfl ⟨Nat.le_of_ble_eq_true rfl, Nat.le_of_ble_eq_true rfl⟩ (Nat.le_of_ble_eq_true rfl) ⟨Nat.zero_le _, Nat.zero_le _⟩ (fun r2 s2 h => ?_)
    refine r_iload_n (pc := 20) (x := x3) dX12_refusesRule_20 rfl ?_
    refine r_if_eq (pc := 21) (tgt := 28) dX12_refusesRule_21 (by decide) (fun c => ?_) (fun c => ?_)
    · replace h := h.1 c
      refine r_iconst (pc := 28) (v := 1) dX12_refusesRule_28 (by decide) ?_
      refine n_L (L' := [none, none, none, none]) (le_n (le_n (le_n (le_n (le_e))))) ?_
      exact pX12_refusesRule_29  _ _ _ h 
    · replace h := h.2 c
      refine r_iconst (pc := 24) (v := 0) dX12_refusesRule_24 (by decide) ?_
      refine r_goto (pc := 25) (tgt := 29) dX12_refusesRule_25 (by decide) ?_
      refine n_L (L' := [none, none, none, none]) (le_n (le_n (le_n (le_n (le_e))))) ?_
      exact pX12_refusesRule_29  _ _ _ h 
  · replace h := h.2 c
    refine r_iconst (pc := 9) (v := (-1)) dX12_refusesRule_9 (by decide) ?_
    refine r_goto (pc := 10) (tgt := 38) dX12_refusesRule_10 (by decide) ?_
    exact n_iret (pc := 38) dX12_refusesRule_38 rfl (Nat.le_refl _) (Nat.le_refl _) h
def wX12_goRule_20 (x1 : Int32) (x2 : Int32) (x3 : Int32) (Q : gS → Prop)  (z0 : Int32) (z1 : Int32) (s : gS) : Prop := vp_in z1 218 ∧ (Q (wi s 178 (ix z1) z0))
set_option maxRecDepth 20000 in
theorem pX12_goRule_20 {l : Launch} {X : gX} {x1 : Int32} {x2 : Int32} {x3 : Int32}  {Q : gS → Prop}  (z0 : Int32) (z1 : Int32) (s : gS) (h : wX12_goRule_20 x1 x2 x3 Q z0 z1 s)  : Gw l mX12_goRule (g_rm 2 0 0) X 20 [none, none, none, none] [.int z0, .int z1, .ref 178] (nrm s) 0 0 (g_Z X (q_v Q) 0 0) := by
  obtain ⟨b2, h⟩ := h
  refine n_iast (pc := 20) (j := (ix z1)) dX12_goRule_20 (by decide) sh_178 b2 rfl ?_
  exact n_vret (pc := 21) dX12_goRule_21 rfl (Nat.le_refl _) (Nat.le_refl _) h
def wpX12_goRule (x1 : Int32) (x2 : Int32) (x3 : Int32) (s : gS) (Q : gS → Prop) : Prop := wpX12_place x1 x2 s (fun r1 s1 => (x3 = 0 → wX12_goRule_20 x1 x2 x3 Q 1 (r1 + 4) s1) ∧ (¬ (x3 = 0) → wX12_goRule_20 x1 x2 x3 Q 0 (r1 + 4) s1))
set_option maxRecDepth 20000 in
theorem spX12_goRule {l : Launch} {x1 : Int32} {x2 : Int32} {x3 : Int32}  {s : gS} {Q : gS → Prop} (h : wpX12_goRule x1 x2 x3 s Q) : Ct l mX12_goRule 2 0 0 [.ref 177, .int x1, .int x2, .int x3] (nrm s) (q_v Q) := by
  refine Ct.of (by decide) (Nat.le_of_ble_eq_true rfl) (fun X => ?_)
  refine n_L (L' := [some (.ref 177), some (.int x1), some (.int x2), some (.int x3)]) (le_s (le_s (le_s (le_s (le_e))))) ?_
  refine r_aload_n (pc := 0) (x := 177) dX12_goRule_0 rfl ?_
  refine n_getR (pc := 1) (j := 0) (q := 178) dX12_goRule_1 fl_RX12_9 (by decide) sh_177 rfl rfl rfl ?_
  refine r_iload_n (pc := 4) (x := x1) dX12_goRule_4 rfl ?_
  refine r_iload_n (pc := 5) (x := x2) dX12_goRule_5 rfl ?_
  refine n_Si0 (pc := 6) (S0 := [.ref 178]) (spX12_place h) gmX12_place lk_RX12_324 dX12_goRule_6 rfl rfl ⟨Nat.le_of_ble_eq_true rfl, Nat.le_of_ble_eq_true rfl⟩ (Nat.le_of_ble_eq_true rfl) ⟨Nat.zero_le _, Nat.zero_le _⟩ (fun r1 s1 h => ?_)
  refine r_iconst (pc := 9) (v := 4) dX12_goRule_9 (by decide) ?_
  refine r_iadd (pc := 10) dX12_goRule_10 ?_
  refine r_iload_n (pc := 11) (x := x3) dX12_goRule_11 rfl ?_
  refine r_if_eq (pc := 12) (tgt := 19) dX12_goRule_12 (by decide) (fun c => ?_) (fun c => ?_)
  · replace h := h.1 c
    refine r_iconst (pc := 19) (v := 1) dX12_goRule_19 (by decide) ?_
    refine n_L (L' := [none, none, none, none]) (le_n (le_n (le_n (le_n (le_e))))) ?_
    exact pX12_goRule_20  _ _ _ h 
  · replace h := h.2 c
    refine r_iconst (pc := 15) (v := 0) dX12_goRule_15 (by decide) ?_
    refine r_goto (pc := 16) (tgt := 20) dX12_goRule_16 (by decide) ?_
    refine n_L (L' := [none, none, none, none]) (le_n (le_n (le_n (le_n (le_e))))) ?_
    exact pX12_goRule_20  _ _ _ h 
def wX12_inMany_4 (x1 : Int32) (Q : Int32 → gS → Prop)  : Nat → Int32 → Int32 → gS → Prop
  | 0, _, _, _ => False
  | n + 1, y2, y3, s => vp_in (2 + x1) 218 ∧ (((gi s 178 (ix (2 + x1))) ≤ y3 → Q y2 s) ∧ (¬ ((gi s 178 (ix (2 + x1))) ≤ y3) → wpX12_of x1 y3 4 s (fun r2 s2 => wX12_inMany_4 x1 Q n (y2 + r2) (y3 + 1) s2)))
set_option maxRecDepth 20000 in
theorem pX12_inMany_4 {l : Launch} {X : gX} {x1 : Int32}  {Q : Int32 → gS → Prop}  : ∀ (n : Nat) (y2 : Int32) (y3 : Int32) (s : gS) (h : wX12_inMany_4 x1 Q n y2 y3 s) , Gw l mX12_inMany (g_rm 3 0 0) X 4 [some (.ref 177), some (.int x1), some (.int y2), some (.int y3)] [] (nrm s) 0 0 (g_Z X (q_i Q) 0 0) := by
  intro n
  induction n with
  | zero => intro y2 y3 s h; exact h.elim
  | succ n ih0 =>
    intro y2 y3 s h 
    have ih : ∀ (y2 : Int32) (y3 : Int32) (s : gS), wX12_inMany_4 x1 Q n y2 y3 s → Gw l mX12_inMany (g_rm 3 0 0) X 4 [some (.ref 177), some (.int x1), some (.int y2), some (.int y3)] [] (nrm s) 0 0 (g_Z X (q_i Q) 0 0) := fun y2 y3 s h => ih0 y2 y3 s h 
    refine r_iload_n (pc := 4) (x := y3) dX12_inMany_4 rfl ?_
    refine r_aload_n (pc := 5) (x := 177) dX12_inMany_5 rfl ?_
    refine n_getR (pc := 6) (j := 0) (q := 178) dX12_inMany_6 fl_RX12_9 (by decide) sh_177 rfl rfl rfl ?_
    refine r_iconst (pc := 9) (v := 2) dX12_inMany_9 (by decide) ?_
    refine r_iload_n (pc := 10) (x := x1) dX12_inMany_10 rfl ?_
    refine r_iadd (pc := 11) dX12_inMany_11 ?_
    obtain ⟨b1, h⟩ := h
    refine n_iald (pc := 12) (j := (ix (2 + x1))) dX12_inMany_12 (by decide) sh_178 b1 rfl ?_
    refine r_icmp_ge (pc := 13) (tgt := 32) dX12_inMany_13 (by decide) (fun c => ?_) (fun c => ?_)
    · replace h := h.1 c
      refine r_iload_n (pc := 32) (x := y2) dX12_inMany_32 rfl ?_
      exact n_iret (pc := 33) dX12_inMany_33 rfl (Nat.le_refl _) (Nat.le_refl _) h
    · replace h := h.2 c
      refine r_iload_n (pc := 16) (x := y2) dX12_inMany_16 rfl ?_
      refine r_aload_n (pc := 17) (x := 177) dX12_inMany_17 rfl ?_
      refine r_iload_n (pc := 18) (x := x1) dX12_inMany_18 rfl ?_
      refine r_iload_n (pc := 19) (x := y3) dX12_inMany_19 rfl ?_
      refine r_iconst (pc := 20) (v := 4) dX12_inMany_20 (by decide) ?_
      refine n_Vi0 (pc := 21) (S0 := [.int y2]) (spX12_of h) gmX12_of selX12_of lk_RX12_333 dX12_inMany_21 rfl (by decide) sh_177 ⟨rfl, by decide⟩ rfl ⟨Nat.le_of_ble_eq_true rfl, Nat.le_of_ble_eq_true rfl⟩ (Nat.le_of_ble_eq_true rfl) ⟨Nat.zero_le _, Nat.zero_le _⟩ (fun r2 s2 h => ?_)
      refine r_iadd (pc := 24) dX12_inMany_24 ?_
      refine r_istore_n (pc := 25) (L' := [some (.ref 177), some (.int x1), some (.int (y2 + r2)), some (.int y3)]) dX12_inMany_25 rfl (by decide) rfl ?_
      refine n_iinc (pc := 26) (x := y3) (w := 1) (L' := [some (.ref 177), some (.int x1), some (.int (y2 + r2)), some (.int (y3 + 1))]) dX12_inMany_26 rfl (by decide) rfl (by decide) rfl ?_
      refine r_goto (pc := 29) (tgt := 4) dX12_inMany_29 (by decide) ?_
      refine n_L (L' := [some (.ref 177), some (.int x1), some (.int (y2 + r2)), some (.int (y3 + 1))]) (le_s (le_s (le_s (le_s (le_e))))) ?_
      exact ih _ _ _ h
def wpX12_inMany (x1 : Int32) (s : gS) (Q : Int32 → gS → Prop) : Prop := ∃ n4, wX12_inMany_4 x1 Q n4 0 0 s
set_option maxRecDepth 20000 in
theorem spX12_inMany {l : Launch} {x1 : Int32}  {s : gS} {Q : Int32 → gS → Prop} (h : wpX12_inMany x1 s Q) : Ct l mX12_inMany 3 0 0 [.ref 177, .int x1] (nrm s) (q_i Q) := by
  refine Ct.of (by decide) (Nat.le_of_ble_eq_true rfl) (fun X => ?_)
  refine n_L (L' := [some (.ref 177), some (.int x1), none, none]) (le_s (le_s (le_p (le_p (le_e))))) ?_
  refine r_iconst (pc := 0) (v := 0) dX12_inMany_0 (by decide) ?_
  refine r_istore_n (pc := 1) (L' := [some (.ref 177), some (.int x1), some (.int 0), none]) dX12_inMany_1 rfl (by decide) rfl ?_
  refine r_iconst (pc := 2) (v := 0) dX12_inMany_2 (by decide) ?_
  refine r_istore_n (pc := 3) (L' := [some (.ref 177), some (.int x1), some (.int 0), some (.int 0)]) dX12_inMany_3 rfl (by decide) rfl ?_
  refine n_L (L' := [some (.ref 177), some (.int x1), some (.int 0), some (.int 0)]) (le_s (le_s (le_s (le_s (le_e))))) ?_
  obtain ⟨n, h⟩ := h
  exact pX12_inMany_4  n _ _ _ h 
def wpX12_rules (x1 : Int32) (x2 : Int32) (x3 : Int32) (s : gS) (Q : Int32 → gS → Prop) : Prop := wpX12_refusesRule x1 x2 x3 (wi s 177 5 0) (fun r1 s1 => (0 ≤ r1 → wpX12_change s1 (fun s2 => wpX12_goRule x1 x2 x3 s2 (fun s3 => wpX12_inMany x1 s3 (fun r4 s4 => Q r4 s4)))) ∧ (¬ (0 ≤ r1) → Q r1 s1))
set_option maxRecDepth 20000 in
theorem spX12_rules {l : Launch} {x1 : Int32} {x2 : Int32} {x3 : Int32}  {s : gS} {Q : Int32 → gS → Prop} (h : wpX12_rules x1 x2 x3 s Q) : Ct l mX12_rules 6 0 0 [.ref 177, .int x1, .int x2, .int x3] (nrm s) (q_i Q) := by
  refine Ct.of (by decide) (Nat.le_of_ble_eq_true rfl) (fun X => ?_)
  refine n_L (L' := [some (.ref 177), some (.int x1), some (.int x2), some (.int x3), none]) (le_s (le_s (le_s (le_s (le_p (le_e)))))) ?_
  refine r_aload_n (pc := 0) (x := 177) dX12_rules_0 rfl ?_
  refine r_iconst (pc := 1) (v := 0) dX12_rules_1 (by decide) ?_
  refine n_putI (pc := 2) (j := 5) dX12_rules_2 fl_RX12_55 fw_12_5 (by decide) sh_177 rfl rfl ?_
  refine r_aload_n (pc := 5) (x := 177) dX12_rules_5 rfl ?_
  refine r_iload_n (pc := 6) (x := x1) dX12_rules_6 rfl ?_
  refine r_iload_n (pc := 7) (x := x2) dX12_rules_7 rfl ?_
  refine r_iload_n (pc := 8) (x := x3) dX12_rules_8 rfl ?_
  refine n_Vi0 (pc := 9) (S0 := []) (spX12_refusesRule h) gmX12_refusesRule selX12_refusesRule lk_RX12_457 dX12_rules_9 rfl (by decide) sh_177 ⟨rfl, by decide⟩ rfl ⟨Nat.le_of_ble_eq_true rfl, Nat.le_of_ble_eq_true rfl⟩ (Nat.le_of_ble_eq_true rfl) ⟨Nat.zero_le _, Nat.zero_le _⟩ (fun r1 s1 h => ?_)
  refine r_istore (pc := 12) (L' := [some (.ref 177), some (.int x1), some (.int x2), some (.int x3), some (.int r1)]) dX12_rules_12 rfl (by decide) rfl ?_
  refine r_iload (pc := 14) (x := r1) dX12_rules_14 rfl ?_
  refine r_if_ge (pc := 16) (tgt := 22) dX12_rules_16 (by decide) (fun c => ?_) (fun c => ?_)
  · replace h := h.1 c
    refine r_aload_n (pc := 22) (x := 177) dX12_rules_22 rfl ?_
    refine n_Vv0 (pc := 23) (S0 := []) (spX12_change h) gmX12_change selX12_change lk_RX12_344 dX12_rules_23 rfl (by decide) sh_177 ⟨rfl, by decide⟩ rfl ⟨Nat.le_of_ble_eq_true rfl, Nat.le_of_ble_eq_true rfl⟩ (Nat.le_of_ble_eq_true rfl) ⟨Nat.zero_le _, Nat.zero_le _⟩ (fun s2 h => ?_)
    refine r_aload_n (pc := 26) (x := 177) dX12_rules_26 rfl ?_
    refine r_iload_n (pc := 27) (x := x1) dX12_rules_27 rfl ?_
    refine r_iload_n (pc := 28) (x := x2) dX12_rules_28 rfl ?_
    refine r_iload_n (pc := 29) (x := x3) dX12_rules_29 rfl ?_
    refine n_Vv0 (pc := 30) (S0 := []) (spX12_goRule h) gmX12_goRule selX12_goRule lk_RX12_461 dX12_rules_30 rfl (by decide) sh_177 ⟨rfl, by decide⟩ rfl ⟨Nat.le_of_ble_eq_true rfl, Nat.le_of_ble_eq_true rfl⟩ (Nat.le_of_ble_eq_true rfl) ⟨Nat.zero_le _, Nat.zero_le _⟩ (fun s3 h => ?_)
    refine r_aload_n (pc := 33) (x := 177) dX12_rules_33 rfl ?_
    refine r_iload_n (pc := 34) (x := x1) dX12_rules_34 rfl ?_
    refine n_Vi0 (pc := 35) (S0 := []) (spX12_inMany h) gmX12_inMany selX12_inMany lk_RX12_465 dX12_rules_35 rfl (by decide) sh_177 ⟨rfl, by decide⟩ rfl ⟨Nat.le_of_ble_eq_true rfl, Nat.le_of_ble_eq_true rfl⟩ (Nat.le_of_ble_eq_true rfl) ⟨Nat.zero_le _, Nat.zero_le _⟩ (fun r4 s4 h => ?_)
    exact n_iret (pc := 38) dX12_rules_38 rfl (Nat.le_refl _) (Nat.le_refl _) h
  · replace h := h.2 c
    refine r_iload (pc := 19) (x := r1) dX12_rules_19 rfl ?_
    exact n_iret (pc := 21) dX12_rules_21 rfl (Nat.le_refl _) (Nat.le_refl _) h
def wX12_refusesNarrow_18  (Q : Int32 → gS → Prop)  : Nat → Int32 → Int32 → gS → Prop
  | 0, _, _, _ => False
  | n + 1, y1, y2, s => (6 ≤ y2 → (¬ y1 = 0 → Q y1 s) ∧ (y1 = 0 → Q (-2) s)) ∧ (¬ (6 ≤ y2) → wpX12_inMany y2 s (fun r2 s2 => wpX12_leftMany y2 s2 (fun r3 s3 => wX12_refusesNarrow_18  Q n (y1 + (r2 - r3)) (y2 + 1) s3)))
set_option maxRecDepth 20000 in
theorem pX12_refusesNarrow_18 {l : Launch} {X : gX}   {Q : Int32 → gS → Prop}  : ∀ (n : Nat) (y1 : Int32) (y2 : Int32) (s : gS) (h : wX12_refusesNarrow_18  Q n y1 y2 s) , Gw l mX12_refusesNarrow (g_rm 7 0 0) X 18 [some (.ref 177), some (.int y1), some (.int y2)] [] (nrm s) 0 0 (g_Z X (q_i Q) 0 0) := by
  intro n
  induction n with
  | zero => intro y1 y2 s h; exact h.elim
  | succ n ih0 =>
    intro y1 y2 s h 
    have ih : ∀ (y1 : Int32) (y2 : Int32) (s : gS), wX12_refusesNarrow_18  Q n y1 y2 s → Gw l mX12_refusesNarrow (g_rm 7 0 0) X 18 [some (.ref 177), some (.int y1), some (.int y2)] [] (nrm s) 0 0 (g_Z X (q_i Q) 0 0) := fun y1 y2 s h => ih0 y1 y2 s h 
    refine r_iload_n (pc := 18) (x := y2) dX12_refusesNarrow_18 rfl ?_
    refine r_bipush (pc := 19) (v := 6) dX12_refusesNarrow_19 (by decide) ?_
    refine r_icmp_ge (pc := 21) (tgt := 44) dX12_refusesNarrow_21 (by decide) (fun c => ?_) (fun c => ?_)
    · replace h := h.1 c
      refine r_iload_n (pc := 44) (x := y1) dX12_refusesNarrow_44 rfl ?_
      refine r_if_ne (pc := 45) (tgt := 53) dX12_refusesNarrow_45 (by decide) (fun c => ?_) (fun c => ?_)
      · replace h := h.1 c
        refine r_iload_n (pc := 53) (x := y1) dX12_refusesNarrow_53 rfl ?_
        exact n_iret (pc := 54) dX12_refusesNarrow_54 rfl (Nat.le_refl _) (Nat.le_refl _) h
      · replace h := h.2 c
        refine r_bipush (pc := 48) (v := (-2)) dX12_refusesNarrow_48 (by decide) ?_
        refine r_goto (pc := 50) (tgt := 54) dX12_refusesNarrow_50 (by decide) ?_
        exact n_iret (pc := 54) dX12_refusesNarrow_54 rfl (Nat.le_refl _) (Nat.le_refl _) h
    · replace h := h.2 c
      refine r_iload_n (pc := 24) (x := y1) dX12_refusesNarrow_24 rfl ?_
      refine r_aload_n (pc := 25) (x := 177) dX12_refusesNarrow_25 rfl ?_
      refine r_iload_n (pc := 26) (x := y2) dX12_refusesNarrow_26 rfl ?_
      refine n_Vi0 (pc := 27) (S0 := [.int y1]) (spX12_inMany h) gmX12_inMany selX12_inMany lk_RX12_465 dX12_refusesNarrow_27 rfl (by decide) sh_177 ⟨rfl, by decide⟩ rfl ⟨Nat.le_of_ble_eq_true rfl, Nat.le_of_ble_eq_true rfl⟩ (Nat.le_of_ble_eq_true rfl) ⟨Nat.zero_le _, Nat.zero_le _⟩ (fun r2 s2 h => ?_)
      refine r_aload_n (pc := 30) (x := 177) dX12_refusesNarrow_30 rfl ?_
      refine r_iload_n (pc := 31) (x := y2) dX12_refusesNarrow_31 rfl ?_
      refine n_Vi0 (pc := 32) (S0 := [.int r2, .int y1]) (spX12_leftMany h) gmX12_leftMany selX12_leftMany lk_RX12_385 dX12_refusesNarrow_32 rfl (by decide) sh_177 ⟨rfl, by decide⟩ rfl ⟨Nat.le_of_ble_eq_true rfl, Nat.le_of_ble_eq_true rfl⟩ (Nat.le_of_ble_eq_true rfl) ⟨Nat.zero_le _, Nat.zero_le _⟩ (fun r3 s3 h => ?_)
      refine r_isub (pc := 35) dX12_refusesNarrow_35 ?_
      refine r_iadd (pc := 36) dX12_refusesNarrow_36 ?_
      refine r_istore_n (pc := 37) (L' := [some (.ref 177), some (.int (y1 + (r2 - r3))), some (.int y2)]) dX12_refusesNarrow_37 rfl (by decide) rfl ?_
      refine n_iinc (pc := 38) (x := y2) (w := 1) (L' := [some (.ref 177), some (.int (y1 + (r2 - r3))), some (.int (y2 + 1))]) dX12_refusesNarrow_38 rfl (by decide) rfl (by decide) rfl ?_
      refine r_goto (pc := 41) (tgt := 18) dX12_refusesNarrow_41 (by decide) ?_
      refine n_L (L' := [some (.ref 177), some (.int (y1 + (r2 - r3))), some (.int (y2 + 1))]) (le_s (le_s (le_s (le_e)))) ?_
      exact ih _ _ _ h
def wpX12_refusesNarrow  (s : gS) (Q : Int32 → gS → Prop) : Prop := wpX12_survey s (fun s1 => (¬ (gi s1 177 17) = 0 → ∃ n18, wX12_refusesNarrow_18  Q n18 0 0 s1) ∧ ((gi s1 177 17) = 0 → Q (-3) s1))
set_option maxRecDepth 20000 in
theorem spX12_refusesNarrow {l : Launch}   {s : gS} {Q : Int32 → gS → Prop} (h : wpX12_refusesNarrow  s Q) : Ct l mX12_refusesNarrow 7 0 0 [.ref 177] (nrm s) (q_i Q) := by
  refine Ct.of (by decide) (Nat.le_of_ble_eq_true rfl) (fun X => ?_)
  refine n_L (L' := [some (.ref 177), none, none]) (le_s (le_p (le_p (le_e)))) ?_
  refine r_aload_n (pc := 0) (x := 177) dX12_refusesNarrow_0 rfl ?_
  refine n_Vv0 (pc := 1) (S0 := []) (spX12_survey h) gmX12_survey selX12_survey lk_RX12_388 dX12_refusesNarrow_1 rfl (by decide) sh_177 ⟨rfl, by decide⟩ rfl ⟨Nat.le_of_ble_eq_true rfl, Nat.le_of_ble_eq_true rfl⟩ (Nat.le_of_ble_eq_true rfl) ⟨Nat.zero_le _, Nat.zero_le _⟩ (fun s1 h => ?_)
  refine r_aload_n (pc := 4) (x := 177) dX12_refusesNarrow_4 rfl ?_
  refine n_getI (pc := 5) (j := 17) dX12_refusesNarrow_5 fl_RX12_357 (by decide) sh_177 rfl rfl ?_
  refine r_if_ne (pc := 8) (tgt := 14) dX12_refusesNarrow_8 (by decide) (fun c => ?_) (fun c => ?_)
  · replace h := h.1 c
    refine r_iconst (pc := 14) (v := 0) dX12_refusesNarrow_14 (by decide) ?_
    refine r_istore_n (pc := 15) (L' := [some (.ref 177), some (.int 0), none]) dX12_refusesNarrow_15 rfl (by decide) rfl ?_
    refine r_iconst (pc := 16) (v := 0) dX12_refusesNarrow_16 (by decide) ?_
    refine r_istore_n (pc := 17) (L' := [some (.ref 177), some (.int 0), some (.int 0)]) dX12_refusesNarrow_17 rfl (by decide) rfl ?_
    refine n_L (L' := [some (.ref 177), some (.int 0), some (.int 0)]) (le_s (le_s (le_s (le_e)))) ?_
    obtain ⟨n, h⟩ := h
    exact pX12_refusesNarrow_18  n _ _ _ h 
  · replace h := h.2 c
    refine r_bipush (pc := 11) (v := (-3)) dX12_refusesNarrow_11 (by decide) ?_
    exact n_iret (pc := 13) dX12_refusesNarrow_13 rfl (Nat.le_refl _) (Nat.le_refl _) h
def wX12_goNarrow_10  (Q : gS → Prop) (k2 : Int32 → gS → Prop) : Nat → Int32 → Int32 → gS → Prop
  | 0, _, _, _ => False
  | n + 1, y1, y2, s => vp_in (2 + y1) 218 ∧ (((gi s 178 (ix (2 + y1))) ≤ y2 → k2 (y1 + 1) s) ∧ (¬ ((gi s 178 (ix (2 + y1))) ≤ y2) → wpX12_isLeft y1 y2 s (fun r2 s2 => (¬ r2 = 0 → wX12_goNarrow_10  Q k2 n y1 (y2 + 1) s2) ∧ (r2 = 0 → wpX12_place y1 y2 s2 (fun r3 s3 => vp_in (r3 + 4) 218 ∧ (wX12_goNarrow_10  Q k2 n y1 (y2 + 1) (wi s3 178 (ix (r3 + 4)) 0)))))))
set_option maxRecDepth 20000 in
theorem pX12_goNarrow_10 {l : Launch} {X : gX}   {Q : gS → Prop} {k2 : Int32 → gS → Prop} : ∀ (n : Nat) (y1 : Int32) (y2 : Int32) (s : gS) (h : wX12_goNarrow_10  Q k2 n y1 y2 s) (hk2 : ∀ (y1 : Int32) (s : gS), k2 y1 s → Gw l mX12_goNarrow (g_rm 2 0 0) X 2 [some (.ref 177), some (.int y1), none] [] (nrm s) 0 0 (g_Z X (q_v Q) 0 0)), Gw l mX12_goNarrow (g_rm 2 0 0) X 10 [some (.ref 177), some (.int y1), some (.int y2)] [] (nrm s) 0 0 (g_Z X (q_v Q) 0 0) := by
  intro n
  induction n with
  | zero => intro y1 y2 s h; exact h.elim
  | succ n ih0 =>
    intro y1 y2 s h hk2
    have ih : ∀ (y1 : Int32) (y2 : Int32) (s : gS), wX12_goNarrow_10  Q k2 n y1 y2 s → Gw l mX12_goNarrow (g_rm 2 0 0) X 10 [some (.ref 177), some (.int y1), some (.int y2)] [] (nrm s) 0 0 (g_Z X (q_v Q) 0 0) := fun y1 y2 s h => ih0 y1 y2 s h hk2
    refine r_iload_n (pc := 10) (x := y2) dX12_goNarrow_10 rfl ?_
    refine r_aload_n (pc := 11) (x := 177) dX12_goNarrow_11 rfl ?_
    refine n_getR (pc := 12) (j := 0) (q := 178) dX12_goNarrow_12 fl_RX12_9 (by decide) sh_177 rfl rfl rfl ?_
    refine r_iconst (pc := 15) (v := 2) dX12_goNarrow_15 (by decide) ?_
    refine r_iload_n (pc := 16) (x := y1) dX12_goNarrow_16 rfl ?_
    refine r_iadd (pc := 17) dX12_goNarrow_17 ?_
    obtain ⟨b1, h⟩ := h
    refine n_iald (pc := 18) (j := (ix (2 + y1))) dX12_goNarrow_18 (by decide) sh_178 b1 rfl ?_
    refine r_icmp_ge (pc := 19) (tgt := 50) dX12_goNarrow_19 (by decide) (fun c => ?_) (fun c => ?_)
    · replace h := h.1 c
      refine n_iinc (pc := 50) (x := y1) (w := 1) (L' := [some (.ref 177), some (.int (y1 + 1)), some (.int y2)]) dX12_goNarrow_50 rfl (by decide) rfl (by decide) rfl ?_
      refine r_goto (pc := 53) (tgt := 2) dX12_goNarrow_53 (by decide) ?_
      refine n_L (L' := [some (.ref 177), some (.int (y1 + 1)), none]) (le_s (le_s (le_n (le_e)))) ?_
      exact hk2 _ _ h
    · replace h := h.2 c
      refine r_aload_n (pc := 22) (x := 177) dX12_goNarrow_22 rfl ?_
      refine r_iload_n (pc := 23) (x := y1) dX12_goNarrow_23 rfl ?_
      refine r_iload_n (pc := 24) (x := y2) dX12_goNarrow_24 rfl ?_
      refine n_Vi0 (pc := 25) (S0 := []) (spX12_isLeft h) gmX12_isLeft selX12_isLeft lk_RX12_381 dX12_goNarrow_25 rfl (by decide) sh_177 ⟨rfl, by decide⟩ rfl ⟨Nat.le_of_ble_eq_true rfl, Nat.le_of_ble_eq_true rfl⟩ (Nat.le_of_ble_eq_true rfl) ⟨Nat.zero_le _, Nat.zero_le _⟩ (fun r2 s2 h => ?_)
      refine r_if_ne (pc := 28) (tgt := 44) dX12_goNarrow_28 (by decide) (fun c => ?_) (fun c => ?_)
      · replace h := h.1 c
        refine n_iinc (pc := 44) (x := y2) (w := 1) (L' := [some (.ref 177), some (.int y1), some (.int (y2 + 1))]) dX12_goNarrow_44 rfl (by decide) rfl (by decide) rfl ?_
        refine r_goto (pc := 47) (tgt := 10) dX12_goNarrow_47 (by decide) ?_
        refine n_L (L' := [some (.ref 177), some (.int y1), some (.int (y2 + 1))]) (le_s (le_s (le_s (le_e)))) ?_
        exact ih _ _ _ h
      · replace h := h.2 c
        refine r_aload_n (pc := 31) (x := 177) dX12_goNarrow_31 rfl ?_
        refine n_getR (pc := 32) (j := 0) (q := 178) dX12_goNarrow_32 fl_RX12_9 (by decide) sh_177 rfl rfl rfl ?_
        refine r_iload_n (pc := 35) (x := y1) dX12_goNarrow_35 rfl ?_
        refine r_iload_n (pc := 36) (x := y2) dX12_goNarrow_36 rfl ?_
        refine n_Si0 (pc := 37) (S0 := [.ref 178]) (spX12_place h) gmX12_place lk_RX12_324 dX12_goNarrow_37 rfl rfl ⟨Nat.le_of_ble_eq_true rfl, Nat.le_of_ble_eq_true rfl⟩ (Nat.le_of_ble_eq_true rfl) ⟨Nat.zero_le _, Nat.zero_le _⟩ (fun r3 s3 h => ?_)
        refine r_iconst (pc := 40) (v := 4) dX12_goNarrow_40 (by decide) ?_
        refine r_iadd (pc := 41) dX12_goNarrow_41 ?_
        refine r_iconst (pc := 42) (v := 0) dX12_goNarrow_42 (by decide) ?_
        obtain ⟨b4, h⟩ := h
        refine n_iast (pc := 43) (j := (ix (r3 + 4))) dX12_goNarrow_43 (by decide) sh_178 b4 rfl ?_
        refine n_iinc (pc := 44) (x := y2) (w := 1) (L' := [some (.ref 177), some (.int y1), some (.int (y2 + 1))]) dX12_goNarrow_44 rfl (by decide) rfl (by decide) rfl ?_
        refine r_goto (pc := 47) (tgt := 10) dX12_goNarrow_47 (by decide) ?_
        refine n_L (L' := [some (.ref 177), some (.int y1), some (.int (y2 + 1))]) (le_s (le_s (le_s (le_e)))) ?_
        exact ih _ _ _ h
def wX12_goNarrow_2  (Q : gS → Prop)  : Nat → Int32 → gS → Prop
  | 0, _, _ => False
  | n + 1, y1, s => (6 ≤ y1 → Q s) ∧ (¬ (6 ≤ y1) → ∃ n10, wX12_goNarrow_10  Q (fun y1 s => wX12_goNarrow_2  Q n y1 s) n10 y1 0 s)
set_option maxRecDepth 20000 in
theorem pX12_goNarrow_2 {l : Launch} {X : gX}   {Q : gS → Prop}  : ∀ (n : Nat) (y1 : Int32) (s : gS) (h : wX12_goNarrow_2  Q n y1 s) , Gw l mX12_goNarrow (g_rm 2 0 0) X 2 [some (.ref 177), some (.int y1), none] [] (nrm s) 0 0 (g_Z X (q_v Q) 0 0) := by
  intro n
  induction n with
  | zero => intro y1 s h; exact h.elim
  | succ n ih0 =>
    intro y1 s h 
    have ih : ∀ (y1 : Int32) (s : gS), wX12_goNarrow_2  Q n y1 s → Gw l mX12_goNarrow (g_rm 2 0 0) X 2 [some (.ref 177), some (.int y1), none] [] (nrm s) 0 0 (g_Z X (q_v Q) 0 0) := fun y1 s h => ih0 y1 s h 
    refine r_iload_n (pc := 2) (x := y1) dX12_goNarrow_2 rfl ?_
    refine r_bipush (pc := 3) (v := 6) dX12_goNarrow_3 (by decide) ?_
    refine r_icmp_ge (pc := 5) (tgt := 56) dX12_goNarrow_5 (by decide) (fun c => ?_) (fun c => ?_)
    · replace h := h.1 c
      exact n_vret (pc := 56) dX12_goNarrow_56 rfl (Nat.le_refl _) (Nat.le_refl _) h
    · replace h := h.2 c
      refine r_iconst (pc := 8) (v := 0) dX12_goNarrow_8 (by decide) ?_
      refine r_istore_n (pc := 9) (L' := [some (.ref 177), some (.int y1), some (.int 0)]) dX12_goNarrow_9 rfl (by decide) rfl ?_
      refine n_L (L' := [some (.ref 177), some (.int y1), some (.int 0)]) (le_s (le_s (le_s (le_e)))) ?_
      obtain ⟨n, h⟩ := h
      exact pX12_goNarrow_10  n _ _ _ h ih
def wpX12_goNarrow  (s : gS) (Q : gS → Prop) : Prop := ∃ n2, wX12_goNarrow_2  Q n2 0 s
set_option maxRecDepth 20000 in
theorem spX12_goNarrow {l : Launch}   {s : gS} {Q : gS → Prop} (h : wpX12_goNarrow  s Q) : Ct l mX12_goNarrow 2 0 0 [.ref 177] (nrm s) (q_v Q) := by
  refine Ct.of (by decide) (Nat.le_of_ble_eq_true rfl) (fun X => ?_)
  refine n_L (L' := [some (.ref 177), none, none]) (le_s (le_p (le_p (le_e)))) ?_
  refine r_iconst (pc := 0) (v := 0) dX12_goNarrow_0 (by decide) ?_
  refine r_istore_n (pc := 1) (L' := [some (.ref 177), some (.int 0), none]) dX12_goNarrow_1 rfl (by decide) rfl ?_
  refine n_L (L' := [some (.ref 177), some (.int 0), none]) (le_s (le_s (le_n (le_e)))) ?_
  obtain ⟨n, h⟩ := h
  exact pX12_goNarrow_2  n _ _ h 
def wpX12_narrows  (s : gS) (Q : Int32 → gS → Prop) : Prop := wpX12_refusesNarrow (wi s 177 5 0) (fun r1 s1 => (0 ≤ r1 → wpX12_change s1 (fun s2 => wpX12_goNarrow s2 (fun s3 => Q r1 s3))) ∧ (¬ (0 ≤ r1) → Q r1 s1))
set_option maxRecDepth 20000 in
theorem spX12_narrows {l : Launch}   {s : gS} {Q : Int32 → gS → Prop} (h : wpX12_narrows  s Q) : Ct l mX12_narrows 8 0 0 [.ref 177] (nrm s) (q_i Q) := by
  refine Ct.of (by decide) (Nat.le_of_ble_eq_true rfl) (fun X => ?_)
  refine n_L (L' := [some (.ref 177), none]) (le_s (le_p (le_e))) ?_
  refine r_aload_n (pc := 0) (x := 177) dX12_narrows_0 rfl ?_
  refine r_iconst (pc := 1) (v := 0) dX12_narrows_1 (by decide) ?_
  refine n_putI (pc := 2) (j := 5) dX12_narrows_2 fl_RX12_55 fw_12_5 (by decide) sh_177 rfl rfl ?_
  refine r_aload_n (pc := 5) (x := 177) dX12_narrows_5 rfl ?_
  refine n_Vi0 (pc := 6) (S0 := []) (spX12_refusesNarrow h) gmX12_refusesNarrow selX12_refusesNarrow lk_RX12_468 dX12_narrows_6 rfl (by decide) sh_177 ⟨rfl, by decide⟩ rfl ⟨Nat.le_of_ble_eq_true rfl, Nat.le_of_ble_eq_true rfl⟩ (Nat.le_of_ble_eq_true rfl) ⟨Nat.zero_le _, Nat.zero_le _⟩ (fun r1 s1 h => ?_)
  refine r_istore_n (pc := 9) (L' := [some (.ref 177), some (.int r1)]) dX12_narrows_9 rfl (by decide) rfl ?_
  refine r_iload_n (pc := 10) (x := r1) dX12_narrows_10 rfl ?_
  refine r_if_ge (pc := 11) (tgt := 16) dX12_narrows_11 (by decide) (fun c => ?_) (fun c => ?_)
  · replace h := h.1 c
    refine r_aload_n (pc := 16) (x := 177) dX12_narrows_16 rfl ?_
    refine n_Vv0 (pc := 17) (S0 := []) (spX12_change h) gmX12_change selX12_change lk_RX12_344 dX12_narrows_17 rfl (by decide) sh_177 ⟨rfl, by decide⟩ rfl ⟨Nat.le_of_ble_eq_true rfl, Nat.le_of_ble_eq_true rfl⟩ (Nat.le_of_ble_eq_true rfl) ⟨Nat.zero_le _, Nat.zero_le _⟩ (fun s2 h => ?_)
    refine r_aload_n (pc := 20) (x := 177) dX12_narrows_20 rfl ?_
    refine n_Vv0 (pc := 21) (S0 := []) (spX12_goNarrow h) gmX12_goNarrow selX12_goNarrow lk_RX12_471 dX12_narrows_21 rfl (by decide) sh_177 ⟨rfl, by decide⟩ rfl ⟨Nat.le_of_ble_eq_true rfl, Nat.le_of_ble_eq_true rfl⟩ (Nat.le_of_ble_eq_true rfl) ⟨Nat.zero_le _, Nat.zero_le _⟩ (fun s3 h => ?_)
    refine r_iload_n (pc := 24) (x := r1) dX12_narrows_24 rfl ?_
    exact n_iret (pc := 25) dX12_narrows_25 rfl (Nat.le_refl _) (Nat.le_refl _) h
  · replace h := h.2 c
    refine r_iload_n (pc := 14) (x := r1) dX12_narrows_14 rfl ?_
    exact n_iret (pc := 15) dX12_narrows_15 rfl (Nat.le_refl _) (Nat.le_refl _) h
def wX12_toldMany_4  (Q : Int32 → gS → Prop)  : Nat → Int32 → Int32 → gS → Prop
  | 0, _, _, _ => False
  | n + 1, y1, y2, s => (6 ≤ y2 → Q y1 s) ∧ (¬ (6 ≤ y2) → wpX12_isTold y2 s (fun r1 s1 => (r1 = 0 → wX12_toldMany_4  Q n (y1 + 0) (y2 + 1) s1) ∧ (¬ (r1 = 0) → wX12_toldMany_4  Q n (y1 + 1) (y2 + 1) s1)))
set_option maxRecDepth 20000 in
theorem pX12_toldMany_4 {l : Launch} {X : gX}   {Q : Int32 → gS → Prop}  : ∀ (n : Nat) (y1 : Int32) (y2 : Int32) (s : gS) (h : wX12_toldMany_4  Q n y1 y2 s) , Gw l mX12_toldMany (g_rm 4 0 0) X 4 [some (.ref 177), some (.int y1), some (.int y2)] [] (nrm s) 0 0 (g_Z X (q_i Q) 0 0) := by
  intro n
  induction n with
  | zero => intro y1 y2 s h; exact h.elim
  | succ n ih0 =>
    intro y1 y2 s h 
    have ih : ∀ (y1 : Int32) (y2 : Int32) (s : gS), wX12_toldMany_4  Q n y1 y2 s → Gw l mX12_toldMany (g_rm 4 0 0) X 4 [some (.ref 177), some (.int y1), some (.int y2)] [] (nrm s) 0 0 (g_Z X (q_i Q) 0 0) := fun y1 y2 s h => ih0 y1 y2 s h 
    refine r_iload_n (pc := 4) (x := y2) dX12_toldMany_4 rfl ?_
    refine r_bipush (pc := 5) (v := 6) dX12_toldMany_5 (by decide) ?_
    refine r_icmp_ge (pc := 7) (tgt := 32) dX12_toldMany_7 (by decide) (fun c => ?_) (fun c => ?_)
    · replace h := h.1 c
      refine r_iload_n (pc := 32) (x := y1) dX12_toldMany_32 rfl ?_
      exact n_iret (pc := 33) dX12_toldMany_33 rfl (Nat.le_refl _) (Nat.le_refl _) h
    · replace h := h.2 c
      refine r_iload_n (pc := 10) (x := y1) dX12_toldMany_10 rfl ?_
      refine r_aload_n (pc := 11) (x := 177) dX12_toldMany_11 rfl ?_
      refine r_iload_n (pc := 12) (x := y2) dX12_toldMany_12 rfl ?_
      refine n_Vi0 (pc := 13) (S0 := [.int y1]) (spX12_isTold h) gmX12_isTold selX12_isTold lk_RX12_330 dX12_toldMany_13 rfl (by decide) sh_177 ⟨rfl, by decide⟩ rfl ⟨Nat.le_of_ble_eq_true rfl, Nat.le_of_ble_eq_true rfl⟩ (Nat.le_of_ble_eq_true rfl) ⟨Nat.zero_le _, Nat.zero_le _⟩ (fun r1 s1 h => ?_)
      refine r_if_eq (pc := 16) (tgt := 23) dX12_toldMany_16 (by decide) (fun c => ?_) (fun c => ?_)
      · replace h := h.1 c
        refine r_iconst (pc := 23) (v := 0) dX12_toldMany_23 (by decide) ?_
        refine r_iadd (pc := 24) dX12_toldMany_24 ?_
        refine r_istore_n (pc := 25) (L' := [some (.ref 177), some (.int (y1 + 0)), some (.int y2)]) dX12_toldMany_25 rfl (by decide) rfl ?_
        refine n_iinc (pc := 26) (x := y2) (w := 1) (L' := [some (.ref 177), some (.int (y1 + 0)), some (.int (y2 + 1))]) dX12_toldMany_26 rfl (by decide) rfl (by decide) rfl ?_
        refine r_goto (pc := 29) (tgt := 4) dX12_toldMany_29 (by decide) ?_
        refine n_L (L' := [some (.ref 177), some (.int (y1 + 0)), some (.int (y2 + 1))]) (le_s (le_s (le_s (le_e)))) ?_
        exact ih _ _ _ h
      · replace h := h.2 c
        refine r_iconst (pc := 19) (v := 1) dX12_toldMany_19 (by decide) ?_
        refine r_goto (pc := 20) (tgt := 24) dX12_toldMany_20 (by decide) ?_
        refine r_iadd (pc := 24) dX12_toldMany_24 ?_
        refine r_istore_n (pc := 25) (L' := [some (.ref 177), some (.int (y1 + 1)), some (.int y2)]) dX12_toldMany_25 rfl (by decide) rfl ?_
        refine n_iinc (pc := 26) (x := y2) (w := 1) (L' := [some (.ref 177), some (.int (y1 + 1)), some (.int (y2 + 1))]) dX12_toldMany_26 rfl (by decide) rfl (by decide) rfl ?_
        refine r_goto (pc := 29) (tgt := 4) dX12_toldMany_29 (by decide) ?_
        refine n_L (L' := [some (.ref 177), some (.int (y1 + 1)), some (.int (y2 + 1))]) (le_s (le_s (le_s (le_e)))) ?_
        exact ih _ _ _ h
def wpX12_toldMany  (s : gS) (Q : Int32 → gS → Prop) : Prop := ∃ n4, wX12_toldMany_4  Q n4 0 0 s
set_option maxRecDepth 20000 in
theorem spX12_toldMany {l : Launch}   {s : gS} {Q : Int32 → gS → Prop} (h : wpX12_toldMany  s Q) : Ct l mX12_toldMany 4 0 0 [.ref 177] (nrm s) (q_i Q) := by
  refine Ct.of (by decide) (Nat.le_of_ble_eq_true rfl) (fun X => ?_)
  refine n_L (L' := [some (.ref 177), none, none]) (le_s (le_p (le_p (le_e)))) ?_
  refine r_iconst (pc := 0) (v := 0) dX12_toldMany_0 (by decide) ?_
  refine r_istore_n (pc := 1) (L' := [some (.ref 177), some (.int 0), none]) dX12_toldMany_1 rfl (by decide) rfl ?_
  refine r_iconst (pc := 2) (v := 0) dX12_toldMany_2 (by decide) ?_
  refine r_istore_n (pc := 3) (L' := [some (.ref 177), some (.int 0), some (.int 0)]) dX12_toldMany_3 rfl (by decide) rfl ?_
  refine n_L (L' := [some (.ref 177), some (.int 0), some (.int 0)]) (le_s (le_s (le_s (le_e)))) ?_
  obtain ⟨n, h⟩ := h
  exact pX12_toldMany_4  n _ _ _ h 
def wX12_goDrop_15 (x1 : Int32) (Q : gS → Prop)  : Nat → Int32 → gS → Prop
  | 0, _, _ => False
  | n + 1, y2, s => wpX12_place x1 6 s (fun r3 s3 => (r3 ≤ y2 → Q s3) ∧ (¬ (r3 ≤ y2) → vp_in y2 218 ∧ (wX12_goDrop_15 x1 Q n (y2 + 1) (wi s3 178 (ix y2) 0))))
set_option maxRecDepth 20000 in
theorem pX12_goDrop_15 {l : Launch} {X : gX} {x1 : Int32}  {Q : gS → Prop}  : ∀ (n : Nat) (y2 : Int32) (s : gS) (h : wX12_goDrop_15 x1 Q n y2 s) , Gw l mX12_goDrop (g_rm 2 0 0) X 15 [some (.ref 177), some (.int x1), some (.int y2)] [] (nrm s) 0 0 (g_Z X (q_v Q) 0 0) := by
  intro n
  induction n with
  | zero => intro y2 s h; exact h.elim
  | succ n ih0 =>
    intro y2 s h 
    have ih : ∀ (y2 : Int32) (s : gS), wX12_goDrop_15 x1 Q n y2 s → Gw l mX12_goDrop (g_rm 2 0 0) X 15 [some (.ref 177), some (.int x1), some (.int y2)] [] (nrm s) 0 0 (g_Z X (q_v Q) 0 0) := fun y2 s h => ih0 y2 s h 
    refine r_iload_n (pc := 15) (x := y2) dX12_goDrop_15 rfl ?_
    refine r_iload_n (pc := 16) (x := x1) dX12_goDrop_16 rfl ?_
    refine r_bipush (pc := 17) (v := 6) dX12_goDrop_17 (by decide) ?_
    refine n_Si0 (pc := 19) (S0 := [.int y2]) (spX12_place h) gmX12_place lk_RX12_324 dX12_goDrop_19 rfl rfl ⟨Nat.le_of_ble_eq_true rfl, Nat.le_of_ble_eq_true rfl⟩ (Nat.le_of_ble_eq_true rfl) ⟨Nat.zero_le _, Nat.zero_le _⟩ (fun r3 s3 h => ?_)
    refine r_icmp_ge (pc := 22) (tgt := 38) dX12_goDrop_22 (by decide) (fun c => ?_) (fun c => ?_)
    · replace h := h.1 c
      exact n_vret (pc := 38) dX12_goDrop_38 rfl (Nat.le_refl _) (Nat.le_refl _) h
    · replace h := h.2 c
      refine r_aload_n (pc := 25) (x := 177) dX12_goDrop_25 rfl ?_
      refine n_getR (pc := 26) (j := 0) (q := 178) dX12_goDrop_26 fl_RX12_9 (by decide) sh_177 rfl rfl rfl ?_
      refine r_iload_n (pc := 29) (x := y2) dX12_goDrop_29 rfl ?_
      refine r_iconst (pc := 30) (v := 0) dX12_goDrop_30 (by decide) ?_
      obtain ⟨b4, h⟩ := h
      refine n_iast (pc := 31) (j := (ix y2)) dX12_goDrop_31 (by decide) sh_178 b4 rfl ?_
      refine n_iinc (pc := 32) (x := y2) (w := 1) (L' := [some (.ref 177), some (.int x1), some (.int (y2 + 1))]) dX12_goDrop_32 rfl (by decide) rfl (by decide) rfl ?_
      refine r_goto (pc := 35) (tgt := 15) dX12_goDrop_35 (by decide) ?_
      refine n_L (L' := [some (.ref 177), some (.int x1), some (.int (y2 + 1))]) (le_s (le_s (le_s (le_e)))) ?_
      exact ih _ _ h
def wpX12_goDrop (x1 : Int32) (s : gS) (Q : gS → Prop) : Prop := vp_in (2 + x1) 218 ∧ (wpX12_place x1 0 (wi s 178 (ix (2 + x1)) (-1)) (fun r2 s2 => ∃ n15, wX12_goDrop_15 x1 Q n15 r2 s2))
set_option maxRecDepth 20000 in
theorem spX12_goDrop {l : Launch} {x1 : Int32}  {s : gS} {Q : gS → Prop} (h : wpX12_goDrop x1 s Q) : Ct l mX12_goDrop 2 0 0 [.ref 177, .int x1] (nrm s) (q_v Q) := by
  refine Ct.of (by decide) (Nat.le_of_ble_eq_true rfl) (fun X => ?_)
  refine n_L (L' := [some (.ref 177), some (.int x1), none]) (le_s (le_s (le_p (le_e)))) ?_
  refine r_aload_n (pc := 0) (x := 177) dX12_goDrop_0 rfl ?_
  refine n_getR (pc := 1) (j := 0) (q := 178) dX12_goDrop_1 fl_RX12_9 (by decide) sh_177 rfl rfl rfl ?_
  refine r_iconst (pc := 4) (v := 2) dX12_goDrop_4 (by decide) ?_
  refine r_iload_n (pc := 5) (x := x1) dX12_goDrop_5 rfl ?_
  refine r_iadd (pc := 6) dX12_goDrop_6 ?_
  refine r_iconst (pc := 7) (v := (-1)) dX12_goDrop_7 (by decide) ?_
  obtain ⟨b1, h⟩ := h
  refine n_iast (pc := 8) (j := (ix (2 + x1))) dX12_goDrop_8 (by decide) sh_178 b1 rfl ?_
  refine r_iload_n (pc := 9) (x := x1) dX12_goDrop_9 rfl ?_
  refine r_iconst (pc := 10) (v := 0) dX12_goDrop_10 (by decide) ?_
  refine n_Si0 (pc := 11) (S0 := []) (spX12_place h) gmX12_place lk_RX12_324 dX12_goDrop_11 rfl rfl ⟨Nat.le_of_ble_eq_true rfl, Nat.le_of_ble_eq_true rfl⟩ (Nat.le_of_ble_eq_true rfl) ⟨Nat.zero_le _, Nat.zero_le _⟩ (fun r2 s2 h => ?_)
  refine r_istore_n (pc := 14) (L' := [some (.ref 177), some (.int x1), some (.int r2)]) dX12_goDrop_14 rfl (by decide) rfl ?_
  refine n_L (L' := [some (.ref 177), some (.int x1), some (.int r2)]) (le_s (le_s (le_s (le_e)))) ?_
  obtain ⟨n, h⟩ := h
  exact pX12_goDrop_15  n _ _ h 
def wpX12_drops (x1 : Int32) (s : gS) (Q : Int32 → gS → Prop) : Prop := wpX12_isEvent x1 (wi s 177 5 0) (fun r1 s1 => (¬ r1 = 0 → wpX12_isTold x1 s1 (fun r2 s2 => (¬ r2 = 0 → wpX12_change s2 (fun s3 => wpX12_goDrop x1 s3 (fun s4 => wpX12_toldMany s4 (fun r5 s5 => Q r5 s5)))) ∧ (r2 = 0 → Q (-2) s2))) ∧ (r1 = 0 → Q (-1) s1))
set_option maxRecDepth 20000 in
theorem spX12_drops {l : Launch} {x1 : Int32}  {s : gS} {Q : Int32 → gS → Prop} (h : wpX12_drops x1 s Q) : Ct l mX12_drops 5 0 0 [.ref 177, .int x1] (nrm s) (q_i Q) := by
  refine Ct.of (by decide) (Nat.le_of_ble_eq_true rfl) (fun X => ?_)
  refine n_L (L' := [some (.ref 177), some (.int x1)]) (le_s (le_s (le_e))) ?_
  refine r_aload_n (pc := 0) (x := 177) dX12_drops_0 rfl ?_
  refine r_iconst (pc := 1) (v := 0) dX12_drops_1 (by decide) ?_
  refine n_putI (pc := 2) (j := 5) dX12_drops_2 fl_RX12_55 fw_12_5 (by decide) sh_177 rfl rfl ?_
  refine r_aload_n (pc := 5) (x := 177) dX12_drops_5 rfl ?_
  refine r_iload_n (pc := 6) (x := x1) dX12_drops_6 rfl ?_
  refine n_Vi0 (pc := 7) (S0 := []) (spX12_isEvent h) gmX12_isEvent selX12_isEvent lk_RX12_321 dX12_drops_7 rfl (by decide) sh_177 ⟨rfl, by decide⟩ rfl ⟨Nat.le_of_ble_eq_true rfl, Nat.le_of_ble_eq_true rfl⟩ (Nat.le_of_ble_eq_true rfl) ⟨Nat.zero_le _, Nat.zero_le _⟩ (fun r1 s1 h => ?_)
  refine r_if_ne (pc := 10) (tgt := 15) dX12_drops_10 (by decide) (fun c => ?_) (fun c => ?_)
  · replace h := h.1 c
    refine r_aload_n (pc := 15) (x := 177) dX12_drops_15 rfl ?_
    refine r_iload_n (pc := 16) (x := x1) dX12_drops_16 rfl ?_
    refine n_Vi0 (pc := 17) (S0 := []) (spX12_isTold h) gmX12_isTold selX12_isTold lk_RX12_330 dX12_drops_17 rfl (by decide) sh_177 ⟨rfl, by decide⟩ rfl ⟨Nat.le_of_ble_eq_true rfl, Nat.le_of_ble_eq_true rfl⟩ (Nat.le_of_ble_eq_true rfl) ⟨Nat.zero_le _, Nat.zero_le _⟩ (fun r2 s2 h => ?_)
    refine r_if_ne (pc := 20) (tgt := 26) dX12_drops_20 (by decide) (fun c => ?_) (fun c => ?_)
    · replace h := h.1 c
      refine r_aload_n (pc := 26) (x := 177) dX12_drops_26 rfl ?_
      refine n_Vv0 (pc := 27) (S0 := []) (spX12_change h) gmX12_change selX12_change lk_RX12_344 dX12_drops_27 rfl (by decide) sh_177 ⟨rfl, by decide⟩ rfl ⟨Nat.le_of_ble_eq_true rfl, Nat.le_of_ble_eq_true rfl⟩ (Nat.le_of_ble_eq_true rfl) ⟨Nat.zero_le _, Nat.zero_le _⟩ (fun s3 h => ?_)
      refine r_aload_n (pc := 30) (x := 177) dX12_drops_30 rfl ?_
      refine r_iload_n (pc := 31) (x := x1) dX12_drops_31 rfl ?_
      refine n_Vv0 (pc := 32) (S0 := []) (spX12_goDrop h) gmX12_goDrop selX12_goDrop lk_RX12_474 dX12_drops_32 rfl (by decide) sh_177 ⟨rfl, by decide⟩ rfl ⟨Nat.le_of_ble_eq_true rfl, Nat.le_of_ble_eq_true rfl⟩ (Nat.le_of_ble_eq_true rfl) ⟨Nat.zero_le _, Nat.zero_le _⟩ (fun s4 h => ?_)
      refine r_aload_n (pc := 35) (x := 177) dX12_drops_35 rfl ?_
      refine n_Vi0 (pc := 36) (S0 := []) (spX12_toldMany h) gmX12_toldMany selX12_toldMany lk_RX12_477 dX12_drops_36 rfl (by decide) sh_177 ⟨rfl, by decide⟩ rfl ⟨Nat.le_of_ble_eq_true rfl, Nat.le_of_ble_eq_true rfl⟩ (Nat.le_of_ble_eq_true rfl) ⟨Nat.zero_le _, Nat.zero_le _⟩ (fun r5 s5 h => ?_)
      exact n_iret (pc := 39) dX12_drops_39 rfl (Nat.le_refl _) (Nat.le_refl _) h
    · replace h := h.2 c
      refine r_bipush (pc := 23) (v := (-2)) dX12_drops_23 (by decide) ?_
      exact n_iret (pc := 25) dX12_drops_25 rfl (Nat.le_refl _) (Nat.le_refl _) h
  · replace h := h.2 c
    refine r_iconst (pc := 13) (v := (-1)) dX12_drops_13 (by decide) ?_
    exact n_iret (pc := 14) dX12_drops_14 rfl (Nat.le_refl _) (Nat.le_refl _) h
def wpX12_goes (x1 : Int32) (s : gS) (Q : Int32 → gS → Prop) : Prop := wpX12_in x1 0 ((gi (wi s 177 5 0) 178 1) - 1) (wi s 177 5 0) (fun r1 s1 => (¬ r1 = 0 → wpX12_change s1 (fun s2 => wpX12_goGo x1 s2 (fun s3 => Q (gi s3 178 1) s3))) ∧ (r1 = 0 → Q (-1) s1))
set_option maxRecDepth 20000 in
theorem spX12_goes {l : Launch} {x1 : Int32}  {s : gS} {Q : Int32 → gS → Prop} (h : wpX12_goes x1 s Q) : Ct l mX12_goes 3 0 0 [.ref 177, .int x1] (nrm s) (q_i Q) := by
  refine Ct.of (by decide) (Nat.le_of_ble_eq_true rfl) (fun X => ?_)
  refine n_L (L' := [some (.ref 177), some (.int x1)]) (le_s (le_s (le_e))) ?_
  refine r_aload_n (pc := 0) (x := 177) dX12_goes_0 rfl ?_
  refine r_iconst (pc := 1) (v := 0) dX12_goes_1 (by decide) ?_
  refine n_putI (pc := 2) (j := 5) dX12_goes_2 fl_RX12_55 fw_12_5 (by decide) sh_177 rfl rfl ?_
  refine r_iload_n (pc := 5) (x := x1) dX12_goes_5 rfl ?_
  refine r_iconst (pc := 6) (v := 0) dX12_goes_6 (by decide) ?_
  refine r_aload_n (pc := 7) (x := 177) dX12_goes_7 rfl ?_
  refine n_getR (pc := 8) (j := 0) (q := 178) dX12_goes_8 fl_RX12_9 (by decide) sh_177 rfl rfl rfl ?_
  refine r_iconst (pc := 11) (v := 1) dX12_goes_11 (by decide) ?_
  refine n_iald (pc := 12) (j := 1) dX12_goes_12 (by decide) sh_178 (vp_inc (by decide)) (by decide) ?_
  refine r_iconst (pc := 13) (v := 1) dX12_goes_13 (by decide) ?_
  refine r_isub (pc := 14) dX12_goes_14 ?_
  refine n_Si0 (pc := 15) (S0 := []) (spX12_in h) gmX12_in lk_RX12_62 dX12_goes_15 rfl rfl ⟨Nat.le_of_ble_eq_true rfl, Nat.le_of_ble_eq_true rfl⟩ (Nat.le_of_ble_eq_true rfl) ⟨Nat.zero_le _, Nat.zero_le _⟩ (fun r1 s1 h => ?_)
  refine r_if_ne (pc := 18) (tgt := 23) dX12_goes_18 (by decide) (fun c => ?_) (fun c => ?_)
  · replace h := h.1 c
    refine r_aload_n (pc := 23) (x := 177) dX12_goes_23 rfl ?_
    refine n_Vv0 (pc := 24) (S0 := []) (spX12_change h) gmX12_change selX12_change lk_RX12_344 dX12_goes_24 rfl (by decide) sh_177 ⟨rfl, by decide⟩ rfl ⟨Nat.le_of_ble_eq_true rfl, Nat.le_of_ble_eq_true rfl⟩ (Nat.le_of_ble_eq_true rfl) ⟨Nat.zero_le _, Nat.zero_le _⟩ (fun s2 h => ?_)
    refine r_aload_n (pc := 27) (x := 177) dX12_goes_27 rfl ?_
    refine r_iload_n (pc := 28) (x := x1) dX12_goes_28 rfl ?_
    refine n_Vv0 (pc := 29) (S0 := []) (spX12_goGo h) gmX12_goGo selX12_goGo lk_RX12_427 dX12_goes_29 rfl (by decide) sh_177 ⟨rfl, by decide⟩ rfl ⟨Nat.le_of_ble_eq_true rfl, Nat.le_of_ble_eq_true rfl⟩ (Nat.le_of_ble_eq_true rfl) ⟨Nat.zero_le _, Nat.zero_le _⟩ (fun s3 h => ?_)
    refine r_aload_n (pc := 32) (x := 177) dX12_goes_32 rfl ?_
    refine n_getR (pc := 33) (j := 0) (q := 178) dX12_goes_33 fl_RX12_9 (by decide) sh_177 rfl rfl rfl ?_
    refine r_iconst (pc := 36) (v := 1) dX12_goes_36 (by decide) ?_
    refine n_iald (pc := 37) (j := 1) dX12_goes_37 (by decide) sh_178 (vp_inc (by decide)) (by decide) ?_
    exact n_iret (pc := 38) dX12_goes_38 rfl (Nat.le_refl _) (Nat.le_refl _) h
  · replace h := h.2 c
    refine r_iconst (pc := 21) (v := (-1)) dX12_goes_21 (by decide) ?_
    exact n_iret (pc := 22) dX12_goes_22 rfl (Nat.le_refl _) (Nat.le_refl _) h
def wpX12_digit  (s : gS) (Q : Int32 → gS → Prop) : Prop := wpX12_fine s (fun r1 s1 => (¬ r1 = 0 → wpX12_here s1 (fun r2 s2 => wpX12_in r2 48 57 s2 (fun r3 s3 => (¬ r3 = 0 → vp_in ((gi (wi s3 177 7 ((gi s3 177 7) + 1)) 177 7) - 1) 80 ∧ (Q ((gi (wi s3 177 7 ((gi s3 177 7) + 1)) 179 (ix ((gi (wi s3 177 7 ((gi s3 177 7) + 1)) 177 7) - 1))) - 48) (wi s3 177 7 ((gi s3 177 7) + 1)))) ∧ (r3 = 0 → wpX12_fault (gi s3 177 7) s3 (fun s5 => Q 0 s5))))) ∧ (r1 = 0 → Q 0 s1))
set_option maxRecDepth 20000 in
theorem spX12_digit {l : Launch}   {s : gS} {Q : Int32 → gS → Prop} (h : wpX12_digit  s Q) : Ct l mX12_digit 3 0 0 [.ref 177] (nrm s) (q_i Q) := by
  refine Ct.of (by decide) (Nat.le_of_ble_eq_true rfl) (fun X => ?_)
  refine n_L (L' := [some (.ref 177)]) (le_s (le_e)) ?_
  refine r_aload_n (pc := 0) (x := 177) dX12_digit_0 rfl ?_
  refine n_Vi0 (pc := 1) (S0 := []) (spX12_fine h) gmX12_fine selX12_fine lk_RX12_121 dX12_digit_1 rfl (by decide) sh_177 ⟨rfl, by decide⟩ rfl ⟨Nat.le_of_ble_eq_true rfl, Nat.le_of_ble_eq_true rfl⟩ (Nat.le_of_ble_eq_true rfl) ⟨Nat.zero_le _, Nat.zero_le _⟩ (fun r1 s1 h => ?_)
  refine r_if_ne (pc := 4) (tgt := 9) dX12_digit_4 (by decide) (fun c => ?_) (fun c => ?_)
  · replace h := h.1 c
    refine r_aload_n (pc := 9) (x := 177) dX12_digit_9 rfl ?_
    refine n_Vi0 (pc := 10) (S0 := []) (spX12_here h) gmX12_here selX12_here lk_RX12_129 dX12_digit_10 rfl (by decide) sh_177 ⟨rfl, by decide⟩ rfl ⟨Nat.le_of_ble_eq_true rfl, Nat.le_of_ble_eq_true rfl⟩ (Nat.le_of_ble_eq_true rfl) ⟨Nat.zero_le _, Nat.zero_le _⟩ (fun r2 s2 h => ?_)
    refine r_bipush (pc := 13) (v := 48) dX12_digit_13 (by decide) ?_
    refine r_bipush (pc := 15) (v := 57) dX12_digit_15 (by decide) ?_
    refine n_Si0 (pc := 17) (S0 := []) (spX12_in h) gmX12_in lk_RX12_62 dX12_digit_17 rfl rfl ⟨Nat.le_of_ble_eq_true rfl, Nat.le_of_ble_eq_true rfl⟩ (Nat.le_of_ble_eq_true rfl) ⟨Nat.zero_le _, Nat.zero_le _⟩ (fun r3 s3 h => ?_)
    refine r_if_ne (pc := 20) (tgt := 33) dX12_digit_20 (by decide) (fun c => ?_) (fun c => ?_)
    · replace h := h.1 c
      refine r_aload_n (pc := 33) (x := 177) dX12_digit_33 rfl ?_
      refine r_dup (pc := 34) dX12_digit_34 rfl ?_
      refine n_getI (pc := 35) (j := 7) dX12_digit_35 fl_RX12_115 (by decide) sh_177 rfl rfl ?_
      refine r_iconst (pc := 38) (v := 1) dX12_digit_38 (by decide) ?_
      refine r_iadd (pc := 39) dX12_digit_39 ?_
      refine n_putI (pc := 40) (j := 7) dX12_digit_40 fl_RX12_115 fw_12_7 (by decide) sh_177 rfl rfl ?_
      refine r_aload_n (pc := 43) (x := 177) dX12_digit_43 rfl ?_
      refine n_getR (pc := 44) (j := 1) (q := 179) dX12_digit_44 fl_RX12_13 (by decide) sh_177 rfl rfl rfl ?_
      refine r_aload_n (pc := 47) (x := 177) dX12_digit_47 rfl ?_
      refine n_getI (pc := 48) (j := 7) dX12_digit_48 fl_RX12_115 (by decide) sh_177 rfl rfl ?_
      refine r_iconst (pc := 51) (v := 1) dX12_digit_51 (by decide) ?_
      refine r_isub (pc := 52) dX12_digit_52 ?_
      obtain ⟨b4, h⟩ := h
      refine n_bald (pc := 53) (j := (ix ((gi (wi s3 177 7 ((gi s3 177 7) + 1)) 177 7) - 1))) dX12_digit_53 (by decide) sh_179 b4 rfl ?_
      refine r_bipush (pc := 54) (v := 48) dX12_digit_54 (by decide) ?_
      refine r_isub (pc := 56) dX12_digit_56 ?_
      exact n_iret (pc := 57) dX12_digit_57 rfl (Nat.le_refl _) (Nat.le_refl _) h
    · replace h := h.2 c
      refine r_aload_n (pc := 23) (x := 177) dX12_digit_23 rfl ?_
      refine r_aload_n (pc := 24) (x := 177) dX12_digit_24 rfl ?_
      refine n_getI (pc := 25) (j := 7) dX12_digit_25 fl_RX12_115 (by decide) sh_177 rfl rfl ?_
      refine n_Vv0 (pc := 28) (S0 := []) (spX12_fault h) gmX12_fault selX12_fault lk_RX12_125 dX12_digit_28 rfl (by decide) sh_177 ⟨rfl, by decide⟩ rfl ⟨Nat.le_of_ble_eq_true rfl, Nat.le_of_ble_eq_true rfl⟩ (Nat.le_of_ble_eq_true rfl) ⟨Nat.zero_le _, Nat.zero_le _⟩ (fun s5 h => ?_)
      refine r_iconst (pc := 31) (v := 0) dX12_digit_31 (by decide) ?_
      exact n_iret (pc := 32) dX12_digit_32 rfl (Nat.le_refl _) (Nat.le_refl _) h
  · replace h := h.2 c
    refine r_iconst (pc := 7) (v := 0) dX12_digit_7 (by decide) ?_
    exact n_iret (pc := 8) dX12_digit_8 rfl (Nat.le_refl _) (Nat.le_refl _) h
def wX12_readAct_111 (x1 : Int32) (Q : gS → Prop) (k120 : Int32 → Int32 → Int32 → gS → Prop) (y2 : Int32) (s : gS) : Prop := k120 y2 0 1 s
set_option maxRecDepth 20000 in
theorem pX12_readAct_111 {l : Launch} {X : gX} {x1 : Int32}  {Q : gS → Prop} {k120 : Int32 → Int32 → Int32 → gS → Prop} (y2 : Int32) (s : gS) (h : wX12_readAct_111 x1 Q k120 y2 s) (hk120 : ∀ (y2 : Int32) (y3 : Int32) (y4 : Int32) (s : gS), k120 y2 y3 y4 s → Gw l mX12_readAct (g_rm 4 0 0) X 120 [some (.ref 177), some (.int x1), some (.int y2), some (.int y3), some (.int y4)] [] (nrm s) 0 0 (g_Z X (q_v Q) 0 0)) : Gw l mX12_readAct (g_rm 4 0 0) X 111 [some (.ref 177), some (.int x1), some (.int y2), none, none] [] (nrm s) 0 0 (g_Z X (q_v Q) 0 0) := by
  refine r_iconst (pc := 111) (v := 0) dX12_readAct_111 (by decide) ?_
  refine r_goto (pc := 112) (tgt := 116) dX12_readAct_112 (by decide) ?_
  refine r_istore_n (pc := 116) (L' := [some (.ref 177), some (.int x1), some (.int y2), some (.int 0), none]) dX12_readAct_116 rfl (by decide) rfl ?_
  refine r_iconst (pc := 117) (v := 1) dX12_readAct_117 (by decide) ?_
  refine r_istore (pc := 118) (L' := [some (.ref 177), some (.int x1), some (.int y2), some (.int 0), some (.int 1)]) dX12_readAct_118 rfl (by decide) rfl ?_
  refine n_L (L' := [some (.ref 177), some (.int x1), some (.int y2), some (.int 0), some (.int 1)]) (le_s (le_s (le_s (le_s (le_s (le_e)))))) ?_
  exact hk120 _ _ _ _ h
def wX12_readAct_95 (x1 : Int32) (Q : gS → Prop) (k120 : Int32 → Int32 → Int32 → gS → Prop) (y2 : Int32) (s : gS) : Prop := k120 y2 2 1 s
set_option maxRecDepth 20000 in
theorem pX12_readAct_95 {l : Launch} {X : gX} {x1 : Int32}  {Q : gS → Prop} {k120 : Int32 → Int32 → Int32 → gS → Prop} (y2 : Int32) (s : gS) (h : wX12_readAct_95 x1 Q k120 y2 s) (hk120 : ∀ (y2 : Int32) (y3 : Int32) (y4 : Int32) (s : gS), k120 y2 y3 y4 s → Gw l mX12_readAct (g_rm 4 0 0) X 120 [some (.ref 177), some (.int x1), some (.int y2), some (.int y3), some (.int y4)] [] (nrm s) 0 0 (g_Z X (q_v Q) 0 0)) : Gw l mX12_readAct (g_rm 4 0 0) X 95 [some (.ref 177), some (.int x1), some (.int y2), none, none] [] (nrm s) 0 0 (g_Z X (q_v Q) 0 0) := by
  refine r_iconst (pc := 95) (v := 2) dX12_readAct_95 (by decide) ?_
  refine r_goto (pc := 96) (tgt := 116) dX12_readAct_96 (by decide) ?_
  refine r_istore_n (pc := 116) (L' := [some (.ref 177), some (.int x1), some (.int y2), some (.int 2), none]) dX12_readAct_116 rfl (by decide) rfl ?_
  refine r_iconst (pc := 117) (v := 1) dX12_readAct_117 (by decide) ?_
  refine r_istore (pc := 118) (L' := [some (.ref 177), some (.int x1), some (.int y2), some (.int 2), some (.int 1)]) dX12_readAct_118 rfl (by decide) rfl ?_
  refine n_L (L' := [some (.ref 177), some (.int x1), some (.int y2), some (.int 2), some (.int 1)]) (le_s (le_s (le_s (le_s (le_s (le_e)))))) ?_
  exact hk120 _ _ _ _ h
def wX12_readAct_164 (x1 : Int32) (Q : gS → Prop)  : Nat → Int32 → gS → Prop
  | 0, _, _ => False
  | n + 1, y4, s => (4 ≤ y4 → Q s) ∧ (¬ (4 ≤ y4) → vp_in (x1 + 1) 320 ∧ (wpX12_digit s (fun r4 s4 => vp_in (x1 + 1) 320 ∧ (wX12_readAct_164 x1 Q n (y4 + 1) (wi s4 189 (ix (x1 + 1)) ((10 * (gi s 189 (ix (x1 + 1)))) + r4))))))
set_option maxRecDepth 20000 in
theorem pX12_readAct_164 {l : Launch} {X : gX} {x1 : Int32}  {Q : gS → Prop}  : ∀ (n : Nat) (y4 : Int32) (s : gS) (h : wX12_readAct_164 x1 Q n y4 s) , Gw l mX12_readAct (g_rm 4 0 0) X 164 [some (.ref 177), some (.int x1), none, none, some (.int y4)] [] (nrm s) 0 0 (g_Z X (q_v Q) 0 0) := by
  intro n
  induction n with
  | zero => intro y4 s h; exact h.elim
  | succ n ih0 =>
    intro y4 s h 
    have ih : ∀ (y4 : Int32) (s : gS), wX12_readAct_164 x1 Q n y4 s → Gw l mX12_readAct (g_rm 4 0 0) X 164 [some (.ref 177), some (.int x1), none, none, some (.int y4)] [] (nrm s) 0 0 (g_Z X (q_v Q) 0 0) := fun y4 s h => ih0 y4 s h 
    refine r_iload (pc := 164) (x := y4) dX12_readAct_164 rfl ?_
    refine r_iconst (pc := 166) (v := 4) dX12_readAct_166 (by decide) ?_
    refine r_icmp_ge (pc := 167) (tgt := 200) dX12_readAct_167 (by decide) (fun c => ?_) (fun c => ?_)
    · replace h := h.1 c
      exact n_vret (pc := 200) dX12_readAct_200 rfl (Nat.le_refl _) (Nat.le_refl _) h
    · replace h := h.2 c
      refine r_aload_n (pc := 170) (x := 177) dX12_readAct_170 rfl ?_
      refine n_getR (pc := 171) (j := 27) (q := 189) dX12_readAct_171 fl_RX12_45 (by decide) sh_177 rfl rfl rfl ?_
      refine r_iload_n (pc := 174) (x := x1) dX12_readAct_174 rfl ?_
      refine r_iconst (pc := 175) (v := 1) dX12_readAct_175 (by decide) ?_
      refine r_iadd (pc := 176) dX12_readAct_176 ?_
      refine r_bipush (pc := 177) (v := 10) dX12_readAct_177 (by decide) ?_
      refine r_aload_n (pc := 179) (x := 177) dX12_readAct_179 rfl ?_
      refine n_getR (pc := 180) (j := 27) (q := 189) dX12_readAct_180 fl_RX12_45 (by decide) sh_177 rfl rfl rfl ?_
      refine r_iload_n (pc := 183) (x := x1) dX12_readAct_183 rfl ?_
      refine r_iconst (pc := 184) (v := 1) dX12_readAct_184 (by decide) ?_
      refine r_iadd (pc := 185) dX12_readAct_185 ?_
      obtain ⟨b3, h⟩ := h
      refine n_iald (pc := 186) (j := (ix (x1 + 1))) dX12_readAct_186 (by decide) sh_189 b3 rfl ?_
      refine r_imul (pc := 187) dX12_readAct_187 ?_
      refine r_aload_n (pc := 188) (x := 177) dX12_readAct_188 rfl ?_
      refine n_Vi0 (pc := 189) (S0 := [.int (10 * (gi s 189 (ix (x1 + 1)))), .int (x1 + 1), .ref 189]) (spX12_digit h) gmX12_digit selX12_digit lk_RX12_480 dX12_readAct_189 rfl (by decide) sh_177 ⟨rfl, by decide⟩ rfl ⟨Nat.le_of_ble_eq_true rfl, Nat.le_of_ble_eq_true rfl⟩ (Nat.le_of_ble_eq_true rfl) ⟨Nat.zero_le _, Nat.zero_le _⟩ (fun r4 s4 h => ?_)
      refine r_iadd (pc := 192) dX12_readAct_192 ?_
      obtain ⟨b5, h⟩ := h
      refine n_iast (pc := 193) (j := (ix (x1 + 1))) dX12_readAct_193 (by decide) sh_189 b5 rfl ?_
      refine n_iinc (pc := 194) (x := y4) (w := 1) (L' := [some (.ref 177), some (.int x1), none, none, some (.int (y4 + 1))]) dX12_readAct_194 rfl (by decide) rfl (by decide) rfl ?_
      refine r_goto (pc := 197) (tgt := 164) dX12_readAct_197 (by decide) ?_
      refine n_L (L' := [some (.ref 177), some (.int x1), none, none, some (.int (y4 + 1))]) (le_s (le_s (le_n (le_n (le_s (le_e)))))) ?_
      exact ih _ _ h
def wX12_readAct_120 (x1 : Int32) (Q : gS → Prop)  : Nat → Int32 → Int32 → Int32 → gS → Prop
  | 0, _, _, _, _ => False
  | n + 1, y2, y3, y4, s => (y3 < y4 → (y2 = 102 → vp_in (x1 + 1) 320 ∧ (∃ n164, wX12_readAct_164 x1 Q n164 0 (wi s 189 (ix (x1 + 1)) 0))) ∧ (¬ (y2 = 102) → Q s)) ∧ (¬ (y3 < y4) → wpX12_digit s (fun r7 s7 => vp_in (x1 + y4) 320 ∧ (wX12_readAct_120 x1 Q n y2 y3 (y4 + 1) (wi s7 189 (ix (x1 + y4)) r7))))
set_option maxRecDepth 20000 in
theorem pX12_readAct_120 {l : Launch} {X : gX} {x1 : Int32}  {Q : gS → Prop}  : ∀ (n : Nat) (y2 : Int32) (y3 : Int32) (y4 : Int32) (s : gS) (h : wX12_readAct_120 x1 Q n y2 y3 y4 s) , Gw l mX12_readAct (g_rm 4 0 0) X 120 [some (.ref 177), some (.int x1), some (.int y2), some (.int y3), some (.int y4)] [] (nrm s) 0 0 (g_Z X (q_v Q) 0 0) := by
  intro n
  induction n with
  | zero => intro y2 y3 y4 s h; exact h.elim
  | succ n ih0 =>
    intro y2 y3 y4 s h 
    have ih : ∀ (y2 : Int32) (y3 : Int32) (y4 : Int32) (s : gS), wX12_readAct_120 x1 Q n y2 y3 y4 s → Gw l mX12_readAct (g_rm 4 0 0) X 120 [some (.ref 177), some (.int x1), some (.int y2), some (.int y3), some (.int y4)] [] (nrm s) 0 0 (g_Z X (q_v Q) 0 0) := fun y2 y3 y4 s h => ih0 y2 y3 y4 s h 
    refine r_iload (pc := 120) (x := y4) dX12_readAct_120 rfl ?_
    refine r_iload_n (pc := 122) (x := y3) dX12_readAct_122 rfl ?_
    refine r_icmp_gt (pc := 123) (tgt := 145) dX12_readAct_123 (by decide) (fun c => ?_) (fun c => ?_)
    · replace h := h.1 c
      refine r_iload_n (pc := 145) (x := y2) dX12_readAct_145 rfl ?_
      refine r_bipush (pc := 146) (v := 102) dX12_readAct_146 (by decide) ?_
      refine r_icmp_eq (pc := 148) (tgt := 152) dX12_readAct_148 (by decide) (fun c => ?_) (fun c => ?_)
      · replace h := h.1 c
        refine r_aload_n (pc := 152) (x := 177) dX12_readAct_152 rfl ?_
        refine n_getR (pc := 153) (j := 27) (q := 189) dX12_readAct_153 fl_RX12_45 (by decide) sh_177 rfl rfl rfl ?_
        refine r_iload_n (pc := 156) (x := x1) dX12_readAct_156 rfl ?_
        refine r_iconst (pc := 157) (v := 1) dX12_readAct_157 (by decide) ?_
        refine r_iadd (pc := 158) dX12_readAct_158 ?_
        refine r_iconst (pc := 159) (v := 0) dX12_readAct_159 (by decide) ?_
        obtain ⟨b6, h⟩ := h
        refine n_iast (pc := 160) (j := (ix (x1 + 1))) dX12_readAct_160 (by decide) sh_189 b6 rfl ?_
        refine r_iconst (pc := 161) (v := 0) dX12_readAct_161 (by decide) ?_
        refine r_istore (pc := 162) (L' := [some (.ref 177), some (.int x1), some (.int y2), some (.int y3), some (.int 0)]) dX12_readAct_162 rfl (by decide) rfl ?_
        refine n_L (L' := [some (.ref 177), some (.int x1), none, none, some (.int 0)]) (le_s (le_s (le_n (le_n (le_s (le_e)))))) ?_
        obtain ⟨n, h⟩ := h
        exact pX12_readAct_164  n _ _ h 
      · replace h := h.2 c
        exact n_vret (pc := 151) dX12_readAct_151 rfl (Nat.le_refl _) (Nat.le_refl _) h
    · replace h := h.2 c
      refine r_aload_n (pc := 126) (x := 177) dX12_readAct_126 rfl ?_
      refine n_getR (pc := 127) (j := 27) (q := 189) dX12_readAct_127 fl_RX12_45 (by decide) sh_177 rfl rfl rfl ?_
      refine r_iload_n (pc := 130) (x := x1) dX12_readAct_130 rfl ?_
      refine r_iload (pc := 131) (x := y4) dX12_readAct_131 rfl ?_
      refine r_iadd (pc := 133) dX12_readAct_133 ?_
      refine r_aload_n (pc := 134) (x := 177) dX12_readAct_134 rfl ?_
      refine n_Vi0 (pc := 135) (S0 := [.int (x1 + y4), .ref 189]) (spX12_digit h) gmX12_digit selX12_digit lk_RX12_480 dX12_readAct_135 rfl (by decide) sh_177 ⟨rfl, by decide⟩ rfl ⟨Nat.le_of_ble_eq_true rfl, Nat.le_of_ble_eq_true rfl⟩ (Nat.le_of_ble_eq_true rfl) ⟨Nat.zero_le _, Nat.zero_le _⟩ (fun r7 s7 h => ?_)
      obtain ⟨b8, h⟩ := h
      refine n_iast (pc := 138) (j := (ix (x1 + y4))) dX12_readAct_138 (by decide) sh_189 b8 rfl ?_
      refine n_iinc (pc := 139) (x := y4) (w := 1) (L' := [some (.ref 177), some (.int x1), some (.int y2), some (.int y3), some (.int (y4 + 1))]) dX12_readAct_139 rfl (by decide) rfl (by decide) rfl ?_
      refine r_goto (pc := 142) (tgt := 120) dX12_readAct_142 (by decide) ?_
      refine n_L (L' := [some (.ref 177), some (.int x1), some (.int y2), some (.int y3), some (.int (y4 + 1))]) (le_s (le_s (le_s (le_s (le_s (le_e)))))) ?_
      exact ih _ _ _ _ h
def wX12_readAct_56 (x1 : Int32) (Q : gS → Prop)  (y2 : Int32) (s : gS) : Prop := vp_in x1 320 ∧ ((¬ y2 = 111 → (y2 = 114 → wX12_readAct_95 x1 Q (fun y2 y3 y4 s => ∃ n120, wX12_readAct_120 x1 Q n120 y2 y3 y4 s) y2 (wi (wi s 177 7 ((gi s 177 7) + 1)) 189 (ix x1) y2)) ∧ (¬ (y2 = 114) → (¬ y2 = 105 → (y2 = 110 → wX12_readAct_111 x1 Q (fun y2 y3 y4 s => ∃ n120, wX12_readAct_120 x1 Q n120 y2 y3 y4 s) y2 (wi (wi s 177 7 ((gi s 177 7) + 1)) 189 (ix x1) y2)) ∧ (¬ (y2 = 110) → (¬ y2 = 102 → ∃ n120, wX12_readAct_120 x1 Q n120 y2 1 1 (wi (wi s 177 7 ((gi s 177 7) + 1)) 189 (ix x1) y2)) ∧ (y2 = 102 → wX12_readAct_111 x1 Q (fun y2 y3 y4 s => ∃ n120, wX12_readAct_120 x1 Q n120 y2 y3 y4 s) y2 (wi (wi s 177 7 ((gi s 177 7) + 1)) 189 (ix x1) y2)))) ∧ (y2 = 105 → wX12_readAct_95 x1 Q (fun y2 y3 y4 s => ∃ n120, wX12_readAct_120 x1 Q n120 y2 y3 y4 s) y2 (wi (wi s 177 7 ((gi s 177 7) + 1)) 189 (ix x1) y2)))) ∧ (y2 = 111 → ∃ n120, wX12_readAct_120 x1 Q n120 y2 3 1 (wi (wi s 177 7 ((gi s 177 7) + 1)) 189 (ix x1) y2)))
set_option maxRecDepth 20000 in
theorem pX12_readAct_56 {l : Launch} {X : gX} {x1 : Int32}  {Q : gS → Prop}  (y2 : Int32) (s : gS) (h : wX12_readAct_56 x1 Q y2 s)  : Gw l mX12_readAct (g_rm 4 0 0) X 56 [some (.ref 177), some (.int x1), some (.int y2), none, none] [] (nrm s) 0 0 (g_Z X (q_v Q) 0 0) := by
  refine r_aload_n (pc := 56) (x := 177) dX12_readAct_56 rfl ?_
  refine r_dup (pc := 57) dX12_readAct_57 rfl ?_
  refine n_getI (pc := 58) (j := 7) dX12_readAct_58 fl_RX12_115 (by decide) sh_177 rfl rfl ?_
  refine r_iconst (pc := 61) (v := 1) dX12_readAct_61 (by decide) ?_
  refine r_iadd (pc := 62) dX12_readAct_62 ?_
  refine n_putI (pc := 63) (j := 7) dX12_readAct_63 fl_RX12_115 fw_12_7 (by decide) sh_177 rfl rfl ?_
  refine r_aload_n (pc := 66) (x := 177) dX12_readAct_66 rfl ?_
  refine n_getR (pc := 67) (j := 27) (q := 189) dX12_readAct_67 fl_RX12_45 (by decide) sh_177 rfl rfl rfl ?_
  refine r_iload_n (pc := 70) (x := x1) dX12_readAct_70 rfl ?_
  refine r_iload_n (pc := 71) (x := y2) dX12_readAct_71 rfl ?_
  obtain ⟨b9, h⟩ := h
  refine n_iast (pc := 72) (j := (ix x1)) dX12_readAct_72 (by decide) sh_189 b9 rfl ?_
  refine r_iload_n (pc := 73) (x := y2) dX12_readAct_73 rfl ?_
  refine r_bipush (pc := 74) (v := 111) dX12_readAct_74 (by decide) ?_
  refine r_icmp_ne (pc := 76) (tgt := 83) dX12_readAct_76 (by decide) (fun c => ?_) (fun c => ?_)
  · replace h := h.1 c
    refine r_iload_n (pc := 83) (x := y2) dX12_readAct_83 rfl ?_
    refine r_bipush (pc := 84) (v := 114) dX12_readAct_84 (by decide) ?_
    refine r_icmp_eq (pc := 86) (tgt := 95) dX12_readAct_86 (by decide) (fun c => ?_) (fun c => ?_)
    · replace h := h.1 c
      refine n_L (L' := [some (.ref 177), some (.int x1), some (.int y2), none, none]) (le_s (le_s (le_s (le_n (le_n (le_e)))))) ?_
      exact pX12_readAct_95  _ _ h (fun _ _ _ _ h => h.elim fun n h => pX12_readAct_120  n _ _ _ _ h )
    · replace h := h.2 c
      refine r_iload_n (pc := 89) (x := y2) dX12_readAct_89 rfl ?_
      refine r_bipush (pc := 90) (v := 105) dX12_readAct_90 (by decide) ?_
      refine r_icmp_ne (pc := 92) (tgt := 99) dX12_readAct_92 (by decide) (fun c => ?_) (fun c => ?_)
      · replace h := h.1 c
        refine r_iload_n (pc := 99) (x := y2) dX12_readAct_99 rfl ?_
        refine r_bipush (pc := 100) (v := 110) dX12_readAct_100 (by decide) ?_
        refine r_icmp_eq (pc := 102) (tgt := 111) dX12_readAct_102 (by decide) (fun c => ?_) (fun c => ?_)
        · replace h := h.1 c
          refine n_L (L' := [some (.ref 177), some (.int x1), some (.int y2), none, none]) (le_s (le_s (le_s (le_n (le_n (le_e)))))) ?_
          exact pX12_readAct_111  _ _ h (fun _ _ _ _ h => h.elim fun n h => pX12_readAct_120  n _ _ _ _ h )
        · replace h := h.2 c
          refine r_iload_n (pc := 105) (x := y2) dX12_readAct_105 rfl ?_
          refine r_bipush (pc := 106) (v := 102) dX12_readAct_106 (by decide) ?_
          refine r_icmp_ne (pc := 108) (tgt := 115) dX12_readAct_108 (by decide) (fun c => ?_) (fun c => ?_)
          · replace h := h.1 c
            refine r_iconst (pc := 115) (v := 1) dX12_readAct_115 (by decide) ?_
            refine r_istore_n (pc := 116) (L' := [some (.ref 177), some (.int x1), some (.int y2), some (.int 1), none]) dX12_readAct_116 rfl (by decide) rfl ?_
            refine r_iconst (pc := 117) (v := 1) dX12_readAct_117 (by decide) ?_
            refine r_istore (pc := 118) (L' := [some (.ref 177), some (.int x1), some (.int y2), some (.int 1), some (.int 1)]) dX12_readAct_118 rfl (by decide) rfl ?_
            refine n_L (L' := [some (.ref 177), some (.int x1), some (.int y2), some (.int 1), some (.int 1)]) (le_s (le_s (le_s (le_s (le_s (le_e)))))) ?_
            obtain ⟨n, h⟩ := h
            exact pX12_readAct_120  n _ _ _ _ h 
          · replace h := h.2 c
            refine n_L (L' := [some (.ref 177), some (.int x1), some (.int y2), none, none]) (le_s (le_s (le_s (le_n (le_n (le_e)))))) ?_
            exact pX12_readAct_111  _ _ h (fun _ _ _ _ h => h.elim fun n h => pX12_readAct_120  n _ _ _ _ h )
      · replace h := h.2 c
        refine n_L (L' := [some (.ref 177), some (.int x1), some (.int y2), none, none]) (le_s (le_s (le_s (le_n (le_n (le_e)))))) ?_
        exact pX12_readAct_95  _ _ h (fun _ _ _ _ h => h.elim fun n h => pX12_readAct_120  n _ _ _ _ h )
  · replace h := h.2 c
    refine r_iconst (pc := 79) (v := 3) dX12_readAct_79 (by decide) ?_
    refine r_goto (pc := 80) (tgt := 116) dX12_readAct_80 (by decide) ?_
    refine r_istore_n (pc := 116) (L' := [some (.ref 177), some (.int x1), some (.int y2), some (.int 3), none]) dX12_readAct_116 rfl (by decide) rfl ?_
    refine r_iconst (pc := 117) (v := 1) dX12_readAct_117 (by decide) ?_
    refine r_istore (pc := 118) (L' := [some (.ref 177), some (.int x1), some (.int y2), some (.int 3), some (.int 1)]) dX12_readAct_118 rfl (by decide) rfl ?_
    refine n_L (L' := [some (.ref 177), some (.int x1), some (.int y2), some (.int 3), some (.int 1)]) (le_s (le_s (le_s (le_s (le_s (le_e)))))) ?_
    obtain ⟨n, h⟩ := h
    exact pX12_readAct_120  n _ _ _ _ h 
def wpX12_readAct (x1 : Int32) (s : gS) (Q : gS → Prop) : Prop := wpX12_here s (fun r1 s1 => (r1 = 111 → wX12_readAct_56 x1 Q r1 s1) ∧ (¬ (r1 = 111) → (r1 = 103 → wX12_readAct_56 x1 Q r1 s1) ∧ (¬ (r1 = 103) → (r1 = 114 → wX12_readAct_56 x1 Q r1 s1) ∧ (¬ (r1 = 114) → (r1 = 105 → wX12_readAct_56 x1 Q r1 s1) ∧ (¬ (r1 = 105) → (r1 = 110 → wX12_readAct_56 x1 Q r1 s1) ∧ (¬ (r1 = 110) → (r1 = 100 → wX12_readAct_56 x1 Q r1 s1) ∧ (¬ (r1 = 100) → (r1 = 102 → wX12_readAct_56 x1 Q r1 s1) ∧ (¬ (r1 = 102) → wpX12_fault (gi s1 177 7) s1 (fun s2 => Q s2)))))))))
set_option maxRecDepth 20000 in
theorem spX12_readAct {l : Launch} {x1 : Int32}  {s : gS} {Q : gS → Prop} (h : wpX12_readAct x1 s Q) : Ct l mX12_readAct 4 0 0 [.ref 177, .int x1] (nrm s) (q_v Q) := by
  refine Ct.of (by decide) (Nat.le_of_ble_eq_true rfl) (fun X => ?_)
  refine n_L (L' := [some (.ref 177), some (.int x1), none, none, none]) (le_s (le_s (le_p (le_p (le_p (le_e)))))) ?_
  refine r_aload_n (pc := 0) (x := 177) dX12_readAct_0 rfl ?_
  refine n_Vi0 (pc := 1) (S0 := []) (spX12_here h) gmX12_here selX12_here lk_RX12_129 dX12_readAct_1 rfl (by decide) sh_177 ⟨rfl, by decide⟩ rfl ⟨Nat.le_of_ble_eq_true rfl, Nat.le_of_ble_eq_true rfl⟩ (Nat.le_of_ble_eq_true rfl) ⟨Nat.zero_le _, Nat.zero_le _⟩ (fun r1 s1 h => ?_)
  refine r_istore_n (pc := 4) (L' := [some (.ref 177), some (.int x1), some (.int r1), none, none]) dX12_readAct_4 rfl (by decide) rfl ?_
  refine r_iload_n (pc := 5) (x := r1) dX12_readAct_5 rfl ?_
  refine r_bipush (pc := 6) (v := 111) dX12_readAct_6 (by decide) ?_
  refine r_icmp_eq (pc := 8) (tgt := 56) dX12_readAct_8 (by decide) (fun c => ?_) (fun c => ?_)
  · replace h := h.1 c
    refine n_L (L' := [some (.ref 177), some (.int x1), some (.int r1), none, none]) (le_s (le_s (le_s (le_n (le_n (le_e)))))) ?_
    exact pX12_readAct_56  _ _ h 
  · replace h := h.2 c
    refine r_iload_n (pc := 11) (x := r1) dX12_readAct_11 rfl ?_
    refine r_bipush (pc := 12) (v := 103) dX12_readAct_12 (by decide) ?_
    refine r_icmp_eq (pc := 14) (tgt := 56) dX12_readAct_14 (by decide) (fun c => ?_) (fun c => ?_)
    · replace h := h.1 c
      refine n_L (L' := [some (.ref 177), some (.int x1), some (.int r1), none, none]) (le_s (le_s (le_s (le_n (le_n (le_e)))))) ?_
      exact pX12_readAct_56  _ _ h 
    · replace h := h.2 c
      refine r_iload_n (pc := 17) (x := r1) dX12_readAct_17 rfl ?_
      refine r_bipush (pc := 18) (v := 114) dX12_readAct_18 (by decide) ?_
      refine r_icmp_eq (pc := 20) (tgt := 56) dX12_readAct_20 (by decide) (fun c => ?_) (fun c => ?_)
      · replace h := h.1 c
        refine n_L (L' := [some (.ref 177), some (.int x1), some (.int r1), none, none]) (le_s (le_s (le_s (le_n (le_n (le_e)))))) ?_
        exact pX12_readAct_56  _ _ h 
      · replace h := h.2 c
        refine r_iload_n (pc := 23) (x := r1) dX12_readAct_23 rfl ?_
        refine r_bipush (pc := 24) (v := 105) dX12_readAct_24 (by decide) ?_
        refine r_icmp_eq (pc := 26) (tgt := 56) dX12_readAct_26 (by decide) (fun c => ?_) (fun c => ?_)
        · replace h := h.1 c
          refine n_L (L' := [some (.ref 177), some (.int x1), some (.int r1), none, none]) (le_s (le_s (le_s (le_n (le_n (le_e)))))) ?_
          exact pX12_readAct_56  _ _ h 
        · replace h := h.2 c
          refine r_iload_n (pc := 29) (x := r1) dX12_readAct_29 rfl ?_
          refine r_bipush (pc := 30) (v := 110) dX12_readAct_30 (by decide) ?_
          refine r_icmp_eq (pc := 32) (tgt := 56) dX12_readAct_32 (by decide) (fun c => ?_) (fun c => ?_)
          · replace h := h.1 c
            refine n_L (L' := [some (.ref 177), some (.int x1), some (.int r1), none, none]) (le_s (le_s (le_s (le_n (le_n (le_e)))))) ?_
            exact pX12_readAct_56  _ _ h 
          · replace h := h.2 c
            refine r_iload_n (pc := 35) (x := r1) dX12_readAct_35 rfl ?_
            refine r_bipush (pc := 36) (v := 100) dX12_readAct_36 (by decide) ?_
            refine r_icmp_eq (pc := 38) (tgt := 56) dX12_readAct_38 (by decide) (fun c => ?_) (fun c => ?_)
            · replace h := h.1 c
              refine n_L (L' := [some (.ref 177), some (.int x1), some (.int r1), none, none]) (le_s (le_s (le_s (le_n (le_n (le_e)))))) ?_
              exact pX12_readAct_56  _ _ h 
            · replace h := h.2 c
              refine r_iload_n (pc := 41) (x := r1) dX12_readAct_41 rfl ?_
              refine r_bipush (pc := 42) (v := 102) dX12_readAct_42 (by decide) ?_
              refine r_icmp_eq (pc := 44) (tgt := 56) dX12_readAct_44 (by decide) (fun c => ?_) (fun c => ?_)
              · replace h := h.1 c
                refine n_L (L' := [some (.ref 177), some (.int x1), some (.int r1), none, none]) (le_s (le_s (le_s (le_n (le_n (le_e)))))) ?_
                exact pX12_readAct_56  _ _ h 
              · replace h := h.2 c
                refine r_aload_n (pc := 47) (x := 177) dX12_readAct_47 rfl ?_
                refine r_aload_n (pc := 48) (x := 177) dX12_readAct_48 rfl ?_
                refine n_getI (pc := 49) (j := 7) dX12_readAct_49 fl_RX12_115 (by decide) sh_177 rfl rfl ?_
                refine n_Vv0 (pc := 52) (S0 := []) (spX12_fault h) gmX12_fault selX12_fault lk_RX12_125 dX12_readAct_52 rfl (by decide) sh_177 ⟨rfl, by decide⟩ rfl ⟨Nat.le_of_ble_eq_true rfl, Nat.le_of_ble_eq_true rfl⟩ (Nat.le_of_ble_eq_true rfl) ⟨Nat.zero_le _, Nat.zero_le _⟩ (fun s2 h => ?_)
                exact n_vret (pc := 55) dX12_readAct_55 rfl (Nat.le_refl _) (Nat.le_refl _) h
def wX12_act_200 (x1 : Int32) (Q : Int32 → gS → Prop)  (z0 : Int32) (z1 : Int32) (z2 : Int32) (s : gS) : Prop := wpX12_goRule z2 z1 z0 s (fun s17 => Q 1 s17)
set_option maxRecDepth 20000 in
theorem pX12_act_200 {l : Launch} {X : gX} {x1 : Int32}  {Q : Int32 → gS → Prop}  (z0 : Int32) (z1 : Int32) (z2 : Int32) (s : gS) (h : wX12_act_200 x1 Q z0 z1 z2 s)  : Gw l mX12_act (g_rm 8 0 0) X 200 [none, none, none, none] [.int z0, .int z1, .int z2, .ref 177] (nrm s) 0 0 (g_Z X (q_i Q) 0 0) := by
  refine n_Vv0 (pc := 200) (S0 := []) (spX12_goRule h) gmX12_goRule selX12_goRule lk_RX12_461 dX12_act_200 rfl (by decide) sh_177 ⟨rfl, by decide⟩ rfl ⟨Nat.le_of_ble_eq_true rfl, Nat.le_of_ble_eq_true rfl⟩ (Nat.le_of_ble_eq_true rfl) ⟨Nat.zero_le _, Nat.zero_le _⟩ (fun s17 h => ?_)
  refine r_iconst (pc := 203) (v := 1) dX12_act_203 (by decide) ?_
  exact n_zret (pc := 204) dX12_act_204 rfl (by decide) (Nat.le_refl _) (Nat.le_refl _) h
def wX12_act_173 (x1 : Int32) (Q : Int32 → gS → Prop)  (y2 : Int32) (y3 : Int32) (z0 : Int32) (z1 : Int32) (z2 : Int32) (s : gS) : Prop := wpX12_refusesRule z2 z1 z0 s (fun r18 s18 => (0 ≤ r18 → vp_in x1 320 ∧ ((¬ (gi s18 189 (ix x1)) = 114 → wX12_act_200 x1 Q 0 y3 y2 s18) ∧ ((gi s18 189 (ix x1)) = 114 → wX12_act_200 x1 Q 1 y3 y2 s18))) ∧ (¬ (0 ≤ r18) → Q 0 s18))
set_option maxRecDepth 20000 in
theorem pX12_act_173 {l : Launch} {X : gX} {x1 : Int32}  {Q : Int32 → gS → Prop}  (y2 : Int32) (y3 : Int32) (z0 : Int32) (z1 : Int32) (z2 : Int32) (s : gS) (h : wX12_act_173 x1 Q y2 y3 z0 z1 z2 s)  : Gw l mX12_act (g_rm 8 0 0) X 173 [some (.ref 177), some (.int x1), some (.int y2), some (.int y3)] [.int z0, .int z1, .int z2, .ref 177] (nrm s) 0 0 (g_Z X (q_i Q) 0 0) := by
  refine n_Vi0 (pc := 173) (S0 := []) (spX12_refusesRule h) gmX12_refusesRule selX12_refusesRule lk_RX12_457 dX12_act_173 rfl (by decide) sh_177 ⟨rfl, by decide⟩ rfl ⟨Nat.le_of_ble_eq_true rfl, Nat.le_of_ble_eq_true rfl⟩ (Nat.le_of_ble_eq_true rfl) ⟨Nat.zero_le _, Nat.zero_le _⟩ (fun r18 s18 h => ?_)
  refine r_if_ge (pc := 176) (tgt := 181) dX12_act_176 (by decide) (fun c => ?_) (fun c => ?_)
  · replace h := h.1 c
    refine r_aload_n (pc := 181) (x := 177) dX12_act_181 rfl ?_
    refine r_iload_n (pc := 182) (x := y2) dX12_act_182 rfl ?_
    refine r_iload_n (pc := 183) (x := y3) dX12_act_183 rfl ?_
    refine r_aload_n (pc := 184) (x := 177) dX12_act_184 rfl ?_
    refine n_getR (pc := 185) (j := 27) (q := 189) dX12_act_185 fl_RX12_45 (by decide) sh_177 rfl rfl rfl ?_
    refine r_iload_n (pc := 188) (x := x1) dX12_act_188 rfl ?_
    obtain ⟨b19, h⟩ := h
    refine n_iald (pc := 189) (j := (ix x1)) dX12_act_189 (by decide) sh_189 b19 rfl ?_
    refine r_bipush (pc := 190) (v := 114) dX12_act_190 (by decide) ?_
    refine r_icmp_ne (pc := 192) (tgt := 199) dX12_act_192 (by decide) (fun c => ?_) (fun c => ?_)
    · replace h := h.1 c
      refine r_iconst (pc := 199) (v := 0) dX12_act_199 (by decide) ?_
      refine n_L (L' := [none, none, none, none]) (le_n (le_n (le_n (le_n (le_e))))) ?_
      exact pX12_act_200  _ _ _ _ h 
    · replace h := h.2 c
      refine r_iconst (pc := 195) (v := 1) dX12_act_195 (by decide) ?_
      refine r_goto (pc := 196) (tgt := 200) dX12_act_196 (by decide) ?_
      refine n_L (L' := [none, none, none, none]) (le_n (le_n (le_n (le_n (le_e))))) ?_
      exact pX12_act_200  _ _ _ _ h 
  · replace h := h.2 c
    refine r_iconst (pc := 179) (v := 0) dX12_act_179 (by decide) ?_
    exact n_zret (pc := 180) dX12_act_180 rfl (by decide) (Nat.le_refl _) (Nat.le_refl _) h
def wpX12_act (x1 : Int32) (s : gS) (Q : Int32 → gS → Prop) : Prop := vp_in (x1 + 1) 320 ∧ (vp_in (x1 + 2) 320 ∧ (vp_in x1 320 ∧ (((gi s 189 (ix x1)) = 100 → wpX12_isTold (gi s 189 (ix (x1 + 1))) s (fun r4 s4 => (¬ r4 = 0 → wpX12_goDrop (gi s 189 (ix (x1 + 1))) s4 (fun s5 => Q 1 s5)) ∧ (r4 = 0 → Q 0 s4))) ∧ ((gi s 189 (ix x1)) = 103 → ((gi s 189 (ix (x1 + 1))) < (gi s 178 1) → wpX12_goGo (gi s 189 (ix (x1 + 1))) s (fun s6 => Q 1 s6)) ∧ (¬ ((gi s 189 (ix (x1 + 1))) < (gi s 178 1)) → Q 0 s)) ∧ ((gi s 189 (ix x1)) = 105 → vp_in x1 320 ∧ ((¬ (gi s 189 (ix x1)) = 114 → wX12_act_173 x1 Q (gi s 189 (ix (x1 + 1))) (gi s 189 (ix (x1 + 2))) 0 (gi s 189 (ix (x1 + 2))) (gi s 189 (ix (x1 + 1))) s) ∧ ((gi s 189 (ix x1)) = 114 → wX12_act_173 x1 Q (gi s 189 (ix (x1 + 1))) (gi s 189 (ix (x1 + 2))) 1 (gi s 189 (ix (x1 + 2))) (gi s 189 (ix (x1 + 1))) s))) ∧ ((gi s 189 (ix x1)) = 110 → wpX12_refusesNarrow s (fun r8 s8 => (0 ≤ r8 → wpX12_goNarrow s8 (fun s9 => Q 1 s9)) ∧ (¬ (0 ≤ r8) → Q 0 s8))) ∧ ((gi s 189 (ix x1)) = 111 → vp_in (x1 + 3) 320 ∧ (wpX12_refusesOrder (gi s 189 (ix (x1 + 1))) (gi s 189 (ix (x1 + 2))) (gi s 189 (ix (x1 + 3))) s (fun r11 s11 => (0 ≤ r11 → vp_in (x1 + 3) 320 ∧ (wpX12_goOrder (gi s 189 (ix (x1 + 1))) (gi s 189 (ix (x1 + 2))) (gi s11 189 (ix (x1 + 3))) s11 (fun s13 => Q 1 s13))) ∧ (¬ (0 ≤ r11) → Q 0 s11)))) ∧ ((gi s 189 (ix x1)) = 114 → vp_in x1 320 ∧ ((¬ (gi s 189 (ix x1)) = 114 → wX12_act_173 x1 Q (gi s 189 (ix (x1 + 1))) (gi s 189 (ix (x1 + 2))) 0 (gi s 189 (ix (x1 + 2))) (gi s 189 (ix (x1 + 1))) s) ∧ ((gi s 189 (ix x1)) = 114 → wX12_act_173 x1 Q (gi s 189 (ix (x1 + 1))) (gi s 189 (ix (x1 + 2))) 1 (gi s 189 (ix (x1 + 2))) (gi s 189 (ix (x1 + 1))) s))) ∧ (¬ (gi s 189 (ix x1)) = 100 → ¬ (gi s 189 (ix x1)) = 103 → ¬ (gi s 189 (ix x1)) = 105 → ¬ (gi s 189 (ix x1)) = 110 → ¬ (gi s 189 (ix x1)) = 111 → ¬ (gi s 189 (ix x1)) = 114 → wpX12_refusesRef (gi s 189 (ix (x1 + 1))) s (fun r15 s15 => (0 ≤ r15 → Q 1 (wi s15 178 0 (gi s 189 (ix (x1 + 1))))) ∧ (¬ (0 ≤ r15) → Q 0 s15))))))
set_option maxRecDepth 20000 in
theorem spX12_act {l : Launch} {x1 : Int32}  {s : gS} {Q : Int32 → gS → Prop} (h : wpX12_act x1 s Q) : Ct l mX12_act 8 0 0 [.ref 177, .int x1] (nrm s) (q_i Q) := by
  refine Ct.of (by decide) (Nat.le_of_ble_eq_true rfl) (fun X => ?_)
  refine n_L (L' := [some (.ref 177), some (.int x1), none, none]) (le_s (le_s (le_p (le_p (le_e))))) ?_
  refine r_aload_n (pc := 0) (x := 177) dX12_act_0 rfl ?_
  refine n_getR (pc := 1) (j := 27) (q := 189) dX12_act_1 fl_RX12_45 (by decide) sh_177 rfl rfl rfl ?_
  refine r_iload_n (pc := 4) (x := x1) dX12_act_4 rfl ?_
  refine r_iconst (pc := 5) (v := 1) dX12_act_5 (by decide) ?_
  refine r_iadd (pc := 6) dX12_act_6 ?_
  obtain ⟨b1, h⟩ := h
  refine n_iald (pc := 7) (j := (ix (x1 + 1))) dX12_act_7 (by decide) sh_189 b1 rfl ?_
  refine r_istore_n (pc := 8) (L' := [some (.ref 177), some (.int x1), some (.int (gi s 189 (ix (x1 + 1)))), none]) dX12_act_8 rfl (by decide) rfl ?_
  refine r_aload_n (pc := 9) (x := 177) dX12_act_9 rfl ?_
  refine n_getR (pc := 10) (j := 27) (q := 189) dX12_act_10 fl_RX12_45 (by decide) sh_177 rfl rfl rfl ?_
  refine r_iload_n (pc := 13) (x := x1) dX12_act_13 rfl ?_
  refine r_iconst (pc := 14) (v := 2) dX12_act_14 (by decide) ?_
  refine r_iadd (pc := 15) dX12_act_15 ?_
  obtain ⟨b2, h⟩ := h
  refine n_iald (pc := 16) (j := (ix (x1 + 2))) dX12_act_16 (by decide) sh_189 b2 rfl ?_
  refine r_istore_n (pc := 17) (L' := [some (.ref 177), some (.int x1), some (.int (gi s 189 (ix (x1 + 1)))), some (.int (gi s 189 (ix (x1 + 2))))]) dX12_act_17 rfl (by decide) rfl ?_
  refine r_aload_n (pc := 18) (x := 177) dX12_act_18 rfl ?_
  refine n_getR (pc := 19) (j := 27) (q := 189) dX12_act_19 fl_RX12_45 (by decide) sh_177 rfl rfl rfl ?_
  refine r_iload_n (pc := 22) (x := x1) dX12_act_22 rfl ?_
  obtain ⟨b3, h⟩ := h
  refine n_iald (pc := 23) (j := (ix x1)) dX12_act_23 (by decide) sh_189 b3 rfl ?_
  by_cases c16_0 : (gi s 189 (ix x1)) = 100
  · replace h := h.1 c16_0
    refine r_tableIn (pc := 24) (off := 196) (tgt := 220) dX12_act_24 (by rw [c16_0]; decide) (by rw [c16_0]; decide) (by rw [c16_0]; decide) (by decide) ?_
    refine r_aload_n (pc := 220) (x := 177) dX12_act_220 rfl ?_
    refine r_iload_n (pc := 221) (x := gi s 189 (ix (x1 + 1))) dX12_act_221 rfl ?_
    refine n_Vi0 (pc := 222) (S0 := []) (spX12_isTold h) gmX12_isTold selX12_isTold lk_RX12_330 dX12_act_222 rfl (by decide) sh_177 ⟨rfl, by decide⟩ rfl ⟨Nat.le_of_ble_eq_true rfl, Nat.le_of_ble_eq_true rfl⟩ (Nat.le_of_ble_eq_true rfl) ⟨Nat.zero_le _, Nat.zero_le _⟩ (fun r4 s4 h => ?_)
    refine r_if_ne (pc := 225) (tgt := 230) dX12_act_225 (by decide) (fun c => ?_) (fun c => ?_)
    · replace h := h.1 c
      refine r_aload_n (pc := 230) (x := 177) dX12_act_230 rfl ?_
      refine r_iload_n (pc := 231) (x := gi s 189 (ix (x1 + 1))) dX12_act_231 rfl ?_
      refine n_Vv0 (pc := 232) (S0 := []) (spX12_goDrop h) gmX12_goDrop selX12_goDrop lk_RX12_474 dX12_act_232 rfl (by decide) sh_177 ⟨rfl, by decide⟩ rfl ⟨Nat.le_of_ble_eq_true rfl, Nat.le_of_ble_eq_true rfl⟩ (Nat.le_of_ble_eq_true rfl) ⟨Nat.zero_le _, Nat.zero_le _⟩ (fun s5 h => ?_)
      refine r_iconst (pc := 235) (v := 1) dX12_act_235 (by decide) ?_
      exact n_zret (pc := 236) dX12_act_236 rfl (by decide) (Nat.le_refl _) (Nat.le_refl _) h
    · replace h := h.2 c
      refine r_iconst (pc := 228) (v := 0) dX12_act_228 (by decide) ?_
      exact n_zret (pc := 229) dX12_act_229 rfl (by decide) (Nat.le_refl _) (Nat.le_refl _) h
  by_cases c16_1 : (gi s 189 (ix x1)) = 103
  · replace h := h.2.1 c16_1
    refine r_tableIn (pc := 24) (off := 111) (tgt := 135) dX12_act_24 (by rw [c16_1]; decide) (by rw [c16_1]; decide) (by rw [c16_1]; decide) (by decide) ?_
    refine r_iload_n (pc := 135) (x := gi s 189 (ix (x1 + 1))) dX12_act_135 rfl ?_
    refine r_aload_n (pc := 136) (x := 177) dX12_act_136 rfl ?_
    refine n_getR (pc := 137) (j := 0) (q := 178) dX12_act_137 fl_RX12_9 (by decide) sh_177 rfl rfl rfl ?_
    refine r_iconst (pc := 140) (v := 1) dX12_act_140 (by decide) ?_
    refine n_iald (pc := 141) (j := 1) dX12_act_141 (by decide) sh_178 (vp_inc (by decide)) (by decide) ?_
    refine r_icmp_lt (pc := 142) (tgt := 147) dX12_act_142 (by decide) (fun c => ?_) (fun c => ?_)
    · replace h := h.1 c
      refine r_aload_n (pc := 147) (x := 177) dX12_act_147 rfl ?_
      refine r_iload_n (pc := 148) (x := gi s 189 (ix (x1 + 1))) dX12_act_148 rfl ?_
      refine n_Vv0 (pc := 149) (S0 := []) (spX12_goGo h) gmX12_goGo selX12_goGo lk_RX12_427 dX12_act_149 rfl (by decide) sh_177 ⟨rfl, by decide⟩ rfl ⟨Nat.le_of_ble_eq_true rfl, Nat.le_of_ble_eq_true rfl⟩ (Nat.le_of_ble_eq_true rfl) ⟨Nat.zero_le _, Nat.zero_le _⟩ (fun s6 h => ?_)
      refine r_iconst (pc := 152) (v := 1) dX12_act_152 (by decide) ?_
      exact n_zret (pc := 153) dX12_act_153 rfl (by decide) (Nat.le_refl _) (Nat.le_refl _) h
    · replace h := h.2 c
      refine r_iconst (pc := 145) (v := 0) dX12_act_145 (by decide) ?_
      exact n_zret (pc := 146) dX12_act_146 rfl (by decide) (Nat.le_refl _) (Nat.le_refl _) h
  by_cases c16_2 : (gi s 189 (ix x1)) = 105
  · replace h := h.2.2.1 c16_2
    refine r_tableIn (pc := 24) (off := 130) (tgt := 154) dX12_act_24 (by rw [c16_2]; decide) (by rw [c16_2]; decide) (by rw [c16_2]; decide) (by decide) ?_
    refine r_aload_n (pc := 154) (x := 177) dX12_act_154 rfl ?_
    refine r_iload_n (pc := 155) (x := gi s 189 (ix (x1 + 1))) dX12_act_155 rfl ?_
    refine r_iload_n (pc := 156) (x := gi s 189 (ix (x1 + 2))) dX12_act_156 rfl ?_
    refine r_aload_n (pc := 157) (x := 177) dX12_act_157 rfl ?_
    refine n_getR (pc := 158) (j := 27) (q := 189) dX12_act_158 fl_RX12_45 (by decide) sh_177 rfl rfl rfl ?_
    refine r_iload_n (pc := 161) (x := x1) dX12_act_161 rfl ?_
    obtain ⟨b7, h⟩ := h
    refine n_iald (pc := 162) (j := (ix x1)) dX12_act_162 (by decide) sh_189 b7 rfl ?_
    refine r_bipush (pc := 163) (v := 114) dX12_act_163 (by decide) ?_
    refine r_icmp_ne (pc := 165) (tgt := 172) dX12_act_165 (by decide) (fun c => ?_) (fun c => ?_)
    · replace h := h.1 c
      refine r_iconst (pc := 172) (v := 0) dX12_act_172 (by decide) ?_
      refine n_L (L' := [some (.ref 177), some (.int x1), some (.int (gi s 189 (ix (x1 + 1)))), some (.int (gi s 189 (ix (x1 + 2))))]) (le_s (le_s (le_s (le_s (le_e))))) ?_
      exact pX12_act_173  _ _ _ _ _ _ h 
    · replace h := h.2 c
      refine r_iconst (pc := 168) (v := 1) dX12_act_168 (by decide) ?_
      refine r_goto (pc := 169) (tgt := 173) dX12_act_169 (by decide) ?_
      refine n_L (L' := [some (.ref 177), some (.int x1), some (.int (gi s 189 (ix (x1 + 1)))), some (.int (gi s 189 (ix (x1 + 2))))]) (le_s (le_s (le_s (le_s (le_e))))) ?_
      exact pX12_act_173  _ _ _ _ _ _ h 
  by_cases c16_3 : (gi s 189 (ix x1)) = 110
  · replace h := h.2.2.2.1 c16_3
    refine r_tableIn (pc := 24) (off := 181) (tgt := 205) dX12_act_24 (by rw [c16_3]; decide) (by rw [c16_3]; decide) (by rw [c16_3]; decide) (by decide) ?_
    refine r_aload_n (pc := 205) (x := 177) dX12_act_205 rfl ?_
    refine n_Vi0 (pc := 206) (S0 := []) (spX12_refusesNarrow h) gmX12_refusesNarrow selX12_refusesNarrow lk_RX12_468 dX12_act_206 rfl (by decide) sh_177 ⟨rfl, by decide⟩ rfl ⟨Nat.le_of_ble_eq_true rfl, Nat.le_of_ble_eq_true rfl⟩ (Nat.le_of_ble_eq_true rfl) ⟨Nat.zero_le _, Nat.zero_le _⟩ (fun r8 s8 h => ?_)
    refine r_if_ge (pc := 209) (tgt := 214) dX12_act_209 (by decide) (fun c => ?_) (fun c => ?_)
    · replace h := h.1 c
      refine r_aload_n (pc := 214) (x := 177) dX12_act_214 rfl ?_
      refine n_Vv0 (pc := 215) (S0 := []) (spX12_goNarrow h) gmX12_goNarrow selX12_goNarrow lk_RX12_471 dX12_act_215 rfl (by decide) sh_177 ⟨rfl, by decide⟩ rfl ⟨Nat.le_of_ble_eq_true rfl, Nat.le_of_ble_eq_true rfl⟩ (Nat.le_of_ble_eq_true rfl) ⟨Nat.zero_le _, Nat.zero_le _⟩ (fun s9 h => ?_)
      refine r_iconst (pc := 218) (v := 1) dX12_act_218 (by decide) ?_
      exact n_zret (pc := 219) dX12_act_219 rfl (by decide) (Nat.le_refl _) (Nat.le_refl _) h
    · replace h := h.2 c
      refine r_iconst (pc := 212) (v := 0) dX12_act_212 (by decide) ?_
      exact n_zret (pc := 213) dX12_act_213 rfl (by decide) (Nat.le_refl _) (Nat.le_refl _) h
  by_cases c16_4 : (gi s 189 (ix x1)) = 111
  · replace h := h.2.2.2.2.1 c16_4
    refine r_tableIn (pc := 24) (off := 76) (tgt := 100) dX12_act_24 (by rw [c16_4]; decide) (by rw [c16_4]; decide) (by rw [c16_4]; decide) (by decide) ?_
    refine r_aload_n (pc := 100) (x := 177) dX12_act_100 rfl ?_
    refine r_iload_n (pc := 101) (x := gi s 189 (ix (x1 + 1))) dX12_act_101 rfl ?_
    refine r_iload_n (pc := 102) (x := gi s 189 (ix (x1 + 2))) dX12_act_102 rfl ?_
    refine r_aload_n (pc := 103) (x := 177) dX12_act_103 rfl ?_
    refine n_getR (pc := 104) (j := 27) (q := 189) dX12_act_104 fl_RX12_45 (by decide) sh_177 rfl rfl rfl ?_
    refine r_iload_n (pc := 107) (x := x1) dX12_act_107 rfl ?_
    refine r_iconst (pc := 108) (v := 3) dX12_act_108 (by decide) ?_
    refine r_iadd (pc := 109) dX12_act_109 ?_
    obtain ⟨b10, h⟩ := h
    refine n_iald (pc := 110) (j := (ix (x1 + 3))) dX12_act_110 (by decide) sh_189 b10 rfl ?_
    refine n_Vi0 (pc := 111) (S0 := []) (spX12_refusesOrder h) gmX12_refusesOrder selX12_refusesOrder lk_RX12_400 dX12_act_111 rfl (by decide) sh_177 ⟨rfl, by decide⟩ rfl ⟨Nat.le_of_ble_eq_true rfl, Nat.le_of_ble_eq_true rfl⟩ (Nat.le_of_ble_eq_true rfl) ⟨Nat.zero_le _, Nat.zero_le _⟩ (fun r11 s11 h => ?_)
    refine r_if_ge (pc := 114) (tgt := 119) dX12_act_114 (by decide) (fun c => ?_) (fun c => ?_)
    · replace h := h.1 c
      refine r_aload_n (pc := 119) (x := 177) dX12_act_119 rfl ?_
      refine r_iload_n (pc := 120) (x := gi s 189 (ix (x1 + 1))) dX12_act_120 rfl ?_
      refine r_iload_n (pc := 121) (x := gi s 189 (ix (x1 + 2))) dX12_act_121 rfl ?_
      refine r_aload_n (pc := 122) (x := 177) dX12_act_122 rfl ?_
      refine n_getR (pc := 123) (j := 27) (q := 189) dX12_act_123 fl_RX12_45 (by decide) sh_177 rfl rfl rfl ?_
      refine r_iload_n (pc := 126) (x := x1) dX12_act_126 rfl ?_
      refine r_iconst (pc := 127) (v := 3) dX12_act_127 (by decide) ?_
      refine r_iadd (pc := 128) dX12_act_128 ?_
      obtain ⟨b12, h⟩ := h
      refine n_iald (pc := 129) (j := (ix (x1 + 3))) dX12_act_129 (by decide) sh_189 b12 rfl ?_
      refine n_Vv0 (pc := 130) (S0 := []) (spX12_goOrder h) gmX12_goOrder selX12_goOrder lk_RX12_403 dX12_act_130 rfl (by decide) sh_177 ⟨rfl, by decide⟩ rfl ⟨Nat.le_of_ble_eq_true rfl, Nat.le_of_ble_eq_true rfl⟩ (Nat.le_of_ble_eq_true rfl) ⟨Nat.zero_le _, Nat.zero_le _⟩ (fun s13 h => ?_)
      refine r_iconst (pc := 133) (v := 1) dX12_act_133 (by decide) ?_
      exact n_zret (pc := 134) dX12_act_134 rfl (by decide) (Nat.le_refl _) (Nat.le_refl _) h
    · replace h := h.2 c
      refine r_iconst (pc := 117) (v := 0) dX12_act_117 (by decide) ?_
      exact n_zret (pc := 118) dX12_act_118 rfl (by decide) (Nat.le_refl _) (Nat.le_refl _) h
  by_cases c16_5 : (gi s 189 (ix x1)) = 114
  · replace h := h.2.2.2.2.2.1 c16_5
    refine r_tableIn (pc := 24) (off := 130) (tgt := 154) dX12_act_24 (by rw [c16_5]; decide) (by rw [c16_5]; decide) (by rw [c16_5]; decide) (by decide) ?_
    refine r_aload_n (pc := 154) (x := 177) dX12_act_154 rfl ?_
    refine r_iload_n (pc := 155) (x := gi s 189 (ix (x1 + 1))) dX12_act_155 rfl ?_
    refine r_iload_n (pc := 156) (x := gi s 189 (ix (x1 + 2))) dX12_act_156 rfl ?_
    refine r_aload_n (pc := 157) (x := 177) dX12_act_157 rfl ?_
    refine n_getR (pc := 158) (j := 27) (q := 189) dX12_act_158 fl_RX12_45 (by decide) sh_177 rfl rfl rfl ?_
    refine r_iload_n (pc := 161) (x := x1) dX12_act_161 rfl ?_
    obtain ⟨b14, h⟩ := h
    refine n_iald (pc := 162) (j := (ix x1)) dX12_act_162 (by decide) sh_189 b14 rfl ?_
    refine r_bipush (pc := 163) (v := 114) dX12_act_163 (by decide) ?_
    refine r_icmp_ne (pc := 165) (tgt := 172) dX12_act_165 (by decide) (fun c => ?_) (fun c => ?_)
    · replace h := h.1 c
      refine r_iconst (pc := 172) (v := 0) dX12_act_172 (by decide) ?_
      refine n_L (L' := [some (.ref 177), some (.int x1), some (.int (gi s 189 (ix (x1 + 1)))), some (.int (gi s 189 (ix (x1 + 2))))]) (le_s (le_s (le_s (le_s (le_e))))) ?_
      exact pX12_act_173  _ _ _ _ _ _ h 
    · replace h := h.2 c
      refine r_iconst (pc := 168) (v := 1) dX12_act_168 (by decide) ?_
      refine r_goto (pc := 169) (tgt := 173) dX12_act_169 (by decide) ?_
      refine n_L (L' := [some (.ref 177), some (.int x1), some (.int (gi s 189 (ix (x1 + 1)))), some (.int (gi s 189 (ix (x1 + 2))))]) (le_s (le_s (le_s (le_s (le_e))))) ?_
      exact pX12_act_173  _ _ _ _ _ _ h 
  replace h := h.2.2.2.2.2.2 c16_0 c16_1 c16_2 c16_3 c16_4 c16_5
  by_cases g16_0 : (gi s 189 (ix x1)) = 101
  · refine r_tableIn (pc := 24) (off := 213) (tgt := 237) dX12_act_24 (by rw [g16_0]; decide) (by rw [g16_0]; decide) (by rw [g16_0]; decide) (by decide) ?_
    refine r_aload_n (pc := 237) (x := 177) dX12_act_237 rfl ?_
    refine r_iload_n (pc := 238) (x := gi s 189 (ix (x1 + 1))) dX12_act_238 rfl ?_
    refine n_Vi0 (pc := 239) (S0 := []) (spX12_refusesRef h) gmX12_refusesRef selX12_refusesRef lk_RX12_454 dX12_act_239 rfl (by decide) sh_177 ⟨rfl, by decide⟩ rfl ⟨Nat.le_of_ble_eq_true rfl, Nat.le_of_ble_eq_true rfl⟩ (Nat.le_of_ble_eq_true rfl) ⟨Nat.zero_le _, Nat.zero_le _⟩ (fun r15 s15 h => ?_)
    refine r_if_ge (pc := 242) (tgt := 247) dX12_act_242 (by decide) (fun c => ?_) (fun c => ?_)
    · replace h := h.1 c
      refine r_aload_n (pc := 247) (x := 177) dX12_act_247 rfl ?_
      refine n_getR (pc := 248) (j := 0) (q := 178) dX12_act_248 fl_RX12_9 (by decide) sh_177 rfl rfl rfl ?_
      refine r_iconst (pc := 251) (v := 0) dX12_act_251 (by decide) ?_
      refine r_iload_n (pc := 252) (x := gi s 189 (ix (x1 + 1))) dX12_act_252 rfl ?_
      refine n_iast (pc := 253) (j := 0) dX12_act_253 (by decide) sh_178 (vp_inc (by decide)) (by decide) ?_
      refine r_iconst (pc := 254) (v := 1) dX12_act_254 (by decide) ?_
      exact n_zret (pc := 255) dX12_act_255 rfl (by decide) (Nat.le_refl _) (Nat.le_refl _) h
    · replace h := h.2 c
      refine r_iconst (pc := 245) (v := 0) dX12_act_245 (by decide) ?_
      exact n_zret (pc := 246) dX12_act_246 rfl (by decide) (Nat.le_refl _) (Nat.le_refl _) h
  by_cases g16_1 : (gi s 189 (ix x1)) = 102
  · refine r_tableIn (pc := 24) (off := 213) (tgt := 237) dX12_act_24 (by rw [g16_1]; decide) (by rw [g16_1]; decide) (by rw [g16_1]; decide) (by decide) ?_
    refine r_aload_n (pc := 237) (x := 177) dX12_act_237 rfl ?_
    refine r_iload_n (pc := 238) (x := gi s 189 (ix (x1 + 1))) dX12_act_238 rfl ?_
    refine n_Vi0 (pc := 239) (S0 := []) (spX12_refusesRef h) gmX12_refusesRef selX12_refusesRef lk_RX12_454 dX12_act_239 rfl (by decide) sh_177 ⟨rfl, by decide⟩ rfl ⟨Nat.le_of_ble_eq_true rfl, Nat.le_of_ble_eq_true rfl⟩ (Nat.le_of_ble_eq_true rfl) ⟨Nat.zero_le _, Nat.zero_le _⟩ (fun r15 s15 h => ?_)
    refine r_if_ge (pc := 242) (tgt := 247) dX12_act_242 (by decide) (fun c => ?_) (fun c => ?_)
    · replace h := h.1 c
      refine r_aload_n (pc := 247) (x := 177) dX12_act_247 rfl ?_
      refine n_getR (pc := 248) (j := 0) (q := 178) dX12_act_248 fl_RX12_9 (by decide) sh_177 rfl rfl rfl ?_
      refine r_iconst (pc := 251) (v := 0) dX12_act_251 (by decide) ?_
      refine r_iload_n (pc := 252) (x := gi s 189 (ix (x1 + 1))) dX12_act_252 rfl ?_
      refine n_iast (pc := 253) (j := 0) dX12_act_253 (by decide) sh_178 (vp_inc (by decide)) (by decide) ?_
      refine r_iconst (pc := 254) (v := 1) dX12_act_254 (by decide) ?_
      exact n_zret (pc := 255) dX12_act_255 rfl (by decide) (Nat.le_refl _) (Nat.le_refl _) h
    · replace h := h.2 c
      refine r_iconst (pc := 245) (v := 0) dX12_act_245 (by decide) ?_
      exact n_zret (pc := 246) dX12_act_246 rfl (by decide) (Nat.le_refl _) (Nat.le_refl _) h
  by_cases g16_2 : (gi s 189 (ix x1)) = 104
  · refine r_tableIn (pc := 24) (off := 213) (tgt := 237) dX12_act_24 (by rw [g16_2]; decide) (by rw [g16_2]; decide) (by rw [g16_2]; decide) (by decide) ?_
    refine r_aload_n (pc := 237) (x := 177) dX12_act_237 rfl ?_
    refine r_iload_n (pc := 238) (x := gi s 189 (ix (x1 + 1))) dX12_act_238 rfl ?_
    refine n_Vi0 (pc := 239) (S0 := []) (spX12_refusesRef h) gmX12_refusesRef selX12_refusesRef lk_RX12_454 dX12_act_239 rfl (by decide) sh_177 ⟨rfl, by decide⟩ rfl ⟨Nat.le_of_ble_eq_true rfl, Nat.le_of_ble_eq_true rfl⟩ (Nat.le_of_ble_eq_true rfl) ⟨Nat.zero_le _, Nat.zero_le _⟩ (fun r15 s15 h => ?_)
    refine r_if_ge (pc := 242) (tgt := 247) dX12_act_242 (by decide) (fun c => ?_) (fun c => ?_)
    · replace h := h.1 c
      refine r_aload_n (pc := 247) (x := 177) dX12_act_247 rfl ?_
      refine n_getR (pc := 248) (j := 0) (q := 178) dX12_act_248 fl_RX12_9 (by decide) sh_177 rfl rfl rfl ?_
      refine r_iconst (pc := 251) (v := 0) dX12_act_251 (by decide) ?_
      refine r_iload_n (pc := 252) (x := gi s 189 (ix (x1 + 1))) dX12_act_252 rfl ?_
      refine n_iast (pc := 253) (j := 0) dX12_act_253 (by decide) sh_178 (vp_inc (by decide)) (by decide) ?_
      refine r_iconst (pc := 254) (v := 1) dX12_act_254 (by decide) ?_
      exact n_zret (pc := 255) dX12_act_255 rfl (by decide) (Nat.le_refl _) (Nat.le_refl _) h
    · replace h := h.2 c
      refine r_iconst (pc := 245) (v := 0) dX12_act_245 (by decide) ?_
      exact n_zret (pc := 246) dX12_act_246 rfl (by decide) (Nat.le_refl _) (Nat.le_refl _) h
  by_cases g16_3 : (gi s 189 (ix x1)) = 106
  · refine r_tableIn (pc := 24) (off := 213) (tgt := 237) dX12_act_24 (by rw [g16_3]; decide) (by rw [g16_3]; decide) (by rw [g16_3]; decide) (by decide) ?_
    refine r_aload_n (pc := 237) (x := 177) dX12_act_237 rfl ?_
    refine r_iload_n (pc := 238) (x := gi s 189 (ix (x1 + 1))) dX12_act_238 rfl ?_
    refine n_Vi0 (pc := 239) (S0 := []) (spX12_refusesRef h) gmX12_refusesRef selX12_refusesRef lk_RX12_454 dX12_act_239 rfl (by decide) sh_177 ⟨rfl, by decide⟩ rfl ⟨Nat.le_of_ble_eq_true rfl, Nat.le_of_ble_eq_true rfl⟩ (Nat.le_of_ble_eq_true rfl) ⟨Nat.zero_le _, Nat.zero_le _⟩ (fun r15 s15 h => ?_)
    refine r_if_ge (pc := 242) (tgt := 247) dX12_act_242 (by decide) (fun c => ?_) (fun c => ?_)
    · replace h := h.1 c
      refine r_aload_n (pc := 247) (x := 177) dX12_act_247 rfl ?_
      refine n_getR (pc := 248) (j := 0) (q := 178) dX12_act_248 fl_RX12_9 (by decide) sh_177 rfl rfl rfl ?_
      refine r_iconst (pc := 251) (v := 0) dX12_act_251 (by decide) ?_
      refine r_iload_n (pc := 252) (x := gi s 189 (ix (x1 + 1))) dX12_act_252 rfl ?_
      refine n_iast (pc := 253) (j := 0) dX12_act_253 (by decide) sh_178 (vp_inc (by decide)) (by decide) ?_
      refine r_iconst (pc := 254) (v := 1) dX12_act_254 (by decide) ?_
      exact n_zret (pc := 255) dX12_act_255 rfl (by decide) (Nat.le_refl _) (Nat.le_refl _) h
    · replace h := h.2 c
      refine r_iconst (pc := 245) (v := 0) dX12_act_245 (by decide) ?_
      exact n_zret (pc := 246) dX12_act_246 rfl (by decide) (Nat.le_refl _) (Nat.le_refl _) h
  by_cases g16_4 : (gi s 189 (ix x1)) = 107
  · refine r_tableIn (pc := 24) (off := 213) (tgt := 237) dX12_act_24 (by rw [g16_4]; decide) (by rw [g16_4]; decide) (by rw [g16_4]; decide) (by decide) ?_
    refine r_aload_n (pc := 237) (x := 177) dX12_act_237 rfl ?_
    refine r_iload_n (pc := 238) (x := gi s 189 (ix (x1 + 1))) dX12_act_238 rfl ?_
    refine n_Vi0 (pc := 239) (S0 := []) (spX12_refusesRef h) gmX12_refusesRef selX12_refusesRef lk_RX12_454 dX12_act_239 rfl (by decide) sh_177 ⟨rfl, by decide⟩ rfl ⟨Nat.le_of_ble_eq_true rfl, Nat.le_of_ble_eq_true rfl⟩ (Nat.le_of_ble_eq_true rfl) ⟨Nat.zero_le _, Nat.zero_le _⟩ (fun r15 s15 h => ?_)
    refine r_if_ge (pc := 242) (tgt := 247) dX12_act_242 (by decide) (fun c => ?_) (fun c => ?_)
    · replace h := h.1 c
      refine r_aload_n (pc := 247) (x := 177) dX12_act_247 rfl ?_
      refine n_getR (pc := 248) (j := 0) (q := 178) dX12_act_248 fl_RX12_9 (by decide) sh_177 rfl rfl rfl ?_
      refine r_iconst (pc := 251) (v := 0) dX12_act_251 (by decide) ?_
      refine r_iload_n (pc := 252) (x := gi s 189 (ix (x1 + 1))) dX12_act_252 rfl ?_
      refine n_iast (pc := 253) (j := 0) dX12_act_253 (by decide) sh_178 (vp_inc (by decide)) (by decide) ?_
      refine r_iconst (pc := 254) (v := 1) dX12_act_254 (by decide) ?_
      exact n_zret (pc := 255) dX12_act_255 rfl (by decide) (Nat.le_refl _) (Nat.le_refl _) h
    · replace h := h.2 c
      refine r_iconst (pc := 245) (v := 0) dX12_act_245 (by decide) ?_
      exact n_zret (pc := 246) dX12_act_246 rfl (by decide) (Nat.le_refl _) (Nat.le_refl _) h
  by_cases g16_5 : (gi s 189 (ix x1)) = 108
  · refine r_tableIn (pc := 24) (off := 213) (tgt := 237) dX12_act_24 (by rw [g16_5]; decide) (by rw [g16_5]; decide) (by rw [g16_5]; decide) (by decide) ?_
    refine r_aload_n (pc := 237) (x := 177) dX12_act_237 rfl ?_
    refine r_iload_n (pc := 238) (x := gi s 189 (ix (x1 + 1))) dX12_act_238 rfl ?_
    refine n_Vi0 (pc := 239) (S0 := []) (spX12_refusesRef h) gmX12_refusesRef selX12_refusesRef lk_RX12_454 dX12_act_239 rfl (by decide) sh_177 ⟨rfl, by decide⟩ rfl ⟨Nat.le_of_ble_eq_true rfl, Nat.le_of_ble_eq_true rfl⟩ (Nat.le_of_ble_eq_true rfl) ⟨Nat.zero_le _, Nat.zero_le _⟩ (fun r15 s15 h => ?_)
    refine r_if_ge (pc := 242) (tgt := 247) dX12_act_242 (by decide) (fun c => ?_) (fun c => ?_)
    · replace h := h.1 c
      refine r_aload_n (pc := 247) (x := 177) dX12_act_247 rfl ?_
      refine n_getR (pc := 248) (j := 0) (q := 178) dX12_act_248 fl_RX12_9 (by decide) sh_177 rfl rfl rfl ?_
      refine r_iconst (pc := 251) (v := 0) dX12_act_251 (by decide) ?_
      refine r_iload_n (pc := 252) (x := gi s 189 (ix (x1 + 1))) dX12_act_252 rfl ?_
      refine n_iast (pc := 253) (j := 0) dX12_act_253 (by decide) sh_178 (vp_inc (by decide)) (by decide) ?_
      refine r_iconst (pc := 254) (v := 1) dX12_act_254 (by decide) ?_
      exact n_zret (pc := 255) dX12_act_255 rfl (by decide) (Nat.le_refl _) (Nat.le_refl _) h
    · replace h := h.2 c
      refine r_iconst (pc := 245) (v := 0) dX12_act_245 (by decide) ?_
      exact n_zret (pc := 246) dX12_act_246 rfl (by decide) (Nat.le_refl _) (Nat.le_refl _) h
  by_cases g16_6 : (gi s 189 (ix x1)) = 109
  · refine r_tableIn (pc := 24) (off := 213) (tgt := 237) dX12_act_24 (by rw [g16_6]; decide) (by rw [g16_6]; decide) (by rw [g16_6]; decide) (by decide) ?_
    refine r_aload_n (pc := 237) (x := 177) dX12_act_237 rfl ?_
    refine r_iload_n (pc := 238) (x := gi s 189 (ix (x1 + 1))) dX12_act_238 rfl ?_
    refine n_Vi0 (pc := 239) (S0 := []) (spX12_refusesRef h) gmX12_refusesRef selX12_refusesRef lk_RX12_454 dX12_act_239 rfl (by decide) sh_177 ⟨rfl, by decide⟩ rfl ⟨Nat.le_of_ble_eq_true rfl, Nat.le_of_ble_eq_true rfl⟩ (Nat.le_of_ble_eq_true rfl) ⟨Nat.zero_le _, Nat.zero_le _⟩ (fun r15 s15 h => ?_)
    refine r_if_ge (pc := 242) (tgt := 247) dX12_act_242 (by decide) (fun c => ?_) (fun c => ?_)
    · replace h := h.1 c
      refine r_aload_n (pc := 247) (x := 177) dX12_act_247 rfl ?_
      refine n_getR (pc := 248) (j := 0) (q := 178) dX12_act_248 fl_RX12_9 (by decide) sh_177 rfl rfl rfl ?_
      refine r_iconst (pc := 251) (v := 0) dX12_act_251 (by decide) ?_
      refine r_iload_n (pc := 252) (x := gi s 189 (ix (x1 + 1))) dX12_act_252 rfl ?_
      refine n_iast (pc := 253) (j := 0) dX12_act_253 (by decide) sh_178 (vp_inc (by decide)) (by decide) ?_
      refine r_iconst (pc := 254) (v := 1) dX12_act_254 (by decide) ?_
      exact n_zret (pc := 255) dX12_act_255 rfl (by decide) (Nat.le_refl _) (Nat.le_refl _) h
    · replace h := h.2 c
      refine r_iconst (pc := 245) (v := 0) dX12_act_245 (by decide) ?_
      exact n_zret (pc := 246) dX12_act_246 rfl (by decide) (Nat.le_refl _) (Nat.le_refl _) h
  by_cases g16_7 : (gi s 189 (ix x1)) = 112
  · refine r_tableIn (pc := 24) (off := 213) (tgt := 237) dX12_act_24 (by rw [g16_7]; decide) (by rw [g16_7]; decide) (by rw [g16_7]; decide) (by decide) ?_
    refine r_aload_n (pc := 237) (x := 177) dX12_act_237 rfl ?_
    refine r_iload_n (pc := 238) (x := gi s 189 (ix (x1 + 1))) dX12_act_238 rfl ?_
    refine n_Vi0 (pc := 239) (S0 := []) (spX12_refusesRef h) gmX12_refusesRef selX12_refusesRef lk_RX12_454 dX12_act_239 rfl (by decide) sh_177 ⟨rfl, by decide⟩ rfl ⟨Nat.le_of_ble_eq_true rfl, Nat.le_of_ble_eq_true rfl⟩ (Nat.le_of_ble_eq_true rfl) ⟨Nat.zero_le _, Nat.zero_le _⟩ (fun r15 s15 h => ?_)
    refine r_if_ge (pc := 242) (tgt := 247) dX12_act_242 (by decide) (fun c => ?_) (fun c => ?_)
    · replace h := h.1 c
      refine r_aload_n (pc := 247) (x := 177) dX12_act_247 rfl ?_
      refine n_getR (pc := 248) (j := 0) (q := 178) dX12_act_248 fl_RX12_9 (by decide) sh_177 rfl rfl rfl ?_
      refine r_iconst (pc := 251) (v := 0) dX12_act_251 (by decide) ?_
      refine r_iload_n (pc := 252) (x := gi s 189 (ix (x1 + 1))) dX12_act_252 rfl ?_
      refine n_iast (pc := 253) (j := 0) dX12_act_253 (by decide) sh_178 (vp_inc (by decide)) (by decide) ?_
      refine r_iconst (pc := 254) (v := 1) dX12_act_254 (by decide) ?_
      exact n_zret (pc := 255) dX12_act_255 rfl (by decide) (Nat.le_refl _) (Nat.le_refl _) h
    · replace h := h.2 c
      refine r_iconst (pc := 245) (v := 0) dX12_act_245 (by decide) ?_
      exact n_zret (pc := 246) dX12_act_246 rfl (by decide) (Nat.le_refl _) (Nat.le_refl _) h
  by_cases g16_8 : (gi s 189 (ix x1)) = 113
  · refine r_tableIn (pc := 24) (off := 213) (tgt := 237) dX12_act_24 (by rw [g16_8]; decide) (by rw [g16_8]; decide) (by rw [g16_8]; decide) (by decide) ?_
    refine r_aload_n (pc := 237) (x := 177) dX12_act_237 rfl ?_
    refine r_iload_n (pc := 238) (x := gi s 189 (ix (x1 + 1))) dX12_act_238 rfl ?_
    refine n_Vi0 (pc := 239) (S0 := []) (spX12_refusesRef h) gmX12_refusesRef selX12_refusesRef lk_RX12_454 dX12_act_239 rfl (by decide) sh_177 ⟨rfl, by decide⟩ rfl ⟨Nat.le_of_ble_eq_true rfl, Nat.le_of_ble_eq_true rfl⟩ (Nat.le_of_ble_eq_true rfl) ⟨Nat.zero_le _, Nat.zero_le _⟩ (fun r15 s15 h => ?_)
    refine r_if_ge (pc := 242) (tgt := 247) dX12_act_242 (by decide) (fun c => ?_) (fun c => ?_)
    · replace h := h.1 c
      refine r_aload_n (pc := 247) (x := 177) dX12_act_247 rfl ?_
      refine n_getR (pc := 248) (j := 0) (q := 178) dX12_act_248 fl_RX12_9 (by decide) sh_177 rfl rfl rfl ?_
      refine r_iconst (pc := 251) (v := 0) dX12_act_251 (by decide) ?_
      refine r_iload_n (pc := 252) (x := gi s 189 (ix (x1 + 1))) dX12_act_252 rfl ?_
      refine n_iast (pc := 253) (j := 0) dX12_act_253 (by decide) sh_178 (vp_inc (by decide)) (by decide) ?_
      refine r_iconst (pc := 254) (v := 1) dX12_act_254 (by decide) ?_
      exact n_zret (pc := 255) dX12_act_255 rfl (by decide) (Nat.le_refl _) (Nat.le_refl _) h
    · replace h := h.2 c
      refine r_iconst (pc := 245) (v := 0) dX12_act_245 (by decide) ?_
      exact n_zret (pc := 246) dX12_act_246 rfl (by decide) (Nat.le_refl _) (Nat.le_refl _) h
  refine r_tableOut (pc := 24) (tgt := 237) dX12_act_24 (by have e0 := lv_neT c16_0 (show (100 : Int32).toInt = 100 by decide); have e1 := lv_neT c16_1 (show (103 : Int32).toInt = 103 by decide); have e2 := lv_neT c16_2 (show (105 : Int32).toInt = 105 by decide); have e3 := lv_neT c16_3 (show (110 : Int32).toInt = 110 by decide); have e4 := lv_neT c16_4 (show (111 : Int32).toInt = 111 by decide); have e5 := lv_neT c16_5 (show (114 : Int32).toInt = 114 by decide); have f0 := lv_neT g16_0 (show (101 : Int32).toInt = 101 by decide);  have f1 := lv_neT g16_1 (show (102 : Int32).toInt = 102 by decide);  have f2 := lv_neT g16_2 (show (104 : Int32).toInt = 104 by decide);  have f3 := lv_neT g16_3 (show (106 : Int32).toInt = 106 by decide);  have f4 := lv_neT g16_4 (show (107 : Int32).toInt = 107 by decide);  have f5 := lv_neT g16_5 (show (108 : Int32).toInt = 108 by decide);  have f6 := lv_neT g16_6 (show (109 : Int32).toInt = 109 by decide);  have f7 := lv_neT g16_7 (show (112 : Int32).toInt = 112 by decide);  have f8 := lv_neT g16_8 (show (113 : Int32).toInt = 113 by decide); omega) (by decide) ?_
  refine r_aload_n (pc := 237) (x := 177) dX12_act_237 rfl ?_
  refine r_iload_n (pc := 238) (x := gi s 189 (ix (x1 + 1))) dX12_act_238 rfl ?_
  refine n_Vi0 (pc := 239) (S0 := []) (spX12_refusesRef h) gmX12_refusesRef selX12_refusesRef lk_RX12_454 dX12_act_239 rfl (by decide) sh_177 ⟨rfl, by decide⟩ rfl ⟨Nat.le_of_ble_eq_true rfl, Nat.le_of_ble_eq_true rfl⟩ (Nat.le_of_ble_eq_true rfl) ⟨Nat.zero_le _, Nat.zero_le _⟩ (fun r15 s15 h => ?_)
  refine r_if_ge (pc := 242) (tgt := 247) dX12_act_242 (by decide) (fun c => ?_) (fun c => ?_)
  · replace h := h.1 c
    refine r_aload_n (pc := 247) (x := 177) dX12_act_247 rfl ?_
    refine n_getR (pc := 248) (j := 0) (q := 178) dX12_act_248 fl_RX12_9 (by decide) sh_177 rfl rfl rfl ?_
    refine r_iconst (pc := 251) (v := 0) dX12_act_251 (by decide) ?_
    refine r_iload_n (pc := 252) (x := gi s 189 (ix (x1 + 1))) dX12_act_252 rfl ?_
    refine n_iast (pc := 253) (j := 0) dX12_act_253 (by decide) sh_178 (vp_inc (by decide)) (by decide) ?_
    refine r_iconst (pc := 254) (v := 1) dX12_act_254 (by decide) ?_
    exact n_zret (pc := 255) dX12_act_255 rfl (by decide) (Nat.le_refl _) (Nat.le_refl _) h
  · replace h := h.2 c
    refine r_iconst (pc := 245) (v := 0) dX12_act_245 (by decide) ?_
    exact n_zret (pc := 246) dX12_act_246 rfl (by decide) (Nat.le_refl _) (Nat.le_refl _) h
def wX12_work_111  (Q : Int32 → gS → Prop)  (y2 : Int32) (z0 : Int64) (s : gS) : Prop := wpX12_tell z0 s (fun s6 => wpX12_tell ((gi s6 177 17).toInt64) s6 (fun s7 => Q y2 s7))
set_option maxRecDepth 20000 in
theorem pX12_work_111 {l : Launch} {X : gX}   {Q : Int32 → gS → Prop}  (y2 : Int32) (z0 : Int64) (s : gS) (h : wX12_work_111  Q y2 z0 s)  : Gw l mX12_work (g_rm 9 0 0) X 111 [some (.ref 177), none, some (.int y2)] [.long z0, .ref 177] (nrm s) 0 0 (g_Z X (q_i Q) 0 0) := by
  refine n_Vv0 (pc := 111) (S0 := []) (spX12_tell h) gmX12_tell selX12_tell lk_RX12_91 dX12_work_111 rfl (by decide) sh_177 ⟨rfl, by decide⟩ rfl ⟨Nat.le_of_ble_eq_true rfl, Nat.le_of_ble_eq_true rfl⟩ (Nat.le_of_ble_eq_true rfl) ⟨Nat.zero_le _, Nat.zero_le _⟩ (fun s6 h => ?_)
  refine r_aload_n (pc := 114) (x := 177) dX12_work_114 rfl ?_
  refine r_aload_n (pc := 115) (x := 177) dX12_work_115 rfl ?_
  refine n_getI (pc := 116) (j := 17) dX12_work_116 fl_RX12_357 (by decide) sh_177 rfl rfl ?_
  refine r_i2l (pc := 119) dX12_work_119 ?_
  refine n_Vv0 (pc := 120) (S0 := []) (spX12_tell h) gmX12_tell selX12_tell lk_RX12_91 dX12_work_120 rfl (by decide) sh_177 ⟨rfl, by decide⟩ rfl ⟨Nat.le_of_ble_eq_true rfl, Nat.le_of_ble_eq_true rfl⟩ (Nat.le_of_ble_eq_true rfl) ⟨Nat.zero_le _, Nat.zero_le _⟩ (fun s7 h => ?_)
  refine r_iload_n (pc := 123) (x := y2) dX12_work_123 rfl ?_
  exact n_iret (pc := 124) dX12_work_124 rfl (Nat.le_refl _) (Nat.le_refl _) h
def wX12_work_91  (Q : Int32 → gS → Prop)  (y1 : Int32) (y2 : Int32) (s : gS) : Prop := wpX12_survey s (fun s9 => (y1 ≤ y2 → wX12_work_111  Q y2 0 (wi s9 177 4 0)) ∧ (¬ (y1 ≤ y2) → wX12_work_111  Q y2 1 (wi s9 177 4 0)))
set_option maxRecDepth 20000 in
theorem pX12_work_91 {l : Launch} {X : gX}   {Q : Int32 → gS → Prop}  (y1 : Int32) (y2 : Int32) (s : gS) (h : wX12_work_91  Q y1 y2 s)  : Gw l mX12_work (g_rm 9 0 0) X 91 [some (.ref 177), some (.int y1), some (.int y2)] [] (nrm s) 0 0 (g_Z X (q_i Q) 0 0) := by
  refine r_aload_n (pc := 91) (x := 177) dX12_work_91 rfl ?_
  refine n_Vv0 (pc := 92) (S0 := []) (spX12_survey h) gmX12_survey selX12_survey lk_RX12_388 dX12_work_92 rfl (by decide) sh_177 ⟨rfl, by decide⟩ rfl ⟨Nat.le_of_ble_eq_true rfl, Nat.le_of_ble_eq_true rfl⟩ (Nat.le_of_ble_eq_true rfl) ⟨Nat.zero_le _, Nat.zero_le _⟩ (fun s9 h => ?_)
  refine r_aload_n (pc := 95) (x := 177) dX12_work_95 rfl ?_
  refine r_iconst (pc := 96) (v := 0) dX12_work_96 (by decide) ?_
  refine n_putI (pc := 97) (j := 4) dX12_work_97 fl_RX12_59 fw_12_4 (by decide) sh_177 rfl rfl ?_
  refine r_aload_n (pc := 100) (x := 177) dX12_work_100 rfl ?_
  refine r_iload_n (pc := 101) (x := y2) dX12_work_101 rfl ?_
  refine r_iload_n (pc := 102) (x := y1) dX12_work_102 rfl ?_
  refine r_icmp_ge (pc := 103) (tgt := 110) dX12_work_103 (by decide) (fun c => ?_) (fun c => ?_)
  · replace h := h.1 c
    refine r_lconst (pc := 110) (v := 0) dX12_work_110 (by decide) ?_
    refine n_L (L' := [some (.ref 177), none, some (.int y2)]) (le_s (le_n (le_s (le_e)))) ?_
    exact pX12_work_111  _ _ _ h 
  · replace h := h.2 c
    refine r_lconst (pc := 106) (v := 1) dX12_work_106 (by decide) ?_
    refine r_goto (pc := 107) (tgt := 111) dX12_work_107 (by decide) ?_
    refine n_L (L' := [some (.ref 177), none, some (.int y2)]) (le_s (le_n (le_s (le_e)))) ?_
    exact pX12_work_111  _ _ _ h 
def wX12_work_83  (Q : Int32 → gS → Prop)  (y1 : Int32) (y2 : Int32) (s : gS) : Prop := (y2 ≤ 0 → wX12_work_91  Q y1 y2 s) ∧ (¬ (y2 ≤ 0) → wpX12_note s (fun s8 => wX12_work_91  Q y1 y2 s8))
set_option maxRecDepth 20000 in
theorem pX12_work_83 {l : Launch} {X : gX}   {Q : Int32 → gS → Prop}  (y1 : Int32) (y2 : Int32) (s : gS) (h : wX12_work_83  Q y1 y2 s)  : Gw l mX12_work (g_rm 9 0 0) X 83 [some (.ref 177), some (.int y1), some (.int y2)] [] (nrm s) 0 0 (g_Z X (q_i Q) 0 0) := by
  refine r_iload_n (pc := 83) (x := y2) dX12_work_83 rfl ?_
  refine r_if_le (pc := 84) (tgt := 91) dX12_work_84 (by decide) (fun c => ?_) (fun c => ?_)
  · replace h := h.1 c
    refine n_L (L' := [some (.ref 177), some (.int y1), some (.int y2)]) (le_s (le_s (le_s (le_e)))) ?_
    exact pX12_work_91  _ _ _ h 
  · replace h := h.2 c
    refine r_aload_n (pc := 87) (x := 177) dX12_work_87 rfl ?_
    refine n_Vv0 (pc := 88) (S0 := []) (spX12_note h) gmX12_note selX12_note lk_RX12_451 dX12_work_88 rfl (by decide) sh_177 ⟨rfl, by decide⟩ rfl ⟨Nat.le_of_ble_eq_true rfl, Nat.le_of_ble_eq_true rfl⟩ (Nat.le_of_ble_eq_true rfl) ⟨Nat.zero_le _, Nat.zero_le _⟩ (fun s8 h => ?_)
    refine n_L (L' := [some (.ref 177), some (.int y1), some (.int y2)]) (le_s (le_s (le_s (le_e)))) ?_
    exact pX12_work_91  _ _ _ h 
def wX12_work_62  (Q : Int32 → gS → Prop)  : Nat → Int32 → Int32 → gS → Prop
  | 0, _, _, _ => False
  | n + 1, y1, y2, s => (y1 ≤ y2 → wX12_work_83  Q y1 y2 s) ∧ (¬ (y1 ≤ y2) → wpX12_act (4 * y2) s (fun r10 s10 => (r10 = 0 → wX12_work_83  Q y1 y2 s10) ∧ (¬ (r10 = 0) → wX12_work_62  Q n y1 (y2 + 1) s10)))
set_option maxRecDepth 20000 in
theorem pX12_work_62 {l : Launch} {X : gX}   {Q : Int32 → gS → Prop}  : ∀ (n : Nat) (y1 : Int32) (y2 : Int32) (s : gS) (h : wX12_work_62  Q n y1 y2 s) , Gw l mX12_work (g_rm 9 0 0) X 62 [some (.ref 177), some (.int y1), some (.int y2)] [] (nrm s) 0 0 (g_Z X (q_i Q) 0 0) := by
  intro n
  induction n with
  | zero => intro y1 y2 s h; exact h.elim
  | succ n ih0 =>
    intro y1 y2 s h 
    have ih : ∀ (y1 : Int32) (y2 : Int32) (s : gS), wX12_work_62  Q n y1 y2 s → Gw l mX12_work (g_rm 9 0 0) X 62 [some (.ref 177), some (.int y1), some (.int y2)] [] (nrm s) 0 0 (g_Z X (q_i Q) 0 0) := fun y1 y2 s h => ih0 y1 y2 s h 
    refine r_iload_n (pc := 62) (x := y2) dX12_work_62 rfl ?_
    refine r_iload_n (pc := 63) (x := y1) dX12_work_63 rfl ?_
    refine r_icmp_ge (pc := 64) (tgt := 83) dX12_work_64 (by decide) (fun c => ?_) (fun c => ?_)
    · replace h := h.1 c
      refine n_L (L' := [some (.ref 177), some (.int y1), some (.int y2)]) (le_s (le_s (le_s (le_e)))) ?_
      exact pX12_work_83  _ _ _ h 
    · replace h := h.2 c
      refine r_aload_n (pc := 67) (x := 177) dX12_work_67 rfl ?_
      refine r_iconst (pc := 68) (v := 4) dX12_work_68 (by decide) ?_
      refine r_iload_n (pc := 69) (x := y2) dX12_work_69 rfl ?_
      refine r_imul (pc := 70) dX12_work_70 ?_
      refine n_Vi0 (pc := 71) (S0 := []) (spX12_act h) gmX12_act selX12_act lk_RX12_486 dX12_work_71 rfl (by decide) sh_177 ⟨rfl, by decide⟩ rfl ⟨Nat.le_of_ble_eq_true rfl, Nat.le_of_ble_eq_true rfl⟩ (Nat.le_of_ble_eq_true rfl) ⟨Nat.zero_le _, Nat.zero_le _⟩ (fun r10 s10 h => ?_)
      refine r_if_eq (pc := 74) (tgt := 83) dX12_work_74 (by decide) (fun c => ?_) (fun c => ?_)
      · replace h := h.1 c
        refine n_L (L' := [some (.ref 177), some (.int y1), some (.int y2)]) (le_s (le_s (le_s (le_e)))) ?_
        exact pX12_work_83  _ _ _ h 
      · replace h := h.2 c
        refine n_iinc (pc := 77) (x := y2) (w := 1) (L' := [some (.ref 177), some (.int y1), some (.int (y2 + 1))]) dX12_work_77 rfl (by decide) rfl (by decide) rfl ?_
        refine r_goto (pc := 80) (tgt := 62) dX12_work_80 (by decide) ?_
        refine n_L (L' := [some (.ref 177), some (.int y1), some (.int (y2 + 1))]) (le_s (le_s (le_s (le_e)))) ?_
        exact ih _ _ _ h
def wX12_work_42  (Q : Int32 → gS → Prop)  (y1 : Int32) (s : gS) : Prop := wpX12_wasRight s (fun r2 s2 => (¬ r2 = 0 → wpX12_lay s2 (fun s3 => ∃ n62, wX12_work_62  Q n62 y1 0 s3)) ∧ (r2 = 0 → Q ((-1) - (gi s2 177 8)) s2))
set_option maxRecDepth 20000 in
theorem pX12_work_42 {l : Launch} {X : gX}   {Q : Int32 → gS → Prop}  (y1 : Int32) (s : gS) (h : wX12_work_42  Q y1 s)  : Gw l mX12_work (g_rm 9 0 0) X 42 [some (.ref 177), some (.int y1), none] [] (nrm s) 0 0 (g_Z X (q_i Q) 0 0) := by
  refine r_aload_n (pc := 42) (x := 177) dX12_work_42 rfl ?_
  refine n_Vi0 (pc := 43) (S0 := []) (spX12_wasRight h) gmX12_wasRight selX12_wasRight lk_RX12_318 dX12_work_43 rfl (by decide) sh_177 ⟨rfl, by decide⟩ rfl ⟨Nat.le_of_ble_eq_true rfl, Nat.le_of_ble_eq_true rfl⟩ (Nat.le_of_ble_eq_true rfl) ⟨Nat.zero_le _, Nat.zero_le _⟩ (fun r2 s2 h => ?_)
  refine r_if_ne (pc := 46) (tgt := 56) dX12_work_46 (by decide) (fun c => ?_) (fun c => ?_)
  · replace h := h.1 c
    refine r_aload_n (pc := 56) (x := 177) dX12_work_56 rfl ?_
    refine n_Vv0 (pc := 57) (S0 := []) (spX12_lay h) gmX12_lay selX12_lay lk_RX12_448 dX12_work_57 rfl (by decide) sh_177 ⟨rfl, by decide⟩ rfl ⟨Nat.le_of_ble_eq_true rfl, Nat.le_of_ble_eq_true rfl⟩ (Nat.le_of_ble_eq_true rfl) ⟨Nat.zero_le _, Nat.zero_le _⟩ (fun s3 h => ?_)
    refine r_iconst (pc := 60) (v := 0) dX12_work_60 (by decide) ?_
    refine r_istore_n (pc := 61) (L' := [some (.ref 177), some (.int y1), some (.int 0)]) dX12_work_61 rfl (by decide) rfl ?_
    refine n_L (L' := [some (.ref 177), some (.int y1), some (.int 0)]) (le_s (le_s (le_s (le_e)))) ?_
    obtain ⟨n, h⟩ := h
    exact pX12_work_62  n _ _ _ h 
  · replace h := h.2 c
    refine r_iconst (pc := 49) (v := (-1)) dX12_work_49 (by decide) ?_
    refine r_aload_n (pc := 50) (x := 177) dX12_work_50 rfl ?_
    refine n_getI (pc := 51) (j := 8) dX12_work_51 fl_RX12_118 (by decide) sh_177 rfl rfl ?_
    refine r_isub (pc := 54) dX12_work_54 ?_
    exact n_iret (pc := 55) dX12_work_55 rfl (Nat.le_refl _) (Nat.le_refl _) h
def wX12_work_11  (Q : Int32 → gS → Prop)  : Nat → Int32 → gS → Prop
  | 0, _, _ => False
  | n + 1, y1, s => wpX12_fine s (fun r4 s4 => (r4 = 0 → wX12_work_42  Q y1 s4) ∧ (¬ (r4 = 0) → ((gi s4 177 6) ≤ (gi s4 177 7) → wX12_work_42  Q y1 s4) ∧ (¬ ((gi s4 177 6) ≤ (gi s4 177 7)) → wpX12_readAct (4 * y1) s4 (fun s5 => wX12_work_11  Q n (y1 + 1) s5))))
set_option maxRecDepth 20000 in
theorem pX12_work_11 {l : Launch} {X : gX}   {Q : Int32 → gS → Prop}  : ∀ (n : Nat) (y1 : Int32) (s : gS) (h : wX12_work_11  Q n y1 s) , Gw l mX12_work (g_rm 9 0 0) X 11 [some (.ref 177), some (.int y1), none] [] (nrm s) 0 0 (g_Z X (q_i Q) 0 0) := by
  intro n
  induction n with
  | zero => intro y1 s h; exact h.elim
  | succ n ih0 =>
    intro y1 s h 
    have ih : ∀ (y1 : Int32) (s : gS), wX12_work_11  Q n y1 s → Gw l mX12_work (g_rm 9 0 0) X 11 [some (.ref 177), some (.int y1), none] [] (nrm s) 0 0 (g_Z X (q_i Q) 0 0) := fun y1 s h => ih0 y1 s h 
    refine r_aload_n (pc := 11) (x := 177) dX12_work_11 rfl ?_
    refine n_Vi0 (pc := 12) (S0 := []) (spX12_fine h) gmX12_fine selX12_fine lk_RX12_121 dX12_work_12 rfl (by decide) sh_177 ⟨rfl, by decide⟩ rfl ⟨Nat.le_of_ble_eq_true rfl, Nat.le_of_ble_eq_true rfl⟩ (Nat.le_of_ble_eq_true rfl) ⟨Nat.zero_le _, Nat.zero_le _⟩ (fun r4 s4 h => ?_)
    refine r_if_eq (pc := 15) (tgt := 42) dX12_work_15 (by decide) (fun c => ?_) (fun c => ?_)
    · replace h := h.1 c
      refine n_L (L' := [some (.ref 177), some (.int y1), none]) (le_s (le_s (le_n (le_e)))) ?_
      exact pX12_work_42  _ _ h 
    · replace h := h.2 c
      refine r_aload_n (pc := 18) (x := 177) dX12_work_18 rfl ?_
      refine n_getI (pc := 19) (j := 7) dX12_work_19 fl_RX12_115 (by decide) sh_177 rfl rfl ?_
      refine r_aload_n (pc := 22) (x := 177) dX12_work_22 rfl ?_
      refine n_getI (pc := 23) (j := 6) dX12_work_23 fl_RX12_112 (by decide) sh_177 rfl rfl ?_
      refine r_icmp_ge (pc := 26) (tgt := 42) dX12_work_26 (by decide) (fun c => ?_) (fun c => ?_)
      · replace h := h.1 c
        refine n_L (L' := [some (.ref 177), some (.int y1), none]) (le_s (le_s (le_n (le_e)))) ?_
        exact pX12_work_42  _ _ h 
      · replace h := h.2 c
        refine r_aload_n (pc := 29) (x := 177) dX12_work_29 rfl ?_
        refine r_iconst (pc := 30) (v := 4) dX12_work_30 (by decide) ?_
        refine r_iload_n (pc := 31) (x := y1) dX12_work_31 rfl ?_
        refine r_imul (pc := 32) dX12_work_32 ?_
        refine n_Vv0 (pc := 33) (S0 := []) (spX12_readAct h) gmX12_readAct selX12_readAct lk_RX12_483 dX12_work_33 rfl (by decide) sh_177 ⟨rfl, by decide⟩ rfl ⟨Nat.le_of_ble_eq_true rfl, Nat.le_of_ble_eq_true rfl⟩ (Nat.le_of_ble_eq_true rfl) ⟨Nat.zero_le _, Nat.zero_le _⟩ (fun s5 h => ?_)
        refine n_iinc (pc := 36) (x := y1) (w := 1) (L' := [some (.ref 177), some (.int (y1 + 1)), none]) dX12_work_36 rfl (by decide) rfl (by decide) rfl ?_
        refine r_goto (pc := 39) (tgt := 11) dX12_work_39 (by decide) ?_
        refine n_L (L' := [some (.ref 177), some (.int (y1 + 1)), none]) (le_s (le_s (le_n (le_e)))) ?_
        exact ih _ _ h
def wpX12_work  (s : gS) (Q : Int32 → gS → Prop) : Prop := wpX12_begin (wi s 177 5 0) (fun s1 => ∃ n11, wX12_work_11  Q n11 0 s1)
set_option maxRecDepth 20000 in
theorem spX12_work {l : Launch}   {s : gS} {Q : Int32 → gS → Prop} (h : wpX12_work  s Q) : Ct l mX12_work 9 0 0 [.ref 177] (nrm s) (q_i Q) := by
  refine Ct.of (by decide) (Nat.le_of_ble_eq_true rfl) (fun X => ?_)
  refine n_L (L' := [some (.ref 177), none, none]) (le_s (le_p (le_p (le_e)))) ?_
  refine r_aload_n (pc := 0) (x := 177) dX12_work_0 rfl ?_
  refine r_iconst (pc := 1) (v := 0) dX12_work_1 (by decide) ?_
  refine n_putI (pc := 2) (j := 5) dX12_work_2 fl_RX12_55 fw_12_5 (by decide) sh_177 rfl rfl ?_
  refine r_aload_n (pc := 5) (x := 177) dX12_work_5 rfl ?_
  refine n_Vv0 (pc := 6) (S0 := []) (spX12_begin h) gmX12_begin selX12_begin lk_RX12_327 dX12_work_6 rfl (by decide) sh_177 ⟨rfl, by decide⟩ rfl ⟨Nat.le_of_ble_eq_true rfl, Nat.le_of_ble_eq_true rfl⟩ (Nat.le_of_ble_eq_true rfl) ⟨Nat.zero_le _, Nat.zero_le _⟩ (fun s1 h => ?_)
  refine r_iconst (pc := 9) (v := 0) dX12_work_9 (by decide) ?_
  refine r_istore_n (pc := 10) (L' := [some (.ref 177), some (.int 0), none]) dX12_work_10 rfl (by decide) rfl ?_
  refine n_L (L' := [some (.ref 177), some (.int 0), none]) (le_s (le_s (le_n (le_e)))) ?_
  obtain ⟨n, h⟩ := h
  exact pX12_work_11  n _ _ h 
def wX12_undo_26  (Q : Int32 → gS → Prop)  : Nat → Int32 → gS → Prop
  | 0, _, _ => False
  | n + 1, y1, s => (218 ≤ y1 → Q (gi s 177 26) s) ∧ (¬ (218 ≤ y1) → vp_in ((218 * (gi s 177 26)) + y1) 1744 ∧ (vp_in y1 218 ∧ (wX12_undo_26  Q n (y1 + 1) (wi s 178 (ix y1) (gi s 187 (ix ((218 * (gi s 177 26)) + y1)))))))
set_option maxRecDepth 20000 in
theorem pX12_undo_26 {l : Launch} {X : gX}   {Q : Int32 → gS → Prop}  : ∀ (n : Nat) (y1 : Int32) (s : gS) (h : wX12_undo_26  Q n y1 s) , Gw l mX12_undo (g_rm 1 0 0) X 26 [some (.ref 177), some (.int y1)] [] (nrm s) 0 0 (g_Z X (q_i Q) 0 0) := by
  intro n
  induction n with
  | zero => intro y1 s h; exact h.elim
  | succ n ih0 =>
    intro y1 s h 
    have ih : ∀ (y1 : Int32) (s : gS), wX12_undo_26  Q n y1 s → Gw l mX12_undo (g_rm 1 0 0) X 26 [some (.ref 177), some (.int y1)] [] (nrm s) 0 0 (g_Z X (q_i Q) 0 0) := fun y1 s h => ih0 y1 s h 
    refine r_iload_n (pc := 26) (x := y1) dX12_undo_26 rfl ?_
    refine r_sipush (pc := 27) (v := 218) dX12_undo_27 (by decide) ?_
    refine r_icmp_ge (pc := 30) (tgt := 60) dX12_undo_30 (by decide) (fun c => ?_) (fun c => ?_)
    · replace h := h.1 c
      refine r_aload_n (pc := 60) (x := 177) dX12_undo_60 rfl ?_
      refine n_getI (pc := 61) (j := 26) dX12_undo_61 fl_RX12_445 (by decide) sh_177 rfl rfl ?_
      exact n_iret (pc := 64) dX12_undo_64 rfl (Nat.le_refl _) (Nat.le_refl _) h
    · replace h := h.2 c
      refine r_aload_n (pc := 33) (x := 177) dX12_undo_33 rfl ?_
      refine n_getR (pc := 34) (j := 0) (q := 178) dX12_undo_34 fl_RX12_9 (by decide) sh_177 rfl rfl rfl ?_
      refine r_iload_n (pc := 37) (x := y1) dX12_undo_37 rfl ?_
      refine r_aload_n (pc := 38) (x := 177) dX12_undo_38 rfl ?_
      refine n_getR (pc := 39) (j := 24) (q := 187) dX12_undo_39 fl_RX12_39 (by decide) sh_177 rfl rfl rfl ?_
      refine r_sipush (pc := 42) (v := 218) dX12_undo_42 (by decide) ?_
      refine r_aload_n (pc := 45) (x := 177) dX12_undo_45 rfl ?_
      refine n_getI (pc := 46) (j := 26) dX12_undo_46 fl_RX12_445 (by decide) sh_177 rfl rfl ?_
      refine r_imul (pc := 49) dX12_undo_49 ?_
      refine r_iload_n (pc := 50) (x := y1) dX12_undo_50 rfl ?_
      refine r_iadd (pc := 51) dX12_undo_51 ?_
      obtain ⟨b1, h⟩ := h
      refine n_iald (pc := 52) (j := (ix ((218 * (gi s 177 26)) + y1))) dX12_undo_52 (by decide) sh_187 b1 rfl ?_
      obtain ⟨b2, h⟩ := h
      refine n_iast (pc := 53) (j := (ix y1)) dX12_undo_53 (by decide) sh_178 b2 rfl ?_
      refine n_iinc (pc := 54) (x := y1) (w := 1) (L' := [some (.ref 177), some (.int (y1 + 1))]) dX12_undo_54 rfl (by decide) rfl (by decide) rfl ?_
      refine r_goto (pc := 57) (tgt := 26) dX12_undo_57 (by decide) ?_
      refine n_L (L' := [some (.ref 177), some (.int (y1 + 1))]) (le_s (le_s (le_e))) ?_
      exact ih _ _ h
def wpX12_undo  (s : gS) (Q : Int32 → gS → Prop) : Prop := (¬ (gi (wi s 177 5 0) 177 26) = 0 → ∃ n26, wX12_undo_26  Q n26 0 (wi (wi s 177 5 0) 177 26 ((gi (wi s 177 5 0) 177 26) - 1))) ∧ ((gi (wi s 177 5 0) 177 26) = 0 → Q (-1) (wi s 177 5 0))
set_option maxRecDepth 20000 in
theorem spX12_undo {l : Launch}   {s : gS} {Q : Int32 → gS → Prop} (h : wpX12_undo  s Q) : Ct l mX12_undo 1 0 0 [.ref 177] (nrm s) (q_i Q) := by
  refine Ct.of (by decide) (Nat.le_of_ble_eq_true rfl) (fun X => ?_)
  refine n_L (L' := [some (.ref 177), none]) (le_s (le_p (le_e))) ?_
  refine r_aload_n (pc := 0) (x := 177) dX12_undo_0 rfl ?_
  refine r_iconst (pc := 1) (v := 0) dX12_undo_1 (by decide) ?_
  refine n_putI (pc := 2) (j := 5) dX12_undo_2 fl_RX12_55 fw_12_5 (by decide) sh_177 rfl rfl ?_
  refine r_aload_n (pc := 5) (x := 177) dX12_undo_5 rfl ?_
  refine n_getI (pc := 6) (j := 26) dX12_undo_6 fl_RX12_445 (by decide) sh_177 rfl rfl ?_
  refine r_if_ne (pc := 9) (tgt := 14) dX12_undo_9 (by decide) (fun c => ?_) (fun c => ?_)
  · replace h := h.1 c
    refine r_aload_n (pc := 14) (x := 177) dX12_undo_14 rfl ?_
    refine r_dup (pc := 15) dX12_undo_15 rfl ?_
    refine n_getI (pc := 16) (j := 26) dX12_undo_16 fl_RX12_445 (by decide) sh_177 rfl rfl ?_
    refine r_iconst (pc := 19) (v := 1) dX12_undo_19 (by decide) ?_
    refine r_isub (pc := 20) dX12_undo_20 ?_
    refine n_putI (pc := 21) (j := 26) dX12_undo_21 fl_RX12_445 fw_12_26 (by decide) sh_177 rfl rfl ?_
    refine r_iconst (pc := 24) (v := 0) dX12_undo_24 (by decide) ?_
    refine r_istore_n (pc := 25) (L' := [some (.ref 177), some (.int 0)]) dX12_undo_25 rfl (by decide) rfl ?_
    refine n_L (L' := [some (.ref 177), some (.int 0)]) (le_s (le_s (le_e))) ?_
    obtain ⟨n, h⟩ := h
    exact pX12_undo_26  n _ _ h 
  · replace h := h.2 c
    refine r_iconst (pc := 12) (v := (-1)) dX12_undo_12 (by decide) ?_
    exact n_iret (pc := 13) dX12_undo_13 rfl (Nat.le_refl _) (Nat.le_refl _) h
def wpX12_draw (x1 : Int32) (s : gS) (Q : Int32 → gS → Prop) : Prop := ¬ x1 = 0 ∧ (Q (jrem (jushr (gi (wi s 177 28 (((gi s 177 28) * 1103515245) + 12345)) 177 28) 16) x1) (wi s 177 28 (((gi s 177 28) * 1103515245) + 12345)))
set_option maxRecDepth 20000 in
theorem spX12_draw {l : Launch} {x1 : Int32}  {s : gS} {Q : Int32 → gS → Prop} (h : wpX12_draw x1 s Q) : Ct l mX12_draw 1 0 0 [.ref 177, .int x1] (nrm s) (q_i Q) := by
  refine Ct.of (by decide) (Nat.le_of_ble_eq_true rfl) (fun X => ?_)
  refine n_L (L' := [some (.ref 177), some (.int x1)]) (le_s (le_s (le_e))) ?_
  refine r_aload_n (pc := 0) (x := 177) dX12_draw_0 rfl ?_
  refine r_aload_n (pc := 1) (x := 177) dX12_draw_1 rfl ?_
  refine n_getI (pc := 2) (j := 28) dX12_draw_2 fl_RX12_489 (by decide) sh_177 rfl rfl ?_
  refine n_ldc_wi (pc := 5) (v := 1103515245) dX12_draw_5 kc_RX12_492 ?_
  refine r_imul (pc := 8) dX12_draw_8 ?_
  refine r_sipush (pc := 9) (v := 12345) dX12_draw_9 (by decide) ?_
  refine r_iadd (pc := 12) dX12_draw_12 ?_
  refine n_putI (pc := 13) (j := 28) dX12_draw_13 fl_RX12_489 fw_12_28 (by decide) sh_177 rfl rfl ?_
  refine r_aload_n (pc := 16) (x := 177) dX12_draw_16 rfl ?_
  refine n_getI (pc := 17) (j := 28) dX12_draw_17 fl_RX12_489 (by decide) sh_177 rfl rfl ?_
  refine r_bipush (pc := 20) (v := 16) dX12_draw_20 (by decide) ?_
  refine n_iushr (pc := 22) dX12_draw_22 ?_
  refine r_iload_n (pc := 23) (x := x1) dX12_draw_23 rfl ?_
  obtain ⟨b1, h⟩ := h
  refine n_irem (pc := 24) dX12_draw_24 b1 ?_
  exact n_iret (pc := 25) dX12_draw_25 rfl (Nat.le_refl _) (Nat.le_refl _) h
def wX12_years_28 (x1 : Int32) (x2 : Int32) (Q : Int32 → gS → Prop)  : Nat → Int32 → gS → Prop
  | 0, _, _ => False
  | n + 1, y3, s => (x2 ≤ y3 → wpX12_survey s (fun s3 => wpX12_tell ((gi (wi s3 177 4 0) 178 1).toInt64) (wi s3 177 4 0) (fun s4 => wpX12_leftAll s4 (fun r5 s5 => wpX12_tell r5.toInt64 s5 (fun s6 => wpX12_comesBack s6 (fun s7 => Q (gi s7 177 17) s7)))))) ∧ (¬ (x2 ≤ y3) → wpX12_draw 5 s (fun r8 s8 => wpX12_draw 6 s8 (fun r9 s9 => wpX12_draw 6 s9 (fun r10 s10 => wpX12_refusesOrder r8 r9 r10 s10 (fun r11 s11 => (¬ r11 = 0 → wX12_years_28 x1 x2 Q n (y3 + 1) s11) ∧ (r11 = 0 → wpX12_goOrder r8 r9 r10 s11 (fun s12 => wX12_years_28 x1 x2 Q n (y3 + 1) s12)))))))
set_option maxRecDepth 20000 in
theorem pX12_years_28 {l : Launch} {X : gX} {x1 : Int32} {x2 : Int32}  {Q : Int32 → gS → Prop}  : ∀ (n : Nat) (y3 : Int32) (s : gS) (h : wX12_years_28 x1 x2 Q n y3 s) , Gw l mX12_years (g_rm 7 0 0) X 28 [some (.ref 177), none, some (.int x2), some (.int y3), none, none, none] [] (nrm s) 0 0 (g_Z X (q_i Q) 0 0) := by
  intro n
  induction n with
  | zero => intro y3 s h; exact h.elim
  | succ n ih0 =>
    intro y3 s h 
    have ih : ∀ (y3 : Int32) (s : gS), wX12_years_28 x1 x2 Q n y3 s → Gw l mX12_years (g_rm 7 0 0) X 28 [some (.ref 177), none, some (.int x2), some (.int y3), none, none, none] [] (nrm s) 0 0 (g_Z X (q_i Q) 0 0) := fun y3 s h => ih0 y3 s h 
    refine r_iload_n (pc := 28) (x := y3) dX12_years_28 rfl ?_
    refine r_iload_n (pc := 29) (x := x2) dX12_years_29 rfl ?_
    refine r_icmp_ge (pc := 30) (tgt := 85) dX12_years_30 (by decide) (fun c => ?_) (fun c => ?_)
    · replace h := h.1 c
      refine r_aload_n (pc := 85) (x := 177) dX12_years_85 rfl ?_
      refine n_Vv0 (pc := 86) (S0 := []) (spX12_survey h) gmX12_survey selX12_survey lk_RX12_388 dX12_years_86 rfl (by decide) sh_177 ⟨rfl, by decide⟩ rfl ⟨Nat.le_of_ble_eq_true rfl, Nat.le_of_ble_eq_true rfl⟩ (Nat.le_of_ble_eq_true rfl) ⟨Nat.zero_le _, Nat.zero_le _⟩ (fun s3 h => ?_)
      refine r_aload_n (pc := 89) (x := 177) dX12_years_89 rfl ?_
      refine r_iconst (pc := 90) (v := 0) dX12_years_90 (by decide) ?_
      refine n_putI (pc := 91) (j := 4) dX12_years_91 fl_RX12_59 fw_12_4 (by decide) sh_177 rfl rfl ?_
      refine r_aload_n (pc := 94) (x := 177) dX12_years_94 rfl ?_
      refine r_aload_n (pc := 95) (x := 177) dX12_years_95 rfl ?_
      refine n_getR (pc := 96) (j := 0) (q := 178) dX12_years_96 fl_RX12_9 (by decide) sh_177 rfl rfl rfl ?_
      refine r_iconst (pc := 99) (v := 1) dX12_years_99 (by decide) ?_
      refine n_iald (pc := 100) (j := 1) dX12_years_100 (by decide) sh_178 (vp_inc (by decide)) (by decide) ?_
      refine r_i2l (pc := 101) dX12_years_101 ?_
      refine n_Vv0 (pc := 102) (S0 := []) (spX12_tell h) gmX12_tell selX12_tell lk_RX12_91 dX12_years_102 rfl (by decide) sh_177 ⟨rfl, by decide⟩ rfl ⟨Nat.le_of_ble_eq_true rfl, Nat.le_of_ble_eq_true rfl⟩ (Nat.le_of_ble_eq_true rfl) ⟨Nat.zero_le _, Nat.zero_le _⟩ (fun s4 h => ?_)
      refine r_aload_n (pc := 105) (x := 177) dX12_years_105 rfl ?_
      refine r_aload_n (pc := 106) (x := 177) dX12_years_106 rfl ?_
      refine n_Vi0 (pc := 107) (S0 := [.ref 177]) (spX12_leftAll h) gmX12_leftAll selX12_leftAll lk_RX12_421 dX12_years_107 rfl (by decide) sh_177 ⟨rfl, by decide⟩ rfl ⟨Nat.le_of_ble_eq_true rfl, Nat.le_of_ble_eq_true rfl⟩ (Nat.le_of_ble_eq_true rfl) ⟨Nat.zero_le _, Nat.zero_le _⟩ (fun r5 s5 h => ?_)
      refine r_i2l (pc := 110) dX12_years_110 ?_
      refine n_Vv0 (pc := 111) (S0 := []) (spX12_tell h) gmX12_tell selX12_tell lk_RX12_91 dX12_years_111 rfl (by decide) sh_177 ⟨rfl, by decide⟩ rfl ⟨Nat.le_of_ble_eq_true rfl, Nat.le_of_ble_eq_true rfl⟩ (Nat.le_of_ble_eq_true rfl) ⟨Nat.zero_le _, Nat.zero_le _⟩ (fun s6 h => ?_)
      refine r_aload_n (pc := 114) (x := 177) dX12_years_114 rfl ?_
      refine n_Vv0 (pc := 115) (S0 := []) (spX12_comesBack h) gmX12_comesBack selX12_comesBack lk_RX12_430 dX12_years_115 rfl (by decide) sh_177 ⟨rfl, by decide⟩ rfl ⟨Nat.le_of_ble_eq_true rfl, Nat.le_of_ble_eq_true rfl⟩ (Nat.le_of_ble_eq_true rfl) ⟨Nat.zero_le _, Nat.zero_le _⟩ (fun s7 h => ?_)
      refine r_aload_n (pc := 118) (x := 177) dX12_years_118 rfl ?_
      refine n_getI (pc := 119) (j := 17) dX12_years_119 fl_RX12_357 (by decide) sh_177 rfl rfl ?_
      exact n_iret (pc := 122) dX12_years_122 rfl (Nat.le_refl _) (Nat.le_refl _) h
    · replace h := h.2 c
      refine r_aload_n (pc := 33) (x := 177) dX12_years_33 rfl ?_
      refine r_iconst (pc := 34) (v := 5) dX12_years_34 (by decide) ?_
      refine n_Vi0 (pc := 35) (S0 := []) (spX12_draw h) gmX12_draw selX12_draw lk_RX12_493 dX12_years_35 rfl (by decide) sh_177 ⟨rfl, by decide⟩ rfl ⟨Nat.le_of_ble_eq_true rfl, Nat.le_of_ble_eq_true rfl⟩ (Nat.le_of_ble_eq_true rfl) ⟨Nat.zero_le _, Nat.zero_le _⟩ (fun r8 s8 h => ?_)
      refine r_istore (pc := 38) (L' := [some (.ref 177), none, some (.int x2), some (.int y3), some (.int r8), none, none]) dX12_years_38 rfl (by decide) rfl ?_
      refine r_aload_n (pc := 40) (x := 177) dX12_years_40 rfl ?_
      refine r_bipush (pc := 41) (v := 6) dX12_years_41 (by decide) ?_
      refine n_Vi0 (pc := 43) (S0 := []) (spX12_draw h) gmX12_draw selX12_draw lk_RX12_493 dX12_years_43 rfl (by decide) sh_177 ⟨rfl, by decide⟩ rfl ⟨Nat.le_of_ble_eq_true rfl, Nat.le_of_ble_eq_true rfl⟩ (Nat.le_of_ble_eq_true rfl) ⟨Nat.zero_le _, Nat.zero_le _⟩ (fun r9 s9 h => ?_)
      refine r_istore (pc := 46) (L' := [some (.ref 177), none, some (.int x2), some (.int y3), some (.int r8), some (.int r9), none]) dX12_years_46 rfl (by decide) rfl ?_
      refine r_aload_n (pc := 48) (x := 177) dX12_years_48 rfl ?_
      refine r_bipush (pc := 49) (v := 6) dX12_years_49 (by decide) ?_
      refine n_Vi0 (pc := 51) (S0 := []) (spX12_draw h) gmX12_draw selX12_draw lk_RX12_493 dX12_years_51 rfl (by decide) sh_177 ⟨rfl, by decide⟩ rfl ⟨Nat.le_of_ble_eq_true rfl, Nat.le_of_ble_eq_true rfl⟩ (Nat.le_of_ble_eq_true rfl) ⟨Nat.zero_le _, Nat.zero_le _⟩ (fun r10 s10 h => ?_)
      refine r_istore (pc := 54) (L' := [some (.ref 177), none, some (.int x2), some (.int y3), some (.int r8), some (.int r9), some (.int r10)]) dX12_years_54 rfl (by decide) rfl ?_
      refine r_aload_n (pc := 56) (x := 177) dX12_years_56 rfl ?_
      refine r_iload (pc := 57) (x := r8) dX12_years_57 rfl ?_
      refine r_iload (pc := 59) (x := r9) dX12_years_59 rfl ?_
      refine r_iload (pc := 61) (x := r10) dX12_years_61 rfl ?_
      refine n_Vi0 (pc := 63) (S0 := []) (spX12_refusesOrder h) gmX12_refusesOrder selX12_refusesOrder lk_RX12_400 dX12_years_63 rfl (by decide) sh_177 ⟨rfl, by decide⟩ rfl ⟨Nat.le_of_ble_eq_true rfl, Nat.le_of_ble_eq_true rfl⟩ (Nat.le_of_ble_eq_true rfl) ⟨Nat.zero_le _, Nat.zero_le _⟩ (fun r11 s11 h => ?_)
      refine r_if_ne (pc := 66) (tgt := 79) dX12_years_66 (by decide) (fun c => ?_) (fun c => ?_)
      · replace h := h.1 c
        refine n_iinc (pc := 79) (x := y3) (w := 1) (L' := [some (.ref 177), none, some (.int x2), some (.int (y3 + 1)), some (.int r8), some (.int r9), some (.int r10)]) dX12_years_79 rfl (by decide) rfl (by decide) rfl ?_
        refine r_goto (pc := 82) (tgt := 28) dX12_years_82 (by decide) ?_
        refine n_L (L' := [some (.ref 177), none, some (.int x2), some (.int (y3 + 1)), none, none, none]) (le_s (le_n (le_s (le_s (le_n (le_n (le_n (le_e)))))))) ?_
        exact ih _ _ h
      · replace h := h.2 c
        refine r_aload_n (pc := 69) (x := 177) dX12_years_69 rfl ?_
        refine r_iload (pc := 70) (x := r8) dX12_years_70 rfl ?_
        refine r_iload (pc := 72) (x := r9) dX12_years_72 rfl ?_
        refine r_iload (pc := 74) (x := r10) dX12_years_74 rfl ?_
        refine n_Vv0 (pc := 76) (S0 := []) (spX12_goOrder h) gmX12_goOrder selX12_goOrder lk_RX12_403 dX12_years_76 rfl (by decide) sh_177 ⟨rfl, by decide⟩ rfl ⟨Nat.le_of_ble_eq_true rfl, Nat.le_of_ble_eq_true rfl⟩ (Nat.le_of_ble_eq_true rfl) ⟨Nat.zero_le _, Nat.zero_le _⟩ (fun s12 h => ?_)
        refine n_iinc (pc := 79) (x := y3) (w := 1) (L' := [some (.ref 177), none, some (.int x2), some (.int (y3 + 1)), some (.int r8), some (.int r9), some (.int r10)]) dX12_years_79 rfl (by decide) rfl (by decide) rfl ?_
        refine r_goto (pc := 82) (tgt := 28) dX12_years_82 (by decide) ?_
        refine n_L (L' := [some (.ref 177), none, some (.int x2), some (.int (y3 + 1)), none, none, none]) (le_s (le_n (le_s (le_s (le_n (le_n (le_n (le_e)))))))) ?_
        exact ih _ _ h
def wpX12_years (x1 : Int32) (x2 : Int32) (s : gS) (Q : Int32 → gS → Prop) : Prop := wpX12_in x2 1 20 (wi s 177 5 0) (fun r1 s1 => (¬ r1 = 0 → wpX12_layAside (wi s1 177 28 x1) (fun s2 => ∃ n28, wX12_years_28 x1 x2 Q n28 0 s2)) ∧ (r1 = 0 → Q (-1) s1))
set_option maxRecDepth 20000 in
theorem spX12_years {l : Launch} {x1 : Int32} {x2 : Int32}  {s : gS} {Q : Int32 → gS → Prop} (h : wpX12_years x1 x2 s Q) : Ct l mX12_years 7 0 0 [.ref 177, .int x1, .int x2] (nrm s) (q_i Q) := by
  refine Ct.of (by decide) (Nat.le_of_ble_eq_true rfl) (fun X => ?_)
  refine n_L (L' := [some (.ref 177), some (.int x1), some (.int x2), none, none, none, none]) (le_s (le_s (le_s (le_p (le_p (le_p (le_p (le_e)))))))) ?_
  refine r_aload_n (pc := 0) (x := 177) dX12_years_0 rfl ?_
  refine r_iconst (pc := 1) (v := 0) dX12_years_1 (by decide) ?_
  refine n_putI (pc := 2) (j := 5) dX12_years_2 fl_RX12_55 fw_12_5 (by decide) sh_177 rfl rfl ?_
  refine r_iload_n (pc := 5) (x := x2) dX12_years_5 rfl ?_
  refine r_iconst (pc := 6) (v := 1) dX12_years_6 (by decide) ?_
  refine r_bipush (pc := 7) (v := 20) dX12_years_7 (by decide) ?_
  refine n_Si0 (pc := 9) (S0 := []) (spX12_in h) gmX12_in lk_RX12_62 dX12_years_9 rfl rfl ⟨Nat.le_of_ble_eq_true rfl, Nat.le_of_ble_eq_true rfl⟩ (Nat.le_of_ble_eq_true rfl) ⟨Nat.zero_le _, Nat.zero_le _⟩ (fun r1 s1 h => ?_)
  refine r_if_ne (pc := 12) (tgt := 17) dX12_years_12 (by decide) (fun c => ?_) (fun c => ?_)
  · replace h := h.1 c
    refine r_aload_n (pc := 17) (x := 177) dX12_years_17 rfl ?_
    refine r_iload_n (pc := 18) (x := x1) dX12_years_18 rfl ?_
    refine n_putI (pc := 19) (j := 28) dX12_years_19 fl_RX12_489 fw_12_28 (by decide) sh_177 rfl rfl ?_
    refine r_aload_n (pc := 22) (x := 177) dX12_years_22 rfl ?_
    refine n_Vv0 (pc := 23) (S0 := []) (spX12_layAside h) gmX12_layAside selX12_layAside lk_RX12_424 dX12_years_23 rfl (by decide) sh_177 ⟨rfl, by decide⟩ rfl ⟨Nat.le_of_ble_eq_true rfl, Nat.le_of_ble_eq_true rfl⟩ (Nat.le_of_ble_eq_true rfl) ⟨Nat.zero_le _, Nat.zero_le _⟩ (fun s2 h => ?_)
    refine r_iconst (pc := 26) (v := 0) dX12_years_26 (by decide) ?_
    refine r_istore_n (pc := 27) (L' := [some (.ref 177), some (.int x1), some (.int x2), some (.int 0), none, none, none]) dX12_years_27 rfl (by decide) rfl ?_
    refine n_L (L' := [some (.ref 177), none, some (.int x2), some (.int 0), none, none, none]) (le_s (le_n (le_s (le_s (le_n (le_n (le_n (le_e)))))))) ?_
    obtain ⟨n, h⟩ := h
    exact pX12_years_28  n _ _ h 
  · replace h := h.2 c
    refine r_iconst (pc := 15) (v := (-1)) dX12_years_15 (by decide) ?_
    exact n_iret (pc := 16) dX12_years_16 rfl (Nat.le_refl _) (Nat.le_refl _) h
def wX12_keep_25 (x1 : Int32) (Q : Int32 → gS → Prop)  : Nat → Int32 → gS → Prop
  | 0, _, _ => False
  | n + 1, y2, s => (218 ≤ y2 → Q 1 s) ∧ (¬ (218 ≤ y2) → vp_in y2 218 ∧ (vp_in ((218 * x1) + y2) 436 ∧ (wX12_keep_25 x1 Q n (y2 + 1) (wi s 190 (ix ((218 * x1) + y2)) (gi s 178 (ix y2))))))
set_option maxRecDepth 20000 in
theorem pX12_keep_25 {l : Launch} {X : gX} {x1 : Int32}  {Q : Int32 → gS → Prop}  : ∀ (n : Nat) (y2 : Int32) (s : gS) (h : wX12_keep_25 x1 Q n y2 s) , Gw l mX12_keep (g_rm 2 0 0) X 25 [some (.ref 177), some (.int x1), some (.int y2)] [] (nrm s) 0 0 (g_Z X (q_i Q) 0 0) := by
  intro n
  induction n with
  | zero => intro y2 s h; exact h.elim
  | succ n ih0 =>
    intro y2 s h 
    have ih : ∀ (y2 : Int32) (s : gS), wX12_keep_25 x1 Q n y2 s → Gw l mX12_keep (g_rm 2 0 0) X 25 [some (.ref 177), some (.int x1), some (.int y2)] [] (nrm s) 0 0 (g_Z X (q_i Q) 0 0) := fun y2 s h => ih0 y2 s h 
    refine r_iload_n (pc := 25) (x := y2) dX12_keep_25 rfl ?_
    refine r_sipush (pc := 26) (v := 218) dX12_keep_26 (by decide) ?_
    refine r_icmp_ge (pc := 29) (tgt := 56) dX12_keep_29 (by decide) (fun c => ?_) (fun c => ?_)
    · replace h := h.1 c
      refine r_iconst (pc := 56) (v := 1) dX12_keep_56 (by decide) ?_
      exact n_zret (pc := 57) dX12_keep_57 rfl (by decide) (Nat.le_refl _) (Nat.le_refl _) h
    · replace h := h.2 c
      refine r_aload_n (pc := 32) (x := 177) dX12_keep_32 rfl ?_
      refine n_getR (pc := 33) (j := 29) (q := 190) dX12_keep_33 fl_RX12_48 (by decide) sh_177 rfl rfl rfl ?_
      refine r_sipush (pc := 36) (v := 218) dX12_keep_36 (by decide) ?_
      refine r_iload_n (pc := 39) (x := x1) dX12_keep_39 rfl ?_
      refine r_imul (pc := 40) dX12_keep_40 ?_
      refine r_iload_n (pc := 41) (x := y2) dX12_keep_41 rfl ?_
      refine r_iadd (pc := 42) dX12_keep_42 ?_
      refine r_aload_n (pc := 43) (x := 177) dX12_keep_43 rfl ?_
      refine n_getR (pc := 44) (j := 0) (q := 178) dX12_keep_44 fl_RX12_9 (by decide) sh_177 rfl rfl rfl ?_
      refine r_iload_n (pc := 47) (x := y2) dX12_keep_47 rfl ?_
      obtain ⟨b3, h⟩ := h
      refine n_iald (pc := 48) (j := (ix y2)) dX12_keep_48 (by decide) sh_178 b3 rfl ?_
      obtain ⟨b4, h⟩ := h
      refine n_iast (pc := 49) (j := (ix ((218 * x1) + y2))) dX12_keep_49 (by decide) sh_190 b4 rfl ?_
      refine n_iinc (pc := 50) (x := y2) (w := 1) (L' := [some (.ref 177), some (.int x1), some (.int (y2 + 1))]) dX12_keep_50 rfl (by decide) rfl (by decide) rfl ?_
      refine r_goto (pc := 53) (tgt := 25) dX12_keep_53 (by decide) ?_
      refine n_L (L' := [some (.ref 177), some (.int x1), some (.int (y2 + 1))]) (le_s (le_s (le_s (le_e)))) ?_
      exact ih _ _ h
def wpX12_keep (x1 : Int32) (s : gS) (Q : Int32 → gS → Prop) : Prop := wpX12_in x1 0 1 (wi s 177 5 0) (fun r1 s1 => (¬ r1 = 0 → vp_in x1 2 ∧ (∃ n25, wX12_keep_25 x1 Q n25 0 (wi s1 191 (ix x1) (vp_nar .boolean 1)))) ∧ (r1 = 0 → Q 0 s1))
set_option maxRecDepth 20000 in
theorem spX12_keep {l : Launch} {x1 : Int32}  {s : gS} {Q : Int32 → gS → Prop} (h : wpX12_keep x1 s Q) : Ct l mX12_keep 2 0 0 [.ref 177, .int x1] (nrm s) (q_i Q) := by
  refine Ct.of (by decide) (Nat.le_of_ble_eq_true rfl) (fun X => ?_)
  refine n_L (L' := [some (.ref 177), some (.int x1), none]) (le_s (le_s (le_p (le_e)))) ?_
  refine r_aload_n (pc := 0) (x := 177) dX12_keep_0 rfl ?_
  refine r_iconst (pc := 1) (v := 0) dX12_keep_1 (by decide) ?_
  refine n_putI (pc := 2) (j := 5) dX12_keep_2 fl_RX12_55 fw_12_5 (by decide) sh_177 rfl rfl ?_
  refine r_iload_n (pc := 5) (x := x1) dX12_keep_5 rfl ?_
  refine r_iconst (pc := 6) (v := 0) dX12_keep_6 (by decide) ?_
  refine r_iconst (pc := 7) (v := 1) dX12_keep_7 (by decide) ?_
  refine n_Si0 (pc := 8) (S0 := []) (spX12_in h) gmX12_in lk_RX12_62 dX12_keep_8 rfl rfl ⟨Nat.le_of_ble_eq_true rfl, Nat.le_of_ble_eq_true rfl⟩ (Nat.le_of_ble_eq_true rfl) ⟨Nat.zero_le _, Nat.zero_le _⟩ (fun r1 s1 h => ?_)
  refine r_if_ne (pc := 11) (tgt := 16) dX12_keep_11 (by decide) (fun c => ?_) (fun c => ?_)
  · replace h := h.1 c
    refine r_aload_n (pc := 16) (x := 177) dX12_keep_16 rfl ?_
    refine n_getR (pc := 17) (j := 30) (q := 191) dX12_keep_17 fl_RX12_51 (by decide) sh_177 rfl rfl rfl ?_
    refine r_iload_n (pc := 20) (x := x1) dX12_keep_20 rfl ?_
    refine r_iconst (pc := 21) (v := 1) dX12_keep_21 (by decide) ?_
    obtain ⟨b2, h⟩ := h
    refine n_zast (pc := 22) (j := (ix x1)) dX12_keep_22 (by decide) sh_191 b2 rfl ?_
    refine r_iconst (pc := 23) (v := 0) dX12_keep_23 (by decide) ?_
    refine r_istore_n (pc := 24) (L' := [some (.ref 177), some (.int x1), some (.int 0)]) dX12_keep_24 rfl (by decide) rfl ?_
    refine n_L (L' := [some (.ref 177), some (.int x1), some (.int 0)]) (le_s (le_s (le_s (le_e)))) ?_
    obtain ⟨n, h⟩ := h
    exact pX12_keep_25  n _ _ h 
  · replace h := h.2 c
    refine r_iconst (pc := 14) (v := 0) dX12_keep_14 (by decide) ?_
    exact n_zret (pc := 15) dX12_keep_15 rfl (by decide) (Nat.le_refl _) (Nat.le_refl _) h
def wX12_again_27 (x1 : Int32) (Q : Int32 → gS → Prop)  : Nat → Int32 → gS → Prop
  | 0, _, _ => False
  | n + 1, y2, s => (218 ≤ y2 → Q 1 (wi s 177 26 0)) ∧ (¬ (218 ≤ y2) → vp_in ((218 * x1) + y2) 436 ∧ (vp_in y2 218 ∧ (wX12_again_27 x1 Q n (y2 + 1) (wi s 178 (ix y2) (gi s 190 (ix ((218 * x1) + y2)))))))
set_option maxRecDepth 20000 in
theorem pX12_again_27 {l : Launch} {X : gX} {x1 : Int32}  {Q : Int32 → gS → Prop}  : ∀ (n : Nat) (y2 : Int32) (s : gS) (h : wX12_again_27 x1 Q n y2 s) , Gw l mX12_again (g_rm 2 0 0) X 27 [some (.ref 177), some (.int x1), some (.int y2)] [] (nrm s) 0 0 (g_Z X (q_i Q) 0 0) := by
  intro n
  induction n with
  | zero => intro y2 s h; exact h.elim
  | succ n ih0 =>
    intro y2 s h 
    have ih : ∀ (y2 : Int32) (s : gS), wX12_again_27 x1 Q n y2 s → Gw l mX12_again (g_rm 2 0 0) X 27 [some (.ref 177), some (.int x1), some (.int y2)] [] (nrm s) 0 0 (g_Z X (q_i Q) 0 0) := fun y2 s h => ih0 y2 s h 
    refine r_iload_n (pc := 27) (x := y2) dX12_again_27 rfl ?_
    refine r_sipush (pc := 28) (v := 218) dX12_again_28 (by decide) ?_
    refine r_icmp_ge (pc := 31) (tgt := 58) dX12_again_31 (by decide) (fun c => ?_) (fun c => ?_)
    · replace h := h.1 c
      refine r_aload_n (pc := 58) (x := 177) dX12_again_58 rfl ?_
      refine r_iconst (pc := 59) (v := 0) dX12_again_59 (by decide) ?_
      refine n_putI (pc := 60) (j := 26) dX12_again_60 fl_RX12_445 fw_12_26 (by decide) sh_177 rfl rfl ?_
      refine r_iconst (pc := 63) (v := 1) dX12_again_63 (by decide) ?_
      exact n_zret (pc := 64) dX12_again_64 rfl (by decide) (Nat.le_refl _) (Nat.le_refl _) h
    · replace h := h.2 c
      refine r_aload_n (pc := 34) (x := 177) dX12_again_34 rfl ?_
      refine n_getR (pc := 35) (j := 0) (q := 178) dX12_again_35 fl_RX12_9 (by decide) sh_177 rfl rfl rfl ?_
      refine r_iload_n (pc := 38) (x := y2) dX12_again_38 rfl ?_
      refine r_aload_n (pc := 39) (x := 177) dX12_again_39 rfl ?_
      refine n_getR (pc := 40) (j := 29) (q := 190) dX12_again_40 fl_RX12_48 (by decide) sh_177 rfl rfl rfl ?_
      refine r_sipush (pc := 43) (v := 218) dX12_again_43 (by decide) ?_
      refine r_iload_n (pc := 46) (x := x1) dX12_again_46 rfl ?_
      refine r_imul (pc := 47) dX12_again_47 ?_
      refine r_iload_n (pc := 48) (x := y2) dX12_again_48 rfl ?_
      refine r_iadd (pc := 49) dX12_again_49 ?_
      obtain ⟨b3, h⟩ := h
      refine n_iald (pc := 50) (j := (ix ((218 * x1) + y2))) dX12_again_50 (by decide) sh_190 b3 rfl ?_
      obtain ⟨b4, h⟩ := h
      refine n_iast (pc := 51) (j := (ix y2)) dX12_again_51 (by decide) sh_178 b4 rfl ?_
      refine n_iinc (pc := 52) (x := y2) (w := 1) (L' := [some (.ref 177), some (.int x1), some (.int (y2 + 1))]) dX12_again_52 rfl (by decide) rfl (by decide) rfl ?_
      refine r_goto (pc := 55) (tgt := 27) dX12_again_55 (by decide) ?_
      refine n_L (L' := [some (.ref 177), some (.int x1), some (.int (y2 + 1))]) (le_s (le_s (le_s (le_e)))) ?_
      exact ih _ _ h
def wpX12_again (x1 : Int32) (s : gS) (Q : Int32 → gS → Prop) : Prop := wpX12_in x1 0 1 (wi s 177 5 0) (fun r1 s1 => (r1 = 0 → Q 0 s1) ∧ (¬ (r1 = 0) → vp_in x1 2 ∧ ((¬ (gi s1 191 (ix x1)) = 0 → ∃ n27, wX12_again_27 x1 Q n27 0 s1) ∧ ((gi s1 191 (ix x1)) = 0 → Q 0 s1))))
set_option maxRecDepth 20000 in
theorem spX12_again {l : Launch} {x1 : Int32}  {s : gS} {Q : Int32 → gS → Prop} (h : wpX12_again x1 s Q) : Ct l mX12_again 2 0 0 [.ref 177, .int x1] (nrm s) (q_i Q) := by
  refine Ct.of (by decide) (Nat.le_of_ble_eq_true rfl) (fun X => ?_)
  refine n_L (L' := [some (.ref 177), some (.int x1), none]) (le_s (le_s (le_p (le_e)))) ?_
  refine r_aload_n (pc := 0) (x := 177) dX12_again_0 rfl ?_
  refine r_iconst (pc := 1) (v := 0) dX12_again_1 (by decide) ?_
  refine n_putI (pc := 2) (j := 5) dX12_again_2 fl_RX12_55 fw_12_5 (by decide) sh_177 rfl rfl ?_
  refine r_iload_n (pc := 5) (x := x1) dX12_again_5 rfl ?_
  refine r_iconst (pc := 6) (v := 0) dX12_again_6 (by decide) ?_
  refine r_iconst (pc := 7) (v := 1) dX12_again_7 (by decide) ?_
  refine n_Si0 (pc := 8) (S0 := []) (spX12_in h) gmX12_in lk_RX12_62 dX12_again_8 rfl rfl ⟨Nat.le_of_ble_eq_true rfl, Nat.le_of_ble_eq_true rfl⟩ (Nat.le_of_ble_eq_true rfl) ⟨Nat.zero_le _, Nat.zero_le _⟩ (fun r1 s1 h => ?_)
  refine r_if_eq (pc := 11) (tgt := 23) dX12_again_11 (by decide) (fun c => ?_) (fun c => ?_)
  · replace h := h.1 c
    refine r_iconst (pc := 23) (v := 0) dX12_again_23 (by decide) ?_
    exact n_zret (pc := 24) dX12_again_24 rfl (by decide) (Nat.le_refl _) (Nat.le_refl _) h
  · replace h := h.2 c
    refine r_aload_n (pc := 14) (x := 177) dX12_again_14 rfl ?_
    refine n_getR (pc := 15) (j := 30) (q := 191) dX12_again_15 fl_RX12_51 (by decide) sh_177 rfl rfl rfl ?_
    refine r_iload_n (pc := 18) (x := x1) dX12_again_18 rfl ?_
    obtain ⟨b2, h⟩ := h
    refine n_zald (pc := 19) (j := (ix x1)) dX12_again_19 (by decide) sh_191 b2 rfl ?_
    refine r_if_ne (pc := 20) (tgt := 25) dX12_again_20 (by decide) (fun c => ?_) (fun c => ?_)
    · replace h := h.1 c
      refine r_iconst (pc := 25) (v := 0) dX12_again_25 (by decide) ?_
      refine r_istore_n (pc := 26) (L' := [some (.ref 177), some (.int x1), some (.int 0)]) dX12_again_26 rfl (by decide) rfl ?_
      refine n_L (L' := [some (.ref 177), some (.int x1), some (.int 0)]) (le_s (le_s (le_s (le_e)))) ?_
      obtain ⟨n, h⟩ := h
      exact pX12_again_27  n _ _ h 
    · replace h := h.2 c
      refine r_iconst (pc := 23) (v := 0) dX12_again_23 (by decide) ?_
      exact n_zret (pc := 24) dX12_again_24 rfl (by decide) (Nat.le_refl _) (Nat.le_refl _) h
def wX12_readingMany_4  (Q : Int32 → gS → Prop)  : Nat → Int32 → Int32 → gS → Prop
  | 0, _, _, _ => False
  | n + 1, y1, y2, s => (6 ≤ y2 → Q y1 s) ∧ (¬ (6 ≤ y2) → vp_in (2 + y2) 218 ∧ (wX12_readingMany_4  Q n (y1 + (jmax 0 (gi s 178 (ix (2 + y2))))) (y2 + 1) s))
set_option maxRecDepth 20000 in
theorem pX12_readingMany_4 {l : Launch} {X : gX}   {Q : Int32 → gS → Prop}  : ∀ (n : Nat) (y1 : Int32) (y2 : Int32) (s : gS) (h : wX12_readingMany_4  Q n y1 y2 s) , Gw l mX12_readingMany (g_rm 2 0 0) X 4 [some (.ref 177), some (.int y1), some (.int y2)] [] (nrm s) 0 0 (g_Z X (q_i Q) 0 0) := by
  intro n
  induction n with
  | zero => intro y1 y2 s h; exact h.elim
  | succ n ih0 =>
    intro y1 y2 s h 
    have ih : ∀ (y1 : Int32) (y2 : Int32) (s : gS), wX12_readingMany_4  Q n y1 y2 s → Gw l mX12_readingMany (g_rm 2 0 0) X 4 [some (.ref 177), some (.int y1), some (.int y2)] [] (nrm s) 0 0 (g_Z X (q_i Q) 0 0) := fun y1 y2 s h => ih0 y1 y2 s h 
    refine r_iload_n (pc := 4) (x := y2) dX12_readingMany_4 rfl ?_
    refine r_bipush (pc := 5) (v := 6) dX12_readingMany_5 (by decide) ?_
    refine r_icmp_ge (pc := 7) (tgt := 31) dX12_readingMany_7 (by decide) (fun c => ?_) (fun c => ?_)
    · replace h := h.1 c
      refine r_iload_n (pc := 31) (x := y1) dX12_readingMany_31 rfl ?_
      exact n_iret (pc := 32) dX12_readingMany_32 rfl (Nat.le_refl _) (Nat.le_refl _) h
    · replace h := h.2 c
      refine r_iload_n (pc := 10) (x := y1) dX12_readingMany_10 rfl ?_
      refine r_iconst (pc := 11) (v := 0) dX12_readingMany_11 (by decide) ?_
      refine r_aload_n (pc := 12) (x := 177) dX12_readingMany_12 rfl ?_
      refine n_getR (pc := 13) (j := 0) (q := 178) dX12_readingMany_13 fl_RX12_9 (by decide) sh_177 rfl rfl rfl ?_
      refine r_iconst (pc := 16) (v := 2) dX12_readingMany_16 (by decide) ?_
      refine r_iload_n (pc := 17) (x := y2) dX12_readingMany_17 rfl ?_
      refine r_iadd (pc := 18) dX12_readingMany_18 ?_
      obtain ⟨b1, h⟩ := h
      refine n_iald (pc := 19) (j := (ix (2 + y2))) dX12_readingMany_19 (by decide) sh_178 b1 rfl ?_
      refine n_max (pc := 20) dX12_readingMany_20 lk_RX12_179 ⟨Nat.le_of_ble_eq_true rfl, Nat.le_of_ble_eq_true rfl⟩ ⟨Nat.zero_le _, Nat.zero_le _⟩ ?_
      refine r_iadd (pc := 23) dX12_readingMany_23 ?_
      refine r_istore_n (pc := 24) (L' := [some (.ref 177), some (.int (y1 + (jmax 0 (gi s 178 (ix (2 + y2)))))), some (.int y2)]) dX12_readingMany_24 rfl (by decide) rfl ?_
      refine n_iinc (pc := 25) (x := y2) (w := 1) (L' := [some (.ref 177), some (.int (y1 + (jmax 0 (gi s 178 (ix (2 + y2)))))), some (.int (y2 + 1))]) dX12_readingMany_25 rfl (by decide) rfl (by decide) rfl ?_
      refine r_goto (pc := 28) (tgt := 4) dX12_readingMany_28 (by decide) ?_
      refine n_L (L' := [some (.ref 177), some (.int (y1 + (jmax 0 (gi s 178 (ix (2 + y2)))))), some (.int (y2 + 1))]) (le_s (le_s (le_s (le_e)))) ?_
      exact ih _ _ _ h
def wpX12_readingMany  (s : gS) (Q : Int32 → gS → Prop) : Prop := ∃ n4, wX12_readingMany_4  Q n4 0 0 s
set_option maxRecDepth 20000 in
theorem spX12_readingMany {l : Launch}   {s : gS} {Q : Int32 → gS → Prop} (h : wpX12_readingMany  s Q) : Ct l mX12_readingMany 2 0 0 [.ref 177] (nrm s) (q_i Q) := by
  refine Ct.of (by decide) (Nat.le_of_ble_eq_true rfl) (fun X => ?_)
  refine n_L (L' := [some (.ref 177), none, none]) (le_s (le_p (le_p (le_e)))) ?_
  refine r_iconst (pc := 0) (v := 0) dX12_readingMany_0 (by decide) ?_
  refine r_istore_n (pc := 1) (L' := [some (.ref 177), some (.int 0), none]) dX12_readingMany_1 rfl (by decide) rfl ?_
  refine r_iconst (pc := 2) (v := 0) dX12_readingMany_2 (by decide) ?_
  refine r_istore_n (pc := 3) (L' := [some (.ref 177), some (.int 0), some (.int 0)]) dX12_readingMany_3 rfl (by decide) rfl ?_
  refine n_L (L' := [some (.ref 177), some (.int 0), some (.int 0)]) (le_s (le_s (le_s (le_e)))) ?_
  obtain ⟨n, h⟩ := h
  exact pX12_readingMany_4  n _ _ _ h 
def wX12_inAll_4  (Q : Int32 → gS → Prop)  : Nat → Int32 → Int32 → gS → Prop
  | 0, _, _, _ => False
  | n + 1, y1, y2, s => (6 ≤ y2 → Q y1 s) ∧ (¬ (6 ≤ y2) → wpX12_inMany y2 s (fun r1 s1 => wX12_inAll_4  Q n (y1 + r1) (y2 + 1) s1))
set_option maxRecDepth 20000 in
theorem pX12_inAll_4 {l : Launch} {X : gX}   {Q : Int32 → gS → Prop}  : ∀ (n : Nat) (y1 : Int32) (y2 : Int32) (s : gS) (h : wX12_inAll_4  Q n y1 y2 s) , Gw l mX12_inAll (g_rm 4 0 0) X 4 [some (.ref 177), some (.int y1), some (.int y2)] [] (nrm s) 0 0 (g_Z X (q_i Q) 0 0) := by
  intro n
  induction n with
  | zero => intro y1 y2 s h; exact h.elim
  | succ n ih0 =>
    intro y1 y2 s h 
    have ih : ∀ (y1 : Int32) (y2 : Int32) (s : gS), wX12_inAll_4  Q n y1 y2 s → Gw l mX12_inAll (g_rm 4 0 0) X 4 [some (.ref 177), some (.int y1), some (.int y2)] [] (nrm s) 0 0 (g_Z X (q_i Q) 0 0) := fun y1 y2 s h => ih0 y1 y2 s h 
    refine r_iload_n (pc := 4) (x := y2) dX12_inAll_4 rfl ?_
    refine r_bipush (pc := 5) (v := 6) dX12_inAll_5 (by decide) ?_
    refine r_icmp_ge (pc := 7) (tgt := 24) dX12_inAll_7 (by decide) (fun c => ?_) (fun c => ?_)
    · replace h := h.1 c
      refine r_iload_n (pc := 24) (x := y1) dX12_inAll_24 rfl ?_
      exact n_iret (pc := 25) dX12_inAll_25 rfl (Nat.le_refl _) (Nat.le_refl _) h
    · replace h := h.2 c
      refine r_iload_n (pc := 10) (x := y1) dX12_inAll_10 rfl ?_
      refine r_aload_n (pc := 11) (x := 177) dX12_inAll_11 rfl ?_
      refine r_iload_n (pc := 12) (x := y2) dX12_inAll_12 rfl ?_
      refine n_Vi0 (pc := 13) (S0 := [.int y1]) (spX12_inMany h) gmX12_inMany selX12_inMany lk_RX12_465 dX12_inAll_13 rfl (by decide) sh_177 ⟨rfl, by decide⟩ rfl ⟨Nat.le_of_ble_eq_true rfl, Nat.le_of_ble_eq_true rfl⟩ (Nat.le_of_ble_eq_true rfl) ⟨Nat.zero_le _, Nat.zero_le _⟩ (fun r1 s1 h => ?_)
      refine r_iadd (pc := 16) dX12_inAll_16 ?_
      refine r_istore_n (pc := 17) (L' := [some (.ref 177), some (.int (y1 + r1)), some (.int y2)]) dX12_inAll_17 rfl (by decide) rfl ?_
      refine n_iinc (pc := 18) (x := y2) (w := 1) (L' := [some (.ref 177), some (.int (y1 + r1)), some (.int (y2 + 1))]) dX12_inAll_18 rfl (by decide) rfl (by decide) rfl ?_
      refine r_goto (pc := 21) (tgt := 4) dX12_inAll_21 (by decide) ?_
      refine n_L (L' := [some (.ref 177), some (.int (y1 + r1)), some (.int (y2 + 1))]) (le_s (le_s (le_s (le_e)))) ?_
      exact ih _ _ _ h
def wpX12_inAll  (s : gS) (Q : Int32 → gS → Prop) : Prop := ∃ n4, wX12_inAll_4  Q n4 0 0 s
set_option maxRecDepth 20000 in
theorem spX12_inAll {l : Launch}   {s : gS} {Q : Int32 → gS → Prop} (h : wpX12_inAll  s Q) : Ct l mX12_inAll 4 0 0 [.ref 177] (nrm s) (q_i Q) := by
  refine Ct.of (by decide) (Nat.le_of_ble_eq_true rfl) (fun X => ?_)
  refine n_L (L' := [some (.ref 177), none, none]) (le_s (le_p (le_p (le_e)))) ?_
  refine r_iconst (pc := 0) (v := 0) dX12_inAll_0 (by decide) ?_
  refine r_istore_n (pc := 1) (L' := [some (.ref 177), some (.int 0), none]) dX12_inAll_1 rfl (by decide) rfl ?_
  refine r_iconst (pc := 2) (v := 0) dX12_inAll_2 (by decide) ?_
  refine r_istore_n (pc := 3) (L' := [some (.ref 177), some (.int 0), some (.int 0)]) dX12_inAll_3 rfl (by decide) rfl ?_
  refine n_L (L' := [some (.ref 177), some (.int 0), some (.int 0)]) (le_s (le_s (le_s (le_e)))) ?_
  obtain ⟨n, h⟩ := h
  exact pX12_inAll_4  n _ _ _ h 
def wX12_toldBits_4  (Q : Int32 → gS → Prop)  : Nat → Int32 → Int32 → gS → Prop
  | 0, _, _, _ => False
  | n + 1, y1, y2, s => (6 ≤ y2 → Q y1 s) ∧ (¬ (6 ≤ y2) → wpX12_isTold y2 s (fun r1 s1 => (r1 = 0 → wX12_toldBits_4  Q n (y1 ||| 0) (y2 + 1) s1) ∧ (¬ (r1 = 0) → wX12_toldBits_4  Q n (y1 ||| (jshl 1 y2)) (y2 + 1) s1)))
set_option maxRecDepth 20000 in
theorem pX12_toldBits_4 {l : Launch} {X : gX}   {Q : Int32 → gS → Prop}  : ∀ (n : Nat) (y1 : Int32) (y2 : Int32) (s : gS) (h : wX12_toldBits_4  Q n y1 y2 s) , Gw l mX12_toldBits (g_rm 4 0 0) X 4 [some (.ref 177), some (.int y1), some (.int y2)] [] (nrm s) 0 0 (g_Z X (q_i Q) 0 0) := by
  intro n
  induction n with
  | zero => intro y1 y2 s h; exact h.elim
  | succ n ih0 =>
    intro y1 y2 s h 
    have ih : ∀ (y1 : Int32) (y2 : Int32) (s : gS), wX12_toldBits_4  Q n y1 y2 s → Gw l mX12_toldBits (g_rm 4 0 0) X 4 [some (.ref 177), some (.int y1), some (.int y2)] [] (nrm s) 0 0 (g_Z X (q_i Q) 0 0) := fun y1 y2 s h => ih0 y1 y2 s h 
    refine r_iload_n (pc := 4) (x := y2) dX12_toldBits_4 rfl ?_
    refine r_bipush (pc := 5) (v := 6) dX12_toldBits_5 (by decide) ?_
    refine r_icmp_ge (pc := 7) (tgt := 34) dX12_toldBits_7 (by decide) (fun c => ?_) (fun c => ?_)
    · replace h := h.1 c
      refine r_iload_n (pc := 34) (x := y1) dX12_toldBits_34 rfl ?_
      exact n_iret (pc := 35) dX12_toldBits_35 rfl (Nat.le_refl _) (Nat.le_refl _) h
    · replace h := h.2 c
      refine r_iload_n (pc := 10) (x := y1) dX12_toldBits_10 rfl ?_
      refine r_aload_n (pc := 11) (x := 177) dX12_toldBits_11 rfl ?_
      refine r_iload_n (pc := 12) (x := y2) dX12_toldBits_12 rfl ?_
      refine n_Vi0 (pc := 13) (S0 := [.int y1]) (spX12_isTold h) gmX12_isTold selX12_isTold lk_RX12_330 dX12_toldBits_13 rfl (by decide) sh_177 ⟨rfl, by decide⟩ rfl ⟨Nat.le_of_ble_eq_true rfl, Nat.le_of_ble_eq_true rfl⟩ (Nat.le_of_ble_eq_true rfl) ⟨Nat.zero_le _, Nat.zero_le _⟩ (fun r1 s1 h => ?_)
      refine r_if_eq (pc := 16) (tgt := 25) dX12_toldBits_16 (by decide) (fun c => ?_) (fun c => ?_)
      · replace h := h.1 c
        refine r_iconst (pc := 25) (v := 0) dX12_toldBits_25 (by decide) ?_
        refine r_ior (pc := 26) dX12_toldBits_26 ?_
        refine r_istore_n (pc := 27) (L' := [some (.ref 177), some (.int (y1 ||| 0)), some (.int y2)]) dX12_toldBits_27 rfl (by decide) rfl ?_
        refine n_iinc (pc := 28) (x := y2) (w := 1) (L' := [some (.ref 177), some (.int (y1 ||| 0)), some (.int (y2 + 1))]) dX12_toldBits_28 rfl (by decide) rfl (by decide) rfl ?_
        refine r_goto (pc := 31) (tgt := 4) dX12_toldBits_31 (by decide) ?_
        refine n_L (L' := [some (.ref 177), some (.int (y1 ||| 0)), some (.int (y2 + 1))]) (le_s (le_s (le_s (le_e)))) ?_
        exact ih _ _ _ h
      · replace h := h.2 c
        refine r_iconst (pc := 19) (v := 1) dX12_toldBits_19 (by decide) ?_
        refine r_iload_n (pc := 20) (x := y2) dX12_toldBits_20 rfl ?_
        refine n_ishl (pc := 21) dX12_toldBits_21 ?_
        refine r_goto (pc := 22) (tgt := 26) dX12_toldBits_22 (by decide) ?_
        refine r_ior (pc := 26) dX12_toldBits_26 ?_
        refine r_istore_n (pc := 27) (L' := [some (.ref 177), some (.int (y1 ||| (jshl 1 y2))), some (.int y2)]) dX12_toldBits_27 rfl (by decide) rfl ?_
        refine n_iinc (pc := 28) (x := y2) (w := 1) (L' := [some (.ref 177), some (.int (y1 ||| (jshl 1 y2))), some (.int (y2 + 1))]) dX12_toldBits_28 rfl (by decide) rfl (by decide) rfl ?_
        refine r_goto (pc := 31) (tgt := 4) dX12_toldBits_31 (by decide) ?_
        refine n_L (L' := [some (.ref 177), some (.int (y1 ||| (jshl 1 y2))), some (.int (y2 + 1))]) (le_s (le_s (le_s (le_e)))) ?_
        exact ih _ _ _ h
def wpX12_toldBits  (s : gS) (Q : Int32 → gS → Prop) : Prop := ∃ n4, wX12_toldBits_4  Q n4 0 0 s
set_option maxRecDepth 20000 in
theorem spX12_toldBits {l : Launch}   {s : gS} {Q : Int32 → gS → Prop} (h : wpX12_toldBits  s Q) : Ct l mX12_toldBits 4 0 0 [.ref 177] (nrm s) (q_i Q) := by
  refine Ct.of (by decide) (Nat.le_of_ble_eq_true rfl) (fun X => ?_)
  refine n_L (L' := [some (.ref 177), none, none]) (le_s (le_p (le_p (le_e)))) ?_
  refine r_iconst (pc := 0) (v := 0) dX12_toldBits_0 (by decide) ?_
  refine r_istore_n (pc := 1) (L' := [some (.ref 177), some (.int 0), none]) dX12_toldBits_1 rfl (by decide) rfl ?_
  refine r_iconst (pc := 2) (v := 0) dX12_toldBits_2 (by decide) ?_
  refine r_istore_n (pc := 3) (L' := [some (.ref 177), some (.int 0), some (.int 0)]) dX12_toldBits_3 rfl (by decide) rfl ?_
  refine n_L (L' := [some (.ref 177), some (.int 0), some (.int 0)]) (le_s (le_s (le_s (le_e)))) ?_
  obtain ⟨n, h⟩ := h
  exact pX12_toldBits_4  n _ _ _ h 
def wpX12_leftNow  (s : gS) (Q : Int32 → gS → Prop) : Prop := wpX12_survey s (fun s1 => wpX12_leftAll s1 (fun r2 s2 => Q r2 s2))
set_option maxRecDepth 20000 in
theorem spX12_leftNow {l : Launch}   {s : gS} {Q : Int32 → gS → Prop} (h : wpX12_leftNow  s Q) : Ct l mX12_leftNow 7 0 0 [.ref 177] (nrm s) (q_i Q) := by
  refine Ct.of (by decide) (Nat.le_of_ble_eq_true rfl) (fun X => ?_)
  refine n_L (L' := [some (.ref 177)]) (le_s (le_e)) ?_
  refine r_aload_n (pc := 0) (x := 177) dX12_leftNow_0 rfl ?_
  refine n_Vv0 (pc := 1) (S0 := []) (spX12_survey h) gmX12_survey selX12_survey lk_RX12_388 dX12_leftNow_1 rfl (by decide) sh_177 ⟨rfl, by decide⟩ rfl ⟨Nat.le_of_ble_eq_true rfl, Nat.le_of_ble_eq_true rfl⟩ (Nat.le_of_ble_eq_true rfl) ⟨Nat.zero_le _, Nat.zero_le _⟩ (fun s1 h => ?_)
  refine r_aload_n (pc := 4) (x := 177) dX12_leftNow_4 rfl ?_
  refine n_Vi0 (pc := 5) (S0 := []) (spX12_leftAll h) gmX12_leftAll selX12_leftAll lk_RX12_421 dX12_leftNow_5 rfl (by decide) sh_177 ⟨rfl, by decide⟩ rfl ⟨Nat.le_of_ble_eq_true rfl, Nat.le_of_ble_eq_true rfl⟩ (Nat.le_of_ble_eq_true rfl) ⟨Nat.zero_le _, Nat.zero_le _⟩ (fun r2 s2 h => ?_)
  exact n_iret (pc := 8) dX12_leftNow_8 rfl (Nat.le_refl _) (Nat.le_refl _) h
def wpX12_count (x1 : Int32) (s : gS) (Q : Int32 → gS → Prop) : Prop := (x1 = 0 → wpX12_toldBits (wi s 177 5 0) (fun r1 s1 => Q r1 s1)) ∧ (x1 = 1 → Q (gi (wi s 177 5 0) 178 1) (wi s 177 5 0)) ∧ (x1 = 2 → Q (gi (wi s 177 5 0) 178 0) (wi s 177 5 0)) ∧ (x1 = 3 → wpX12_readingMany (wi s 177 5 0) (fun r2 s2 => Q r2 s2)) ∧ (x1 = 4 → wpX12_inAll (wi s 177 5 0) (fun r3 s3 => Q r3 s3)) ∧ (x1 = 5 → wpX12_leftNow (wi s 177 5 0) (fun r4 s4 => Q r4 s4)) ∧ (x1 = 6 → Q (gi (wi s 177 5 0) 177 26) (wi s 177 5 0)) ∧ (x1 = 7 → Q (gi (wi s 177 5 0) 177 4) (wi s 177 5 0)) ∧ (x1 = 8 → Q (gi (wi s 177 5 0) 177 2) (wi s 177 5 0)) ∧ (¬ x1 = 0 → ¬ x1 = 1 → ¬ x1 = 2 → ¬ x1 = 3 → ¬ x1 = 4 → ¬ x1 = 5 → ¬ x1 = 6 → ¬ x1 = 7 → ¬ x1 = 8 → Q (-1) (wi s 177 5 0))
set_option maxRecDepth 20000 in
theorem spX12_count {l : Launch} {x1 : Int32}  {s : gS} {Q : Int32 → gS → Prop} (h : wpX12_count x1 s Q) : Ct l mX12_count 8 0 0 [.ref 177, .int x1] (nrm s) (q_i Q) := by
  refine Ct.of (by decide) (Nat.le_of_ble_eq_true rfl) (fun X => ?_)
  refine n_L (L' := [some (.ref 177), some (.int x1)]) (le_s (le_s (le_e))) ?_
  refine r_aload_n (pc := 0) (x := 177) dX12_count_0 rfl ?_
  refine r_iconst (pc := 1) (v := 0) dX12_count_1 (by decide) ?_
  refine n_putI (pc := 2) (j := 5) dX12_count_2 fl_RX12_55 fw_12_5 (by decide) sh_177 rfl rfl ?_
  refine r_iload_n (pc := 5) (x := x1) dX12_count_5 rfl ?_
  by_cases c5_0 : x1 = 0
  · replace h := h.1 c5_0
    refine r_tableIn (pc := 6) (off := 50) (tgt := 56) dX12_count_6 (by rw [c5_0]; decide) (by rw [c5_0]; decide) (by rw [c5_0]; decide) (by decide) ?_
    refine r_aload_n (pc := 56) (x := 177) dX12_count_56 rfl ?_
    refine n_Vi0 (pc := 57) (S0 := []) (spX12_toldBits h) gmX12_toldBits selX12_toldBits lk_RX12_496 dX12_count_57 rfl (by decide) sh_177 ⟨rfl, by decide⟩ rfl ⟨Nat.le_of_ble_eq_true rfl, Nat.le_of_ble_eq_true rfl⟩ (Nat.le_of_ble_eq_true rfl) ⟨Nat.zero_le _, Nat.zero_le _⟩ (fun r1 s1 h => ?_)
    exact n_iret (pc := 60) dX12_count_60 rfl (Nat.le_refl _) (Nat.le_refl _) h
  by_cases c5_1 : x1 = 1
  · replace h := h.2.1 c5_1
    refine r_tableIn (pc := 6) (off := 55) (tgt := 61) dX12_count_6 (by rw [c5_1]; decide) (by rw [c5_1]; decide) (by rw [c5_1]; decide) (by decide) ?_
    refine r_aload_n (pc := 61) (x := 177) dX12_count_61 rfl ?_
    refine n_getR (pc := 62) (j := 0) (q := 178) dX12_count_62 fl_RX12_9 (by decide) sh_177 rfl rfl rfl ?_
    refine r_iconst (pc := 65) (v := 1) dX12_count_65 (by decide) ?_
    refine n_iald (pc := 66) (j := 1) dX12_count_66 (by decide) sh_178 (vp_inc (by decide)) (by decide) ?_
    exact n_iret (pc := 67) dX12_count_67 rfl (Nat.le_refl _) (Nat.le_refl _) h
  by_cases c5_2 : x1 = 2
  · replace h := h.2.2.1 c5_2
    refine r_tableIn (pc := 6) (off := 62) (tgt := 68) dX12_count_6 (by rw [c5_2]; decide) (by rw [c5_2]; decide) (by rw [c5_2]; decide) (by decide) ?_
    refine r_aload_n (pc := 68) (x := 177) dX12_count_68 rfl ?_
    refine n_getR (pc := 69) (j := 0) (q := 178) dX12_count_69 fl_RX12_9 (by decide) sh_177 rfl rfl rfl ?_
    refine r_iconst (pc := 72) (v := 0) dX12_count_72 (by decide) ?_
    refine n_iald (pc := 73) (j := 0) dX12_count_73 (by decide) sh_178 (vp_inc (by decide)) (by decide) ?_
    exact n_iret (pc := 74) dX12_count_74 rfl (Nat.le_refl _) (Nat.le_refl _) h
  by_cases c5_3 : x1 = 3
  · replace h := h.2.2.2.1 c5_3
    refine r_tableIn (pc := 6) (off := 69) (tgt := 75) dX12_count_6 (by rw [c5_3]; decide) (by rw [c5_3]; decide) (by rw [c5_3]; decide) (by decide) ?_
    refine r_aload_n (pc := 75) (x := 177) dX12_count_75 rfl ?_
    refine n_Vi0 (pc := 76) (S0 := []) (spX12_readingMany h) gmX12_readingMany selX12_readingMany lk_RX12_499 dX12_count_76 rfl (by decide) sh_177 ⟨rfl, by decide⟩ rfl ⟨Nat.le_of_ble_eq_true rfl, Nat.le_of_ble_eq_true rfl⟩ (Nat.le_of_ble_eq_true rfl) ⟨Nat.zero_le _, Nat.zero_le _⟩ (fun r2 s2 h => ?_)
    exact n_iret (pc := 79) dX12_count_79 rfl (Nat.le_refl _) (Nat.le_refl _) h
  by_cases c5_4 : x1 = 4
  · replace h := h.2.2.2.2.1 c5_4
    refine r_tableIn (pc := 6) (off := 74) (tgt := 80) dX12_count_6 (by rw [c5_4]; decide) (by rw [c5_4]; decide) (by rw [c5_4]; decide) (by decide) ?_
    refine r_aload_n (pc := 80) (x := 177) dX12_count_80 rfl ?_
    refine n_Vi0 (pc := 81) (S0 := []) (spX12_inAll h) gmX12_inAll selX12_inAll lk_RX12_502 dX12_count_81 rfl (by decide) sh_177 ⟨rfl, by decide⟩ rfl ⟨Nat.le_of_ble_eq_true rfl, Nat.le_of_ble_eq_true rfl⟩ (Nat.le_of_ble_eq_true rfl) ⟨Nat.zero_le _, Nat.zero_le _⟩ (fun r3 s3 h => ?_)
    exact n_iret (pc := 84) dX12_count_84 rfl (Nat.le_refl _) (Nat.le_refl _) h
  by_cases c5_5 : x1 = 5
  · replace h := h.2.2.2.2.2.1 c5_5
    refine r_tableIn (pc := 6) (off := 79) (tgt := 85) dX12_count_6 (by rw [c5_5]; decide) (by rw [c5_5]; decide) (by rw [c5_5]; decide) (by decide) ?_
    refine r_aload_n (pc := 85) (x := 177) dX12_count_85 rfl ?_
    refine n_Vi0 (pc := 86) (S0 := []) (spX12_leftNow h) gmX12_leftNow selX12_leftNow lk_RX12_505 dX12_count_86 rfl (by decide) sh_177 ⟨rfl, by decide⟩ rfl ⟨Nat.le_of_ble_eq_true rfl, Nat.le_of_ble_eq_true rfl⟩ (Nat.le_of_ble_eq_true rfl) ⟨Nat.zero_le _, Nat.zero_le _⟩ (fun r4 s4 h => ?_)
    exact n_iret (pc := 89) dX12_count_89 rfl (Nat.le_refl _) (Nat.le_refl _) h
  by_cases c5_6 : x1 = 6
  · replace h := h.2.2.2.2.2.2.1 c5_6
    refine r_tableIn (pc := 6) (off := 84) (tgt := 90) dX12_count_6 (by rw [c5_6]; decide) (by rw [c5_6]; decide) (by rw [c5_6]; decide) (by decide) ?_
    refine r_aload_n (pc := 90) (x := 177) dX12_count_90 rfl ?_
    refine n_getI (pc := 91) (j := 26) dX12_count_91 fl_RX12_445 (by decide) sh_177 rfl rfl ?_
    exact n_iret (pc := 94) dX12_count_94 rfl (Nat.le_refl _) (Nat.le_refl _) h
  by_cases c5_7 : x1 = 7
  · replace h := h.2.2.2.2.2.2.2.1 c5_7
    refine r_tableIn (pc := 6) (off := 89) (tgt := 95) dX12_count_6 (by rw [c5_7]; decide) (by rw [c5_7]; decide) (by rw [c5_7]; decide) (by decide) ?_
    refine r_aload_n (pc := 95) (x := 177) dX12_count_95 rfl ?_
    refine n_getI (pc := 96) (j := 4) dX12_count_96 fl_RX12_59 (by decide) sh_177 rfl rfl ?_
    exact n_iret (pc := 99) dX12_count_99 rfl (Nat.le_refl _) (Nat.le_refl _) h
  by_cases c5_8 : x1 = 8
  · replace h := h.2.2.2.2.2.2.2.2.1 c5_8
    refine r_tableIn (pc := 6) (off := 94) (tgt := 100) dX12_count_6 (by rw [c5_8]; decide) (by rw [c5_8]; decide) (by rw [c5_8]; decide) (by decide) ?_
    refine r_aload_n (pc := 100) (x := 177) dX12_count_100 rfl ?_
    refine n_getI (pc := 101) (j := 2) dX12_count_101 fl_RX12_109 (by decide) sh_177 rfl rfl ?_
    exact n_iret (pc := 104) dX12_count_104 rfl (Nat.le_refl _) (Nat.le_refl _) h
  replace h := h.2.2.2.2.2.2.2.2.2 c5_0 c5_1 c5_2 c5_3 c5_4 c5_5 c5_6 c5_7 c5_8
  refine r_tableOut (pc := 6) (tgt := 105) dX12_count_6 (by have e0 := lv_neT c5_0 (show (0 : Int32).toInt = 0 by decide); have e1 := lv_neT c5_1 (show (1 : Int32).toInt = 1 by decide); have e2 := lv_neT c5_2 (show (2 : Int32).toInt = 2 by decide); have e3 := lv_neT c5_3 (show (3 : Int32).toInt = 3 by decide); have e4 := lv_neT c5_4 (show (4 : Int32).toInt = 4 by decide); have e5 := lv_neT c5_5 (show (5 : Int32).toInt = 5 by decide); have e6 := lv_neT c5_6 (show (6 : Int32).toInt = 6 by decide); have e7 := lv_neT c5_7 (show (7 : Int32).toInt = 7 by decide); have e8 := lv_neT c5_8 (show (8 : Int32).toInt = 8 by decide); omega) (by decide) ?_
  refine r_iconst (pc := 105) (v := (-1)) dX12_count_105 (by decide) ?_
  exact n_iret (pc := 106) dX12_count_106 rfl (Nat.le_refl _) (Nat.le_refl _) h
def wpX12_row (x1 : Int32) (s : gS) (Q : Int64 → gS → Prop) : Prop := wpX12_in x1 0 ((gi (wi s 177 5 0) 177 4) - 1) (wi s 177 5 0) (fun r1 s1 => (r1 = 0 → wpX12_lost s1 (fun r2 s2 => Q r2.toInt64 s2)) ∧ (¬ (r1 = 0) → vp_in x1 64 ∧ (Q (gl s1 180 (ix x1)) s1)))
set_option maxRecDepth 20000 in
theorem spX12_row {l : Launch} {x1 : Int32}  {s : gS} {Q : Int64 → gS → Prop} (h : wpX12_row x1 s Q) : Ct l mX12_row 2 0 0 [.ref 177, .int x1] (nrm s) (q_l Q) := by
  refine Ct.of (by decide) (Nat.le_of_ble_eq_true rfl) (fun X => ?_)
  refine n_L (L' := [some (.ref 177), some (.int x1)]) (le_s (le_s (le_e))) ?_
  refine r_aload_n (pc := 0) (x := 177) dX12_row_0 rfl ?_
  refine r_iconst (pc := 1) (v := 0) dX12_row_1 (by decide) ?_
  refine n_putI (pc := 2) (j := 5) dX12_row_2 fl_RX12_55 fw_12_5 (by decide) sh_177 rfl rfl ?_
  refine r_iload_n (pc := 5) (x := x1) dX12_row_5 rfl ?_
  refine r_iconst (pc := 6) (v := 0) dX12_row_6 (by decide) ?_
  refine r_aload_n (pc := 7) (x := 177) dX12_row_7 rfl ?_
  refine n_getI (pc := 8) (j := 4) dX12_row_8 fl_RX12_59 (by decide) sh_177 rfl rfl ?_
  refine r_iconst (pc := 11) (v := 1) dX12_row_11 (by decide) ?_
  refine r_isub (pc := 12) dX12_row_12 ?_
  refine n_Si0 (pc := 13) (S0 := []) (spX12_in h) gmX12_in lk_RX12_62 dX12_row_13 rfl rfl ⟨Nat.le_of_ble_eq_true rfl, Nat.le_of_ble_eq_true rfl⟩ (Nat.le_of_ble_eq_true rfl) ⟨Nat.zero_le _, Nat.zero_le _⟩ (fun r1 s1 h => ?_)
  refine r_if_eq (pc := 16) (tgt := 28) dX12_row_16 (by decide) (fun c => ?_) (fun c => ?_)
  · replace h := h.1 c
    refine r_aload_n (pc := 28) (x := 177) dX12_row_28 rfl ?_
    refine n_Vi0 (pc := 29) (S0 := []) (spX12_lost h) gmX12_lost selX12_lost lk_RX12_394 dX12_row_29 rfl (by decide) sh_177 ⟨rfl, by decide⟩ rfl ⟨Nat.le_of_ble_eq_true rfl, Nat.le_of_ble_eq_true rfl⟩ (Nat.le_of_ble_eq_true rfl) ⟨Nat.zero_le _, Nat.zero_le _⟩ (fun r2 s2 h => ?_)
    refine r_i2l (pc := 32) dX12_row_32 ?_
    exact n_lret (pc := 33) dX12_row_33 rfl (Nat.le_refl _) (Nat.le_refl _) h
  · replace h := h.2 c
    refine r_aload_n (pc := 19) (x := 177) dX12_row_19 rfl ?_
    refine n_getR (pc := 20) (j := 3) (q := 180) dX12_row_20 fl_RX12_17 (by decide) sh_177 rfl rfl rfl ?_
    refine r_iload_n (pc := 23) (x := x1) dX12_row_23 rfl ?_
    obtain ⟨b3, h⟩ := h
    refine n_lald (pc := 24) (j := (ix x1)) dX12_row_24 (by decide) sh_180 b3 rfl ?_
    refine r_goto (pc := 25) (tgt := 33) dX12_row_25 (by decide) ?_
    exact n_lret (pc := 33) dX12_row_33 rfl (Nat.le_refl _) (Nat.le_refl _) h
