def wX12_needDayName_20  (Q : Int32 → gS → Prop)  (g : Nat) (y1 : Int32) (s : gS) : Prop := wpX12_goWord s (fun s3 => Q (jmax 0 y1) s3)
set_option maxRecDepth 20000 in
theorem pX12_needDayName_20 {l : Launch} {X : gX} {G : Nat}   {Q : Int32 → gS → Prop}  (g : Nat) (y1 : Int32) (s : gS) (h : wX12_needDayName_20  Q g y1 s)  : ∀ (k n : Nat), k + 2 * g ≤ 2 * G → n + 8 * g ≤ 8 * G → Gw l mX12_needDayName (g_rm 10 (2 * G) (8 * G)) X 20 [some (.ref 177), some (.int y1)] [] (nrm s) k n (g_Z X (q_i Q) (2 * G) (8 * G)) := by
  intro k n hg1 hg2
  refine r_aload_n (pc := 20) (x := 177) dX12_needDayName_20 rfl ?_
  refine n_Vv0 (pc := 21) (S0 := []) (spX12_goWord h) gmX12_goWord selX12_goWord lk_RX12_158 dX12_needDayName_21 rfl (by decide) sh_177 ⟨rfl, by decide⟩ rfl ⟨Nat.le_of_ble_eq_true rfl, Nat.le_of_ble_eq_true rfl⟩ (Nat.le_of_ble_eq_true rfl) ⟨by show _ ≤ 2 * G; omega, by show _ ≤ 8 * G; omega⟩ (fun s3 h => ?_)
  refine r_iconst (pc := 24) (v := 0) dX12_needDayName_24 (by decide) ?_
  refine r_iload_n (pc := 25) (x := y1) dX12_needDayName_25 rfl ?_
  refine n_max (pc := 26) dX12_needDayName_26 lk_RX12_179 ⟨Nat.le_of_ble_eq_true rfl, Nat.le_of_ble_eq_true rfl⟩ ⟨by show _ ≤ 2 * G; omega, by show _ ≤ 8 * G; omega⟩ ?_
  exact n_iret (pc := 29) dX12_needDayName_29 rfl (by omega) (by omega) h
def wpX12_needDayName (g : Nat) (s : gS) (Q : Int32 → gS → Prop) : Prop := ∃ g1a g1b, g1a + g1b ≤ g ∧ wpX12_nameOf g1a 1014 s (fun r1 s1 => (¬ r1 = (-1) → wX12_needDayName_20  Q g1b r1 s1) ∧ (r1 = (-1) → wpX12_fault (gi s1 177 9) s1 (fun s2 => wX12_needDayName_20  Q g1b r1 s2)))
set_option maxRecDepth 20000 in
theorem spX12_needDayName {l : Launch} {g : Nat}  {s : gS} {Q : Int32 → gS → Prop} (h : wpX12_needDayName g s Q) : Ct l mX12_needDayName 10 (2 * g) (8 * g) [.ref 177] (nrm s) (q_i Q) := by
  refine Ct.of (by decide) (Nat.le_of_ble_eq_true rfl) (fun X => ?_)
  refine n_L (L' := [some (.ref 177), none]) (le_s (le_p (le_e))) ?_
  have hg1 : 0 + 2 * g ≤ 2 * g := by omega
  have hg2 : 0 + 8 * g ≤ 8 * g := by omega
  refine r_aload_n (pc := 0) (x := 177) dX12_needDayName_0 rfl ?_
  refine n_ldcS (pc := 1) (i := 14) dX12_needDayName_1 sr_RX12_182 ?_
  obtain ⟨g1a, g1b, hg1, h⟩ := h
  refine n_Vi (pc := 3) (S0 := []) (spX12_nameOf h) gmX12_nameOf selX12_nameOf lk_RX12_184 dX12_needDayName_3 rfl (by decide) sh_177 ⟨rfl, by decide⟩ rfl ⟨Nat.le_of_ble_eq_true rfl, Nat.le_of_ble_eq_true rfl⟩ (Nat.le_of_ble_eq_true rfl) ⟨by show _ ≤ 2 * g; omega, by show _ ≤ 8 * g; omega⟩ (fun r1 s1 h => ?_)
  refine r_istore_n (pc := 6) (L' := [some (.ref 177), some (.int r1)]) dX12_needDayName_6 rfl (by decide) rfl ?_
  refine r_iload_n (pc := 7) (x := r1) dX12_needDayName_7 rfl ?_
  refine r_iconst (pc := 8) (v := (-1)) dX12_needDayName_8 (by decide) ?_
  refine r_icmp_ne (pc := 9) (tgt := 20) dX12_needDayName_9 (by decide) (fun c => ?_) (fun c => ?_)
  · replace h := h.1 c
    refine n_L (L' := [some (.ref 177), some (.int r1)]) (le_s (le_s (le_e))) ?_
    exact pX12_needDayName_20  _ _ _ h  _ _ (by omega) (by omega)
  · replace h := h.2 c
    refine r_aload_n (pc := 12) (x := 177) dX12_needDayName_12 rfl ?_
    refine r_aload_n (pc := 13) (x := 177) dX12_needDayName_13 rfl ?_
    refine n_getI (pc := 14) (j := 9) dX12_needDayName_14 fl_RX12_133 (by decide) sh_177 rfl rfl ?_
    refine n_Vv0 (pc := 17) (S0 := []) (spX12_fault h) gmX12_fault selX12_fault lk_RX12_125 dX12_needDayName_17 rfl (by decide) sh_177 ⟨rfl, by decide⟩ rfl ⟨Nat.le_of_ble_eq_true rfl, Nat.le_of_ble_eq_true rfl⟩ (Nat.le_of_ble_eq_true rfl) ⟨by show _ ≤ 2 * g; omega, by show _ ≤ 8 * g; omega⟩ (fun s2 h => ?_)
    refine n_L (L' := [some (.ref 177), some (.int r1)]) (le_s (le_s (le_e))) ?_
    exact pX12_needDayName_20  _ _ _ h  _ _ (by omega) (by omega)
def wpX12_readThis (g : Nat) (s : gS) (Q : gS → Prop) : Prop := ∃ g1a g1b, g1a + g1b ≤ g ∧ wpX12_nameOf g1a 1014 s (fun r1 s1 => (¬ r1 = (-1) → wpX12_goWord s1 (fun s2 => wpX12_inWeek (gi s2 177 15) r1 s2 (fun r3 s3 => wpX12_pushDay r3 3 s3 (fun s4 => Q s4)))) ∧ (r1 = (-1) → wpX12_needUnit s1 (fun r5 s5 => wpX12_fine s5 (fun r6 s6 => (r6 = 0 → Q s6) ∧ (¬ (r6 = 0) → wpX12_pushUnit r5 (gi s6 177 15) 0 3 s6 (fun s7 => Q s7))))))
set_option maxRecDepth 20000 in
theorem spX12_readThis {l : Launch} {g : Nat}  {s : gS} {Q : gS → Prop} (h : wpX12_readThis g s Q) : Ct l mX12_readThis 10 (2 * g) (8 * g) [.ref 177] (nrm s) (q_v Q) := by
  refine Ct.of (by decide) (Nat.le_of_ble_eq_true rfl) (fun X => ?_)
  refine n_L (L' := [some (.ref 177), none, none]) (le_s (le_p (le_p (le_e)))) ?_
  have hg1 : 0 + 2 * g ≤ 2 * g := by omega
  have hg2 : 0 + 8 * g ≤ 8 * g := by omega
  refine r_aload_n (pc := 0) (x := 177) dX12_readThis_0 rfl ?_
  refine n_ldcS (pc := 1) (i := 14) dX12_readThis_1 sr_RX12_182 ?_
  obtain ⟨g1a, g1b, hg1, h⟩ := h
  refine n_Vi (pc := 3) (S0 := []) (spX12_nameOf h) gmX12_nameOf selX12_nameOf lk_RX12_184 dX12_readThis_3 rfl (by decide) sh_177 ⟨rfl, by decide⟩ rfl ⟨Nat.le_of_ble_eq_true rfl, Nat.le_of_ble_eq_true rfl⟩ (Nat.le_of_ble_eq_true rfl) ⟨by show _ ≤ 2 * g; omega, by show _ ≤ 8 * g; omega⟩ (fun r1 s1 h => ?_)
  refine r_istore_n (pc := 6) (L' := [some (.ref 177), some (.int r1), none]) dX12_readThis_6 rfl (by decide) rfl ?_
  refine r_iload_n (pc := 7) (x := r1) dX12_readThis_7 rfl ?_
  refine r_iconst (pc := 8) (v := (-1)) dX12_readThis_8 (by decide) ?_
  refine r_icmp_ne (pc := 9) (tgt := 36) dX12_readThis_9 (by decide) (fun c => ?_) (fun c => ?_)
  · replace h := h.1 c
    refine r_aload_n (pc := 36) (x := 177) dX12_readThis_36 rfl ?_
    refine n_Vv0 (pc := 37) (S0 := []) (spX12_goWord h) gmX12_goWord selX12_goWord lk_RX12_158 dX12_readThis_37 rfl (by decide) sh_177 ⟨rfl, by decide⟩ rfl ⟨Nat.le_of_ble_eq_true rfl, Nat.le_of_ble_eq_true rfl⟩ (Nat.le_of_ble_eq_true rfl) ⟨by show _ ≤ 2 * g; omega, by show _ ≤ 8 * g; omega⟩ (fun s2 h => ?_)
    refine r_aload_n (pc := 40) (x := 177) dX12_readThis_40 rfl ?_
    refine r_aload_n (pc := 41) (x := 177) dX12_readThis_41 rfl ?_
    refine n_getI (pc := 42) (j := 15) dX12_readThis_42 fl_RX12_232 (by decide) sh_177 rfl rfl ?_
    refine r_iload_n (pc := 45) (x := r1) dX12_readThis_45 rfl ?_
    refine n_Si0 (pc := 46) (S0 := [.ref 177]) (spX12_inWeek h) gmX12_inWeek lk_RX12_299 dX12_readThis_46 rfl rfl ⟨Nat.le_of_ble_eq_true rfl, Nat.le_of_ble_eq_true rfl⟩ (Nat.le_of_ble_eq_true rfl) ⟨by show _ ≤ 2 * g; omega, by show _ ≤ 8 * g; omega⟩ (fun r3 s3 h => ?_)
    refine r_iconst (pc := 49) (v := 3) dX12_readThis_49 (by decide) ?_
    refine n_Vv0 (pc := 50) (S0 := []) (spX12_pushDay h) gmX12_pushDay selX12_pushDay lk_RX12_195 dX12_readThis_50 rfl (by decide) sh_177 ⟨rfl, by decide⟩ rfl ⟨Nat.le_of_ble_eq_true rfl, Nat.le_of_ble_eq_true rfl⟩ (Nat.le_of_ble_eq_true rfl) ⟨by show _ ≤ 2 * g; omega, by show _ ≤ 8 * g; omega⟩ (fun s4 h => ?_)
    exact n_vret (pc := 53) dX12_readThis_53 rfl (by omega) (by omega) h
  · replace h := h.2 c
    refine r_aload_n (pc := 12) (x := 177) dX12_readThis_12 rfl ?_
    refine n_Vi0 (pc := 13) (S0 := []) (spX12_needUnit h) gmX12_needUnit selX12_needUnit lk_RX12_269 dX12_readThis_13 rfl (by decide) sh_177 ⟨rfl, by decide⟩ rfl ⟨Nat.le_of_ble_eq_true rfl, Nat.le_of_ble_eq_true rfl⟩ (Nat.le_of_ble_eq_true rfl) ⟨by show _ ≤ 2 * g; omega, by show _ ≤ 8 * g; omega⟩ (fun r5 s5 h => ?_)
    refine r_istore_n (pc := 16) (L' := [some (.ref 177), some (.int r1), some (.int r5)]) dX12_readThis_16 rfl (by decide) rfl ?_
    refine r_aload_n (pc := 17) (x := 177) dX12_readThis_17 rfl ?_
    refine n_Vi0 (pc := 18) (S0 := []) (spX12_fine h) gmX12_fine selX12_fine lk_RX12_121 dX12_readThis_18 rfl (by decide) sh_177 ⟨rfl, by decide⟩ rfl ⟨Nat.le_of_ble_eq_true rfl, Nat.le_of_ble_eq_true rfl⟩ (Nat.le_of_ble_eq_true rfl) ⟨by show _ ≤ 2 * g; omega, by show _ ≤ 8 * g; omega⟩ (fun r6 s6 h => ?_)
    refine r_if_eq (pc := 21) (tgt := 35) dX12_readThis_21 (by decide) (fun c => ?_) (fun c => ?_)
    · replace h := h.1 c
      exact n_vret (pc := 35) dX12_readThis_35 rfl (by omega) (by omega) h
    · replace h := h.2 c
      refine r_aload_n (pc := 24) (x := 177) dX12_readThis_24 rfl ?_
      refine r_iload_n (pc := 25) (x := r5) dX12_readThis_25 rfl ?_
      refine r_aload_n (pc := 26) (x := 177) dX12_readThis_26 rfl ?_
      refine n_getI (pc := 27) (j := 15) dX12_readThis_27 fl_RX12_232 (by decide) sh_177 rfl rfl ?_
      refine r_iconst (pc := 30) (v := 0) dX12_readThis_30 (by decide) ?_
      refine r_iconst (pc := 31) (v := 3) dX12_readThis_31 (by decide) ?_
      refine n_Vv0 (pc := 32) (S0 := []) (spX12_pushUnit h) gmX12_pushUnit selX12_pushUnit lk_RX12_290 dX12_readThis_32 rfl (by decide) sh_177 ⟨rfl, by decide⟩ rfl ⟨Nat.le_of_ble_eq_true rfl, Nat.le_of_ble_eq_true rfl⟩ (Nat.le_of_ble_eq_true rfl) ⟨by show _ ≤ 2 * g; omega, by show _ ≤ 8 * g; omega⟩ (fun s7 h => ?_)
      exact n_vret (pc := 35) dX12_readThis_35 rfl (by omega) (by omega) h
def wpX12_readNext (g : Nat) (s : gS) (Q : gS → Prop) : Prop := ∃ g1a g1b, g1a + g1b ≤ g ∧ wpX12_nameOf g1a 1014 s (fun r1 s1 => (¬ r1 = (-1) → wpX12_goWord s1 (fun s2 => wpX12_inWeek (gi s2 177 15) r1 s2 (fun r3 s3 => wpX12_pushDay (r3 + 7) 3 s3 (fun s4 => wpX12_from ((gi s4 177 15) + 1) r1 s4 (fun r5 s5 => wpX12_pushDay r5 2 s5 (fun s6 => Q s6)))))) ∧ (r1 = (-1) → wpX12_needUnit s1 (fun r7 s7 => wpX12_fine s7 (fun r8 s8 => (¬ r8 = 0 → wpX12_pushUnit r7 (gi s8 177 15) 1 3 s8 (fun s9 => (¬ r7 = 1 → Q s9) ∧ (r7 = 1 → wpX12_push ((gi s9 177 15) + 1) ((gi s9 177 15) + 7) 1 1 s9 (fun s10 => Q s10)))) ∧ (r8 = 0 → Q s8)))))
set_option maxRecDepth 20000 in
theorem spX12_readNext {l : Launch} {g : Nat}  {s : gS} {Q : gS → Prop} (h : wpX12_readNext g s Q) : Ct l mX12_readNext 10 (2 * g) (8 * g) [.ref 177] (nrm s) (q_v Q) := by
  refine Ct.of (by decide) (Nat.le_of_ble_eq_true rfl) (fun X => ?_)
  refine n_L (L' := [some (.ref 177), none, none]) (le_s (le_p (le_p (le_e)))) ?_
  have hg1 : 0 + 2 * g ≤ 2 * g := by omega
  have hg2 : 0 + 8 * g ≤ 8 * g := by omega
  refine r_aload_n (pc := 0) (x := 177) dX12_readNext_0 rfl ?_
  refine n_ldcS (pc := 1) (i := 14) dX12_readNext_1 sr_RX12_182 ?_
  obtain ⟨g1a, g1b, hg1, h⟩ := h
  refine n_Vi (pc := 3) (S0 := []) (spX12_nameOf h) gmX12_nameOf selX12_nameOf lk_RX12_184 dX12_readNext_3 rfl (by decide) sh_177 ⟨rfl, by decide⟩ rfl ⟨Nat.le_of_ble_eq_true rfl, Nat.le_of_ble_eq_true rfl⟩ (Nat.le_of_ble_eq_true rfl) ⟨by show _ ≤ 2 * g; omega, by show _ ≤ 8 * g; omega⟩ (fun r1 s1 h => ?_)
  refine r_istore_n (pc := 6) (L' := [some (.ref 177), some (.int r1), none]) dX12_readNext_6 rfl (by decide) rfl ?_
  refine r_iload_n (pc := 7) (x := r1) dX12_readNext_7 rfl ?_
  refine r_iconst (pc := 8) (v := (-1)) dX12_readNext_8 (by decide) ?_
  refine r_icmp_ne (pc := 9) (tgt := 61) dX12_readNext_9 (by decide) (fun c => ?_) (fun c => ?_)
  · replace h := h.1 c
    refine r_aload_n (pc := 61) (x := 177) dX12_readNext_61 rfl ?_
    refine n_Vv0 (pc := 62) (S0 := []) (spX12_goWord h) gmX12_goWord selX12_goWord lk_RX12_158 dX12_readNext_62 rfl (by decide) sh_177 ⟨rfl, by decide⟩ rfl ⟨Nat.le_of_ble_eq_true rfl, Nat.le_of_ble_eq_true rfl⟩ (Nat.le_of_ble_eq_true rfl) ⟨by show _ ≤ 2 * g; omega, by show _ ≤ 8 * g; omega⟩ (fun s2 h => ?_)
    refine r_aload_n (pc := 65) (x := 177) dX12_readNext_65 rfl ?_
    refine r_aload_n (pc := 66) (x := 177) dX12_readNext_66 rfl ?_
    refine n_getI (pc := 67) (j := 15) dX12_readNext_67 fl_RX12_232 (by decide) sh_177 rfl rfl ?_
    refine r_iload_n (pc := 70) (x := r1) dX12_readNext_70 rfl ?_
    refine n_Si0 (pc := 71) (S0 := [.ref 177]) (spX12_inWeek h) gmX12_inWeek lk_RX12_299 dX12_readNext_71 rfl rfl ⟨Nat.le_of_ble_eq_true rfl, Nat.le_of_ble_eq_true rfl⟩ (Nat.le_of_ble_eq_true rfl) ⟨by show _ ≤ 2 * g; omega, by show _ ≤ 8 * g; omega⟩ (fun r3 s3 h => ?_)
    refine r_bipush (pc := 74) (v := 7) dX12_readNext_74 (by decide) ?_
    refine r_iadd (pc := 76) dX12_readNext_76 ?_
    refine r_iconst (pc := 77) (v := 3) dX12_readNext_77 (by decide) ?_
    refine n_Vv0 (pc := 78) (S0 := []) (spX12_pushDay h) gmX12_pushDay selX12_pushDay lk_RX12_195 dX12_readNext_78 rfl (by decide) sh_177 ⟨rfl, by decide⟩ rfl ⟨Nat.le_of_ble_eq_true rfl, Nat.le_of_ble_eq_true rfl⟩ (Nat.le_of_ble_eq_true rfl) ⟨by show _ ≤ 2 * g; omega, by show _ ≤ 8 * g; omega⟩ (fun s4 h => ?_)
    refine r_aload_n (pc := 81) (x := 177) dX12_readNext_81 rfl ?_
    refine r_aload_n (pc := 82) (x := 177) dX12_readNext_82 rfl ?_
    refine n_getI (pc := 83) (j := 15) dX12_readNext_83 fl_RX12_232 (by decide) sh_177 rfl rfl ?_
    refine r_iconst (pc := 86) (v := 1) dX12_readNext_86 (by decide) ?_
    refine r_iadd (pc := 87) dX12_readNext_87 ?_
    refine r_iload_n (pc := 88) (x := r1) dX12_readNext_88 rfl ?_
    refine n_Si0 (pc := 89) (S0 := [.ref 177]) (spX12_from h) gmX12_from lk_RX12_302 dX12_readNext_89 rfl rfl ⟨Nat.le_of_ble_eq_true rfl, Nat.le_of_ble_eq_true rfl⟩ (Nat.le_of_ble_eq_true rfl) ⟨by show _ ≤ 2 * g; omega, by show _ ≤ 8 * g; omega⟩ (fun r5 s5 h => ?_)
    refine r_iconst (pc := 92) (v := 2) dX12_readNext_92 (by decide) ?_
    refine n_Vv0 (pc := 93) (S0 := []) (spX12_pushDay h) gmX12_pushDay selX12_pushDay lk_RX12_195 dX12_readNext_93 rfl (by decide) sh_177 ⟨rfl, by decide⟩ rfl ⟨Nat.le_of_ble_eq_true rfl, Nat.le_of_ble_eq_true rfl⟩ (Nat.le_of_ble_eq_true rfl) ⟨by show _ ≤ 2 * g; omega, by show _ ≤ 8 * g; omega⟩ (fun s6 h => ?_)
    exact n_vret (pc := 96) dX12_readNext_96 rfl (by omega) (by omega) h
  · replace h := h.2 c
    refine r_aload_n (pc := 12) (x := 177) dX12_readNext_12 rfl ?_
    refine n_Vi0 (pc := 13) (S0 := []) (spX12_needUnit h) gmX12_needUnit selX12_needUnit lk_RX12_269 dX12_readNext_13 rfl (by decide) sh_177 ⟨rfl, by decide⟩ rfl ⟨Nat.le_of_ble_eq_true rfl, Nat.le_of_ble_eq_true rfl⟩ (Nat.le_of_ble_eq_true rfl) ⟨by show _ ≤ 2 * g; omega, by show _ ≤ 8 * g; omega⟩ (fun r7 s7 h => ?_)
    refine r_istore_n (pc := 16) (L' := [some (.ref 177), some (.int r1), some (.int r7)]) dX12_readNext_16 rfl (by decide) rfl ?_
    refine r_aload_n (pc := 17) (x := 177) dX12_readNext_17 rfl ?_
    refine n_Vi0 (pc := 18) (S0 := []) (spX12_fine h) gmX12_fine selX12_fine lk_RX12_121 dX12_readNext_18 rfl (by decide) sh_177 ⟨rfl, by decide⟩ rfl ⟨Nat.le_of_ble_eq_true rfl, Nat.le_of_ble_eq_true rfl⟩ (Nat.le_of_ble_eq_true rfl) ⟨by show _ ≤ 2 * g; omega, by show _ ≤ 8 * g; omega⟩ (fun r8 s8 h => ?_)
    refine r_if_ne (pc := 21) (tgt := 25) dX12_readNext_21 (by decide) (fun c => ?_) (fun c => ?_)
    · replace h := h.1 c
      refine r_aload_n (pc := 25) (x := 177) dX12_readNext_25 rfl ?_
      refine r_iload_n (pc := 26) (x := r7) dX12_readNext_26 rfl ?_
      refine r_aload_n (pc := 27) (x := 177) dX12_readNext_27 rfl ?_
      refine n_getI (pc := 28) (j := 15) dX12_readNext_28 fl_RX12_232 (by decide) sh_177 rfl rfl ?_
      refine r_iconst (pc := 31) (v := 1) dX12_readNext_31 (by decide) ?_
      refine r_iconst (pc := 32) (v := 3) dX12_readNext_32 (by decide) ?_
      refine n_Vv0 (pc := 33) (S0 := []) (spX12_pushUnit h) gmX12_pushUnit selX12_pushUnit lk_RX12_290 dX12_readNext_33 rfl (by decide) sh_177 ⟨rfl, by decide⟩ rfl ⟨Nat.le_of_ble_eq_true rfl, Nat.le_of_ble_eq_true rfl⟩ (Nat.le_of_ble_eq_true rfl) ⟨by show _ ≤ 2 * g; omega, by show _ ≤ 8 * g; omega⟩ (fun s9 h => ?_)
      refine r_iload_n (pc := 36) (x := r7) dX12_readNext_36 rfl ?_
      refine r_iconst (pc := 37) (v := 1) dX12_readNext_37 (by decide) ?_
      refine r_icmp_ne (pc := 38) (tgt := 60) dX12_readNext_38 (by decide) (fun c => ?_) (fun c => ?_)
      · replace h := h.1 c
        exact n_vret (pc := 60) dX12_readNext_60 rfl (by omega) (by omega) h
      · replace h := h.2 c
        refine r_aload_n (pc := 41) (x := 177) dX12_readNext_41 rfl ?_
        refine r_aload_n (pc := 42) (x := 177) dX12_readNext_42 rfl ?_
        refine n_getI (pc := 43) (j := 15) dX12_readNext_43 fl_RX12_232 (by decide) sh_177 rfl rfl ?_
        refine r_iconst (pc := 46) (v := 1) dX12_readNext_46 (by decide) ?_
        refine r_iadd (pc := 47) dX12_readNext_47 ?_
        refine r_aload_n (pc := 48) (x := 177) dX12_readNext_48 rfl ?_
        refine n_getI (pc := 49) (j := 15) dX12_readNext_49 fl_RX12_232 (by decide) sh_177 rfl rfl ?_
        refine r_bipush (pc := 52) (v := 7) dX12_readNext_52 (by decide) ?_
        refine r_iadd (pc := 54) dX12_readNext_54 ?_
        refine r_iconst (pc := 55) (v := 1) dX12_readNext_55 (by decide) ?_
        refine r_iconst (pc := 56) (v := 1) dX12_readNext_56 (by decide) ?_
        refine n_Vv0 (pc := 57) (S0 := []) (spX12_push h) gmX12_push selX12_push lk_RX12_191 dX12_readNext_57 rfl (by decide) sh_177 ⟨rfl, by decide⟩ rfl ⟨Nat.le_of_ble_eq_true rfl, Nat.le_of_ble_eq_true rfl⟩ (Nat.le_of_ble_eq_true rfl) ⟨by show _ ≤ 2 * g; omega, by show _ ≤ 8 * g; omega⟩ (fun s10 h => ?_)
        exact n_vret (pc := 60) dX12_readNext_60 rfl (by omega) (by omega) h
    · replace h := h.2 c
      exact n_vret (pc := 24) dX12_readNext_24 rfl (by omega) (by omega) h
def wpX12_readDayName (g : Nat) (s : gS) (Q : gS → Prop) : Prop := ∃ g1a g1b, g1a + g1b ≤ g ∧ wpX12_nameOf g1a 1014 s (fun r1 s1 => wpX12_goWord s1 (fun s2 => wpX12_takes 1008 s2 (fun r3 s3 => (r3 = 0 → wpX12_from (gi s3 177 15) r1 s3 (fun r4 s4 => wpX12_pushDay r4 3 s4 (fun s5 => wpX12_ahead (gi s5 177 15) r1 s5 (fun r6 s6 => wpX12_pushDay r6 1 s6 (fun s7 => Q s7))))) ∧ (¬ (r3 = 0) → wpX12_needs 1021 s3 (fun s8 => wpX12_from ((gi s8 177 15) + 1) r1 s8 (fun r9 s9 => wpX12_pushDay (r9 + 7) 3 s9 (fun s10 => wpX12_inWeek (gi s10 177 15) r1 s10 (fun r11 s11 => wpX12_pushDay (r11 + 14) 2 s11 (fun s12 => Q s12)))))))))
set_option maxRecDepth 20000 in
theorem spX12_readDayName {l : Launch} {g : Nat}  {s : gS} {Q : gS → Prop} (h : wpX12_readDayName g s Q) : Ct l mX12_readDayName 10 (2 * g) (8 * g) [.ref 177] (nrm s) (q_v Q) := by
  refine Ct.of (by decide) (Nat.le_of_ble_eq_true rfl) (fun X => ?_)
  refine n_L (L' := [some (.ref 177), none]) (le_s (le_p (le_e))) ?_
  have hg1 : 0 + 2 * g ≤ 2 * g := by omega
  have hg2 : 0 + 8 * g ≤ 8 * g := by omega
  refine r_aload_n (pc := 0) (x := 177) dX12_readDayName_0 rfl ?_
  refine n_ldcS (pc := 1) (i := 14) dX12_readDayName_1 sr_RX12_182 ?_
  obtain ⟨g1a, g1b, hg1, h⟩ := h
  refine n_Vi (pc := 3) (S0 := []) (spX12_nameOf h) gmX12_nameOf selX12_nameOf lk_RX12_184 dX12_readDayName_3 rfl (by decide) sh_177 ⟨rfl, by decide⟩ rfl ⟨Nat.le_of_ble_eq_true rfl, Nat.le_of_ble_eq_true rfl⟩ (Nat.le_of_ble_eq_true rfl) ⟨by show _ ≤ 2 * g; omega, by show _ ≤ 8 * g; omega⟩ (fun r1 s1 h => ?_)
  refine r_istore_n (pc := 6) (L' := [some (.ref 177), some (.int r1)]) dX12_readDayName_6 rfl (by decide) rfl ?_
  refine r_aload_n (pc := 7) (x := 177) dX12_readDayName_7 rfl ?_
  refine n_Vv0 (pc := 8) (S0 := []) (spX12_goWord h) gmX12_goWord selX12_goWord lk_RX12_158 dX12_readDayName_8 rfl (by decide) sh_177 ⟨rfl, by decide⟩ rfl ⟨Nat.le_of_ble_eq_true rfl, Nat.le_of_ble_eq_true rfl⟩ (Nat.le_of_ble_eq_true rfl) ⟨by show _ ≤ 2 * g; omega, by show _ ≤ 8 * g; omega⟩ (fun s2 h => ?_)
  refine r_aload_n (pc := 11) (x := 177) dX12_readDayName_11 rfl ?_
  refine n_ldc_wS (pc := 12) (i := 8) dX12_readDayName_12 sr_RX12_277 ?_
  refine n_Vi0S (pc := 15) (S0 := []) (spX12_takes h) (Or.inl (by decide)) gmX12_takes selX12_takes lk_RX12_161 dX12_readDayName_15 rfl (by decide) sh_177 ⟨rfl, by decide⟩ rfl ⟨Nat.le_of_ble_eq_true rfl, Nat.le_of_ble_eq_true rfl⟩ (Nat.le_of_ble_eq_true rfl) ⟨by show _ ≤ 2 * g; omega, by show _ ≤ 8 * g; omega⟩ (fun r3 s3 h => ?_)
  refine r_if_eq (pc := 18) (tgt := 62) dX12_readDayName_18 (by decide) (fun c => ?_) (fun c => ?_)
  · replace h := h.1 c
    refine r_aload_n (pc := 62) (x := 177) dX12_readDayName_62 rfl ?_
    refine r_aload_n (pc := 63) (x := 177) dX12_readDayName_63 rfl ?_
    refine n_getI (pc := 64) (j := 15) dX12_readDayName_64 fl_RX12_232 (by decide) sh_177 rfl rfl ?_
    refine r_iload_n (pc := 67) (x := r1) dX12_readDayName_67 rfl ?_
    refine n_Si0 (pc := 68) (S0 := [.ref 177]) (spX12_from h) gmX12_from lk_RX12_302 dX12_readDayName_68 rfl rfl ⟨Nat.le_of_ble_eq_true rfl, Nat.le_of_ble_eq_true rfl⟩ (Nat.le_of_ble_eq_true rfl) ⟨by show _ ≤ 2 * g; omega, by show _ ≤ 8 * g; omega⟩ (fun r4 s4 h => ?_)
    refine r_iconst (pc := 71) (v := 3) dX12_readDayName_71 (by decide) ?_
    refine n_Vv0 (pc := 72) (S0 := []) (spX12_pushDay h) gmX12_pushDay selX12_pushDay lk_RX12_195 dX12_readDayName_72 rfl (by decide) sh_177 ⟨rfl, by decide⟩ rfl ⟨Nat.le_of_ble_eq_true rfl, Nat.le_of_ble_eq_true rfl⟩ (Nat.le_of_ble_eq_true rfl) ⟨by show _ ≤ 2 * g; omega, by show _ ≤ 8 * g; omega⟩ (fun s5 h => ?_)
    refine r_aload_n (pc := 75) (x := 177) dX12_readDayName_75 rfl ?_
    refine r_aload_n (pc := 76) (x := 177) dX12_readDayName_76 rfl ?_
    refine n_getI (pc := 77) (j := 15) dX12_readDayName_77 fl_RX12_232 (by decide) sh_177 rfl rfl ?_
    refine r_iload_n (pc := 80) (x := r1) dX12_readDayName_80 rfl ?_
    refine n_Si0 (pc := 81) (S0 := [.ref 177]) (spX12_ahead h) gmX12_ahead lk_RX12_305 dX12_readDayName_81 rfl rfl ⟨Nat.le_of_ble_eq_true rfl, Nat.le_of_ble_eq_true rfl⟩ (Nat.le_of_ble_eq_true rfl) ⟨by show _ ≤ 2 * g; omega, by show _ ≤ 8 * g; omega⟩ (fun r6 s6 h => ?_)
    refine r_iconst (pc := 84) (v := 1) dX12_readDayName_84 (by decide) ?_
    refine n_Vv0 (pc := 85) (S0 := []) (spX12_pushDay h) gmX12_pushDay selX12_pushDay lk_RX12_195 dX12_readDayName_85 rfl (by decide) sh_177 ⟨rfl, by decide⟩ rfl ⟨Nat.le_of_ble_eq_true rfl, Nat.le_of_ble_eq_true rfl⟩ (Nat.le_of_ble_eq_true rfl) ⟨by show _ ≤ 2 * g; omega, by show _ ≤ 8 * g; omega⟩ (fun s7 h => ?_)
    exact n_vret (pc := 88) dX12_readDayName_88 rfl (by omega) (by omega) h
  · replace h := h.2 c
    refine r_aload_n (pc := 21) (x := 177) dX12_readDayName_21 rfl ?_
    refine n_ldcS (pc := 22) (i := 21) dX12_readDayName_22 sr_RX12_248 ?_
    refine n_Vv0S (pc := 24) (S0 := []) (spX12_needs h) (Or.inl (by decide)) gmX12_needs selX12_needs lk_RX12_295 dX12_readDayName_24 rfl (by decide) sh_177 ⟨rfl, by decide⟩ rfl ⟨Nat.le_of_ble_eq_true rfl, Nat.le_of_ble_eq_true rfl⟩ (Nat.le_of_ble_eq_true rfl) ⟨by show _ ≤ 2 * g; omega, by show _ ≤ 8 * g; omega⟩ (fun s8 h => ?_)
    refine r_aload_n (pc := 27) (x := 177) dX12_readDayName_27 rfl ?_
    refine r_aload_n (pc := 28) (x := 177) dX12_readDayName_28 rfl ?_
    refine n_getI (pc := 29) (j := 15) dX12_readDayName_29 fl_RX12_232 (by decide) sh_177 rfl rfl ?_
    refine r_iconst (pc := 32) (v := 1) dX12_readDayName_32 (by decide) ?_
    refine r_iadd (pc := 33) dX12_readDayName_33 ?_
    refine r_iload_n (pc := 34) (x := r1) dX12_readDayName_34 rfl ?_
    refine n_Si0 (pc := 35) (S0 := [.ref 177]) (spX12_from h) gmX12_from lk_RX12_302 dX12_readDayName_35 rfl rfl ⟨Nat.le_of_ble_eq_true rfl, Nat.le_of_ble_eq_true rfl⟩ (Nat.le_of_ble_eq_true rfl) ⟨by show _ ≤ 2 * g; omega, by show _ ≤ 8 * g; omega⟩ (fun r9 s9 h => ?_)
    refine r_bipush (pc := 38) (v := 7) dX12_readDayName_38 (by decide) ?_
    refine r_iadd (pc := 40) dX12_readDayName_40 ?_
    refine r_iconst (pc := 41) (v := 3) dX12_readDayName_41 (by decide) ?_
    refine n_Vv0 (pc := 42) (S0 := []) (spX12_pushDay h) gmX12_pushDay selX12_pushDay lk_RX12_195 dX12_readDayName_42 rfl (by decide) sh_177 ⟨rfl, by decide⟩ rfl ⟨Nat.le_of_ble_eq_true rfl, Nat.le_of_ble_eq_true rfl⟩ (Nat.le_of_ble_eq_true rfl) ⟨by show _ ≤ 2 * g; omega, by show _ ≤ 8 * g; omega⟩ (fun s10 h => ?_)
    refine r_aload_n (pc := 45) (x := 177) dX12_readDayName_45 rfl ?_
    refine r_aload_n (pc := 46) (x := 177) dX12_readDayName_46 rfl ?_
    refine n_getI (pc := 47) (j := 15) dX12_readDayName_47 fl_RX12_232 (by decide) sh_177 rfl rfl ?_
    refine r_iload_n (pc := 50) (x := r1) dX12_readDayName_50 rfl ?_
    refine n_Si0 (pc := 51) (S0 := [.ref 177]) (spX12_inWeek h) gmX12_inWeek lk_RX12_299 dX12_readDayName_51 rfl rfl ⟨Nat.le_of_ble_eq_true rfl, Nat.le_of_ble_eq_true rfl⟩ (Nat.le_of_ble_eq_true rfl) ⟨by show _ ≤ 2 * g; omega, by show _ ≤ 8 * g; omega⟩ (fun r11 s11 h => ?_)
    refine r_bipush (pc := 54) (v := 14) dX12_readDayName_54 (by decide) ?_
    refine r_iadd (pc := 56) dX12_readDayName_56 ?_
    refine r_iconst (pc := 57) (v := 2) dX12_readDayName_57 (by decide) ?_
    refine n_Vv0 (pc := 58) (S0 := []) (spX12_pushDay h) gmX12_pushDay selX12_pushDay lk_RX12_195 dX12_readDayName_58 rfl (by decide) sh_177 ⟨rfl, by decide⟩ rfl ⟨Nat.le_of_ble_eq_true rfl, Nat.le_of_ble_eq_true rfl⟩ (Nat.le_of_ble_eq_true rfl) ⟨by show _ ≤ 2 * g; omega, by show _ ≤ 8 * g; omega⟩ (fun s12 h => ?_)
    exact n_vret (pc := 61) dX12_readDayName_61 rfl (by omega) (by omega) h
def wX12_readMonthName_28  (Q : gS → Prop)  (g : Nat) (y1 : Int32) (s : gS) : Prop := wpX12_pushMonths y1 s (fun s17 => Q s17)
set_option maxRecDepth 20000 in
theorem pX12_readMonthName_28 {l : Launch} {X : gX} {G : Nat}   {Q : gS → Prop}  (g : Nat) (y1 : Int32) (s : gS) (h : wX12_readMonthName_28  Q g y1 s)  : ∀ (k n : Nat), k + 2 * g ≤ 2 * G → n + 8 * g ≤ 8 * G → Gw l mX12_readMonthName (g_rm 10 (2 * G) (8 * G)) X 28 [some (.ref 177), some (.int y1), none, none, none, none] [] (nrm s) k n (g_Z X (q_v Q) (2 * G) (8 * G)) := by
  intro k n hg1 hg2
  refine r_aload_n (pc := 28) (x := 177) dX12_readMonthName_28 rfl ?_
  refine r_iload_n (pc := 29) (x := y1) dX12_readMonthName_29 rfl ?_
  refine n_Vv0 (pc := 30) (S0 := []) (spX12_pushMonths h) gmX12_pushMonths selX12_pushMonths lk_RX12_308 dX12_readMonthName_30 rfl (by decide) sh_177 ⟨rfl, by decide⟩ rfl ⟨Nat.le_of_ble_eq_true rfl, Nat.le_of_ble_eq_true rfl⟩ (Nat.le_of_ble_eq_true rfl) ⟨by show _ ≤ 2 * G; omega, by show _ ≤ 8 * G; omega⟩ (fun s17 h => ?_)
  exact n_vret (pc := 33) dX12_readMonthName_33 rfl (by omega) (by omega) h
def wX12_readMonthName_137  (Q : gS → Prop)  : Nat → Nat → Int32 → Int32 → Int32 → Int32 → Int32 → gS → Prop
  | 0, _, _, _, _, _, _, _ => False
  | n + 1, g, y1, y2, y3, y4, y5, s => (2027 < y5 → wpX12_pushDay y3 3 s (fun s12 => wpX12_pushDay y4 2 s12 (fun s13 => Q s13))) ∧ (¬ (2027 < y5) → wpX12_dayOf y5 y1 y2 s (fun r14 s14 => wpX12_in r14 0 ((gi s14 177 15) - 1) s14 (fun r15 s15 => (r15 = 0 → wX12_readMonthName_137  Q n g y1 y2 y3 y4 (y5 + 1) s15) ∧ (¬ (r15 = 0) → wpX12_dayOf y5 y1 y2 s15 (fun r16 s16 => wX12_readMonthName_137  Q n g y1 y2 y3 r16 (y5 + 1) s16)))))
set_option maxRecDepth 20000 in
theorem pX12_readMonthName_137 {l : Launch} {X : gX} {G : Nat}   {Q : gS → Prop}  : ∀ (n : Nat) (g : Nat) (y1 : Int32) (y2 : Int32) (y3 : Int32) (y4 : Int32) (y5 : Int32) (s : gS) (h : wX12_readMonthName_137  Q n g y1 y2 y3 y4 y5 s) , ∀ (k n : Nat), k + 2 * g ≤ 2 * G → n + 8 * g ≤ 8 * G → Gw l mX12_readMonthName (g_rm 10 (2 * G) (8 * G)) X 137 [some (.ref 177), some (.int y1), some (.int y2), some (.int y3), some (.int y4), some (.int y5)] [] (nrm s) k n (g_Z X (q_v Q) (2 * G) (8 * G)) := by
  intro n
  induction n with
  | zero => intro g y1 y2 y3 y4 y5 s h; exact h.elim
  | succ n ih0 =>
    intro g y1 y2 y3 y4 y5 s h 
    have ih : ∀ (g : Nat) (y1 : Int32) (y2 : Int32) (y3 : Int32) (y4 : Int32) (y5 : Int32) (s : gS), wX12_readMonthName_137  Q n g y1 y2 y3 y4 y5 s → ∀ (k n : Nat), k + 2 * g ≤ 2 * G → n + 8 * g ≤ 8 * G → Gw l mX12_readMonthName (g_rm 10 (2 * G) (8 * G)) X 137 [some (.ref 177), some (.int y1), some (.int y2), some (.int y3), some (.int y4), some (.int y5)] [] (nrm s) k n (g_Z X (q_v Q) (2 * G) (8 * G)) := fun g y1 y2 y3 y4 y5 s h => ih0 g y1 y2 y3 y4 y5 s h 
    intro k n hg1 hg2
    refine r_iload (pc := 137) (x := y5) dX12_readMonthName_137 rfl ?_
    refine r_sipush (pc := 139) (v := 2027) dX12_readMonthName_139 (by decide) ?_
    refine r_icmp_gt (pc := 142) (tgt := 180) dX12_readMonthName_142 (by decide) (fun c => ?_) (fun c => ?_)
    · replace h := h.1 c
      refine r_aload_n (pc := 180) (x := 177) dX12_readMonthName_180 rfl ?_
      refine r_iload_n (pc := 181) (x := y3) dX12_readMonthName_181 rfl ?_
      refine r_iconst (pc := 182) (v := 3) dX12_readMonthName_182 (by decide) ?_
      refine n_Vv0 (pc := 183) (S0 := []) (spX12_pushDay h) gmX12_pushDay selX12_pushDay lk_RX12_195 dX12_readMonthName_183 rfl (by decide) sh_177 ⟨rfl, by decide⟩ rfl ⟨Nat.le_of_ble_eq_true rfl, Nat.le_of_ble_eq_true rfl⟩ (Nat.le_of_ble_eq_true rfl) ⟨by show _ ≤ 2 * G; omega, by show _ ≤ 8 * G; omega⟩ (fun s12 h => ?_)
      refine r_aload_n (pc := 186) (x := 177) dX12_readMonthName_186 rfl ?_
      refine r_iload (pc := 187) (x := y4) dX12_readMonthName_187 rfl ?_
      refine r_iconst (pc := 189) (v := 2) dX12_readMonthName_189 (by decide) ?_
      refine n_Vv0 (pc := 190) (S0 := []) (spX12_pushDay h) gmX12_pushDay selX12_pushDay lk_RX12_195 dX12_readMonthName_190 rfl (by decide) sh_177 ⟨rfl, by decide⟩ rfl ⟨Nat.le_of_ble_eq_true rfl, Nat.le_of_ble_eq_true rfl⟩ (Nat.le_of_ble_eq_true rfl) ⟨by show _ ≤ 2 * G; omega, by show _ ≤ 8 * G; omega⟩ (fun s13 h => ?_)
      exact n_vret (pc := 193) dX12_readMonthName_193 rfl (by omega) (by omega) h
    · replace h := h.2 c
      refine r_iload (pc := 145) (x := y5) dX12_readMonthName_145 rfl ?_
      refine r_iload_n (pc := 147) (x := y1) dX12_readMonthName_147 rfl ?_
      refine r_iload_n (pc := 148) (x := y2) dX12_readMonthName_148 rfl ?_
      refine n_Si0 (pc := 149) (S0 := []) (spX12_dayOf h) gmX12_dayOf lk_RX12_87 dX12_readMonthName_149 rfl rfl ⟨Nat.le_of_ble_eq_true rfl, Nat.le_of_ble_eq_true rfl⟩ (Nat.le_of_ble_eq_true rfl) ⟨by show _ ≤ 2 * G; omega, by show _ ≤ 8 * G; omega⟩ (fun r14 s14 h => ?_)
      refine r_iconst (pc := 152) (v := 0) dX12_readMonthName_152 (by decide) ?_
      refine r_aload_n (pc := 153) (x := 177) dX12_readMonthName_153 rfl ?_
      refine n_getI (pc := 154) (j := 15) dX12_readMonthName_154 fl_RX12_232 (by decide) sh_177 rfl rfl ?_
      refine r_iconst (pc := 157) (v := 1) dX12_readMonthName_157 (by decide) ?_
      refine r_isub (pc := 158) dX12_readMonthName_158 ?_
      refine n_Si0 (pc := 159) (S0 := []) (spX12_in h) gmX12_in lk_RX12_62 dX12_readMonthName_159 rfl rfl ⟨Nat.le_of_ble_eq_true rfl, Nat.le_of_ble_eq_true rfl⟩ (Nat.le_of_ble_eq_true rfl) ⟨by show _ ≤ 2 * G; omega, by show _ ≤ 8 * G; omega⟩ (fun r15 s15 h => ?_)
      refine r_if_eq (pc := 162) (tgt := 174) dX12_readMonthName_162 (by decide) (fun c => ?_) (fun c => ?_)
      · replace h := h.1 c
        refine n_iinc (pc := 174) (x := y5) (w := 1) (L' := [some (.ref 177), some (.int y1), some (.int y2), some (.int y3), some (.int y4), some (.int (y5 + 1))]) dX12_readMonthName_174 rfl (by decide) rfl (by decide) rfl ?_
        refine r_goto (pc := 177) (tgt := 137) dX12_readMonthName_177 (by decide) ?_
        refine n_L (L' := [some (.ref 177), some (.int y1), some (.int y2), some (.int y3), some (.int y4), some (.int (y5 + 1))]) (le_s (le_s (le_s (le_s (le_s (le_s (le_e))))))) ?_
        exact ih _ _ _ _ _ _ _ h _ _ (by omega) (by omega)
      · replace h := h.2 c
        refine r_iload (pc := 165) (x := y5) dX12_readMonthName_165 rfl ?_
        refine r_iload_n (pc := 167) (x := y1) dX12_readMonthName_167 rfl ?_
        refine r_iload_n (pc := 168) (x := y2) dX12_readMonthName_168 rfl ?_
        refine n_Si0 (pc := 169) (S0 := []) (spX12_dayOf h) gmX12_dayOf lk_RX12_87 dX12_readMonthName_169 rfl rfl ⟨Nat.le_of_ble_eq_true rfl, Nat.le_of_ble_eq_true rfl⟩ (Nat.le_of_ble_eq_true rfl) ⟨by show _ ≤ 2 * G; omega, by show _ ≤ 8 * G; omega⟩ (fun r16 s16 h => ?_)
        refine r_istore (pc := 172) (L' := [some (.ref 177), some (.int y1), some (.int y2), some (.int y3), some (.int r16), some (.int y5)]) dX12_readMonthName_172 rfl (by decide) rfl ?_
        refine n_iinc (pc := 174) (x := y5) (w := 1) (L' := [some (.ref 177), some (.int y1), some (.int y2), some (.int y3), some (.int r16), some (.int (y5 + 1))]) dX12_readMonthName_174 rfl (by decide) rfl (by decide) rfl ?_
        refine r_goto (pc := 177) (tgt := 137) dX12_readMonthName_177 (by decide) ?_
        refine n_L (L' := [some (.ref 177), some (.int y1), some (.int y2), some (.int y3), some (.int r16), some (.int (y5 + 1))]) (le_s (le_s (le_s (le_s (le_s (le_s (le_e))))))) ?_
        exact ih _ _ _ _ _ _ _ h _ _ (by omega) (by omega)
def wX12_readMonthName_96  (Q : gS → Prop)  : Nat → Nat → Int32 → Int32 → Int32 → Int32 → Int32 → gS → Prop
  | 0, _, _, _, _, _, _, _ => False
  | n + 1, g, y1, y2, y3, y4, y5, s => (y5 < 2000 → ∃ n137, wX12_readMonthName_137  Q n137 g y1 y2 y3 y4 2000 s) ∧ (¬ (y5 < 2000) → wpX12_dayOf y5 y1 y2 s (fun r10 s10 => (r10 < (gi s10 177 15) → wX12_readMonthName_96  Q n g y1 y2 y3 y4 (y5 + (-1)) s10) ∧ (¬ (r10 < (gi s10 177 15)) → wpX12_dayOf y5 y1 y2 s10 (fun r11 s11 => wX12_readMonthName_96  Q n g y1 y2 r11 y4 (y5 + (-1)) s11))))
set_option maxRecDepth 20000 in
theorem pX12_readMonthName_96 {l : Launch} {X : gX} {G : Nat}   {Q : gS → Prop}  : ∀ (n : Nat) (g : Nat) (y1 : Int32) (y2 : Int32) (y3 : Int32) (y4 : Int32) (y5 : Int32) (s : gS) (h : wX12_readMonthName_96  Q n g y1 y2 y3 y4 y5 s) , ∀ (k n : Nat), k + 2 * g ≤ 2 * G → n + 8 * g ≤ 8 * G → Gw l mX12_readMonthName (g_rm 10 (2 * G) (8 * G)) X 96 [some (.ref 177), some (.int y1), some (.int y2), some (.int y3), some (.int y4), some (.int y5)] [] (nrm s) k n (g_Z X (q_v Q) (2 * G) (8 * G)) := by
  intro n
  induction n with
  | zero => intro g y1 y2 y3 y4 y5 s h; exact h.elim
  | succ n ih0 =>
    intro g y1 y2 y3 y4 y5 s h 
    have ih : ∀ (g : Nat) (y1 : Int32) (y2 : Int32) (y3 : Int32) (y4 : Int32) (y5 : Int32) (s : gS), wX12_readMonthName_96  Q n g y1 y2 y3 y4 y5 s → ∀ (k n : Nat), k + 2 * g ≤ 2 * G → n + 8 * g ≤ 8 * G → Gw l mX12_readMonthName (g_rm 10 (2 * G) (8 * G)) X 96 [some (.ref 177), some (.int y1), some (.int y2), some (.int y3), some (.int y4), some (.int y5)] [] (nrm s) k n (g_Z X (q_v Q) (2 * G) (8 * G)) := fun g y1 y2 y3 y4 y5 s h => ih0 g y1 y2 y3 y4 y5 s h 
    intro k n hg1 hg2
    refine r_iload (pc := 96) (x := y5) dX12_readMonthName_96 rfl ?_
    refine r_sipush (pc := 98) (v := 2000) dX12_readMonthName_98 (by decide) ?_
    refine r_icmp_lt (pc := 101) (tgt := 132) dX12_readMonthName_101 (by decide) (fun c => ?_) (fun c => ?_)
    · replace h := h.1 c
      refine r_sipush (pc := 132) (v := 2000) dX12_readMonthName_132 (by decide) ?_
      refine r_istore (pc := 135) (L' := [some (.ref 177), some (.int y1), some (.int y2), some (.int y3), some (.int y4), some (.int 2000)]) dX12_readMonthName_135 rfl (by decide) rfl ?_
      refine n_L (L' := [some (.ref 177), some (.int y1), some (.int y2), some (.int y3), some (.int y4), some (.int 2000)]) (le_s (le_s (le_s (le_s (le_s (le_s (le_e))))))) ?_
      obtain ⟨n, h⟩ := h
      exact pX12_readMonthName_137  n _ _ _ _ _ _ _ h  _ _ (by omega) (by omega)
    · replace h := h.2 c
      refine r_iload (pc := 104) (x := y5) dX12_readMonthName_104 rfl ?_
      refine r_iload_n (pc := 106) (x := y1) dX12_readMonthName_106 rfl ?_
      refine r_iload_n (pc := 107) (x := y2) dX12_readMonthName_107 rfl ?_
      refine n_Si0 (pc := 108) (S0 := []) (spX12_dayOf h) gmX12_dayOf lk_RX12_87 dX12_readMonthName_108 rfl rfl ⟨Nat.le_of_ble_eq_true rfl, Nat.le_of_ble_eq_true rfl⟩ (Nat.le_of_ble_eq_true rfl) ⟨by show _ ≤ 2 * G; omega, by show _ ≤ 8 * G; omega⟩ (fun r10 s10 h => ?_)
      refine r_aload_n (pc := 111) (x := 177) dX12_readMonthName_111 rfl ?_
      refine n_getI (pc := 112) (j := 15) dX12_readMonthName_112 fl_RX12_232 (by decide) sh_177 rfl rfl ?_
      refine r_icmp_lt (pc := 115) (tgt := 126) dX12_readMonthName_115 (by decide) (fun c => ?_) (fun c => ?_)
      · replace h := h.1 c
        refine n_iinc (pc := 126) (x := y5) (w := (-1)) (L' := [some (.ref 177), some (.int y1), some (.int y2), some (.int y3), some (.int y4), some (.int (y5 + (-1)))]) dX12_readMonthName_126 rfl (by decide) rfl (by decide) rfl ?_
        refine r_goto (pc := 129) (tgt := 96) dX12_readMonthName_129 (by decide) ?_
        refine n_L (L' := [some (.ref 177), some (.int y1), some (.int y2), some (.int y3), some (.int y4), some (.int (y5 + (-1)))]) (le_s (le_s (le_s (le_s (le_s (le_s (le_e))))))) ?_
        exact ih _ _ _ _ _ _ _ h _ _ (by omega) (by omega)
      · replace h := h.2 c
        refine r_iload (pc := 118) (x := y5) dX12_readMonthName_118 rfl ?_
        refine r_iload_n (pc := 120) (x := y1) dX12_readMonthName_120 rfl ?_
        refine r_iload_n (pc := 121) (x := y2) dX12_readMonthName_121 rfl ?_
        refine n_Si0 (pc := 122) (S0 := []) (spX12_dayOf h) gmX12_dayOf lk_RX12_87 dX12_readMonthName_122 rfl rfl ⟨Nat.le_of_ble_eq_true rfl, Nat.le_of_ble_eq_true rfl⟩ (Nat.le_of_ble_eq_true rfl) ⟨by show _ ≤ 2 * G; omega, by show _ ≤ 8 * G; omega⟩ (fun r11 s11 h => ?_)
        refine r_istore_n (pc := 125) (L' := [some (.ref 177), some (.int y1), some (.int y2), some (.int r11), some (.int y4), some (.int y5)]) dX12_readMonthName_125 rfl (by decide) rfl ?_
        refine n_iinc (pc := 126) (x := y5) (w := (-1)) (L' := [some (.ref 177), some (.int y1), some (.int y2), some (.int r11), some (.int y4), some (.int (y5 + (-1)))]) dX12_readMonthName_126 rfl (by decide) rfl (by decide) rfl ?_
        refine r_goto (pc := 129) (tgt := 96) dX12_readMonthName_129 (by decide) ?_
        refine n_L (L' := [some (.ref 177), some (.int y1), some (.int y2), some (.int r11), some (.int y4), some (.int (y5 + (-1)))]) (le_s (le_s (le_s (le_s (le_s (le_s (le_e))))))) ?_
        exact ih _ _ _ _ _ _ _ h _ _ (by omega) (by omega)
def wX12_readMonthName_86  (Q : gS → Prop)  (g : Nat) (y1 : Int32) (y2 : Int32) (s : gS) : Prop := ∃ n96, wX12_readMonthName_96  Q n96 g y1 y2 (-1) (-1) 2027 s
set_option maxRecDepth 20000 in
theorem pX12_readMonthName_86 {l : Launch} {X : gX} {G : Nat}   {Q : gS → Prop}  (g : Nat) (y1 : Int32) (y2 : Int32) (s : gS) (h : wX12_readMonthName_86  Q g y1 y2 s)  : ∀ (k n : Nat), k + 2 * g ≤ 2 * G → n + 8 * g ≤ 8 * G → Gw l mX12_readMonthName (g_rm 10 (2 * G) (8 * G)) X 86 [some (.ref 177), some (.int y1), some (.int y2), none, none, none] [] (nrm s) k n (g_Z X (q_v Q) (2 * G) (8 * G)) := by
  intro k n hg1 hg2
  refine r_iconst (pc := 86) (v := (-1)) dX12_readMonthName_86 (by decide) ?_
  refine r_istore_n (pc := 87) (L' := [some (.ref 177), some (.int y1), some (.int y2), some (.int (-1)), none, none]) dX12_readMonthName_87 rfl (by decide) rfl ?_
  refine r_iconst (pc := 88) (v := (-1)) dX12_readMonthName_88 (by decide) ?_
  refine r_istore (pc := 89) (L' := [some (.ref 177), some (.int y1), some (.int y2), some (.int (-1)), some (.int (-1)), none]) dX12_readMonthName_89 rfl (by decide) rfl ?_
  refine r_sipush (pc := 91) (v := 2027) dX12_readMonthName_91 (by decide) ?_
  refine r_istore (pc := 94) (L' := [some (.ref 177), some (.int y1), some (.int y2), some (.int (-1)), some (.int (-1)), some (.int 2027)]) dX12_readMonthName_94 rfl (by decide) rfl ?_
  refine n_L (L' := [some (.ref 177), some (.int y1), some (.int y2), some (.int (-1)), some (.int (-1)), some (.int 2027)]) (le_s (le_s (le_s (le_s (le_s (le_s (le_e))))))) ?_
  obtain ⟨n, h⟩ := h
  exact pX12_readMonthName_96  n _ _ _ _ _ _ _ h  _ _ (by omega) (by omega)
def wpX12_readMonthName (g : Nat) (s : gS) (Q : gS → Prop) : Prop := ∃ g1a g1b, g1a + g1b ≤ g ∧ wpX12_nameOf g1a 1023 s (fun r1 s1 => wpX12_goWord s1 (fun s2 => ((gi s2 177 11) = 0 → wX12_readMonthName_28  Q g1b (r1 + 1) s2) ∧ (¬ ((gi s2 177 11) = 0) → wpX12_fine s2 (fun r3 s3 => (¬ r3 = 0 → wpX12_needNumber 1 31 s3 (fun r4 s4 => ((gi s4 177 11) = 0 → wX12_readMonthName_86  Q g1b (r1 + 1) r4 s4) ∧ (¬ ((gi s4 177 11) = 0) → wpX12_fine s4 (fun r5 s5 => (r5 = 0 → wX12_readMonthName_86  Q g1b (r1 + 1) r4 s5) ∧ (¬ (r5 = 0) → wpX12_needNumber 2000 2027 s5 (fun r6 s6 => wpX12_fine s6 (fun r7 s7 => (r7 = 0 → Q s7) ∧ (¬ (r7 = 0) → wpX12_dayOf r6 (r1 + 1) r4 s7 (fun r8 s8 => wpX12_pushDay r8 3 s8 (fun s9 => Q s9)))))))))) ∧ (r3 = 0 → wX12_readMonthName_28  Q g1b (r1 + 1) s3)))))
set_option maxRecDepth 20000 in
theorem spX12_readMonthName {l : Launch} {g : Nat}  {s : gS} {Q : gS → Prop} (h : wpX12_readMonthName g s Q) : Ct l mX12_readMonthName 10 (2 * g) (8 * g) [.ref 177] (nrm s) (q_v Q) := by
  refine Ct.of (by decide) (Nat.le_of_ble_eq_true rfl) (fun X => ?_)
  refine n_L (L' := [some (.ref 177), none, none, none, none, none]) (le_s (le_p (le_p (le_p (le_p (le_p (le_e))))))) ?_
  have hg1 : 0 + 2 * g ≤ 2 * g := by omega
  have hg2 : 0 + 8 * g ≤ 8 * g := by omega
  refine r_aload_n (pc := 0) (x := 177) dX12_readMonthName_0 rfl ?_
  refine n_ldc_wS (pc := 1) (i := 23) dX12_readMonthName_1 sr_RX12_261 ?_
  obtain ⟨g1a, g1b, hg1, h⟩ := h
  refine n_Vi (pc := 4) (S0 := []) (spX12_nameOf h) gmX12_nameOf selX12_nameOf lk_RX12_184 dX12_readMonthName_4 rfl (by decide) sh_177 ⟨rfl, by decide⟩ rfl ⟨Nat.le_of_ble_eq_true rfl, Nat.le_of_ble_eq_true rfl⟩ (Nat.le_of_ble_eq_true rfl) ⟨by show _ ≤ 2 * g; omega, by show _ ≤ 8 * g; omega⟩ (fun r1 s1 h => ?_)
  refine r_iconst (pc := 7) (v := 1) dX12_readMonthName_7 (by decide) ?_
  refine r_iadd (pc := 8) dX12_readMonthName_8 ?_
  refine r_istore_n (pc := 9) (L' := [some (.ref 177), some (.int (r1 + 1)), none, none, none, none]) dX12_readMonthName_9 rfl (by decide) rfl ?_
  refine r_aload_n (pc := 10) (x := 177) dX12_readMonthName_10 rfl ?_
  refine n_Vv0 (pc := 11) (S0 := []) (spX12_goWord h) gmX12_goWord selX12_goWord lk_RX12_158 dX12_readMonthName_11 rfl (by decide) sh_177 ⟨rfl, by decide⟩ rfl ⟨Nat.le_of_ble_eq_true rfl, Nat.le_of_ble_eq_true rfl⟩ (Nat.le_of_ble_eq_true rfl) ⟨by show _ ≤ 2 * g; omega, by show _ ≤ 8 * g; omega⟩ (fun s2 h => ?_)
  refine r_aload_n (pc := 14) (x := 177) dX12_readMonthName_14 rfl ?_
  refine n_getI (pc := 15) (j := 11) dX12_readMonthName_15 fl_RX12_136 (by decide) sh_177 rfl rfl ?_
  refine r_if_eq (pc := 18) (tgt := 28) dX12_readMonthName_18 (by decide) (fun c => ?_) (fun c => ?_)
  · replace h := h.1 c
    refine n_L (L' := [some (.ref 177), some (.int (r1 + 1)), none, none, none, none]) (le_s (le_s (le_n (le_n (le_n (le_n (le_e))))))) ?_
    exact pX12_readMonthName_28  _ _ _ h  _ _ (by omega) (by omega)
  · replace h := h.2 c
    refine r_aload_n (pc := 21) (x := 177) dX12_readMonthName_21 rfl ?_
    refine n_Vi0 (pc := 22) (S0 := []) (spX12_fine h) gmX12_fine selX12_fine lk_RX12_121 dX12_readMonthName_22 rfl (by decide) sh_177 ⟨rfl, by decide⟩ rfl ⟨Nat.le_of_ble_eq_true rfl, Nat.le_of_ble_eq_true rfl⟩ (Nat.le_of_ble_eq_true rfl) ⟨by show _ ≤ 2 * g; omega, by show _ ≤ 8 * g; omega⟩ (fun r3 s3 h => ?_)
    refine r_if_ne (pc := 25) (tgt := 34) dX12_readMonthName_25 (by decide) (fun c => ?_) (fun c => ?_)
    · replace h := h.1 c
      refine r_aload_n (pc := 34) (x := 177) dX12_readMonthName_34 rfl ?_
      refine r_iconst (pc := 35) (v := 1) dX12_readMonthName_35 (by decide) ?_
      refine r_bipush (pc := 36) (v := 31) dX12_readMonthName_36 (by decide) ?_
      refine n_Vi0 (pc := 38) (S0 := []) (spX12_needNumber h) gmX12_needNumber selX12_needNumber lk_RX12_266 dX12_readMonthName_38 rfl (by decide) sh_177 ⟨rfl, by decide⟩ rfl ⟨Nat.le_of_ble_eq_true rfl, Nat.le_of_ble_eq_true rfl⟩ (Nat.le_of_ble_eq_true rfl) ⟨by show _ ≤ 2 * g; omega, by show _ ≤ 8 * g; omega⟩ (fun r4 s4 h => ?_)
      refine r_istore_n (pc := 41) (L' := [some (.ref 177), some (.int (r1 + 1)), some (.int r4), none, none, none]) dX12_readMonthName_41 rfl (by decide) rfl ?_
      refine r_aload_n (pc := 42) (x := 177) dX12_readMonthName_42 rfl ?_
      refine n_getI (pc := 43) (j := 11) dX12_readMonthName_43 fl_RX12_136 (by decide) sh_177 rfl rfl ?_
      refine r_if_eq (pc := 46) (tgt := 86) dX12_readMonthName_46 (by decide) (fun c => ?_) (fun c => ?_)
      · replace h := h.1 c
        refine n_L (L' := [some (.ref 177), some (.int (r1 + 1)), some (.int r4), none, none, none]) (le_s (le_s (le_s (le_n (le_n (le_n (le_e))))))) ?_
        exact pX12_readMonthName_86  _ _ _ _ h  _ _ (by omega) (by omega)
      · replace h := h.2 c
        refine r_aload_n (pc := 49) (x := 177) dX12_readMonthName_49 rfl ?_
        refine n_Vi0 (pc := 50) (S0 := []) (spX12_fine h) gmX12_fine selX12_fine lk_RX12_121 dX12_readMonthName_50 rfl (by decide) sh_177 ⟨rfl, by decide⟩ rfl ⟨Nat.le_of_ble_eq_true rfl, Nat.le_of_ble_eq_true rfl⟩ (Nat.le_of_ble_eq_true rfl) ⟨by show _ ≤ 2 * g; omega, by show _ ≤ 8 * g; omega⟩ (fun r5 s5 h => ?_)
        refine r_if_eq (pc := 53) (tgt := 86) dX12_readMonthName_53 (by decide) (fun c => ?_) (fun c => ?_)
        · replace h := h.1 c
          refine n_L (L' := [some (.ref 177), some (.int (r1 + 1)), some (.int r4), none, none, none]) (le_s (le_s (le_s (le_n (le_n (le_n (le_e))))))) ?_
          exact pX12_readMonthName_86  _ _ _ _ h  _ _ (by omega) (by omega)
        · replace h := h.2 c
          refine r_aload_n (pc := 56) (x := 177) dX12_readMonthName_56 rfl ?_
          refine r_sipush (pc := 57) (v := 2000) dX12_readMonthName_57 (by decide) ?_
          refine r_sipush (pc := 60) (v := 2027) dX12_readMonthName_60 (by decide) ?_
          refine n_Vi0 (pc := 63) (S0 := []) (spX12_needNumber h) gmX12_needNumber selX12_needNumber lk_RX12_266 dX12_readMonthName_63 rfl (by decide) sh_177 ⟨rfl, by decide⟩ rfl ⟨Nat.le_of_ble_eq_true rfl, Nat.le_of_ble_eq_true rfl⟩ (Nat.le_of_ble_eq_true rfl) ⟨by show _ ≤ 2 * g; omega, by show _ ≤ 8 * g; omega⟩ (fun r6 s6 h => ?_)
          refine r_istore_n (pc := 66) (L' := [some (.ref 177), some (.int (r1 + 1)), some (.int r4), some (.int r6), none, none]) dX12_readMonthName_66 rfl (by decide) rfl ?_
          refine r_aload_n (pc := 67) (x := 177) dX12_readMonthName_67 rfl ?_
          refine n_Vi0 (pc := 68) (S0 := []) (spX12_fine h) gmX12_fine selX12_fine lk_RX12_121 dX12_readMonthName_68 rfl (by decide) sh_177 ⟨rfl, by decide⟩ rfl ⟨Nat.le_of_ble_eq_true rfl, Nat.le_of_ble_eq_true rfl⟩ (Nat.le_of_ble_eq_true rfl) ⟨by show _ ≤ 2 * g; omega, by show _ ≤ 8 * g; omega⟩ (fun r7 s7 h => ?_)
          refine r_if_eq (pc := 71) (tgt := 85) dX12_readMonthName_71 (by decide) (fun c => ?_) (fun c => ?_)
          · replace h := h.1 c
            exact n_vret (pc := 85) dX12_readMonthName_85 rfl (by omega) (by omega) h
          · replace h := h.2 c
            refine r_aload_n (pc := 74) (x := 177) dX12_readMonthName_74 rfl ?_
            refine r_iload_n (pc := 75) (x := r6) dX12_readMonthName_75 rfl ?_
            refine r_iload_n (pc := 76) (x := r1 + 1) dX12_readMonthName_76 rfl ?_
            refine r_iload_n (pc := 77) (x := r4) dX12_readMonthName_77 rfl ?_
            refine n_Si0 (pc := 78) (S0 := [.ref 177]) (spX12_dayOf h) gmX12_dayOf lk_RX12_87 dX12_readMonthName_78 rfl rfl ⟨Nat.le_of_ble_eq_true rfl, Nat.le_of_ble_eq_true rfl⟩ (Nat.le_of_ble_eq_true rfl) ⟨by show _ ≤ 2 * g; omega, by show _ ≤ 8 * g; omega⟩ (fun r8 s8 h => ?_)
            refine r_iconst (pc := 81) (v := 3) dX12_readMonthName_81 (by decide) ?_
            refine n_Vv0 (pc := 82) (S0 := []) (spX12_pushDay h) gmX12_pushDay selX12_pushDay lk_RX12_195 dX12_readMonthName_82 rfl (by decide) sh_177 ⟨rfl, by decide⟩ rfl ⟨Nat.le_of_ble_eq_true rfl, Nat.le_of_ble_eq_true rfl⟩ (Nat.le_of_ble_eq_true rfl) ⟨by show _ ≤ 2 * g; omega, by show _ ≤ 8 * g; omega⟩ (fun s9 h => ?_)
            exact n_vret (pc := 85) dX12_readMonthName_85 rfl (by omega) (by omega) h
    · replace h := h.2 c
      refine n_L (L' := [some (.ref 177), some (.int (r1 + 1)), none, none, none, none]) (le_s (le_s (le_n (le_n (le_n (le_n (le_e))))))) ?_
      exact pX12_readMonthName_28  _ _ _ h  _ _ (by omega) (by omega)
def wX12_readOf_111 (rc : Nat → gS → (gS → Prop) → Prop) (x1 : Int32) (x2 : Int32) (Q : gS → Prop) (k33 : Nat → Int32 → Int32 → Int32 → gS → Prop) (g : Nat) (y3 : Int32) (y4 : Int32) (y5 : Int32) (y6 : Int32) (s : gS) : Prop := wpX12_h y5 0 s (fun r7 s7 => wpX12_h y5 1 s7 (fun r8 s8 => wpX12_in y6 r7 r8 s8 (fun r9 s9 => (r9 = 0 → k33 g y3 y4 (y5 + 1) s9) ∧ (¬ (r9 = 0) → wpX12_h y5 3 s9 (fun r10 s10 => wpX12_pushDay y6 r10 s10 (fun s11 => k33 g y3 y4 (y5 + 1) s11))))))
set_option maxRecDepth 20000 in
theorem pX12_readOf_111 {l : Launch} {X : gX} {dd : Nat} {G : Nat} {rc : Nat → gS → (gS → Prop) → Prop} {x1 : Int32} {x2 : Int32} (hrc : ∀ (g : Nat) (s : gS) (Q : gS → Prop), rc g s Q → Ct l mX12_readSpan (dd + 11) (2 * g) (8 * g) [.ref 177] (nrm s) (q_v Q)) {Q : gS → Prop} {k33 : Nat → Int32 → Int32 → Int32 → gS → Prop} (g : Nat) (y3 : Int32) (y4 : Int32) (y5 : Int32) (y6 : Int32) (s : gS) (h : wX12_readOf_111 rc x1 x2 Q k33 g y3 y4 y5 y6 s) (hk33 : ∀ (g : Nat) (y3 : Int32) (y4 : Int32) (y5 : Int32) (s : gS), k33 g y3 y4 y5 s → ∀ (k n : Nat), k + 2 * g ≤ 2 * G → n + 8 * g ≤ 8 * G → Gw l mX12_readOf (g_rm (dd + 12) (2 * G) (8 * G)) X 33 [some (.ref 177), some (.int x1), some (.int x2), some (.int y3), some (.int y4), some (.int y5), none] [] (nrm s) k n (g_Z X (q_v Q) (2 * G) (8 * G))) : ∀ (k n : Nat), k + 2 * g ≤ 2 * G → n + 8 * g ≤ 8 * G → Gw l mX12_readOf (g_rm (dd + 12) (2 * G) (8 * G)) X 111 [some (.ref 177), some (.int x1), some (.int x2), some (.int y3), some (.int y4), some (.int y5), some (.int y6)] [] (nrm s) k n (g_Z X (q_v Q) (2 * G) (8 * G)) := by
  intro k n hg1 hg2
  refine r_iload (pc := 111) (x := y6) dX12_readOf_111 rfl ?_
  refine r_aload_n (pc := 113) (x := 177) dX12_readOf_113 rfl ?_
  refine r_iload (pc := 114) (x := y5) dX12_readOf_114 rfl ?_
  refine r_iconst (pc := 116) (v := 0) dX12_readOf_116 (by decide) ?_
  refine n_Vi0 (pc := 117) (S0 := [.int y6]) (spX12_h h) gmX12_h selX12_h lk_RX12_284 dX12_readOf_117 rfl (by decide) sh_177 ⟨rfl, by decide⟩ rfl ⟨by show 1 + 1 ≤ dd + 12; omega, by show 8 + (3 + 11) + 40 * (1) ≤ 40 * (dd + 12); omega⟩ (Nat.le_of_ble_eq_true rfl) ⟨by show _ ≤ 2 * G; omega, by show _ ≤ 8 * G; omega⟩ (fun r7 s7 h => ?_)
  refine r_aload_n (pc := 120) (x := 177) dX12_readOf_120 rfl ?_
  refine r_iload (pc := 121) (x := y5) dX12_readOf_121 rfl ?_
  refine r_iconst (pc := 123) (v := 1) dX12_readOf_123 (by decide) ?_
  refine n_Vi0 (pc := 124) (S0 := [.int r7, .int y6]) (spX12_h h) gmX12_h selX12_h lk_RX12_284 dX12_readOf_124 rfl (by decide) sh_177 ⟨rfl, by decide⟩ rfl ⟨by show 1 + 1 ≤ dd + 12; omega, by show 8 + (3 + 11) + 40 * (1) ≤ 40 * (dd + 12); omega⟩ (Nat.le_of_ble_eq_true rfl) ⟨by show _ ≤ 2 * G; omega, by show _ ≤ 8 * G; omega⟩ (fun r8 s8 h => ?_)
  refine n_Si0 (pc := 127) (S0 := []) (spX12_in h) gmX12_in lk_RX12_62 dX12_readOf_127 rfl rfl ⟨by show 1 + 1 ≤ dd + 12; omega, by show 8 + (3 + 11) + 40 * (1) ≤ 40 * (dd + 12); omega⟩ (Nat.le_of_ble_eq_true rfl) ⟨by show _ ≤ 2 * G; omega, by show _ ≤ 8 * G; omega⟩ (fun r9 s9 h => ?_)
  refine r_if_eq (pc := 130) (tgt := 146) dX12_readOf_130 (by decide) (fun c => ?_) (fun c => ?_)
  · replace h := h.1 c
    refine n_iinc (pc := 146) (x := y5) (w := 1) (L' := [some (.ref 177), some (.int x1), some (.int x2), some (.int y3), some (.int y4), some (.int (y5 + 1)), some (.int y6)]) dX12_readOf_146 rfl (by decide) rfl (by decide) rfl ?_
    refine r_goto (pc := 149) (tgt := 33) dX12_readOf_149 (by decide) ?_
    refine n_L (L' := [some (.ref 177), some (.int x1), some (.int x2), some (.int y3), some (.int y4), some (.int (y5 + 1)), none]) (le_s (le_s (le_s (le_s (le_s (le_s (le_n (le_e)))))))) ?_
    exact hk33 _ _ _ _ _ h _ _ (by omega) (by omega)
  · replace h := h.2 c
    refine r_aload_n (pc := 133) (x := 177) dX12_readOf_133 rfl ?_
    refine r_iload (pc := 134) (x := y6) dX12_readOf_134 rfl ?_
    refine r_aload_n (pc := 136) (x := 177) dX12_readOf_136 rfl ?_
    refine r_iload (pc := 137) (x := y5) dX12_readOf_137 rfl ?_
    refine r_iconst (pc := 139) (v := 3) dX12_readOf_139 (by decide) ?_
    refine n_Vi0 (pc := 140) (S0 := [.int y6, .ref 177]) (spX12_h h) gmX12_h selX12_h lk_RX12_284 dX12_readOf_140 rfl (by decide) sh_177 ⟨rfl, by decide⟩ rfl ⟨by show 1 + 1 ≤ dd + 12; omega, by show 8 + (3 + 11) + 40 * (1) ≤ 40 * (dd + 12); omega⟩ (Nat.le_of_ble_eq_true rfl) ⟨by show _ ≤ 2 * G; omega, by show _ ≤ 8 * G; omega⟩ (fun r10 s10 h => ?_)
    refine n_Vv0 (pc := 143) (S0 := []) (spX12_pushDay h) gmX12_pushDay selX12_pushDay lk_RX12_195 dX12_readOf_143 rfl (by decide) sh_177 ⟨rfl, by decide⟩ rfl ⟨by show 4 + 1 ≤ dd + 12; omega, by show 8 + (3 + 11) + 40 * (4) ≤ 40 * (dd + 12); omega⟩ (Nat.le_of_ble_eq_true rfl) ⟨by show _ ≤ 2 * G; omega, by show _ ≤ 8 * G; omega⟩ (fun s11 h => ?_)
    refine n_iinc (pc := 146) (x := y5) (w := 1) (L' := [some (.ref 177), some (.int x1), some (.int x2), some (.int y3), some (.int y4), some (.int (y5 + 1)), some (.int y6)]) dX12_readOf_146 rfl (by decide) rfl (by decide) rfl ?_
    refine r_goto (pc := 149) (tgt := 33) dX12_readOf_149 (by decide) ?_
    refine n_L (L' := [some (.ref 177), some (.int x1), some (.int x2), some (.int y3), some (.int y4), some (.int (y5 + 1)), none]) (le_s (le_s (le_s (le_s (le_s (le_s (le_n (le_e)))))))) ?_
    exact hk33 _ _ _ _ _ h _ _ (by omega) (by omega)
def wX12_readOf_63 (rc : Nat → gS → (gS → Prop) → Prop) (x1 : Int32) (x2 : Int32) (Q : gS → Prop) (k33 : Nat → Int32 → Int32 → Int32 → gS → Prop) : Nat → Nat → Int32 → Int32 → Int32 → Int32 → gS → Prop
  | 0, _, _, _, _, _, _ => False
  | n + 1, g, y3, y4, y5, y6, s => wpX12_h y5 0 s (fun r12 s12 => wpX12_h y5 1 s12 (fun r13 s13 => wpX12_in y6 r12 r13 s13 (fun r14 s14 => (r14 = 0 → wX12_readOf_111 rc x1 x2 Q k33 g y3 y4 y5 y6 s14) ∧ (¬ (r14 = 0) → wpX12_weekday y6 s14 (fun r15 s15 => (r15 = x1 → wX12_readOf_111 rc x1 x2 Q k33 g y3 y4 y5 y6 s15) ∧ (¬ (r15 = x1) → (x2 = 0 → wX12_readOf_63 rc x1 x2 Q k33 n g y3 y4 y5 (y6 + (-1)) s15) ∧ (¬ (x2 = 0) → wX12_readOf_63 rc x1 x2 Q k33 n g y3 y4 y5 (y6 + 1) s15)))))))
set_option maxRecDepth 20000 in
theorem pX12_readOf_63 {l : Launch} {X : gX} {dd : Nat} {G : Nat} {rc : Nat → gS → (gS → Prop) → Prop} {x1 : Int32} {x2 : Int32} (hrc : ∀ (g : Nat) (s : gS) (Q : gS → Prop), rc g s Q → Ct l mX12_readSpan (dd + 11) (2 * g) (8 * g) [.ref 177] (nrm s) (q_v Q)) {Q : gS → Prop} {k33 : Nat → Int32 → Int32 → Int32 → gS → Prop} : ∀ (n : Nat) (g : Nat) (y3 : Int32) (y4 : Int32) (y5 : Int32) (y6 : Int32) (s : gS) (h : wX12_readOf_63 rc x1 x2 Q k33 n g y3 y4 y5 y6 s) (hk33 : ∀ (g : Nat) (y3 : Int32) (y4 : Int32) (y5 : Int32) (s : gS), k33 g y3 y4 y5 s → ∀ (k n : Nat), k + 2 * g ≤ 2 * G → n + 8 * g ≤ 8 * G → Gw l mX12_readOf (g_rm (dd + 12) (2 * G) (8 * G)) X 33 [some (.ref 177), some (.int x1), some (.int x2), some (.int y3), some (.int y4), some (.int y5), none] [] (nrm s) k n (g_Z X (q_v Q) (2 * G) (8 * G))), ∀ (k n : Nat), k + 2 * g ≤ 2 * G → n + 8 * g ≤ 8 * G → Gw l mX12_readOf (g_rm (dd + 12) (2 * G) (8 * G)) X 63 [some (.ref 177), some (.int x1), some (.int x2), some (.int y3), some (.int y4), some (.int y5), some (.int y6)] [] (nrm s) k n (g_Z X (q_v Q) (2 * G) (8 * G)) := by
  intro n
  induction n with
  | zero => intro g y3 y4 y5 y6 s h; exact h.elim
  | succ n ih0 =>
    intro g y3 y4 y5 y6 s h hk33
    have ih : ∀ (g : Nat) (y3 : Int32) (y4 : Int32) (y5 : Int32) (y6 : Int32) (s : gS), wX12_readOf_63 rc x1 x2 Q k33 n g y3 y4 y5 y6 s → ∀ (k n : Nat), k + 2 * g ≤ 2 * G → n + 8 * g ≤ 8 * G → Gw l mX12_readOf (g_rm (dd + 12) (2 * G) (8 * G)) X 63 [some (.ref 177), some (.int x1), some (.int x2), some (.int y3), some (.int y4), some (.int y5), some (.int y6)] [] (nrm s) k n (g_Z X (q_v Q) (2 * G) (8 * G)) := fun g y3 y4 y5 y6 s h => ih0 g y3 y4 y5 y6 s h hk33
    intro k n hg1 hg2
    refine r_iload (pc := 63) (x := y6) dX12_readOf_63 rfl ?_
    refine r_aload_n (pc := 65) (x := 177) dX12_readOf_65 rfl ?_
    refine r_iload (pc := 66) (x := y5) dX12_readOf_66 rfl ?_
    refine r_iconst (pc := 68) (v := 0) dX12_readOf_68 (by decide) ?_
    refine n_Vi0 (pc := 69) (S0 := [.int y6]) (spX12_h h) gmX12_h selX12_h lk_RX12_284 dX12_readOf_69 rfl (by decide) sh_177 ⟨rfl, by decide⟩ rfl ⟨by show 1 + 1 ≤ dd + 12; omega, by show 8 + (3 + 11) + 40 * (1) ≤ 40 * (dd + 12); omega⟩ (Nat.le_of_ble_eq_true rfl) ⟨by show _ ≤ 2 * G; omega, by show _ ≤ 8 * G; omega⟩ (fun r12 s12 h => ?_)
    refine r_aload_n (pc := 72) (x := 177) dX12_readOf_72 rfl ?_
    refine r_iload (pc := 73) (x := y5) dX12_readOf_73 rfl ?_
    refine r_iconst (pc := 75) (v := 1) dX12_readOf_75 (by decide) ?_
    refine n_Vi0 (pc := 76) (S0 := [.int r12, .int y6]) (spX12_h h) gmX12_h selX12_h lk_RX12_284 dX12_readOf_76 rfl (by decide) sh_177 ⟨rfl, by decide⟩ rfl ⟨by show 1 + 1 ≤ dd + 12; omega, by show 8 + (3 + 11) + 40 * (1) ≤ 40 * (dd + 12); omega⟩ (Nat.le_of_ble_eq_true rfl) ⟨by show _ ≤ 2 * G; omega, by show _ ≤ 8 * G; omega⟩ (fun r13 s13 h => ?_)
    refine n_Si0 (pc := 79) (S0 := []) (spX12_in h) gmX12_in lk_RX12_62 dX12_readOf_79 rfl rfl ⟨by show 1 + 1 ≤ dd + 12; omega, by show 8 + (3 + 11) + 40 * (1) ≤ 40 * (dd + 12); omega⟩ (Nat.le_of_ble_eq_true rfl) ⟨by show _ ≤ 2 * G; omega, by show _ ≤ 8 * G; omega⟩ (fun r14 s14 h => ?_)
    refine r_if_eq (pc := 82) (tgt := 111) dX12_readOf_82 (by decide) (fun c => ?_) (fun c => ?_)
    · replace h := h.1 c
      refine n_L (L' := [some (.ref 177), some (.int x1), some (.int x2), some (.int y3), some (.int y4), some (.int y5), some (.int y6)]) (le_s (le_s (le_s (le_s (le_s (le_s (le_s (le_e)))))))) ?_
      exact pX12_readOf_111 hrc _ _ _ _ _ _ h hk33 _ _ (by omega) (by omega)
    · replace h := h.2 c
      refine r_iload (pc := 85) (x := y6) dX12_readOf_85 rfl ?_
      refine n_Si0 (pc := 87) (S0 := []) (spX12_weekday h) gmX12_weekday lk_RX12_98 dX12_readOf_87 rfl rfl ⟨by show 1 + 1 ≤ dd + 12; omega, by show 8 + (1 + 11) + 40 * (1) ≤ 40 * (dd + 12); omega⟩ (Nat.le_of_ble_eq_true rfl) ⟨by show _ ≤ 2 * G; omega, by show _ ≤ 8 * G; omega⟩ (fun r15 s15 h => ?_)
      refine r_iload_n (pc := 90) (x := x1) dX12_readOf_90 rfl ?_
      refine r_icmp_eq (pc := 91) (tgt := 111) dX12_readOf_91 (by decide) (fun c => ?_) (fun c => ?_)
      · replace h := h.1 c
        refine n_L (L' := [some (.ref 177), some (.int x1), some (.int x2), some (.int y3), some (.int y4), some (.int y5), some (.int y6)]) (le_s (le_s (le_s (le_s (le_s (le_s (le_s (le_e)))))))) ?_
        exact pX12_readOf_111 hrc _ _ _ _ _ _ h hk33 _ _ (by omega) (by omega)
      · replace h := h.2 c
        refine r_iload (pc := 94) (x := y6) dX12_readOf_94 rfl ?_
        refine r_iload_n (pc := 96) (x := x2) dX12_readOf_96 rfl ?_
        refine r_if_eq (pc := 97) (tgt := 104) dX12_readOf_97 (by decide) (fun c => ?_) (fun c => ?_)
        · replace h := h.1 c
          refine r_iconst (pc := 104) (v := (-1)) dX12_readOf_104 (by decide) ?_
          refine r_iadd (pc := 105) dX12_readOf_105 ?_
          refine r_istore (pc := 106) (L' := [some (.ref 177), some (.int x1), some (.int x2), some (.int y3), some (.int y4), some (.int y5), some (.int (y6 + (-1)))]) dX12_readOf_106 rfl (by decide) rfl ?_
          refine r_goto (pc := 108) (tgt := 63) dX12_readOf_108 (by decide) ?_
          refine n_L (L' := [some (.ref 177), some (.int x1), some (.int x2), some (.int y3), some (.int y4), some (.int y5), some (.int (y6 + (-1)))]) (le_s (le_s (le_s (le_s (le_s (le_s (le_s (le_e)))))))) ?_
          exact ih _ _ _ _ _ _ h _ _ (by omega) (by omega)
        · replace h := h.2 c
          refine r_iconst (pc := 100) (v := 1) dX12_readOf_100 (by decide) ?_
          refine r_goto (pc := 101) (tgt := 105) dX12_readOf_101 (by decide) ?_
          refine r_iadd (pc := 105) dX12_readOf_105 ?_
          refine r_istore (pc := 106) (L' := [some (.ref 177), some (.int x1), some (.int x2), some (.int y3), some (.int y4), some (.int y5), some (.int (y6 + 1))]) dX12_readOf_106 rfl (by decide) rfl ?_
          refine r_goto (pc := 108) (tgt := 63) dX12_readOf_108 (by decide) ?_
          refine n_L (L' := [some (.ref 177), some (.int x1), some (.int x2), some (.int y3), some (.int y4), some (.int y5), some (.int (y6 + 1))]) (le_s (le_s (le_s (le_s (le_s (le_s (le_s (le_e)))))))) ?_
          exact ih _ _ _ _ _ _ h _ _ (by omega) (by omega)
def wX12_readOf_33 (rc : Nat → gS → (gS → Prop) → Prop) (x1 : Int32) (x2 : Int32) (Q : gS → Prop)  : Nat → Nat → Int32 → Int32 → Int32 → gS → Prop
  | 0, _, _, _, _, _ => False
  | n + 1, g, y3, y4, y5, s => (y4 ≤ y5 → wpX12_drop y3 y4 s (fun s4 => Q s4)) ∧ (¬ (y4 ≤ y5) → (x2 = 0 → wpX12_h y5 1 s (fun r5 s5 => ∃ n63, wX12_readOf_63 rc x1 x2 Q (fun g y3 y4 y5 s => wX12_readOf_33 rc x1 x2 Q n g y3 y4 y5 s) n63 g y3 y4 y5 r5 s5)) ∧ (¬ (x2 = 0) → wpX12_h y5 0 s (fun r6 s6 => ∃ n63, wX12_readOf_63 rc x1 x2 Q (fun g y3 y4 y5 s => wX12_readOf_33 rc x1 x2 Q n g y3 y4 y5 s) n63 g y3 y4 y5 r6 s6)))
set_option maxRecDepth 20000 in
theorem pX12_readOf_33 {l : Launch} {X : gX} {dd : Nat} {G : Nat} {rc : Nat → gS → (gS → Prop) → Prop} {x1 : Int32} {x2 : Int32} (hrc : ∀ (g : Nat) (s : gS) (Q : gS → Prop), rc g s Q → Ct l mX12_readSpan (dd + 11) (2 * g) (8 * g) [.ref 177] (nrm s) (q_v Q)) {Q : gS → Prop}  : ∀ (n : Nat) (g : Nat) (y3 : Int32) (y4 : Int32) (y5 : Int32) (s : gS) (h : wX12_readOf_33 rc x1 x2 Q n g y3 y4 y5 s) , ∀ (k n : Nat), k + 2 * g ≤ 2 * G → n + 8 * g ≤ 8 * G → Gw l mX12_readOf (g_rm (dd + 12) (2 * G) (8 * G)) X 33 [some (.ref 177), some (.int x1), some (.int x2), some (.int y3), some (.int y4), some (.int y5), none] [] (nrm s) k n (g_Z X (q_v Q) (2 * G) (8 * G)) := by
  intro n
  induction n with
  | zero => intro g y3 y4 y5 s h; exact h.elim
  | succ n ih0 =>
    intro g y3 y4 y5 s h 
    have ih : ∀ (g : Nat) (y3 : Int32) (y4 : Int32) (y5 : Int32) (s : gS), wX12_readOf_33 rc x1 x2 Q n g y3 y4 y5 s → ∀ (k n : Nat), k + 2 * g ≤ 2 * G → n + 8 * g ≤ 8 * G → Gw l mX12_readOf (g_rm (dd + 12) (2 * G) (8 * G)) X 33 [some (.ref 177), some (.int x1), some (.int x2), some (.int y3), some (.int y4), some (.int y5), none] [] (nrm s) k n (g_Z X (q_v Q) (2 * G) (8 * G)) := fun g y3 y4 y5 s h => ih0 g y3 y4 y5 s h 
    intro k n hg1 hg2
    refine r_iload (pc := 33) (x := y5) dX12_readOf_33 rfl ?_
    refine r_iload (pc := 35) (x := y4) dX12_readOf_35 rfl ?_
    refine r_icmp_ge (pc := 37) (tgt := 152) dX12_readOf_37 (by decide) (fun c => ?_) (fun c => ?_)
    · replace h := h.1 c
      refine r_aload_n (pc := 152) (x := 177) dX12_readOf_152 rfl ?_
      refine r_iload_n (pc := 153) (x := y3) dX12_readOf_153 rfl ?_
      refine r_iload (pc := 154) (x := y4) dX12_readOf_154 rfl ?_
      refine n_Vv0 (pc := 156) (S0 := []) (spX12_drop h) gmX12_drop selX12_drop lk_RX12_287 dX12_readOf_156 rfl (by decide) sh_177 ⟨rfl, by decide⟩ rfl ⟨by show 2 + 1 ≤ dd + 12; omega, by show 8 + (5 + 11) + 40 * (2) ≤ 40 * (dd + 12); omega⟩ (Nat.le_of_ble_eq_true rfl) ⟨by show _ ≤ 2 * G; omega, by show _ ≤ 8 * G; omega⟩ (fun s4 h => ?_)
      exact n_vret (pc := 159) dX12_readOf_159 rfl (by omega) (by omega) h
    · replace h := h.2 c
      refine r_iload_n (pc := 40) (x := x2) dX12_readOf_40 rfl ?_
      refine r_if_eq (pc := 41) (tgt := 54) dX12_readOf_41 (by decide) (fun c => ?_) (fun c => ?_)
      · replace h := h.1 c
        refine r_aload_n (pc := 54) (x := 177) dX12_readOf_54 rfl ?_
        refine r_iload (pc := 55) (x := y5) dX12_readOf_55 rfl ?_
        refine r_iconst (pc := 57) (v := 1) dX12_readOf_57 (by decide) ?_
        refine n_Vi0 (pc := 58) (S0 := []) (spX12_h h) gmX12_h selX12_h lk_RX12_284 dX12_readOf_58 rfl (by decide) sh_177 ⟨rfl, by decide⟩ rfl ⟨by show 1 + 1 ≤ dd + 12; omega, by show 8 + (3 + 11) + 40 * (1) ≤ 40 * (dd + 12); omega⟩ (Nat.le_of_ble_eq_true rfl) ⟨by show _ ≤ 2 * G; omega, by show _ ≤ 8 * G; omega⟩ (fun r5 s5 h => ?_)
        refine r_istore (pc := 61) (L' := [some (.ref 177), some (.int x1), some (.int x2), some (.int y3), some (.int y4), some (.int y5), some (.int r5)]) dX12_readOf_61 rfl (by decide) rfl ?_
        refine n_L (L' := [some (.ref 177), some (.int x1), some (.int x2), some (.int y3), some (.int y4), some (.int y5), some (.int r5)]) (le_s (le_s (le_s (le_s (le_s (le_s (le_s (le_e)))))))) ?_
        obtain ⟨n, h⟩ := h
        exact pX12_readOf_63 hrc n _ _ _ _ _ _ h ih _ _ (by omega) (by omega)
      · replace h := h.2 c
        refine r_aload_n (pc := 44) (x := 177) dX12_readOf_44 rfl ?_
        refine r_iload (pc := 45) (x := y5) dX12_readOf_45 rfl ?_
        refine r_iconst (pc := 47) (v := 0) dX12_readOf_47 (by decide) ?_
        refine n_Vi0 (pc := 48) (S0 := []) (spX12_h h) gmX12_h selX12_h lk_RX12_284 dX12_readOf_48 rfl (by decide) sh_177 ⟨rfl, by decide⟩ rfl ⟨by show 1 + 1 ≤ dd + 12; omega, by show 8 + (3 + 11) + 40 * (1) ≤ 40 * (dd + 12); omega⟩ (Nat.le_of_ble_eq_true rfl) ⟨by show _ ≤ 2 * G; omega, by show _ ≤ 8 * G; omega⟩ (fun r6 s6 h => ?_)
        refine r_goto (pc := 51) (tgt := 61) dX12_readOf_51 (by decide) ?_
        refine r_istore (pc := 61) (L' := [some (.ref 177), some (.int x1), some (.int x2), some (.int y3), some (.int y4), some (.int y5), some (.int r6)]) dX12_readOf_61 rfl (by decide) rfl ?_
        refine n_L (L' := [some (.ref 177), some (.int x1), some (.int x2), some (.int y3), some (.int y4), some (.int y5), some (.int r6)]) (le_s (le_s (le_s (le_s (le_s (le_s (le_s (le_e)))))))) ?_
        obtain ⟨n, h⟩ := h
        exact pX12_readOf_63 hrc n _ _ _ _ _ _ h ih _ _ (by omega) (by omega)
def wfX12_readOf (rc : Nat → gS → (gS → Prop) → Prop) (g : Nat) (x1 : Int32) (x2 : Int32) (s : gS) (Q : gS → Prop) : Prop := wpX12_needs 1015 s (fun s1 => ∃ g2a g2b, g2a + g2b ≤ g ∧ rc g2a s1 (fun s2 => wpX12_fine s2 (fun r3 s3 => (¬ r3 = 0 → ∃ n33, wX12_readOf_33 rc x1 x2 Q n33 g2b (gi s1 177 14) (gi s3 177 14) (gi s1 177 14) s3) ∧ (r3 = 0 → Q s3))))
set_option maxRecDepth 20000 in
theorem spfX12_readOf {l : Launch} {dd : Nat} {rc : Nat → gS → (gS → Prop) → Prop} {g : Nat} {x1 : Int32} {x2 : Int32} (hrc : ∀ (g : Nat) (s : gS) (Q : gS → Prop), rc g s Q → Ct l mX12_readSpan (dd + 11) (2 * g) (8 * g) [.ref 177] (nrm s) (q_v Q)) {s : gS} {Q : gS → Prop} (h : wfX12_readOf rc g x1 x2 s Q) : Ct l mX12_readOf (dd + 12) (2 * g) (8 * g) [.ref 177, .int x1, .int x2] (nrm s) (q_v Q) := by
  refine Ct.of (by decide) (Nat.le_of_ble_eq_true rfl) (fun X => ?_)
  refine n_L (L' := [some (.ref 177), some (.int x1), some (.int x2), none, none, none, none]) (le_s (le_s (le_s (le_p (le_p (le_p (le_p (le_e)))))))) ?_
  have hg1 : 0 + 2 * g ≤ 2 * g := by omega
  have hg2 : 0 + 8 * g ≤ 8 * g := by omega
  refine r_aload_n (pc := 0) (x := 177) dX12_readOf_0 rfl ?_
  refine n_ldc_wS (pc := 1) (i := 15) dX12_readOf_1 sr_RX12_293 ?_
  refine n_Vv0S (pc := 4) (S0 := []) (spX12_needs h) (Or.inl (by decide)) gmX12_needs selX12_needs lk_RX12_295 dX12_readOf_4 rfl (by decide) sh_177 ⟨rfl, by decide⟩ rfl ⟨by show 7 + 1 ≤ dd + 12; omega, by show 8 + (2 + 11) + 40 * (7) ≤ 40 * (dd + 12); omega⟩ (Nat.le_of_ble_eq_true rfl) ⟨by show _ ≤ 2 * g; omega, by show _ ≤ 8 * g; omega⟩ (fun s1 h => ?_)
  refine r_aload_n (pc := 7) (x := 177) dX12_readOf_7 rfl ?_
  refine n_getI (pc := 8) (j := 14) dX12_readOf_8 fl_RX12_188 (by decide) sh_177 rfl rfl ?_
  refine r_istore_n (pc := 11) (L' := [some (.ref 177), some (.int x1), some (.int x2), some (.int (gi s1 177 14)), none, none, none]) dX12_readOf_11 rfl (by decide) rfl ?_
  refine r_aload_n (pc := 12) (x := 177) dX12_readOf_12 rfl ?_
  obtain ⟨g2a, g2b, hg2, h⟩ := h
  refine n_Vv (pc := 13) (S0 := []) (hrc _ _ _ h) gmX12_readSpan selX12_readSpan lk_RX12_281 dX12_readOf_13 rfl (by decide) sh_177 ⟨rfl, by decide⟩ rfl ⟨by show dd + 11 + 1 ≤ dd + 12; omega, by show 8 + (1 + 11) + 40 * (dd + 11) ≤ 40 * (dd + 12); omega⟩ (Nat.le_of_ble_eq_true rfl) ⟨by show _ ≤ 2 * g; omega, by show _ ≤ 8 * g; omega⟩ (fun s2 h => ?_)
  refine r_aload_n (pc := 16) (x := 177) dX12_readOf_16 rfl ?_
  refine n_Vi0 (pc := 17) (S0 := []) (spX12_fine h) gmX12_fine selX12_fine lk_RX12_121 dX12_readOf_17 rfl (by decide) sh_177 ⟨rfl, by decide⟩ rfl ⟨by show 1 + 1 ≤ dd + 12; omega, by show 8 + (1 + 11) + 40 * (1) ≤ 40 * (dd + 12); omega⟩ (Nat.le_of_ble_eq_true rfl) ⟨by show _ ≤ 2 * g; omega, by show _ ≤ 8 * g; omega⟩ (fun r3 s3 h => ?_)
  refine r_if_ne (pc := 20) (tgt := 24) dX12_readOf_20 (by decide) (fun c => ?_) (fun c => ?_)
  · replace h := h.1 c
    refine r_aload_n (pc := 24) (x := 177) dX12_readOf_24 rfl ?_
    refine n_getI (pc := 25) (j := 14) dX12_readOf_25 fl_RX12_188 (by decide) sh_177 rfl rfl ?_
    refine r_istore (pc := 28) (L' := [some (.ref 177), some (.int x1), some (.int x2), some (.int (gi s1 177 14)), some (.int (gi s3 177 14)), none, none]) dX12_readOf_28 rfl (by decide) rfl ?_
    refine r_iload_n (pc := 30) (x := gi s1 177 14) dX12_readOf_30 rfl ?_
    refine r_istore (pc := 31) (L' := [some (.ref 177), some (.int x1), some (.int x2), some (.int (gi s1 177 14)), some (.int (gi s3 177 14)), some (.int (gi s1 177 14)), none]) dX12_readOf_31 rfl (by decide) rfl ?_
    refine n_L (L' := [some (.ref 177), some (.int x1), some (.int x2), some (.int (gi s1 177 14)), some (.int (gi s3 177 14)), some (.int (gi s1 177 14)), none]) (le_s (le_s (le_s (le_s (le_s (le_s (le_n (le_e)))))))) ?_
    obtain ⟨n, h⟩ := h
    exact pX12_readOf_33 hrc n _ _ _ _ _ h  _ _ (by omega) (by omega)
  · replace h := h.2 c
    exact n_vret (pc := 23) dX12_readOf_23 rfl (by omega) (by omega) h
def wfX12_readLast (rc : Nat → gS → (gS → Prop) → Prop) (g : Nat) (s : gS) (Q : gS → Prop) : Prop := ∃ g1a g1b, g1a + g1b ≤ g ∧ wpX12_nameOf g1a 1014 s (fun r1 s1 => (¬ r1 = (-1) → wpX12_goWord s1 (fun s2 => wpX12_is 1015 s2 (fun r3 s3 => (r3 = 0 → wpX12_ahead (gi s3 177 15) r1 s3 (fun r4 s4 => wpX12_pushDay r4 3 s4 (fun s5 => wpX12_inWeek (gi s5 177 15) r1 s5 (fun r6 s6 => wpX12_pushDay (r6 - 7) 2 s6 (fun s7 => Q s7))))) ∧ (¬ (r3 = 0) → ∃ g8a g8b, g8a + g8b ≤ g1b ∧ wfX12_readOf rc g8a r1 0 s3 (fun s8 => Q s8))))) ∧ (r1 = (-1) → wpX12_needUnit s1 (fun r9 s9 => wpX12_fine s9 (fun r10 s10 => (¬ r10 = 0 → wpX12_pushUnit r9 (gi s10 177 15) (-1) 3 s10 (fun s11 => (¬ r9 = 1 → Q s11) ∧ (r9 = 1 → wpX12_push ((gi s11 177 15) - 7) ((gi s11 177 15) - 1) 1 1 s11 (fun s12 => Q s12)))) ∧ (r10 = 0 → Q s10)))))
set_option maxRecDepth 20000 in
theorem spfX12_readLast {l : Launch} {dd : Nat} {rc : Nat → gS → (gS → Prop) → Prop} {g : Nat} (hrc : ∀ (g : Nat) (s : gS) (Q : gS → Prop), rc g s Q → Ct l mX12_readSpan (dd + 11) (2 * g) (8 * g) [.ref 177] (nrm s) (q_v Q)) {s : gS} {Q : gS → Prop} (h : wfX12_readLast rc g s Q) : Ct l mX12_readLast (dd + 13) (2 * g) (8 * g) [.ref 177] (nrm s) (q_v Q) := by
  refine Ct.of (by decide) (Nat.le_of_ble_eq_true rfl) (fun X => ?_)
  refine n_L (L' := [some (.ref 177), none, none]) (le_s (le_p (le_p (le_e)))) ?_
  have hg1 : 0 + 2 * g ≤ 2 * g := by omega
  have hg2 : 0 + 8 * g ≤ 8 * g := by omega
  refine r_aload_n (pc := 0) (x := 177) dX12_readLast_0 rfl ?_
  refine n_ldcS (pc := 1) (i := 14) dX12_readLast_1 sr_RX12_182 ?_
  obtain ⟨g1a, g1b, hg1, h⟩ := h
  refine n_Vi (pc := 3) (S0 := []) (spX12_nameOf h) gmX12_nameOf selX12_nameOf lk_RX12_184 dX12_readLast_3 rfl (by decide) sh_177 ⟨rfl, by decide⟩ rfl ⟨by show 9 + 1 ≤ dd + 13; omega, by show 8 + (3 + 11) + 40 * (9) ≤ 40 * (dd + 13); omega⟩ (Nat.le_of_ble_eq_true rfl) ⟨by show _ ≤ 2 * g; omega, by show _ ≤ 8 * g; omega⟩ (fun r1 s1 h => ?_)
  refine r_istore_n (pc := 6) (L' := [some (.ref 177), some (.int r1), none]) dX12_readLast_6 rfl (by decide) rfl ?_
  refine r_iload_n (pc := 7) (x := r1) dX12_readLast_7 rfl ?_
  refine r_iconst (pc := 8) (v := (-1)) dX12_readLast_8 (by decide) ?_
  refine r_icmp_ne (pc := 9) (tgt := 61) dX12_readLast_9 (by decide) (fun c => ?_) (fun c => ?_)
  · replace h := h.1 c
    refine r_aload_n (pc := 61) (x := 177) dX12_readLast_61 rfl ?_
    refine n_Vv0 (pc := 62) (S0 := []) (spX12_goWord h) gmX12_goWord selX12_goWord lk_RX12_158 dX12_readLast_62 rfl (by decide) sh_177 ⟨rfl, by decide⟩ rfl ⟨by show 3 + 1 ≤ dd + 13; omega, by show 8 + (1 + 11) + 40 * (3) ≤ 40 * (dd + 13); omega⟩ (Nat.le_of_ble_eq_true rfl) ⟨by show _ ≤ 2 * g; omega, by show _ ≤ 8 * g; omega⟩ (fun s2 h => ?_)
    refine r_aload_n (pc := 65) (x := 177) dX12_readLast_65 rfl ?_
    refine n_ldc_wS (pc := 66) (i := 15) dX12_readLast_66 sr_RX12_293 ?_
    refine n_Vi0S (pc := 69) (S0 := []) (spX12_is h) (Or.inl (by decide)) gmX12_is selX12_is lk_RX12_154 dX12_readLast_69 rfl (by decide) sh_177 ⟨rfl, by decide⟩ rfl ⟨by show 5 + 1 ≤ dd + 13; omega, by show 8 + (3 + 11) + 40 * (5) ≤ 40 * (dd + 13); omega⟩ (Nat.le_of_ble_eq_true rfl) ⟨by show _ ≤ 2 * g; omega, by show _ ≤ 8 * g; omega⟩ (fun r3 s3 h => ?_)
    refine r_if_eq (pc := 72) (tgt := 82) dX12_readLast_72 (by decide) (fun c => ?_) (fun c => ?_)
    · replace h := h.1 c
      refine r_aload_n (pc := 82) (x := 177) dX12_readLast_82 rfl ?_
      refine r_aload_n (pc := 83) (x := 177) dX12_readLast_83 rfl ?_
      refine n_getI (pc := 84) (j := 15) dX12_readLast_84 fl_RX12_232 (by decide) sh_177 rfl rfl ?_
      refine r_iload_n (pc := 87) (x := r1) dX12_readLast_87 rfl ?_
      refine n_Si0 (pc := 88) (S0 := [.ref 177]) (spX12_ahead h) gmX12_ahead lk_RX12_305 dX12_readLast_88 rfl rfl ⟨by show 2 + 1 ≤ dd + 13; omega, by show 8 + (2 + 11) + 40 * (2) ≤ 40 * (dd + 13); omega⟩ (Nat.le_of_ble_eq_true rfl) ⟨by show _ ≤ 2 * g; omega, by show _ ≤ 8 * g; omega⟩ (fun r4 s4 h => ?_)
      refine r_iconst (pc := 91) (v := 3) dX12_readLast_91 (by decide) ?_
      refine n_Vv0 (pc := 92) (S0 := []) (spX12_pushDay h) gmX12_pushDay selX12_pushDay lk_RX12_195 dX12_readLast_92 rfl (by decide) sh_177 ⟨rfl, by decide⟩ rfl ⟨by show 4 + 1 ≤ dd + 13; omega, by show 8 + (3 + 11) + 40 * (4) ≤ 40 * (dd + 13); omega⟩ (Nat.le_of_ble_eq_true rfl) ⟨by show _ ≤ 2 * g; omega, by show _ ≤ 8 * g; omega⟩ (fun s5 h => ?_)
      refine r_aload_n (pc := 95) (x := 177) dX12_readLast_95 rfl ?_
      refine r_aload_n (pc := 96) (x := 177) dX12_readLast_96 rfl ?_
      refine n_getI (pc := 97) (j := 15) dX12_readLast_97 fl_RX12_232 (by decide) sh_177 rfl rfl ?_
      refine r_iload_n (pc := 100) (x := r1) dX12_readLast_100 rfl ?_
      refine n_Si0 (pc := 101) (S0 := [.ref 177]) (spX12_inWeek h) gmX12_inWeek lk_RX12_299 dX12_readLast_101 rfl rfl ⟨by show 2 + 1 ≤ dd + 13; omega, by show 8 + (2 + 11) + 40 * (2) ≤ 40 * (dd + 13); omega⟩ (Nat.le_of_ble_eq_true rfl) ⟨by show _ ≤ 2 * g; omega, by show _ ≤ 8 * g; omega⟩ (fun r6 s6 h => ?_)
      refine r_bipush (pc := 104) (v := 7) dX12_readLast_104 (by decide) ?_
      refine r_isub (pc := 106) dX12_readLast_106 ?_
      refine r_iconst (pc := 107) (v := 2) dX12_readLast_107 (by decide) ?_
      refine n_Vv0 (pc := 108) (S0 := []) (spX12_pushDay h) gmX12_pushDay selX12_pushDay lk_RX12_195 dX12_readLast_108 rfl (by decide) sh_177 ⟨rfl, by decide⟩ rfl ⟨by show 4 + 1 ≤ dd + 13; omega, by show 8 + (3 + 11) + 40 * (4) ≤ 40 * (dd + 13); omega⟩ (Nat.le_of_ble_eq_true rfl) ⟨by show _ ≤ 2 * g; omega, by show _ ≤ 8 * g; omega⟩ (fun s7 h => ?_)
      exact n_vret (pc := 111) dX12_readLast_111 rfl (by omega) (by omega) h
    · replace h := h.2 c
      refine r_aload_n (pc := 75) (x := 177) dX12_readLast_75 rfl ?_
      refine r_iload_n (pc := 76) (x := r1) dX12_readLast_76 rfl ?_
      refine r_iconst (pc := 77) (v := 0) dX12_readLast_77 (by decide) ?_
      obtain ⟨g8a, g8b, hg8, h⟩ := h
      refine n_Vv (pc := 78) (S0 := []) (spfX12_readOf hrc h) gmX12_readOf selX12_readOf lk_RX12_226 dX12_readLast_78 rfl (by decide) sh_177 ⟨rfl, by decide⟩ rfl ⟨by show dd + 12 + 1 ≤ dd + 13; omega, by show 8 + (7 + 11) + 40 * (dd + 12) ≤ 40 * (dd + 13); omega⟩ (Nat.le_of_ble_eq_true rfl) ⟨by show _ ≤ 2 * g; omega, by show _ ≤ 8 * g; omega⟩ (fun s8 h => ?_)
      exact n_vret (pc := 81) dX12_readLast_81 rfl (by omega) (by omega) h
  · replace h := h.2 c
    refine r_aload_n (pc := 12) (x := 177) dX12_readLast_12 rfl ?_
    refine n_Vi0 (pc := 13) (S0 := []) (spX12_needUnit h) gmX12_needUnit selX12_needUnit lk_RX12_269 dX12_readLast_13 rfl (by decide) sh_177 ⟨rfl, by decide⟩ rfl ⟨by show 7 + 1 ≤ dd + 13; omega, by show 8 + (2 + 11) + 40 * (7) ≤ 40 * (dd + 13); omega⟩ (Nat.le_of_ble_eq_true rfl) ⟨by show _ ≤ 2 * g; omega, by show _ ≤ 8 * g; omega⟩ (fun r9 s9 h => ?_)
    refine r_istore_n (pc := 16) (L' := [some (.ref 177), some (.int r1), some (.int r9)]) dX12_readLast_16 rfl (by decide) rfl ?_
    refine r_aload_n (pc := 17) (x := 177) dX12_readLast_17 rfl ?_
    refine n_Vi0 (pc := 18) (S0 := []) (spX12_fine h) gmX12_fine selX12_fine lk_RX12_121 dX12_readLast_18 rfl (by decide) sh_177 ⟨rfl, by decide⟩ rfl ⟨by show 1 + 1 ≤ dd + 13; omega, by show 8 + (1 + 11) + 40 * (1) ≤ 40 * (dd + 13); omega⟩ (Nat.le_of_ble_eq_true rfl) ⟨by show _ ≤ 2 * g; omega, by show _ ≤ 8 * g; omega⟩ (fun r10 s10 h => ?_)
    refine r_if_ne (pc := 21) (tgt := 25) dX12_readLast_21 (by decide) (fun c => ?_) (fun c => ?_)
    · replace h := h.1 c
      refine r_aload_n (pc := 25) (x := 177) dX12_readLast_25 rfl ?_
      refine r_iload_n (pc := 26) (x := r9) dX12_readLast_26 rfl ?_
      refine r_aload_n (pc := 27) (x := 177) dX12_readLast_27 rfl ?_
      refine n_getI (pc := 28) (j := 15) dX12_readLast_28 fl_RX12_232 (by decide) sh_177 rfl rfl ?_
      refine r_iconst (pc := 31) (v := (-1)) dX12_readLast_31 (by decide) ?_
      refine r_iconst (pc := 32) (v := 3) dX12_readLast_32 (by decide) ?_
      refine n_Vv0 (pc := 33) (S0 := []) (spX12_pushUnit h) gmX12_pushUnit selX12_pushUnit lk_RX12_290 dX12_readLast_33 rfl (by decide) sh_177 ⟨rfl, by decide⟩ rfl ⟨by show 5 + 1 ≤ dd + 13; omega, by show 8 + (6 + 11) + 40 * (5) ≤ 40 * (dd + 13); omega⟩ (Nat.le_of_ble_eq_true rfl) ⟨by show _ ≤ 2 * g; omega, by show _ ≤ 8 * g; omega⟩ (fun s11 h => ?_)
      refine r_iload_n (pc := 36) (x := r9) dX12_readLast_36 rfl ?_
      refine r_iconst (pc := 37) (v := 1) dX12_readLast_37 (by decide) ?_
      refine r_icmp_ne (pc := 38) (tgt := 60) dX12_readLast_38 (by decide) (fun c => ?_) (fun c => ?_)
      · replace h := h.1 c
        exact n_vret (pc := 60) dX12_readLast_60 rfl (by omega) (by omega) h
      · replace h := h.2 c
        refine r_aload_n (pc := 41) (x := 177) dX12_readLast_41 rfl ?_
        refine r_aload_n (pc := 42) (x := 177) dX12_readLast_42 rfl ?_
        refine n_getI (pc := 43) (j := 15) dX12_readLast_43 fl_RX12_232 (by decide) sh_177 rfl rfl ?_
        refine r_bipush (pc := 46) (v := 7) dX12_readLast_46 (by decide) ?_
        refine r_isub (pc := 48) dX12_readLast_48 ?_
        refine r_aload_n (pc := 49) (x := 177) dX12_readLast_49 rfl ?_
        refine n_getI (pc := 50) (j := 15) dX12_readLast_50 fl_RX12_232 (by decide) sh_177 rfl rfl ?_
        refine r_iconst (pc := 53) (v := 1) dX12_readLast_53 (by decide) ?_
        refine r_isub (pc := 54) dX12_readLast_54 ?_
        refine r_iconst (pc := 55) (v := 1) dX12_readLast_55 (by decide) ?_
        refine r_iconst (pc := 56) (v := 1) dX12_readLast_56 (by decide) ?_
        refine n_Vv0 (pc := 57) (S0 := []) (spX12_push h) gmX12_push selX12_push lk_RX12_191 dX12_readLast_57 rfl (by decide) sh_177 ⟨rfl, by decide⟩ rfl ⟨by show 3 + 1 ≤ dd + 13; omega, by show 8 + (5 + 11) + 40 * (3) ≤ 40 * (dd + 13); omega⟩ (Nat.le_of_ble_eq_true rfl) ⟨by show _ ≤ 2 * g; omega, by show _ ≤ 8 * g; omega⟩ (fun s12 h => ?_)
        exact n_vret (pc := 60) dX12_readLast_60 rfl (by omega) (by omega) h
    · replace h := h.2 c
      exact n_vret (pc := 24) dX12_readLast_24 rfl (by omega) (by omega) h
def wX12_readNumbered_162 (rc : Nat → gS → (gS → Prop) → Prop) (Q : gS → Prop) (k123 : Nat → Int32 → Int32 → Int32 → Int32 → Int32 → Int32 → gS → Prop) (g : Nat) (y1 : Int32) (y2 : Int32) (y3 : Int32) (y4 : Int32) (y5 : Int32) (y6 : Int32) (z0 : Int32) (s : gS) : Prop := (z0 = (-1) → k123 g y1 y2 y3 y4 y5 (y6 + 1) s) ∧ (¬ (z0 = (-1)) → wpX12_h y6 3 s (fun r11 s11 => wpX12_pushDay z0 r11 s11 (fun s12 => k123 g y1 y2 y3 y4 y5 (y6 + 1) s12)))
set_option maxRecDepth 20000 in
theorem pX12_readNumbered_162 {l : Launch} {X : gX} {dd : Nat} {G : Nat} {rc : Nat → gS → (gS → Prop) → Prop} (hrc : ∀ (g : Nat) (s : gS) (Q : gS → Prop), rc g s Q → Ct l mX12_readSpan (dd + 11) (2 * g) (8 * g) [.ref 177] (nrm s) (q_v Q)) {Q : gS → Prop} {k123 : Nat → Int32 → Int32 → Int32 → Int32 → Int32 → Int32 → gS → Prop} (g : Nat) (y1 : Int32) (y2 : Int32) (y3 : Int32) (y4 : Int32) (y5 : Int32) (y6 : Int32) (z0 : Int32) (s : gS) (h : wX12_readNumbered_162 rc Q k123 g y1 y2 y3 y4 y5 y6 z0 s) (hk123 : ∀ (g : Nat) (y1 : Int32) (y2 : Int32) (y3 : Int32) (y4 : Int32) (y5 : Int32) (y6 : Int32) (s : gS), k123 g y1 y2 y3 y4 y5 y6 s → ∀ (k n : Nat), k + 2 * g ≤ 2 * G → n + 8 * g ≤ 8 * G → Gw l mX12_readNumbered (g_rm (dd + 12) (2 * G) (8 * G)) X 123 [some (.ref 177), some (.int y1), some (.int y2), some (.int y3), some (.int y4), some (.int y5), some (.int y6), none] [] (nrm s) k n (g_Z X (q_v Q) (2 * G) (8 * G))) : ∀ (k n : Nat), k + 2 * g ≤ 2 * G → n + 8 * g ≤ 8 * G → Gw l mX12_readNumbered (g_rm (dd + 12) (2 * G) (8 * G)) X 162 [some (.ref 177), some (.int y1), some (.int y2), some (.int y3), some (.int y4), some (.int y5), some (.int y6), none] [.int z0] (nrm s) k n (g_Z X (q_v Q) (2 * G) (8 * G)) := by
  intro k n hg1 hg2
  refine r_istore (pc := 162) (L' := [some (.ref 177), some (.int y1), some (.int y2), some (.int y3), some (.int y4), some (.int y5), some (.int y6), some (.int z0)]) dX12_readNumbered_162 rfl (by decide) rfl ?_
  refine r_iload (pc := 164) (x := z0) dX12_readNumbered_164 rfl ?_
  refine r_iconst (pc := 166) (v := (-1)) dX12_readNumbered_166 (by decide) ?_
  refine r_icmp_eq (pc := 167) (tgt := 183) dX12_readNumbered_167 (by decide) (fun c => ?_) (fun c => ?_)
  · replace h := h.1 c
    refine n_iinc (pc := 183) (x := y6) (w := 1) (L' := [some (.ref 177), some (.int y1), some (.int y2), some (.int y3), some (.int y4), some (.int y5), some (.int (y6 + 1)), some (.int z0)]) dX12_readNumbered_183 rfl (by decide) rfl (by decide) rfl ?_
    refine r_goto (pc := 186) (tgt := 123) dX12_readNumbered_186 (by decide) ?_
    refine n_L (L' := [some (.ref 177), some (.int y1), some (.int y2), some (.int y3), some (.int y4), some (.int y5), some (.int (y6 + 1)), none]) (le_s (le_s (le_s (le_s (le_s (le_s (le_s (le_n (le_e))))))))) ?_
    exact hk123 _ _ _ _ _ _ _ _ h _ _ (by omega) (by omega)
  · replace h := h.2 c
    refine r_aload_n (pc := 170) (x := 177) dX12_readNumbered_170 rfl ?_
    refine r_iload (pc := 171) (x := z0) dX12_readNumbered_171 rfl ?_
    refine r_aload_n (pc := 173) (x := 177) dX12_readNumbered_173 rfl ?_
    refine r_iload (pc := 174) (x := y6) dX12_readNumbered_174 rfl ?_
    refine r_iconst (pc := 176) (v := 3) dX12_readNumbered_176 (by decide) ?_
    refine n_Vi0 (pc := 177) (S0 := [.int z0, .ref 177]) (spX12_h h) gmX12_h selX12_h lk_RX12_284 dX12_readNumbered_177 rfl (by decide) sh_177 ⟨rfl, by decide⟩ rfl ⟨by show 1 + 1 ≤ dd + 12; omega, by show 8 + (3 + 11) + 40 * (1) ≤ 40 * (dd + 12); omega⟩ (Nat.le_of_ble_eq_true rfl) ⟨by show _ ≤ 2 * G; omega, by show _ ≤ 8 * G; omega⟩ (fun r11 s11 h => ?_)
    refine n_Vv0 (pc := 180) (S0 := []) (spX12_pushDay h) gmX12_pushDay selX12_pushDay lk_RX12_195 dX12_readNumbered_180 rfl (by decide) sh_177 ⟨rfl, by decide⟩ rfl ⟨by show 4 + 1 ≤ dd + 12; omega, by show 8 + (3 + 11) + 40 * (4) ≤ 40 * (dd + 12); omega⟩ (Nat.le_of_ble_eq_true rfl) ⟨by show _ ≤ 2 * G; omega, by show _ ≤ 8 * G; omega⟩ (fun s12 h => ?_)
    refine n_iinc (pc := 183) (x := y6) (w := 1) (L' := [some (.ref 177), some (.int y1), some (.int y2), some (.int y3), some (.int y4), some (.int y5), some (.int (y6 + 1)), some (.int z0)]) dX12_readNumbered_183 rfl (by decide) rfl (by decide) rfl ?_
    refine r_goto (pc := 186) (tgt := 123) dX12_readNumbered_186 (by decide) ?_
    refine n_L (L' := [some (.ref 177), some (.int y1), some (.int y2), some (.int y3), some (.int y4), some (.int y5), some (.int (y6 + 1)), none]) (le_s (le_s (le_s (le_s (le_s (le_s (le_s (le_n (le_e))))))))) ?_
    exact hk123 _ _ _ _ _ _ _ _ h _ _ (by omega) (by omega)
def wX12_readNumbered_123 (rc : Nat → gS → (gS → Prop) → Prop) (Q : gS → Prop)  : Nat → Nat → Int32 → Int32 → Int32 → Int32 → Int32 → Int32 → gS → Prop
  | 0, _, _, _, _, _, _, _, _ => False
  | n + 1, g, y1, y2, y3, y4, y5, y6, s => (y5 ≤ y6 → wpX12_drop y4 y5 s (fun s16 => Q s16)) ∧ (¬ (y5 ≤ y6) → (y3 = 0 → wpX12_h y6 0 s (fun r17 s17 => wpX12_move r17 y2 (-y1) s17 (fun r18 s18 => wX12_readNumbered_162 rc Q (fun g y1 y2 y3 y4 y5 y6 s => wX12_readNumbered_123 rc Q n g y1 y2 y3 y4 y5 y6 s) g y1 y2 y3 y4 y5 y6 r18 s18))) ∧ (¬ (y3 = 0) → wpX12_h y6 1 s (fun r19 s19 => wpX12_move r19 y2 y1 s19 (fun r20 s20 => wX12_readNumbered_162 rc Q (fun g y1 y2 y3 y4 y5 y6 s => wX12_readNumbered_123 rc Q n g y1 y2 y3 y4 y5 y6 s) g y1 y2 y3 y4 y5 y6 r20 s20))))
set_option maxRecDepth 20000 in
theorem pX12_readNumbered_123 {l : Launch} {X : gX} {dd : Nat} {G : Nat} {rc : Nat → gS → (gS → Prop) → Prop} (hrc : ∀ (g : Nat) (s : gS) (Q : gS → Prop), rc g s Q → Ct l mX12_readSpan (dd + 11) (2 * g) (8 * g) [.ref 177] (nrm s) (q_v Q)) {Q : gS → Prop}  : ∀ (n : Nat) (g : Nat) (y1 : Int32) (y2 : Int32) (y3 : Int32) (y4 : Int32) (y5 : Int32) (y6 : Int32) (s : gS) (h : wX12_readNumbered_123 rc Q n g y1 y2 y3 y4 y5 y6 s) , ∀ (k n : Nat), k + 2 * g ≤ 2 * G → n + 8 * g ≤ 8 * G → Gw l mX12_readNumbered (g_rm (dd + 12) (2 * G) (8 * G)) X 123 [some (.ref 177), some (.int y1), some (.int y2), some (.int y3), some (.int y4), some (.int y5), some (.int y6), none] [] (nrm s) k n (g_Z X (q_v Q) (2 * G) (8 * G)) := by
  intro n
  induction n with
  | zero => intro g y1 y2 y3 y4 y5 y6 s h; exact h.elim
  | succ n ih0 =>
    intro g y1 y2 y3 y4 y5 y6 s h 
    have ih : ∀ (g : Nat) (y1 : Int32) (y2 : Int32) (y3 : Int32) (y4 : Int32) (y5 : Int32) (y6 : Int32) (s : gS), wX12_readNumbered_123 rc Q n g y1 y2 y3 y4 y5 y6 s → ∀ (k n : Nat), k + 2 * g ≤ 2 * G → n + 8 * g ≤ 8 * G → Gw l mX12_readNumbered (g_rm (dd + 12) (2 * G) (8 * G)) X 123 [some (.ref 177), some (.int y1), some (.int y2), some (.int y3), some (.int y4), some (.int y5), some (.int y6), none] [] (nrm s) k n (g_Z X (q_v Q) (2 * G) (8 * G)) := fun g y1 y2 y3 y4 y5 y6 s h => ih0 g y1 y2 y3 y4 y5 y6 s h 
    intro k n hg1 hg2
    refine r_iload (pc := 123) (x := y6) dX12_readNumbered_123 rfl ?_
    refine r_iload (pc := 125) (x := y5) dX12_readNumbered_125 rfl ?_
    refine r_icmp_ge (pc := 127) (tgt := 189) dX12_readNumbered_127 (by decide) (fun c => ?_) (fun c => ?_)
    · replace h := h.1 c
      refine r_aload_n (pc := 189) (x := 177) dX12_readNumbered_189 rfl ?_
      refine r_iload (pc := 190) (x := y4) dX12_readNumbered_190 rfl ?_
      refine r_iload (pc := 192) (x := y5) dX12_readNumbered_192 rfl ?_
      refine n_Vv0 (pc := 194) (S0 := []) (spX12_drop h) gmX12_drop selX12_drop lk_RX12_287 dX12_readNumbered_194 rfl (by decide) sh_177 ⟨rfl, by decide⟩ rfl ⟨by show 2 + 1 ≤ dd + 12; omega, by show 8 + (5 + 11) + 40 * (2) ≤ 40 * (dd + 12); omega⟩ (Nat.le_of_ble_eq_true rfl) ⟨by show _ ≤ 2 * G; omega, by show _ ≤ 8 * G; omega⟩ (fun s16 h => ?_)
      exact n_vret (pc := 197) dX12_readNumbered_197 rfl (by omega) (by omega) h
    · replace h := h.2 c
      refine r_iload_n (pc := 130) (x := y3) dX12_readNumbered_130 rfl ?_
      refine r_if_eq (pc := 131) (tgt := 149) dX12_readNumbered_131 (by decide) (fun c => ?_) (fun c => ?_)
      · replace h := h.1 c
        refine r_aload_n (pc := 149) (x := 177) dX12_readNumbered_149 rfl ?_
        refine r_iload (pc := 150) (x := y6) dX12_readNumbered_150 rfl ?_
        refine r_iconst (pc := 152) (v := 0) dX12_readNumbered_152 (by decide) ?_
        refine n_Vi0 (pc := 153) (S0 := []) (spX12_h h) gmX12_h selX12_h lk_RX12_284 dX12_readNumbered_153 rfl (by decide) sh_177 ⟨rfl, by decide⟩ rfl ⟨by show 1 + 1 ≤ dd + 12; omega, by show 8 + (3 + 11) + 40 * (1) ≤ 40 * (dd + 12); omega⟩ (Nat.le_of_ble_eq_true rfl) ⟨by show _ ≤ 2 * G; omega, by show _ ≤ 8 * G; omega⟩ (fun r17 s17 h => ?_)
        refine r_iload_n (pc := 156) (x := y2) dX12_readNumbered_156 rfl ?_
        refine r_iload_n (pc := 157) (x := y1) dX12_readNumbered_157 rfl ?_
        refine r_ineg (pc := 158) dX12_readNumbered_158 ?_
        refine n_Si0 (pc := 159) (S0 := []) (spX12_move h) gmX12_move lk_RX12_106 dX12_readNumbered_159 rfl rfl ⟨by show 5 + 1 ≤ dd + 12; omega, by show 8 + (6 + 11) + 40 * (5) ≤ 40 * (dd + 12); omega⟩ (Nat.le_of_ble_eq_true rfl) ⟨by show _ ≤ 2 * G; omega, by show _ ≤ 8 * G; omega⟩ (fun r18 s18 h => ?_)
        refine n_L (L' := [some (.ref 177), some (.int y1), some (.int y2), some (.int y3), some (.int y4), some (.int y5), some (.int y6), none]) (le_s (le_s (le_s (le_s (le_s (le_s (le_s (le_n (le_e))))))))) ?_
        exact pX12_readNumbered_162 hrc _ _ _ _ _ _ _ _ _ h ih _ _ (by omega) (by omega)
      · replace h := h.2 c
        refine r_aload_n (pc := 134) (x := 177) dX12_readNumbered_134 rfl ?_
        refine r_iload (pc := 135) (x := y6) dX12_readNumbered_135 rfl ?_
        refine r_iconst (pc := 137) (v := 1) dX12_readNumbered_137 (by decide) ?_
        refine n_Vi0 (pc := 138) (S0 := []) (spX12_h h) gmX12_h selX12_h lk_RX12_284 dX12_readNumbered_138 rfl (by decide) sh_177 ⟨rfl, by decide⟩ rfl ⟨by show 1 + 1 ≤ dd + 12; omega, by show 8 + (3 + 11) + 40 * (1) ≤ 40 * (dd + 12); omega⟩ (Nat.le_of_ble_eq_true rfl) ⟨by show _ ≤ 2 * G; omega, by show _ ≤ 8 * G; omega⟩ (fun r19 s19 h => ?_)
        refine r_iload_n (pc := 141) (x := y2) dX12_readNumbered_141 rfl ?_
        refine r_iload_n (pc := 142) (x := y1) dX12_readNumbered_142 rfl ?_
        refine n_Si0 (pc := 143) (S0 := []) (spX12_move h) gmX12_move lk_RX12_106 dX12_readNumbered_143 rfl rfl ⟨by show 5 + 1 ≤ dd + 12; omega, by show 8 + (6 + 11) + 40 * (5) ≤ 40 * (dd + 12); omega⟩ (Nat.le_of_ble_eq_true rfl) ⟨by show _ ≤ 2 * G; omega, by show _ ≤ 8 * G; omega⟩ (fun r20 s20 h => ?_)
        refine r_goto (pc := 146) (tgt := 162) dX12_readNumbered_146 (by decide) ?_
        refine n_L (L' := [some (.ref 177), some (.int y1), some (.int y2), some (.int y3), some (.int y4), some (.int y5), some (.int y6), none]) (le_s (le_s (le_s (le_s (le_s (le_s (le_s (le_n (le_e))))))))) ?_
        exact pX12_readNumbered_162 hrc _ _ _ _ _ _ _ _ _ h ih _ _ (by omega) (by omega)
def wX12_readNumbered_91 (rc : Nat → gS → (gS → Prop) → Prop) (Q : gS → Prop)  (g : Nat) (y1 : Int32) (y2 : Int32) (y3 : Int32) (s : gS) : Prop := wpX12_goWord s (fun s13 => ∃ g14a g14b, g14a + g14b ≤ g ∧ rc g14a s13 (fun s14 => wpX12_fine s14 (fun r15 s15 => (¬ r15 = 0 → ∃ n123, wX12_readNumbered_123 rc Q n123 g14b y1 y2 y3 (gi s13 177 14) (gi s15 177 14) (gi s13 177 14) s15) ∧ (r15 = 0 → Q s15))))
set_option maxRecDepth 20000 in
theorem pX12_readNumbered_91 {l : Launch} {X : gX} {dd : Nat} {G : Nat} {rc : Nat → gS → (gS → Prop) → Prop} (hrc : ∀ (g : Nat) (s : gS) (Q : gS → Prop), rc g s Q → Ct l mX12_readSpan (dd + 11) (2 * g) (8 * g) [.ref 177] (nrm s) (q_v Q)) {Q : gS → Prop}  (g : Nat) (y1 : Int32) (y2 : Int32) (y3 : Int32) (s : gS) (h : wX12_readNumbered_91 rc Q g y1 y2 y3 s)  : ∀ (k n : Nat), k + 2 * g ≤ 2 * G → n + 8 * g ≤ 8 * G → Gw l mX12_readNumbered (g_rm (dd + 12) (2 * G) (8 * G)) X 91 [some (.ref 177), some (.int y1), some (.int y2), some (.int y3), none, none, none, none] [] (nrm s) k n (g_Z X (q_v Q) (2 * G) (8 * G)) := by
  intro k n hg1 hg2
  refine r_aload_n (pc := 91) (x := 177) dX12_readNumbered_91 rfl ?_
  refine n_Vv0 (pc := 92) (S0 := []) (spX12_goWord h) gmX12_goWord selX12_goWord lk_RX12_158 dX12_readNumbered_92 rfl (by decide) sh_177 ⟨rfl, by decide⟩ rfl ⟨by show 3 + 1 ≤ dd + 12; omega, by show 8 + (1 + 11) + 40 * (3) ≤ 40 * (dd + 12); omega⟩ (Nat.le_of_ble_eq_true rfl) ⟨by show _ ≤ 2 * G; omega, by show _ ≤ 8 * G; omega⟩ (fun s13 h => ?_)
  refine r_aload_n (pc := 95) (x := 177) dX12_readNumbered_95 rfl ?_
  refine n_getI (pc := 96) (j := 14) dX12_readNumbered_96 fl_RX12_188 (by decide) sh_177 rfl rfl ?_
  refine r_istore (pc := 99) (L' := [some (.ref 177), some (.int y1), some (.int y2), some (.int y3), some (.int (gi s13 177 14)), none, none, none]) dX12_readNumbered_99 rfl (by decide) rfl ?_
  refine r_aload_n (pc := 101) (x := 177) dX12_readNumbered_101 rfl ?_
  obtain ⟨g14a, g14b, hg14, h⟩ := h
  refine n_Vv (pc := 102) (S0 := []) (hrc _ _ _ h) gmX12_readSpan selX12_readSpan lk_RX12_281 dX12_readNumbered_102 rfl (by decide) sh_177 ⟨rfl, by decide⟩ rfl ⟨by show dd + 11 + 1 ≤ dd + 12; omega, by show 8 + (1 + 11) + 40 * (dd + 11) ≤ 40 * (dd + 12); omega⟩ (Nat.le_of_ble_eq_true rfl) ⟨by show _ ≤ 2 * G; omega, by show _ ≤ 8 * G; omega⟩ (fun s14 h => ?_)
  refine r_aload_n (pc := 105) (x := 177) dX12_readNumbered_105 rfl ?_
  refine n_Vi0 (pc := 106) (S0 := []) (spX12_fine h) gmX12_fine selX12_fine lk_RX12_121 dX12_readNumbered_106 rfl (by decide) sh_177 ⟨rfl, by decide⟩ rfl ⟨by show 1 + 1 ≤ dd + 12; omega, by show 8 + (1 + 11) + 40 * (1) ≤ 40 * (dd + 12); omega⟩ (Nat.le_of_ble_eq_true rfl) ⟨by show _ ≤ 2 * G; omega, by show _ ≤ 8 * G; omega⟩ (fun r15 s15 h => ?_)
  refine r_if_ne (pc := 109) (tgt := 113) dX12_readNumbered_109 (by decide) (fun c => ?_) (fun c => ?_)
  · replace h := h.1 c
    refine r_aload_n (pc := 113) (x := 177) dX12_readNumbered_113 rfl ?_
    refine n_getI (pc := 114) (j := 14) dX12_readNumbered_114 fl_RX12_188 (by decide) sh_177 rfl rfl ?_
    refine r_istore (pc := 117) (L' := [some (.ref 177), some (.int y1), some (.int y2), some (.int y3), some (.int (gi s13 177 14)), some (.int (gi s15 177 14)), none, none]) dX12_readNumbered_117 rfl (by decide) rfl ?_
    refine r_iload (pc := 119) (x := gi s13 177 14) dX12_readNumbered_119 rfl ?_
    refine r_istore (pc := 121) (L' := [some (.ref 177), some (.int y1), some (.int y2), some (.int y3), some (.int (gi s13 177 14)), some (.int (gi s15 177 14)), some (.int (gi s13 177 14)), none]) dX12_readNumbered_121 rfl (by decide) rfl ?_
    refine n_L (L' := [some (.ref 177), some (.int y1), some (.int y2), some (.int y3), some (.int (gi s13 177 14)), some (.int (gi s15 177 14)), some (.int (gi s13 177 14)), none]) (le_s (le_s (le_s (le_s (le_s (le_s (le_s (le_n (le_e))))))))) ?_
    obtain ⟨n, h⟩ := h
    exact pX12_readNumbered_123 hrc n _ _ _ _ _ _ _ _ h  _ _ (by omega) (by omega)
  · replace h := h.2 c
    exact n_vret (pc := 112) dX12_readNumbered_112 rfl (by omega) (by omega) h
def wfX12_readNumbered (rc : Nat → gS → (gS → Prop) → Prop) (g : Nat) (s : gS) (Q : gS → Prop) : Prop := wpX12_in (gi s 177 10) 2000 2027 s (fun r1 s1 => (r1 = 0 → wpX12_needNumber 1 99 s1 (fun r2 s2 => wpX12_needUnit s2 (fun r3 s3 => wpX12_takes 1007 s3 (fun r4 s4 => (r4 = 0 → wpX12_is 1008 s4 (fun r5 s5 => (¬ r5 = 0 → wX12_readNumbered_91 rc Q g r2 r3 r5 s5) ∧ (r5 = 0 → wpX12_is 1009 s5 (fun r6 s6 => (¬ r6 = 0 → wX12_readNumbered_91 rc Q g r2 r3 r5 s6) ∧ (r6 = 0 → wpX12_fault (gi s6 177 9) s6 (fun s7 => wX12_readNumbered_91 rc Q g r2 r3 r5 s7)))))) ∧ (¬ (r4 = 0) → wpX12_pushMoved r3 (-r2) s4 (fun s8 => Q s8)))))) ∧ (¬ (r1 = 0) → wpX12_pushYear (gi s1 177 10) 3 s1 (fun s9 => wpX12_goWord s9 (fun s10 => Q s10))))
set_option maxRecDepth 20000 in
theorem spfX12_readNumbered {l : Launch} {dd : Nat} {rc : Nat → gS → (gS → Prop) → Prop} {g : Nat} (hrc : ∀ (g : Nat) (s : gS) (Q : gS → Prop), rc g s Q → Ct l mX12_readSpan (dd + 11) (2 * g) (8 * g) [.ref 177] (nrm s) (q_v Q)) {s : gS} {Q : gS → Prop} (h : wfX12_readNumbered rc g s Q) : Ct l mX12_readNumbered (dd + 12) (2 * g) (8 * g) [.ref 177] (nrm s) (q_v Q) := by
  refine Ct.of (by decide) (Nat.le_of_ble_eq_true rfl) (fun X => ?_)
  refine n_L (L' := [some (.ref 177), none, none, none, none, none, none, none]) (le_s (le_p (le_p (le_p (le_p (le_p (le_p (le_p (le_e))))))))) ?_
  have hg1 : 0 + 2 * g ≤ 2 * g := by omega
  have hg2 : 0 + 8 * g ≤ 8 * g := by omega
  refine r_aload_n (pc := 0) (x := 177) dX12_readNumbered_0 rfl ?_
  refine n_getI (pc := 1) (j := 10) dX12_readNumbered_1 fl_RX12_143 (by decide) sh_177 rfl rfl ?_
  refine r_sipush (pc := 4) (v := 2000) dX12_readNumbered_4 (by decide) ?_
  refine r_sipush (pc := 7) (v := 2027) dX12_readNumbered_7 (by decide) ?_
  refine n_Si0 (pc := 10) (S0 := []) (spX12_in h) gmX12_in lk_RX12_62 dX12_readNumbered_10 rfl rfl ⟨by show 1 + 1 ≤ dd + 12; omega, by show 8 + (3 + 11) + 40 * (1) ≤ 40 * (dd + 12); omega⟩ (Nat.le_of_ble_eq_true rfl) ⟨by show _ ≤ 2 * g; omega, by show _ ≤ 8 * g; omega⟩ (fun r1 s1 h => ?_)
  refine r_if_eq (pc := 13) (tgt := 30) dX12_readNumbered_13 (by decide) (fun c => ?_) (fun c => ?_)
  · replace h := h.1 c
    refine r_aload_n (pc := 30) (x := 177) dX12_readNumbered_30 rfl ?_
    refine r_iconst (pc := 31) (v := 1) dX12_readNumbered_31 (by decide) ?_
    refine r_bipush (pc := 32) (v := 99) dX12_readNumbered_32 (by decide) ?_
    refine n_Vi0 (pc := 34) (S0 := []) (spX12_needNumber h) gmX12_needNumber selX12_needNumber lk_RX12_266 dX12_readNumbered_34 rfl (by decide) sh_177 ⟨rfl, by decide⟩ rfl ⟨by show 4 + 1 ≤ dd + 12; omega, by show 8 + (4 + 11) + 40 * (4) ≤ 40 * (dd + 12); omega⟩ (Nat.le_of_ble_eq_true rfl) ⟨by show _ ≤ 2 * g; omega, by show _ ≤ 8 * g; omega⟩ (fun r2 s2 h => ?_)
    refine r_istore_n (pc := 37) (L' := [some (.ref 177), some (.int r2), none, none, none, none, none, none]) dX12_readNumbered_37 rfl (by decide) rfl ?_
    refine r_aload_n (pc := 38) (x := 177) dX12_readNumbered_38 rfl ?_
    refine n_Vi0 (pc := 39) (S0 := []) (spX12_needUnit h) gmX12_needUnit selX12_needUnit lk_RX12_269 dX12_readNumbered_39 rfl (by decide) sh_177 ⟨rfl, by decide⟩ rfl ⟨by show 7 + 1 ≤ dd + 12; omega, by show 8 + (2 + 11) + 40 * (7) ≤ 40 * (dd + 12); omega⟩ (Nat.le_of_ble_eq_true rfl) ⟨by show _ ≤ 2 * g; omega, by show _ ≤ 8 * g; omega⟩ (fun r3 s3 h => ?_)
    refine r_istore_n (pc := 42) (L' := [some (.ref 177), some (.int r2), some (.int r3), none, none, none, none, none]) dX12_readNumbered_42 rfl (by decide) rfl ?_
    refine r_aload_n (pc := 43) (x := 177) dX12_readNumbered_43 rfl ?_
    refine n_ldc_wS (pc := 44) (i := 7) dX12_readNumbered_44 sr_RX12_272 ?_
    refine n_Vi0S (pc := 47) (S0 := []) (spX12_takes h) (Or.inl (by decide)) gmX12_takes selX12_takes lk_RX12_161 dX12_readNumbered_47 rfl (by decide) sh_177 ⟨rfl, by decide⟩ rfl ⟨by show 6 + 1 ≤ dd + 12; omega, by show 8 + (2 + 11) + 40 * (6) ≤ 40 * (dd + 12); omega⟩ (Nat.le_of_ble_eq_true rfl) ⟨by show _ ≤ 2 * g; omega, by show _ ≤ 8 * g; omega⟩ (fun r4 s4 h => ?_)
    refine r_if_eq (pc := 50) (tgt := 61) dX12_readNumbered_50 (by decide) (fun c => ?_) (fun c => ?_)
    · replace h := h.1 c
      refine r_aload_n (pc := 61) (x := 177) dX12_readNumbered_61 rfl ?_
      refine n_ldc_wS (pc := 62) (i := 8) dX12_readNumbered_62 sr_RX12_277 ?_
      refine n_Vi0S (pc := 65) (S0 := []) (spX12_is h) (Or.inl (by decide)) gmX12_is selX12_is lk_RX12_154 dX12_readNumbered_65 rfl (by decide) sh_177 ⟨rfl, by decide⟩ rfl ⟨by show 5 + 1 ≤ dd + 12; omega, by show 8 + (3 + 11) + 40 * (5) ≤ 40 * (dd + 12); omega⟩ (Nat.le_of_ble_eq_true rfl) ⟨by show _ ≤ 2 * g; omega, by show _ ≤ 8 * g; omega⟩ (fun r5 s5 h => ?_)
      refine r_istore_n (pc := 68) (L' := [some (.ref 177), some (.int r2), some (.int r3), some (.int r5), none, none, none, none]) dX12_readNumbered_68 rfl (by decide) rfl ?_
      refine r_iload_n (pc := 69) (x := r5) dX12_readNumbered_69 rfl ?_
      refine r_if_ne (pc := 70) (tgt := 91) dX12_readNumbered_70 (by decide) (fun c => ?_) (fun c => ?_)
      · replace h := h.1 c
        refine n_L (L' := [some (.ref 177), some (.int r2), some (.int r3), some (.int r5), none, none, none, none]) (le_s (le_s (le_s (le_s (le_n (le_n (le_n (le_n (le_e))))))))) ?_
        exact pX12_readNumbered_91 hrc _ _ _ _ _ h  _ _ (by omega) (by omega)
      · replace h := h.2 c
        refine r_aload_n (pc := 73) (x := 177) dX12_readNumbered_73 rfl ?_
        refine n_ldc_wS (pc := 74) (i := 9) dX12_readNumbered_74 sr_RX12_279 ?_
        refine n_Vi0S (pc := 77) (S0 := []) (spX12_is h) (Or.inl (by decide)) gmX12_is selX12_is lk_RX12_154 dX12_readNumbered_77 rfl (by decide) sh_177 ⟨rfl, by decide⟩ rfl ⟨by show 5 + 1 ≤ dd + 12; omega, by show 8 + (3 + 11) + 40 * (5) ≤ 40 * (dd + 12); omega⟩ (Nat.le_of_ble_eq_true rfl) ⟨by show _ ≤ 2 * g; omega, by show _ ≤ 8 * g; omega⟩ (fun r6 s6 h => ?_)
        refine r_if_ne (pc := 80) (tgt := 91) dX12_readNumbered_80 (by decide) (fun c => ?_) (fun c => ?_)
        · replace h := h.1 c
          refine n_L (L' := [some (.ref 177), some (.int r2), some (.int r3), some (.int r5), none, none, none, none]) (le_s (le_s (le_s (le_s (le_n (le_n (le_n (le_n (le_e))))))))) ?_
          exact pX12_readNumbered_91 hrc _ _ _ _ _ h  _ _ (by omega) (by omega)
        · replace h := h.2 c
          refine r_aload_n (pc := 83) (x := 177) dX12_readNumbered_83 rfl ?_
          refine r_aload_n (pc := 84) (x := 177) dX12_readNumbered_84 rfl ?_
          refine n_getI (pc := 85) (j := 9) dX12_readNumbered_85 fl_RX12_133 (by decide) sh_177 rfl rfl ?_
          refine n_Vv0 (pc := 88) (S0 := []) (spX12_fault h) gmX12_fault selX12_fault lk_RX12_125 dX12_readNumbered_88 rfl (by decide) sh_177 ⟨rfl, by decide⟩ rfl ⟨by show 2 + 1 ≤ dd + 12; omega, by show 8 + (2 + 11) + 40 * (2) ≤ 40 * (dd + 12); omega⟩ (Nat.le_of_ble_eq_true rfl) ⟨by show _ ≤ 2 * g; omega, by show _ ≤ 8 * g; omega⟩ (fun s7 h => ?_)
          refine n_L (L' := [some (.ref 177), some (.int r2), some (.int r3), some (.int r5), none, none, none, none]) (le_s (le_s (le_s (le_s (le_n (le_n (le_n (le_n (le_e))))))))) ?_
          exact pX12_readNumbered_91 hrc _ _ _ _ _ h  _ _ (by omega) (by omega)
    · replace h := h.2 c
      refine r_aload_n (pc := 53) (x := 177) dX12_readNumbered_53 rfl ?_
      refine r_iload_n (pc := 54) (x := r3) dX12_readNumbered_54 rfl ?_
      refine r_iload_n (pc := 55) (x := r2) dX12_readNumbered_55 rfl ?_
      refine r_ineg (pc := 56) dX12_readNumbered_56 ?_
      refine n_Vv0 (pc := 57) (S0 := []) (spX12_pushMoved h) gmX12_pushMoved selX12_pushMoved lk_RX12_274 dX12_readNumbered_57 rfl (by decide) sh_177 ⟨rfl, by decide⟩ rfl ⟨by show 6 + 1 ≤ dd + 12; omega, by show 8 + (4 + 11) + 40 * (6) ≤ 40 * (dd + 12); omega⟩ (Nat.le_of_ble_eq_true rfl) ⟨by show _ ≤ 2 * g; omega, by show _ ≤ 8 * g; omega⟩ (fun s8 h => ?_)
      exact n_vret (pc := 60) dX12_readNumbered_60 rfl (by omega) (by omega) h
  · replace h := h.2 c
    refine r_aload_n (pc := 16) (x := 177) dX12_readNumbered_16 rfl ?_
    refine r_aload_n (pc := 17) (x := 177) dX12_readNumbered_17 rfl ?_
    refine n_getI (pc := 18) (j := 10) dX12_readNumbered_18 fl_RX12_143 (by decide) sh_177 rfl rfl ?_
    refine r_iconst (pc := 21) (v := 3) dX12_readNumbered_21 (by decide) ?_
    refine n_Vv0 (pc := 22) (S0 := []) (spX12_pushYear h) gmX12_pushYear selX12_pushYear lk_RX12_203 dX12_readNumbered_22 rfl (by decide) sh_177 ⟨rfl, by decide⟩ rfl ⟨by show 4 + 1 ≤ dd + 12; omega, by show 8 + (3 + 11) + 40 * (4) ≤ 40 * (dd + 12); omega⟩ (Nat.le_of_ble_eq_true rfl) ⟨by show _ ≤ 2 * g; omega, by show _ ≤ 8 * g; omega⟩ (fun s9 h => ?_)
    refine r_aload_n (pc := 25) (x := 177) dX12_readNumbered_25 rfl ?_
    refine n_Vv0 (pc := 26) (S0 := []) (spX12_goWord h) gmX12_goWord selX12_goWord lk_RX12_158 dX12_readNumbered_26 rfl (by decide) sh_177 ⟨rfl, by decide⟩ rfl ⟨by show 3 + 1 ≤ dd + 12; omega, by show 8 + (1 + 11) + 40 * (3) ≤ 40 * (dd + 12); omega⟩ (Nat.le_of_ble_eq_true rfl) ⟨by show _ ≤ 2 * g; omega, by show _ ≤ 8 * g; omega⟩ (fun s10 h => ?_)
    exact n_vret (pc := 29) dX12_readNumbered_29 rfl (by omega) (by omega) h
def wX12_readThird_182 (rc : Nat → gS → (gS → Prop) → Prop) (Q : gS → Prop) (k57 : Nat → Int32 → Int32 → Int32 → Int32 → gS → Prop) (g : Nat) (y1 : Int32) (y2 : Int32) (y3 : Int32) (y4 : Int32) (y6 : Int32) (z0 : Int32) (s : gS) : Prop := wpX12_h y4 2 s (fun r15 s15 => wpX12_h y4 3 s15 (fun r16 s16 => wpX12_push y6 z0 r15 r16 s16 (fun s17 => k57 g y1 y2 y3 (y4 + 1) s17)))
set_option maxRecDepth 20000 in
theorem pX12_readThird_182 {l : Launch} {X : gX} {dd : Nat} {G : Nat} {rc : Nat → gS → (gS → Prop) → Prop} (hrc : ∀ (g : Nat) (s : gS) (Q : gS → Prop), rc g s Q → Ct l mX12_readSpan (dd + 11) (2 * g) (8 * g) [.ref 177] (nrm s) (q_v Q)) {Q : gS → Prop} {k57 : Nat → Int32 → Int32 → Int32 → Int32 → gS → Prop} (g : Nat) (y1 : Int32) (y2 : Int32) (y3 : Int32) (y4 : Int32) (y6 : Int32) (z0 : Int32) (s : gS) (h : wX12_readThird_182 rc Q k57 g y1 y2 y3 y4 y6 z0 s) (hk57 : ∀ (g : Nat) (y1 : Int32) (y2 : Int32) (y3 : Int32) (y4 : Int32) (s : gS), k57 g y1 y2 y3 y4 s → ∀ (k n : Nat), k + 2 * g ≤ 2 * G → n + 8 * g ≤ 8 * G → Gw l mX12_readThird (g_rm (dd + 12) (2 * G) (8 * G)) X 57 [some (.ref 177), some (.int y1), some (.int y2), some (.int y3), some (.int y4), none, none, none] [] (nrm s) k n (g_Z X (q_v Q) (2 * G) (8 * G))) : ∀ (k n : Nat), k + 2 * g ≤ 2 * G → n + 8 * g ≤ 8 * G → Gw l mX12_readThird (g_rm (dd + 12) (2 * G) (8 * G)) X 182 [some (.ref 177), some (.int y1), some (.int y2), some (.int y3), some (.int y4), none, some (.int y6), none] [.int z0] (nrm s) k n (g_Z X (q_v Q) (2 * G) (8 * G)) := by
  intro k n hg1 hg2
  refine r_istore (pc := 182) (L' := [some (.ref 177), some (.int y1), some (.int y2), some (.int y3), some (.int y4), none, some (.int y6), some (.int z0)]) dX12_readThird_182 rfl (by decide) rfl ?_
  refine r_aload_n (pc := 184) (x := 177) dX12_readThird_184 rfl ?_
  refine r_iload (pc := 185) (x := y6) dX12_readThird_185 rfl ?_
  refine r_iload (pc := 187) (x := z0) dX12_readThird_187 rfl ?_
  refine r_aload_n (pc := 189) (x := 177) dX12_readThird_189 rfl ?_
  refine r_iload (pc := 190) (x := y4) dX12_readThird_190 rfl ?_
  refine r_iconst (pc := 192) (v := 2) dX12_readThird_192 (by decide) ?_
  refine n_Vi0 (pc := 193) (S0 := [.int z0, .int y6, .ref 177]) (spX12_h h) gmX12_h selX12_h lk_RX12_284 dX12_readThird_193 rfl (by decide) sh_177 ⟨rfl, by decide⟩ rfl ⟨by show 1 + 1 ≤ dd + 12; omega, by show 8 + (3 + 11) + 40 * (1) ≤ 40 * (dd + 12); omega⟩ (Nat.le_of_ble_eq_true rfl) ⟨by show _ ≤ 2 * G; omega, by show _ ≤ 8 * G; omega⟩ (fun r15 s15 h => ?_)
  refine r_aload_n (pc := 196) (x := 177) dX12_readThird_196 rfl ?_
  refine r_iload (pc := 197) (x := y4) dX12_readThird_197 rfl ?_
  refine r_iconst (pc := 199) (v := 3) dX12_readThird_199 (by decide) ?_
  refine n_Vi0 (pc := 200) (S0 := [.int r15, .int z0, .int y6, .ref 177]) (spX12_h h) gmX12_h selX12_h lk_RX12_284 dX12_readThird_200 rfl (by decide) sh_177 ⟨rfl, by decide⟩ rfl ⟨by show 1 + 1 ≤ dd + 12; omega, by show 8 + (3 + 11) + 40 * (1) ≤ 40 * (dd + 12); omega⟩ (Nat.le_of_ble_eq_true rfl) ⟨by show _ ≤ 2 * G; omega, by show _ ≤ 8 * G; omega⟩ (fun r16 s16 h => ?_)
  refine n_Vv0 (pc := 203) (S0 := []) (spX12_push h) gmX12_push selX12_push lk_RX12_191 dX12_readThird_203 rfl (by decide) sh_177 ⟨rfl, by decide⟩ rfl ⟨by show 3 + 1 ≤ dd + 12; omega, by show 8 + (5 + 11) + 40 * (3) ≤ 40 * (dd + 12); omega⟩ (Nat.le_of_ble_eq_true rfl) ⟨by show _ ≤ 2 * G; omega, by show _ ≤ 8 * G; omega⟩ (fun s17 h => ?_)
  refine n_iinc (pc := 206) (x := y4) (w := 1) (L' := [some (.ref 177), some (.int y1), some (.int y2), some (.int y3), some (.int (y4 + 1)), none, some (.int y6), some (.int z0)]) dX12_readThird_206 rfl (by decide) rfl (by decide) rfl ?_
  refine r_goto (pc := 209) (tgt := 57) dX12_readThird_209 (by decide) ?_
  refine n_L (L' := [some (.ref 177), some (.int y1), some (.int y2), some (.int y3), some (.int (y4 + 1)), none, none, none]) (le_s (le_s (le_s (le_s (le_s (le_n (le_n (le_n (le_e))))))))) ?_
  exact hk57 _ _ _ _ _ _ h _ _ (by omega) (by omega)
def wX12_readThird_136 (rc : Nat → gS → (gS → Prop) → Prop) (Q : gS → Prop) (k57 : Nat → Int32 → Int32 → Int32 → Int32 → gS → Prop) (g : Nat) (y1 : Int32) (y2 : Int32) (y3 : Int32) (y4 : Int32) (y5 : Int32) (z0 : Int32) (s : gS) : Prop := (¬ y1 = 0 → (¬ y1 = 1 → wpX12_h y4 1 s (fun r3 s3 => wX12_readThird_182 rc Q k57 g y1 y2 y3 y4 z0 r3 s3)) ∧ (y1 = 1 → wpX12_h y4 1 s (fun r4 s4 => wX12_readThird_182 rc Q k57 g y1 y2 y3 y4 z0 (r4 - y5) s4))) ∧ (y1 = 0 → wpX12_h y4 0 s (fun r5 s5 => wX12_readThird_182 rc Q k57 g y1 y2 y3 y4 z0 ((r5 + y5) - 1) s5))
set_option maxRecDepth 20000 in
theorem pX12_readThird_136 {l : Launch} {X : gX} {dd : Nat} {G : Nat} {rc : Nat → gS → (gS → Prop) → Prop} (hrc : ∀ (g : Nat) (s : gS) (Q : gS → Prop), rc g s Q → Ct l mX12_readSpan (dd + 11) (2 * g) (8 * g) [.ref 177] (nrm s) (q_v Q)) {Q : gS → Prop} {k57 : Nat → Int32 → Int32 → Int32 → Int32 → gS → Prop} (g : Nat) (y1 : Int32) (y2 : Int32) (y3 : Int32) (y4 : Int32) (y5 : Int32) (z0 : Int32) (s : gS) (h : wX12_readThird_136 rc Q k57 g y1 y2 y3 y4 y5 z0 s) (hk57 : ∀ (g : Nat) (y1 : Int32) (y2 : Int32) (y3 : Int32) (y4 : Int32) (s : gS), k57 g y1 y2 y3 y4 s → ∀ (k n : Nat), k + 2 * g ≤ 2 * G → n + 8 * g ≤ 8 * G → Gw l mX12_readThird (g_rm (dd + 12) (2 * G) (8 * G)) X 57 [some (.ref 177), some (.int y1), some (.int y2), some (.int y3), some (.int y4), none, none, none] [] (nrm s) k n (g_Z X (q_v Q) (2 * G) (8 * G))) : ∀ (k n : Nat), k + 2 * g ≤ 2 * G → n + 8 * g ≤ 8 * G → Gw l mX12_readThird (g_rm (dd + 12) (2 * G) (8 * G)) X 136 [some (.ref 177), some (.int y1), some (.int y2), some (.int y3), some (.int y4), some (.int y5), none, none] [.int z0] (nrm s) k n (g_Z X (q_v Q) (2 * G) (8 * G)) := by
  intro k n hg1 hg2
  refine r_istore (pc := 136) (L' := [some (.ref 177), some (.int y1), some (.int y2), some (.int y3), some (.int y4), some (.int y5), some (.int z0), none]) dX12_readThird_136 rfl (by decide) rfl ?_
  refine r_iload_n (pc := 138) (x := y1) dX12_readThird_138 rfl ?_
  refine r_if_ne (pc := 139) (tgt := 157) dX12_readThird_139 (by decide) (fun c => ?_) (fun c => ?_)
  · replace h := h.1 c
    refine r_iload_n (pc := 157) (x := y1) dX12_readThird_157 rfl ?_
    refine r_iconst (pc := 158) (v := 1) dX12_readThird_158 (by decide) ?_
    refine r_icmp_ne (pc := 159) (tgt := 175) dX12_readThird_159 (by decide) (fun c => ?_) (fun c => ?_)
    · replace h := h.1 c
      refine r_aload_n (pc := 175) (x := 177) dX12_readThird_175 rfl ?_
      refine r_iload (pc := 176) (x := y4) dX12_readThird_176 rfl ?_
      refine r_iconst (pc := 178) (v := 1) dX12_readThird_178 (by decide) ?_
      refine n_Vi0 (pc := 179) (S0 := []) (spX12_h h) gmX12_h selX12_h lk_RX12_284 dX12_readThird_179 rfl (by decide) sh_177 ⟨rfl, by decide⟩ rfl ⟨by show 1 + 1 ≤ dd + 12; omega, by show 8 + (3 + 11) + 40 * (1) ≤ 40 * (dd + 12); omega⟩ (Nat.le_of_ble_eq_true rfl) ⟨by show _ ≤ 2 * G; omega, by show _ ≤ 8 * G; omega⟩ (fun r3 s3 h => ?_)
      refine n_L (L' := [some (.ref 177), some (.int y1), some (.int y2), some (.int y3), some (.int y4), none, some (.int z0), none]) (le_s (le_s (le_s (le_s (le_s (le_n (le_s (le_n (le_e))))))))) ?_
      exact pX12_readThird_182 hrc _ _ _ _ _ _ _ _ h hk57 _ _ (by omega) (by omega)
    · replace h := h.2 c
      refine r_aload_n (pc := 162) (x := 177) dX12_readThird_162 rfl ?_
      refine r_iload (pc := 163) (x := y4) dX12_readThird_163 rfl ?_
      refine r_iconst (pc := 165) (v := 1) dX12_readThird_165 (by decide) ?_
      refine n_Vi0 (pc := 166) (S0 := []) (spX12_h h) gmX12_h selX12_h lk_RX12_284 dX12_readThird_166 rfl (by decide) sh_177 ⟨rfl, by decide⟩ rfl ⟨by show 1 + 1 ≤ dd + 12; omega, by show 8 + (3 + 11) + 40 * (1) ≤ 40 * (dd + 12); omega⟩ (Nat.le_of_ble_eq_true rfl) ⟨by show _ ≤ 2 * G; omega, by show _ ≤ 8 * G; omega⟩ (fun r4 s4 h => ?_)
      refine r_iload (pc := 169) (x := y5) dX12_readThird_169 rfl ?_
      refine r_isub (pc := 171) dX12_readThird_171 ?_
      refine r_goto (pc := 172) (tgt := 182) dX12_readThird_172 (by decide) ?_
      refine n_L (L' := [some (.ref 177), some (.int y1), some (.int y2), some (.int y3), some (.int y4), none, some (.int z0), none]) (le_s (le_s (le_s (le_s (le_s (le_n (le_s (le_n (le_e))))))))) ?_
      exact pX12_readThird_182 hrc _ _ _ _ _ _ _ _ h hk57 _ _ (by omega) (by omega)
  · replace h := h.2 c
    refine r_aload_n (pc := 142) (x := 177) dX12_readThird_142 rfl ?_
    refine r_iload (pc := 143) (x := y4) dX12_readThird_143 rfl ?_
    refine r_iconst (pc := 145) (v := 0) dX12_readThird_145 (by decide) ?_
    refine n_Vi0 (pc := 146) (S0 := []) (spX12_h h) gmX12_h selX12_h lk_RX12_284 dX12_readThird_146 rfl (by decide) sh_177 ⟨rfl, by decide⟩ rfl ⟨by show 1 + 1 ≤ dd + 12; omega, by show 8 + (3 + 11) + 40 * (1) ≤ 40 * (dd + 12); omega⟩ (Nat.le_of_ble_eq_true rfl) ⟨by show _ ≤ 2 * G; omega, by show _ ≤ 8 * G; omega⟩ (fun r5 s5 h => ?_)
    refine r_iload (pc := 149) (x := y5) dX12_readThird_149 rfl ?_
    refine r_iadd (pc := 151) dX12_readThird_151 ?_
    refine r_iconst (pc := 152) (v := 1) dX12_readThird_152 (by decide) ?_
    refine r_isub (pc := 153) dX12_readThird_153 ?_
    refine r_goto (pc := 154) (tgt := 182) dX12_readThird_154 (by decide) ?_
    refine n_L (L' := [some (.ref 177), some (.int y1), some (.int y2), some (.int y3), some (.int y4), none, some (.int z0), none]) (le_s (le_s (le_s (le_s (le_s (le_n (le_s (le_n (le_e))))))))) ?_
    exact pX12_readThird_182 hrc _ _ _ _ _ _ _ _ h hk57 _ _ (by omega) (by omega)
def wX12_readThird_57 (rc : Nat → gS → (gS → Prop) → Prop) (Q : gS → Prop)  : Nat → Nat → Int32 → Int32 → Int32 → Int32 → gS → Prop
  | 0, _, _, _, _, _, _ => False
  | n + 1, g, y1, y2, y3, y4, s => (y3 ≤ y4 → wpX12_drop y2 y3 s (fun s6 => Q s6)) ∧ (¬ (y3 ≤ y4) → wpX12_h y4 1 s (fun r7 s7 => wpX12_h y4 0 s7 (fun r8 s8 => (¬ (((r7 - r8) + 1) / 3) = 0 → (¬ y1 = 0 → (¬ y1 = 1 → wpX12_h y4 1 s8 (fun r9 s9 => wX12_readThird_136 rc Q (fun g y1 y2 y3 y4 s => wX12_readThird_57 rc Q n g y1 y2 y3 y4 s) g y1 y2 y3 y4 (((r7 - r8) + 1) / 3) ((r9 - (((r7 - r8) + 1) / 3)) + 1) s9)) ∧ (y1 = 1 → wpX12_h y4 0 s8 (fun r10 s10 => wX12_readThird_136 rc Q (fun g y1 y2 y3 y4 s => wX12_readThird_57 rc Q n g y1 y2 y3 y4 s) g y1 y2 y3 y4 (((r7 - r8) + 1) / 3) (r10 + (((r7 - r8) + 1) / 3)) s10))) ∧ (y1 = 0 → wpX12_h y4 0 s8 (fun r11 s11 => wX12_readThird_136 rc Q (fun g y1 y2 y3 y4 s => wX12_readThird_57 rc Q n g y1 y2 y3 y4 s) g y1 y2 y3 y4 (((r7 - r8) + 1) / 3) r11 s11))) ∧ ((((r7 - r8) + 1) / 3) = 0 → wX12_readThird_57 rc Q n g y1 y2 y3 (y4 + 1) s8))))
set_option maxRecDepth 20000 in
theorem pX12_readThird_57 {l : Launch} {X : gX} {dd : Nat} {G : Nat} {rc : Nat → gS → (gS → Prop) → Prop} (hrc : ∀ (g : Nat) (s : gS) (Q : gS → Prop), rc g s Q → Ct l mX12_readSpan (dd + 11) (2 * g) (8 * g) [.ref 177] (nrm s) (q_v Q)) {Q : gS → Prop}  : ∀ (n : Nat) (g : Nat) (y1 : Int32) (y2 : Int32) (y3 : Int32) (y4 : Int32) (s : gS) (h : wX12_readThird_57 rc Q n g y1 y2 y3 y4 s) , ∀ (k n : Nat), k + 2 * g ≤ 2 * G → n + 8 * g ≤ 8 * G → Gw l mX12_readThird (g_rm (dd + 12) (2 * G) (8 * G)) X 57 [some (.ref 177), some (.int y1), some (.int y2), some (.int y3), some (.int y4), none, none, none] [] (nrm s) k n (g_Z X (q_v Q) (2 * G) (8 * G)) := by
  intro n
  induction n with
  | zero => intro g y1 y2 y3 y4 s h; exact h.elim
  | succ n ih0 =>
    intro g y1 y2 y3 y4 s h 
    have ih : ∀ (g : Nat) (y1 : Int32) (y2 : Int32) (y3 : Int32) (y4 : Int32) (s : gS), wX12_readThird_57 rc Q n g y1 y2 y3 y4 s → ∀ (k n : Nat), k + 2 * g ≤ 2 * G → n + 8 * g ≤ 8 * G → Gw l mX12_readThird (g_rm (dd + 12) (2 * G) (8 * G)) X 57 [some (.ref 177), some (.int y1), some (.int y2), some (.int y3), some (.int y4), none, none, none] [] (nrm s) k n (g_Z X (q_v Q) (2 * G) (8 * G)) := fun g y1 y2 y3 y4 s h => ih0 g y1 y2 y3 y4 s h 
    intro k n hg1 hg2
    refine r_iload (pc := 57) (x := y4) dX12_readThird_57 rfl ?_
    refine r_iload_n (pc := 59) (x := y3) dX12_readThird_59 rfl ?_
    refine r_icmp_ge (pc := 60) (tgt := 212) dX12_readThird_60 (by decide) (fun c => ?_) (fun c => ?_)
    · replace h := h.1 c
      refine r_aload_n (pc := 212) (x := 177) dX12_readThird_212 rfl ?_
      refine r_iload_n (pc := 213) (x := y2) dX12_readThird_213 rfl ?_
      refine r_iload_n (pc := 214) (x := y3) dX12_readThird_214 rfl ?_
      refine n_Vv0 (pc := 215) (S0 := []) (spX12_drop h) gmX12_drop selX12_drop lk_RX12_287 dX12_readThird_215 rfl (by decide) sh_177 ⟨rfl, by decide⟩ rfl ⟨by show 2 + 1 ≤ dd + 12; omega, by show 8 + (5 + 11) + 40 * (2) ≤ 40 * (dd + 12); omega⟩ (Nat.le_of_ble_eq_true rfl) ⟨by show _ ≤ 2 * G; omega, by show _ ≤ 8 * G; omega⟩ (fun s6 h => ?_)
      exact n_vret (pc := 218) dX12_readThird_218 rfl (by omega) (by omega) h
    · replace h := h.2 c
      refine r_aload_n (pc := 63) (x := 177) dX12_readThird_63 rfl ?_
      refine r_iload (pc := 64) (x := y4) dX12_readThird_64 rfl ?_
      refine r_iconst (pc := 66) (v := 1) dX12_readThird_66 (by decide) ?_
      refine n_Vi0 (pc := 67) (S0 := []) (spX12_h h) gmX12_h selX12_h lk_RX12_284 dX12_readThird_67 rfl (by decide) sh_177 ⟨rfl, by decide⟩ rfl ⟨by show 1 + 1 ≤ dd + 12; omega, by show 8 + (3 + 11) + 40 * (1) ≤ 40 * (dd + 12); omega⟩ (Nat.le_of_ble_eq_true rfl) ⟨by show _ ≤ 2 * G; omega, by show _ ≤ 8 * G; omega⟩ (fun r7 s7 h => ?_)
      refine r_aload_n (pc := 70) (x := 177) dX12_readThird_70 rfl ?_
      refine r_iload (pc := 71) (x := y4) dX12_readThird_71 rfl ?_
      refine r_iconst (pc := 73) (v := 0) dX12_readThird_73 (by decide) ?_
      refine n_Vi0 (pc := 74) (S0 := [.int r7]) (spX12_h h) gmX12_h selX12_h lk_RX12_284 dX12_readThird_74 rfl (by decide) sh_177 ⟨rfl, by decide⟩ rfl ⟨by show 1 + 1 ≤ dd + 12; omega, by show 8 + (3 + 11) + 40 * (1) ≤ 40 * (dd + 12); omega⟩ (Nat.le_of_ble_eq_true rfl) ⟨by show _ ≤ 2 * G; omega, by show _ ≤ 8 * G; omega⟩ (fun r8 s8 h => ?_)
      refine r_isub (pc := 77) dX12_readThird_77 ?_
      refine r_iconst (pc := 78) (v := 1) dX12_readThird_78 (by decide) ?_
      refine r_iadd (pc := 79) dX12_readThird_79 ?_
      refine r_iconst (pc := 80) (v := 3) dX12_readThird_80 (by decide) ?_
      refine r_idiv (pc := 81) dX12_readThird_81 (by decide) ?_
      refine r_istore (pc := 82) (L' := [some (.ref 177), some (.int y1), some (.int y2), some (.int y3), some (.int y4), some (.int (((r7 - r8) + 1) / 3)), none, none]) dX12_readThird_82 rfl (by decide) rfl ?_
      refine r_iload (pc := 84) (x := ((r7 - r8) + 1) / 3) dX12_readThird_84 rfl ?_
      refine r_if_ne (pc := 86) (tgt := 92) dX12_readThird_86 (by decide) (fun c => ?_) (fun c => ?_)
      · replace h := h.1 c
        refine r_iload_n (pc := 92) (x := y1) dX12_readThird_92 rfl ?_
        refine r_if_ne (pc := 93) (tgt := 106) dX12_readThird_93 (by decide) (fun c => ?_) (fun c => ?_)
        · replace h := h.1 c
          refine r_iload_n (pc := 106) (x := y1) dX12_readThird_106 rfl ?_
          refine r_iconst (pc := 107) (v := 1) dX12_readThird_107 (by decide) ?_
          refine r_icmp_ne (pc := 108) (tgt := 124) dX12_readThird_108 (by decide) (fun c => ?_) (fun c => ?_)
          · replace h := h.1 c
            refine r_aload_n (pc := 124) (x := 177) dX12_readThird_124 rfl ?_
            refine r_iload (pc := 125) (x := y4) dX12_readThird_125 rfl ?_
            refine r_iconst (pc := 127) (v := 1) dX12_readThird_127 (by decide) ?_
            refine n_Vi0 (pc := 128) (S0 := []) (spX12_h h) gmX12_h selX12_h lk_RX12_284 dX12_readThird_128 rfl (by decide) sh_177 ⟨rfl, by decide⟩ rfl ⟨by show 1 + 1 ≤ dd + 12; omega, by show 8 + (3 + 11) + 40 * (1) ≤ 40 * (dd + 12); omega⟩ (Nat.le_of_ble_eq_true rfl) ⟨by show _ ≤ 2 * G; omega, by show _ ≤ 8 * G; omega⟩ (fun r9 s9 h => ?_)
            refine r_iload (pc := 131) (x := ((r7 - r8) + 1) / 3) dX12_readThird_131 rfl ?_
            refine r_isub (pc := 133) dX12_readThird_133 ?_
            refine r_iconst (pc := 134) (v := 1) dX12_readThird_134 (by decide) ?_
            refine r_iadd (pc := 135) dX12_readThird_135 ?_
            refine n_L (L' := [some (.ref 177), some (.int y1), some (.int y2), some (.int y3), some (.int y4), some (.int (((r7 - r8) + 1) / 3)), none, none]) (le_s (le_s (le_s (le_s (le_s (le_s (le_n (le_n (le_e))))))))) ?_
            exact pX12_readThird_136 hrc _ _ _ _ _ _ _ _ h ih _ _ (by omega) (by omega)
          · replace h := h.2 c
            refine r_aload_n (pc := 111) (x := 177) dX12_readThird_111 rfl ?_
            refine r_iload (pc := 112) (x := y4) dX12_readThird_112 rfl ?_
            refine r_iconst (pc := 114) (v := 0) dX12_readThird_114 (by decide) ?_
            refine n_Vi0 (pc := 115) (S0 := []) (spX12_h h) gmX12_h selX12_h lk_RX12_284 dX12_readThird_115 rfl (by decide) sh_177 ⟨rfl, by decide⟩ rfl ⟨by show 1 + 1 ≤ dd + 12; omega, by show 8 + (3 + 11) + 40 * (1) ≤ 40 * (dd + 12); omega⟩ (Nat.le_of_ble_eq_true rfl) ⟨by show _ ≤ 2 * G; omega, by show _ ≤ 8 * G; omega⟩ (fun r10 s10 h => ?_)
            refine r_iload (pc := 118) (x := ((r7 - r8) + 1) / 3) dX12_readThird_118 rfl ?_
            refine r_iadd (pc := 120) dX12_readThird_120 ?_
            refine r_goto (pc := 121) (tgt := 136) dX12_readThird_121 (by decide) ?_
            refine n_L (L' := [some (.ref 177), some (.int y1), some (.int y2), some (.int y3), some (.int y4), some (.int (((r7 - r8) + 1) / 3)), none, none]) (le_s (le_s (le_s (le_s (le_s (le_s (le_n (le_n (le_e))))))))) ?_
            exact pX12_readThird_136 hrc _ _ _ _ _ _ _ _ h ih _ _ (by omega) (by omega)
        · replace h := h.2 c
          refine r_aload_n (pc := 96) (x := 177) dX12_readThird_96 rfl ?_
          refine r_iload (pc := 97) (x := y4) dX12_readThird_97 rfl ?_
          refine r_iconst (pc := 99) (v := 0) dX12_readThird_99 (by decide) ?_
          refine n_Vi0 (pc := 100) (S0 := []) (spX12_h h) gmX12_h selX12_h lk_RX12_284 dX12_readThird_100 rfl (by decide) sh_177 ⟨rfl, by decide⟩ rfl ⟨by show 1 + 1 ≤ dd + 12; omega, by show 8 + (3 + 11) + 40 * (1) ≤ 40 * (dd + 12); omega⟩ (Nat.le_of_ble_eq_true rfl) ⟨by show _ ≤ 2 * G; omega, by show _ ≤ 8 * G; omega⟩ (fun r11 s11 h => ?_)
          refine r_goto (pc := 103) (tgt := 136) dX12_readThird_103 (by decide) ?_
          refine n_L (L' := [some (.ref 177), some (.int y1), some (.int y2), some (.int y3), some (.int y4), some (.int (((r7 - r8) + 1) / 3)), none, none]) (le_s (le_s (le_s (le_s (le_s (le_s (le_n (le_n (le_e))))))))) ?_
          exact pX12_readThird_136 hrc _ _ _ _ _ _ _ _ h ih _ _ (by omega) (by omega)
      · replace h := h.2 c
        refine r_goto (pc := 89) (tgt := 206) dX12_readThird_89 (by decide) ?_
        refine n_iinc (pc := 206) (x := y4) (w := 1) (L' := [some (.ref 177), some (.int y1), some (.int y2), some (.int y3), some (.int (y4 + 1)), some (.int (((r7 - r8) + 1) / 3)), none, none]) dX12_readThird_206 rfl (by decide) rfl (by decide) rfl ?_
        refine r_goto (pc := 209) (tgt := 57) dX12_readThird_209 (by decide) ?_
        refine n_L (L' := [some (.ref 177), some (.int y1), some (.int y2), some (.int y3), some (.int (y4 + 1)), none, none, none]) (le_s (le_s (le_s (le_s (le_s (le_n (le_n (le_n (le_e))))))))) ?_
        exact ih _ _ _ _ _ _ h _ _ (by omega) (by omega)
def wX12_readThird_27 (rc : Nat → gS → (gS → Prop) → Prop) (Q : gS → Prop)  (g : Nat) (z0 : Int32) (s : gS) : Prop := wpX12_goWord s (fun s12 => ∃ g13a g13b, g13a + g13b ≤ g ∧ rc g13a s12 (fun s13 => wpX12_fine s13 (fun r14 s14 => (¬ r14 = 0 → ∃ n57, wX12_readThird_57 rc Q n57 g13b z0 (gi s12 177 14) (gi s14 177 14) (gi s12 177 14) s14) ∧ (r14 = 0 → Q s14))))
set_option maxRecDepth 20000 in
theorem pX12_readThird_27 {l : Launch} {X : gX} {dd : Nat} {G : Nat} {rc : Nat → gS → (gS → Prop) → Prop} (hrc : ∀ (g : Nat) (s : gS) (Q : gS → Prop), rc g s Q → Ct l mX12_readSpan (dd + 11) (2 * g) (8 * g) [.ref 177] (nrm s) (q_v Q)) {Q : gS → Prop}  (g : Nat) (z0 : Int32) (s : gS) (h : wX12_readThird_27 rc Q g z0 s)  : ∀ (k n : Nat), k + 2 * g ≤ 2 * G → n + 8 * g ≤ 8 * G → Gw l mX12_readThird (g_rm (dd + 12) (2 * G) (8 * G)) X 27 [some (.ref 177), none, none, none, none, none, none, none] [.int z0] (nrm s) k n (g_Z X (q_v Q) (2 * G) (8 * G)) := by
  intro k n hg1 hg2
  refine r_istore_n (pc := 27) (L' := [some (.ref 177), some (.int z0), none, none, none, none, none, none]) dX12_readThird_27 rfl (by decide) rfl ?_
  refine r_aload_n (pc := 28) (x := 177) dX12_readThird_28 rfl ?_
  refine n_Vv0 (pc := 29) (S0 := []) (spX12_goWord h) gmX12_goWord selX12_goWord lk_RX12_158 dX12_readThird_29 rfl (by decide) sh_177 ⟨rfl, by decide⟩ rfl ⟨by show 3 + 1 ≤ dd + 12; omega, by show 8 + (1 + 11) + 40 * (3) ≤ 40 * (dd + 12); omega⟩ (Nat.le_of_ble_eq_true rfl) ⟨by show _ ≤ 2 * G; omega, by show _ ≤ 8 * G; omega⟩ (fun s12 h => ?_)
  refine r_aload_n (pc := 32) (x := 177) dX12_readThird_32 rfl ?_
  refine n_getI (pc := 33) (j := 14) dX12_readThird_33 fl_RX12_188 (by decide) sh_177 rfl rfl ?_
  refine r_istore_n (pc := 36) (L' := [some (.ref 177), some (.int z0), some (.int (gi s12 177 14)), none, none, none, none, none]) dX12_readThird_36 rfl (by decide) rfl ?_
  refine r_aload_n (pc := 37) (x := 177) dX12_readThird_37 rfl ?_
  obtain ⟨g13a, g13b, hg13, h⟩ := h
  refine n_Vv (pc := 38) (S0 := []) (hrc _ _ _ h) gmX12_readSpan selX12_readSpan lk_RX12_281 dX12_readThird_38 rfl (by decide) sh_177 ⟨rfl, by decide⟩ rfl ⟨by show dd + 11 + 1 ≤ dd + 12; omega, by show 8 + (1 + 11) + 40 * (dd + 11) ≤ 40 * (dd + 12); omega⟩ (Nat.le_of_ble_eq_true rfl) ⟨by show _ ≤ 2 * G; omega, by show _ ≤ 8 * G; omega⟩ (fun s13 h => ?_)
  refine r_aload_n (pc := 41) (x := 177) dX12_readThird_41 rfl ?_
  refine n_Vi0 (pc := 42) (S0 := []) (spX12_fine h) gmX12_fine selX12_fine lk_RX12_121 dX12_readThird_42 rfl (by decide) sh_177 ⟨rfl, by decide⟩ rfl ⟨by show 1 + 1 ≤ dd + 12; omega, by show 8 + (1 + 11) + 40 * (1) ≤ 40 * (dd + 12); omega⟩ (Nat.le_of_ble_eq_true rfl) ⟨by show _ ≤ 2 * G; omega, by show _ ≤ 8 * G; omega⟩ (fun r14 s14 h => ?_)
  refine r_if_ne (pc := 45) (tgt := 49) dX12_readThird_45 (by decide) (fun c => ?_) (fun c => ?_)
  · replace h := h.1 c
    refine r_aload_n (pc := 49) (x := 177) dX12_readThird_49 rfl ?_
    refine n_getI (pc := 50) (j := 14) dX12_readThird_50 fl_RX12_188 (by decide) sh_177 rfl rfl ?_
    refine r_istore_n (pc := 53) (L' := [some (.ref 177), some (.int z0), some (.int (gi s12 177 14)), some (.int (gi s14 177 14)), none, none, none, none]) dX12_readThird_53 rfl (by decide) rfl ?_
    refine r_iload_n (pc := 54) (x := gi s12 177 14) dX12_readThird_54 rfl ?_
    refine r_istore (pc := 55) (L' := [some (.ref 177), some (.int z0), some (.int (gi s12 177 14)), some (.int (gi s14 177 14)), some (.int (gi s12 177 14)), none, none, none]) dX12_readThird_55 rfl (by decide) rfl ?_
    refine n_L (L' := [some (.ref 177), some (.int z0), some (.int (gi s12 177 14)), some (.int (gi s14 177 14)), some (.int (gi s12 177 14)), none, none, none]) (le_s (le_s (le_s (le_s (le_s (le_n (le_n (le_n (le_e))))))))) ?_
    obtain ⟨n, h⟩ := h
    exact pX12_readThird_57 hrc n _ _ _ _ _ _ h  _ _ (by omega) (by omega)
  · replace h := h.2 c
    exact n_vret (pc := 48) dX12_readThird_48 rfl (by omega) (by omega) h
def wfX12_readThird (rc : Nat → gS → (gS → Prop) → Prop) (g : Nat) (s : gS) (Q : gS → Prop) : Prop := wpX12_is 1010 s (fun r1 s1 => (r1 = 0 → wpX12_is 1011 s1 (fun r2 s2 => (r2 = 0 → wX12_readThird_27 rc Q g 2 s2) ∧ (¬ (r2 = 0) → wX12_readThird_27 rc Q g 1 s2))) ∧ (¬ (r1 = 0) → wX12_readThird_27 rc Q g 0 s1))
set_option maxRecDepth 20000 in
theorem spfX12_readThird {l : Launch} {dd : Nat} {rc : Nat → gS → (gS → Prop) → Prop} {g : Nat} (hrc : ∀ (g : Nat) (s : gS) (Q : gS → Prop), rc g s Q → Ct l mX12_readSpan (dd + 11) (2 * g) (8 * g) [.ref 177] (nrm s) (q_v Q)) {s : gS} {Q : gS → Prop} (h : wfX12_readThird rc g s Q) : Ct l mX12_readThird (dd + 12) (2 * g) (8 * g) [.ref 177] (nrm s) (q_v Q) := by
  refine Ct.of (by decide) (Nat.le_of_ble_eq_true rfl) (fun X => ?_)
  refine n_L (L' := [some (.ref 177), none, none, none, none, none, none, none]) (le_s (le_p (le_p (le_p (le_p (le_p (le_p (le_p (le_e))))))))) ?_
  have hg1 : 0 + 2 * g ≤ 2 * g := by omega
  have hg2 : 0 + 8 * g ≤ 8 * g := by omega
  refine r_aload_n (pc := 0) (x := 177) dX12_readThird_0 rfl ?_
  refine n_ldcS (pc := 1) (i := 10) dX12_readThird_1 sr_RX12_212 ?_
  refine n_Vi0S (pc := 3) (S0 := []) (spX12_is h) (Or.inl (by decide)) gmX12_is selX12_is lk_RX12_154 dX12_readThird_3 rfl (by decide) sh_177 ⟨rfl, by decide⟩ rfl ⟨by show 5 + 1 ≤ dd + 12; omega, by show 8 + (3 + 11) + 40 * (5) ≤ 40 * (dd + 12); omega⟩ (Nat.le_of_ble_eq_true rfl) ⟨by show _ ≤ 2 * g; omega, by show _ ≤ 8 * g; omega⟩ (fun r1 s1 h => ?_)
  refine r_if_eq (pc := 6) (tgt := 13) dX12_readThird_6 (by decide) (fun c => ?_) (fun c => ?_)
  · replace h := h.1 c
    refine r_aload_n (pc := 13) (x := 177) dX12_readThird_13 rfl ?_
    refine n_ldcS (pc := 14) (i := 11) dX12_readThird_14 sr_RX12_214 ?_
    refine n_Vi0S (pc := 16) (S0 := []) (spX12_is h) (Or.inl (by decide)) gmX12_is selX12_is lk_RX12_154 dX12_readThird_16 rfl (by decide) sh_177 ⟨rfl, by decide⟩ rfl ⟨by show 5 + 1 ≤ dd + 12; omega, by show 8 + (3 + 11) + 40 * (5) ≤ 40 * (dd + 12); omega⟩ (Nat.le_of_ble_eq_true rfl) ⟨by show _ ≤ 2 * g; omega, by show _ ≤ 8 * g; omega⟩ (fun r2 s2 h => ?_)
    refine r_if_eq (pc := 19) (tgt := 26) dX12_readThird_19 (by decide) (fun c => ?_) (fun c => ?_)
    · replace h := h.1 c
      refine r_iconst (pc := 26) (v := 2) dX12_readThird_26 (by decide) ?_
      refine n_L (L' := [some (.ref 177), none, none, none, none, none, none, none]) (le_s (le_n (le_n (le_n (le_n (le_n (le_n (le_n (le_e))))))))) ?_
      exact pX12_readThird_27 hrc _ _ _ h  _ _ (by omega) (by omega)
    · replace h := h.2 c
      refine r_iconst (pc := 22) (v := 1) dX12_readThird_22 (by decide) ?_
      refine r_goto (pc := 23) (tgt := 27) dX12_readThird_23 (by decide) ?_
      refine n_L (L' := [some (.ref 177), none, none, none, none, none, none, none]) (le_s (le_n (le_n (le_n (le_n (le_n (le_n (le_n (le_e))))))))) ?_
      exact pX12_readThird_27 hrc _ _ _ h  _ _ (by omega) (by omega)
  · replace h := h.2 c
    refine r_iconst (pc := 9) (v := 0) dX12_readThird_9 (by decide) ?_
    refine r_goto (pc := 10) (tgt := 27) dX12_readThird_10 (by decide) ?_
    refine n_L (L' := [some (.ref 177), none, none, none, none, none, none, none]) (le_s (le_n (le_n (le_n (le_n (le_n (le_n (le_n (le_e))))))))) ?_
    exact pX12_readThird_27 hrc _ _ _ h  _ _ (by omega) (by omega)
def wX12_readSpan_49 (rc : Nat → gS → (gS → Prop) → Prop) (Q : gS → Prop)  (g : Nat) (s : gS) : Prop := ∃ g28a g28b, g28a + g28b ≤ g ∧ wfX12_readThird rc g28a s (fun s28 => Q s28)
set_option maxRecDepth 20000 in
theorem pX12_readSpan_49 {l : Launch} {X : gX} {dd : Nat} {G : Nat} {rc : Nat → gS → (gS → Prop) → Prop} (hrc : ∀ (g : Nat) (s : gS) (Q : gS → Prop), rc g s Q → Ct l mX12_readSpan (dd + 11) (2 * g) (8 * g) [.ref 177] (nrm s) (q_v Q)) {Q : gS → Prop}  (g : Nat) (s : gS) (h : wX12_readSpan_49 rc Q g s)  : ∀ (k n : Nat), k + 2 * g ≤ 2 * G → n + 8 * g ≤ 8 * G → Gw l mX12_readSpan (g_rm (dd + 14) (2 * G) (8 * G)) X 49 [some (.ref 177)] [] (nrm s) k n (g_Z X (q_v Q) (2 * G) (8 * G)) := by
  intro k n hg1 hg2
  refine r_aload_n (pc := 49) (x := 177) dX12_readSpan_49 rfl ?_
  obtain ⟨g28a, g28b, hg28, h⟩ := h
  refine n_Vv (pc := 50) (S0 := []) (spfX12_readThird hrc h) gmX12_readThird selX12_readThird lk_RX12_218 dX12_readSpan_50 rfl (by decide) sh_177 ⟨rfl, by decide⟩ rfl ⟨by show dd + 12 + 1 ≤ dd + 14; omega, by show 8 + (8 + 11) + 40 * (dd + 12) ≤ 40 * (dd + 14); omega⟩ (Nat.le_of_ble_eq_true rfl) ⟨by show _ ≤ 2 * G; omega, by show _ ≤ 8 * G; omega⟩ (fun s28 h => ?_)
  refine r_goto (pc := 53) (tgt := 251) dX12_readSpan_53 (by decide) ?_
  exact n_vret (pc := 251) dX12_readSpan_251 rfl (by omega) (by omega) h
def wfX12_readSpan (rc : Nat → gS → (gS → Prop) → Prop) (g : Nat) (s : gS) (Q : gS → Prop) : Prop := wpX12_fine s (fun r1 s1 => (¬ r1 = 0 → ((gi s1 177 11) = 0 → wpX12_is 1010 s1 (fun r2 s2 => (¬ r2 = 0 → wX12_readSpan_49 rc Q g s2) ∧ (r2 = 0 → wpX12_is 1011 s2 (fun r3 s3 => (¬ r3 = 0 → wX12_readSpan_49 rc Q g s3) ∧ (r3 = 0 → wpX12_is 1012 s3 (fun r4 s4 => (r4 = 0 → wpX12_takes 1013 s4 (fun r5 s5 => (r5 = 0 → wpX12_takes 1016 s5 (fun r6 s6 => (r6 = 0 → wpX12_takes 1017 s6 (fun r7 s7 => (r7 = 0 → wpX12_takes 1018 s7 (fun r8 s8 => (r8 = 0 → wpX12_takes 1019 s8 (fun r9 s9 => (r9 = 0 → wpX12_takes 1020 s9 (fun r10 s10 => (r10 = 0 → wpX12_takes 1021 s10 (fun r11 s11 => (r11 = 0 → wpX12_takes 1022 s11 (fun r12 s12 => (r12 = 0 → ∃ g13a g13b, g13a + g13b ≤ g ∧ wpX12_nameOf g13a 1014 s12 (fun r13 s13 => (r13 = (-1) → ∃ g14a g14b, g14a + g14b ≤ g13b ∧ wpX12_nameOf g14a 1023 s13 (fun r14 s14 => (r14 = (-1) → wpX12_fault (gi s14 177 9) s14 (fun s15 => Q s15)) ∧ (¬ (r14 = (-1)) → ∃ g16a g16b, g16a + g16b ≤ g14b ∧ wpX12_readMonthName g16a s14 (fun s16 => Q s16)))) ∧ (¬ (r13 = (-1)) → ∃ g17a g17b, g17a + g17b ≤ g13b ∧ wpX12_readDayName g17a s13 (fun s17 => Q s17)))) ∧ (¬ (r12 = 0) → ∃ g18a g18b, g18a + g18b ≤ g ∧ wfX12_readLast rc g18a s12 (fun s18 => Q s18)))) ∧ (¬ (r11 = 0) → ∃ g19a g19b, g19a + g19b ≤ g ∧ wpX12_readNext g19a s11 (fun s19 => Q s19)))) ∧ (¬ (r10 = 0) → ∃ g20a g20b, g20a + g20b ≤ g ∧ wpX12_readThis g20a s10 (fun s20 => Q s20)))) ∧ (¬ (r9 = 0) → wpX12_readIn s9 (fun s21 => Q s21)))) ∧ (¬ (r8 = 0) → wpX12_pushDay ((gi s8 177 15) - 1) 3 s8 (fun s22 => Q s22)))) ∧ (¬ (r7 = 0) → wpX12_pushDay ((gi s7 177 15) + 1) 3 s7 (fun s23 => Q s23)))) ∧ (¬ (r6 = 0) → wpX12_pushDay (gi s6 177 15) 3 s6 (fun s24 => Q s24)))) ∧ (¬ (r5 = 0) → ∃ g25a g25b, g25a + g25b ≤ g ∧ wpX12_needDayName g25a s5 (fun r25 s25 => ∃ g26a g26b, g26a + g26b ≤ g25b ∧ wfX12_readOf rc g26a r25 1 s25 (fun s26 => Q s26))))) ∧ (¬ (r4 = 0) → wX12_readSpan_49 rc Q g s4))))))) ∧ (¬ ((gi s1 177 11) = 0) → ∃ g27a g27b, g27a + g27b ≤ g ∧ wfX12_readNumbered rc g27a s1 (fun s27 => Q s27))) ∧ (r1 = 0 → Q s1))
set_option maxRecDepth 20000 in
theorem spfX12_readSpan {l : Launch} {dd : Nat} {rc : Nat → gS → (gS → Prop) → Prop} {g : Nat} (hrc : ∀ (g : Nat) (s : gS) (Q : gS → Prop), rc g s Q → Ct l mX12_readSpan (dd + 11) (2 * g) (8 * g) [.ref 177] (nrm s) (q_v Q)) {s : gS} {Q : gS → Prop} (h : wfX12_readSpan rc g s Q) : Ct l mX12_readSpan (dd + 14) (2 * g) (8 * g) [.ref 177] (nrm s) (q_v Q) := by
  refine Ct.of (by decide) (Nat.le_of_ble_eq_true rfl) (fun X => ?_)
  refine n_L (L' := [some (.ref 177)]) (le_s (le_e)) ?_
  have hg1 : 0 + 2 * g ≤ 2 * g := by omega
  have hg2 : 0 + 8 * g ≤ 8 * g := by omega
  refine r_aload_n (pc := 0) (x := 177) dX12_readSpan_0 rfl ?_
  refine n_Vi0 (pc := 1) (S0 := []) (spX12_fine h) gmX12_fine selX12_fine lk_RX12_121 dX12_readSpan_1 rfl (by decide) sh_177 ⟨rfl, by decide⟩ rfl ⟨by show 1 + 1 ≤ dd + 14; omega, by show 8 + (1 + 11) + 40 * (1) ≤ 40 * (dd + 14); omega⟩ (Nat.le_of_ble_eq_true rfl) ⟨by show _ ≤ 2 * g; omega, by show _ ≤ 8 * g; omega⟩ (fun r1 s1 h => ?_)
  refine r_if_ne (pc := 4) (tgt := 8) dX12_readSpan_4 (by decide) (fun c => ?_) (fun c => ?_)
  · replace h := h.1 c
    refine r_aload_n (pc := 8) (x := 177) dX12_readSpan_8 rfl ?_
    refine n_getI (pc := 9) (j := 11) dX12_readSpan_9 fl_RX12_136 (by decide) sh_177 rfl rfl ?_
    refine r_if_eq (pc := 12) (tgt := 22) dX12_readSpan_12 (by decide) (fun c => ?_) (fun c => ?_)
    · replace h := h.1 c
      refine r_aload_n (pc := 22) (x := 177) dX12_readSpan_22 rfl ?_
      refine n_ldcS (pc := 23) (i := 10) dX12_readSpan_23 sr_RX12_212 ?_
      refine n_Vi0S (pc := 25) (S0 := []) (spX12_is h) (Or.inl (by decide)) gmX12_is selX12_is lk_RX12_154 dX12_readSpan_25 rfl (by decide) sh_177 ⟨rfl, by decide⟩ rfl ⟨by show 5 + 1 ≤ dd + 14; omega, by show 8 + (3 + 11) + 40 * (5) ≤ 40 * (dd + 14); omega⟩ (Nat.le_of_ble_eq_true rfl) ⟨by show _ ≤ 2 * g; omega, by show _ ≤ 8 * g; omega⟩ (fun r2 s2 h => ?_)
      refine r_if_ne (pc := 28) (tgt := 49) dX12_readSpan_28 (by decide) (fun c => ?_) (fun c => ?_)
      · replace h := h.1 c
        refine n_L (L' := [some (.ref 177)]) (le_s (le_e)) ?_
        exact pX12_readSpan_49 hrc _ _ h  _ _ (by omega) (by omega)
      · replace h := h.2 c
        refine r_aload_n (pc := 31) (x := 177) dX12_readSpan_31 rfl ?_
        refine n_ldcS (pc := 32) (i := 11) dX12_readSpan_32 sr_RX12_214 ?_
        refine n_Vi0S (pc := 34) (S0 := []) (spX12_is h) (Or.inl (by decide)) gmX12_is selX12_is lk_RX12_154 dX12_readSpan_34 rfl (by decide) sh_177 ⟨rfl, by decide⟩ rfl ⟨by show 5 + 1 ≤ dd + 14; omega, by show 8 + (3 + 11) + 40 * (5) ≤ 40 * (dd + 14); omega⟩ (Nat.le_of_ble_eq_true rfl) ⟨by show _ ≤ 2 * g; omega, by show _ ≤ 8 * g; omega⟩ (fun r3 s3 h => ?_)
        refine r_if_ne (pc := 37) (tgt := 49) dX12_readSpan_37 (by decide) (fun c => ?_) (fun c => ?_)
        · replace h := h.1 c
          refine n_L (L' := [some (.ref 177)]) (le_s (le_e)) ?_
          exact pX12_readSpan_49 hrc _ _ h  _ _ (by omega) (by omega)
        · replace h := h.2 c
          refine r_aload_n (pc := 40) (x := 177) dX12_readSpan_40 rfl ?_
          refine n_ldcS (pc := 41) (i := 12) dX12_readSpan_41 sr_RX12_216 ?_
          refine n_Vi0S (pc := 43) (S0 := []) (spX12_is h) (Or.inl (by decide)) gmX12_is selX12_is lk_RX12_154 dX12_readSpan_43 rfl (by decide) sh_177 ⟨rfl, by decide⟩ rfl ⟨by show 5 + 1 ≤ dd + 14; omega, by show 8 + (3 + 11) + 40 * (5) ≤ 40 * (dd + 14); omega⟩ (Nat.le_of_ble_eq_true rfl) ⟨by show _ ≤ 2 * g; omega, by show _ ≤ 8 * g; omega⟩ (fun r4 s4 h => ?_)
          refine r_if_eq (pc := 46) (tgt := 56) dX12_readSpan_46 (by decide) (fun c => ?_) (fun c => ?_)
          · replace h := h.1 c
            refine r_aload_n (pc := 56) (x := 177) dX12_readSpan_56 rfl ?_
            refine n_ldcS (pc := 57) (i := 13) dX12_readSpan_57 sr_RX12_221 ?_
            refine n_Vi0S (pc := 59) (S0 := []) (spX12_takes h) (Or.inl (by decide)) gmX12_takes selX12_takes lk_RX12_161 dX12_readSpan_59 rfl (by decide) sh_177 ⟨rfl, by decide⟩ rfl ⟨by show 6 + 1 ≤ dd + 14; omega, by show 8 + (2 + 11) + 40 * (6) ≤ 40 * (dd + 14); omega⟩ (Nat.le_of_ble_eq_true rfl) ⟨by show _ ≤ 2 * g; omega, by show _ ≤ 8 * g; omega⟩ (fun r5 s5 h => ?_)
            refine r_if_eq (pc := 62) (tgt := 77) dX12_readSpan_62 (by decide) (fun c => ?_) (fun c => ?_)
            · replace h := h.1 c
              refine r_aload_n (pc := 77) (x := 177) dX12_readSpan_77 rfl ?_
              refine n_ldcS (pc := 78) (i := 16) dX12_readSpan_78 sr_RX12_230 ?_
              refine n_Vi0S (pc := 80) (S0 := []) (spX12_takes h) (Or.inl (by decide)) gmX12_takes selX12_takes lk_RX12_161 dX12_readSpan_80 rfl (by decide) sh_177 ⟨rfl, by decide⟩ rfl ⟨by show 6 + 1 ≤ dd + 14; omega, by show 8 + (2 + 11) + 40 * (6) ≤ 40 * (dd + 14); omega⟩ (Nat.le_of_ble_eq_true rfl) ⟨by show _ ≤ 2 * g; omega, by show _ ≤ 8 * g; omega⟩ (fun r6 s6 h => ?_)
              refine r_if_eq (pc := 83) (tgt := 98) dX12_readSpan_83 (by decide) (fun c => ?_) (fun c => ?_)
              · replace h := h.1 c
                refine r_aload_n (pc := 98) (x := 177) dX12_readSpan_98 rfl ?_
                refine n_ldcS (pc := 99) (i := 17) dX12_readSpan_99 sr_RX12_235 ?_
                refine n_Vi0S (pc := 101) (S0 := []) (spX12_takes h) (Or.inl (by decide)) gmX12_takes selX12_takes lk_RX12_161 dX12_readSpan_101 rfl (by decide) sh_177 ⟨rfl, by decide⟩ rfl ⟨by show 6 + 1 ≤ dd + 14; omega, by show 8 + (2 + 11) + 40 * (6) ≤ 40 * (dd + 14); omega⟩ (Nat.le_of_ble_eq_true rfl) ⟨by show _ ≤ 2 * g; omega, by show _ ≤ 8 * g; omega⟩ (fun r7 s7 h => ?_)
                refine r_if_eq (pc := 104) (tgt := 121) dX12_readSpan_104 (by decide) (fun c => ?_) (fun c => ?_)
                · replace h := h.1 c
                  refine r_aload_n (pc := 121) (x := 177) dX12_readSpan_121 rfl ?_
                  refine n_ldcS (pc := 122) (i := 18) dX12_readSpan_122 sr_RX12_237 ?_
                  refine n_Vi0S (pc := 124) (S0 := []) (spX12_takes h) (Or.inl (by decide)) gmX12_takes selX12_takes lk_RX12_161 dX12_readSpan_124 rfl (by decide) sh_177 ⟨rfl, by decide⟩ rfl ⟨by show 6 + 1 ≤ dd + 14; omega, by show 8 + (2 + 11) + 40 * (6) ≤ 40 * (dd + 14); omega⟩ (Nat.le_of_ble_eq_true rfl) ⟨by show _ ≤ 2 * g; omega, by show _ ≤ 8 * g; omega⟩ (fun r8 s8 h => ?_)
                  refine r_if_eq (pc := 127) (tgt := 144) dX12_readSpan_127 (by decide) (fun c => ?_) (fun c => ?_)
                  · replace h := h.1 c
                    refine r_aload_n (pc := 144) (x := 177) dX12_readSpan_144 rfl ?_
                    refine n_ldcS (pc := 145) (i := 19) dX12_readSpan_145 sr_RX12_239 ?_
                    refine n_Vi0S (pc := 147) (S0 := []) (spX12_takes h) (Or.inl (by decide)) gmX12_takes selX12_takes lk_RX12_161 dX12_readSpan_147 rfl (by decide) sh_177 ⟨rfl, by decide⟩ rfl ⟨by show 6 + 1 ≤ dd + 14; omega, by show 8 + (2 + 11) + 40 * (6) ≤ 40 * (dd + 14); omega⟩ (Nat.le_of_ble_eq_true rfl) ⟨by show _ ≤ 2 * g; omega, by show _ ≤ 8 * g; omega⟩ (fun r9 s9 h => ?_)
                    refine r_if_eq (pc := 150) (tgt := 160) dX12_readSpan_150 (by decide) (fun c => ?_) (fun c => ?_)
                    · replace h := h.1 c
                      refine r_aload_n (pc := 160) (x := 177) dX12_readSpan_160 rfl ?_
                      refine n_ldcS (pc := 161) (i := 20) dX12_readSpan_161 sr_RX12_243 ?_
                      refine n_Vi0S (pc := 163) (S0 := []) (spX12_takes h) (Or.inl (by decide)) gmX12_takes selX12_takes lk_RX12_161 dX12_readSpan_163 rfl (by decide) sh_177 ⟨rfl, by decide⟩ rfl ⟨by show 6 + 1 ≤ dd + 14; omega, by show 8 + (2 + 11) + 40 * (6) ≤ 40 * (dd + 14); omega⟩ (Nat.le_of_ble_eq_true rfl) ⟨by show _ ≤ 2 * g; omega, by show _ ≤ 8 * g; omega⟩ (fun r10 s10 h => ?_)
                      refine r_if_eq (pc := 166) (tgt := 176) dX12_readSpan_166 (by decide) (fun c => ?_) (fun c => ?_)
                      · replace h := h.1 c
                        refine r_aload_n (pc := 176) (x := 177) dX12_readSpan_176 rfl ?_
                        refine n_ldcS (pc := 177) (i := 21) dX12_readSpan_177 sr_RX12_248 ?_
                        refine n_Vi0S (pc := 179) (S0 := []) (spX12_takes h) (Or.inl (by decide)) gmX12_takes selX12_takes lk_RX12_161 dX12_readSpan_179 rfl (by decide) sh_177 ⟨rfl, by decide⟩ rfl ⟨by show 6 + 1 ≤ dd + 14; omega, by show 8 + (2 + 11) + 40 * (6) ≤ 40 * (dd + 14); omega⟩ (Nat.le_of_ble_eq_true rfl) ⟨by show _ ≤ 2 * g; omega, by show _ ≤ 8 * g; omega⟩ (fun r11 s11 h => ?_)
                        refine r_if_eq (pc := 182) (tgt := 192) dX12_readSpan_182 (by decide) (fun c => ?_) (fun c => ?_)
                        · replace h := h.1 c
                          refine r_aload_n (pc := 192) (x := 177) dX12_readSpan_192 rfl ?_
                          refine n_ldcS (pc := 193) (i := 22) dX12_readSpan_193 sr_RX12_253 ?_
                          refine n_Vi0S (pc := 195) (S0 := []) (spX12_takes h) (Or.inl (by decide)) gmX12_takes selX12_takes lk_RX12_161 dX12_readSpan_195 rfl (by decide) sh_177 ⟨rfl, by decide⟩ rfl ⟨by show 6 + 1 ≤ dd + 14; omega, by show 8 + (2 + 11) + 40 * (6) ≤ 40 * (dd + 14); omega⟩ (Nat.le_of_ble_eq_true rfl) ⟨by show _ ≤ 2 * g; omega, by show _ ≤ 8 * g; omega⟩ (fun r12 s12 h => ?_)
                          refine r_if_eq (pc := 198) (tgt := 208) dX12_readSpan_198 (by decide) (fun c => ?_) (fun c => ?_)
                          · replace h := h.1 c
                            refine r_aload_n (pc := 208) (x := 177) dX12_readSpan_208 rfl ?_
                            refine n_ldcS (pc := 209) (i := 14) dX12_readSpan_209 sr_RX12_182 ?_
                            obtain ⟨g13a, g13b, hg13, h⟩ := h
                            refine n_Vi (pc := 211) (S0 := []) (spX12_nameOf h) gmX12_nameOf selX12_nameOf lk_RX12_184 dX12_readSpan_211 rfl (by decide) sh_177 ⟨rfl, by decide⟩ rfl ⟨by show 9 + 1 ≤ dd + 14; omega, by show 8 + (3 + 11) + 40 * (9) ≤ 40 * (dd + 14); omega⟩ (Nat.le_of_ble_eq_true rfl) ⟨by show _ ≤ 2 * g; omega, by show _ ≤ 8 * g; omega⟩ (fun r13 s13 h => ?_)
                            refine r_iconst (pc := 214) (v := (-1)) dX12_readSpan_214 (by decide) ?_
                            refine r_icmp_eq (pc := 215) (tgt := 225) dX12_readSpan_215 (by decide) (fun c => ?_) (fun c => ?_)
                            · replace h := h.1 c
                              refine r_aload_n (pc := 225) (x := 177) dX12_readSpan_225 rfl ?_
                              refine n_ldc_wS (pc := 226) (i := 23) dX12_readSpan_226 sr_RX12_261 ?_
                              obtain ⟨g14a, g14b, hg14, h⟩ := h
                              refine n_Vi (pc := 229) (S0 := []) (spX12_nameOf h) gmX12_nameOf selX12_nameOf lk_RX12_184 dX12_readSpan_229 rfl (by decide) sh_177 ⟨rfl, by decide⟩ rfl ⟨by show 9 + 1 ≤ dd + 14; omega, by show 8 + (3 + 11) + 40 * (9) ≤ 40 * (dd + 14); omega⟩ (Nat.le_of_ble_eq_true rfl) ⟨by show _ ≤ 2 * g; omega, by show _ ≤ 8 * g; omega⟩ (fun r14 s14 h => ?_)
                              refine r_iconst (pc := 232) (v := (-1)) dX12_readSpan_232 (by decide) ?_
                              refine r_icmp_eq (pc := 233) (tgt := 243) dX12_readSpan_233 (by decide) (fun c => ?_) (fun c => ?_)
                              · replace h := h.1 c
                                refine r_aload_n (pc := 243) (x := 177) dX12_readSpan_243 rfl ?_
                                refine r_aload_n (pc := 244) (x := 177) dX12_readSpan_244 rfl ?_
                                refine n_getI (pc := 245) (j := 9) dX12_readSpan_245 fl_RX12_133 (by decide) sh_177 rfl rfl ?_
                                refine n_Vv0 (pc := 248) (S0 := []) (spX12_fault h) gmX12_fault selX12_fault lk_RX12_125 dX12_readSpan_248 rfl (by decide) sh_177 ⟨rfl, by decide⟩ rfl ⟨by show 2 + 1 ≤ dd + 14; omega, by show 8 + (2 + 11) + 40 * (2) ≤ 40 * (dd + 14); omega⟩ (Nat.le_of_ble_eq_true rfl) ⟨by show _ ≤ 2 * g; omega, by show _ ≤ 8 * g; omega⟩ (fun s15 h => ?_)
                                exact n_vret (pc := 251) dX12_readSpan_251 rfl (by omega) (by omega) h
                              · replace h := h.2 c
                                refine r_aload_n (pc := 236) (x := 177) dX12_readSpan_236 rfl ?_
                                obtain ⟨g16a, g16b, hg16, h⟩ := h
                                refine n_Vv (pc := 237) (S0 := []) (spX12_readMonthName h) gmX12_readMonthName selX12_readMonthName lk_RX12_263 dX12_readSpan_237 rfl (by decide) sh_177 ⟨rfl, by decide⟩ rfl ⟨by show 10 + 1 ≤ dd + 14; omega, by show 8 + (6 + 11) + 40 * (10) ≤ 40 * (dd + 14); omega⟩ (Nat.le_of_ble_eq_true rfl) ⟨by show _ ≤ 2 * g; omega, by show _ ≤ 8 * g; omega⟩ (fun s16 h => ?_)
                                refine r_goto (pc := 240) (tgt := 251) dX12_readSpan_240 (by decide) ?_
                                exact n_vret (pc := 251) dX12_readSpan_251 rfl (by omega) (by omega) h
                            · replace h := h.2 c
                              refine r_aload_n (pc := 218) (x := 177) dX12_readSpan_218 rfl ?_
                              obtain ⟨g17a, g17b, hg17, h⟩ := h
                              refine n_Vv (pc := 219) (S0 := []) (spX12_readDayName h) gmX12_readDayName selX12_readDayName lk_RX12_258 dX12_readSpan_219 rfl (by decide) sh_177 ⟨rfl, by decide⟩ rfl ⟨by show 10 + 1 ≤ dd + 14; omega, by show 8 + (2 + 11) + 40 * (10) ≤ 40 * (dd + 14); omega⟩ (Nat.le_of_ble_eq_true rfl) ⟨by show _ ≤ 2 * g; omega, by show _ ≤ 8 * g; omega⟩ (fun s17 h => ?_)
                              refine r_goto (pc := 222) (tgt := 251) dX12_readSpan_222 (by decide) ?_
                              exact n_vret (pc := 251) dX12_readSpan_251 rfl (by omega) (by omega) h
                          · replace h := h.2 c
                            refine r_aload_n (pc := 201) (x := 177) dX12_readSpan_201 rfl ?_
                            obtain ⟨g18a, g18b, hg18, h⟩ := h
                            refine n_Vv (pc := 202) (S0 := []) (spfX12_readLast hrc h) gmX12_readLast selX12_readLast lk_RX12_255 dX12_readSpan_202 rfl (by decide) sh_177 ⟨rfl, by decide⟩ rfl ⟨by show dd + 13 + 1 ≤ dd + 14; omega, by show 8 + (3 + 11) + 40 * (dd + 13) ≤ 40 * (dd + 14); omega⟩ (Nat.le_of_ble_eq_true rfl) ⟨by show _ ≤ 2 * g; omega, by show _ ≤ 8 * g; omega⟩ (fun s18 h => ?_)
                            refine r_goto (pc := 205) (tgt := 251) dX12_readSpan_205 (by decide) ?_
                            exact n_vret (pc := 251) dX12_readSpan_251 rfl (by omega) (by omega) h
                        · replace h := h.2 c
                          refine r_aload_n (pc := 185) (x := 177) dX12_readSpan_185 rfl ?_
                          obtain ⟨g19a, g19b, hg19, h⟩ := h
                          refine n_Vv (pc := 186) (S0 := []) (spX12_readNext h) gmX12_readNext selX12_readNext lk_RX12_250 dX12_readSpan_186 rfl (by decide) sh_177 ⟨rfl, by decide⟩ rfl ⟨by show 10 + 1 ≤ dd + 14; omega, by show 8 + (3 + 11) + 40 * (10) ≤ 40 * (dd + 14); omega⟩ (Nat.le_of_ble_eq_true rfl) ⟨by show _ ≤ 2 * g; omega, by show _ ≤ 8 * g; omega⟩ (fun s19 h => ?_)
                          refine r_goto (pc := 189) (tgt := 251) dX12_readSpan_189 (by decide) ?_
                          exact n_vret (pc := 251) dX12_readSpan_251 rfl (by omega) (by omega) h
                      · replace h := h.2 c
                        refine r_aload_n (pc := 169) (x := 177) dX12_readSpan_169 rfl ?_
                        obtain ⟨g20a, g20b, hg20, h⟩ := h
                        refine n_Vv (pc := 170) (S0 := []) (spX12_readThis h) gmX12_readThis selX12_readThis lk_RX12_245 dX12_readSpan_170 rfl (by decide) sh_177 ⟨rfl, by decide⟩ rfl ⟨by show 10 + 1 ≤ dd + 14; omega, by show 8 + (3 + 11) + 40 * (10) ≤ 40 * (dd + 14); omega⟩ (Nat.le_of_ble_eq_true rfl) ⟨by show _ ≤ 2 * g; omega, by show _ ≤ 8 * g; omega⟩ (fun s20 h => ?_)
                        refine r_goto (pc := 173) (tgt := 251) dX12_readSpan_173 (by decide) ?_
                        exact n_vret (pc := 251) dX12_readSpan_251 rfl (by omega) (by omega) h
                    · replace h := h.2 c
                      refine r_aload_n (pc := 153) (x := 177) dX12_readSpan_153 rfl ?_
                      refine n_Vv0 (pc := 154) (S0 := []) (spX12_readIn h) gmX12_readIn selX12_readIn lk_RX12_240 dX12_readSpan_154 rfl (by decide) sh_177 ⟨rfl, by decide⟩ rfl ⟨by show 8 + 1 ≤ dd + 14; omega, by show 8 + (3 + 11) + 40 * (8) ≤ 40 * (dd + 14); omega⟩ (Nat.le_of_ble_eq_true rfl) ⟨by show _ ≤ 2 * g; omega, by show _ ≤ 8 * g; omega⟩ (fun s21 h => ?_)
                      refine r_goto (pc := 157) (tgt := 251) dX12_readSpan_157 (by decide) ?_
                      exact n_vret (pc := 251) dX12_readSpan_251 rfl (by omega) (by omega) h
                  · replace h := h.2 c
                    refine r_aload_n (pc := 130) (x := 177) dX12_readSpan_130 rfl ?_
                    refine r_aload_n (pc := 131) (x := 177) dX12_readSpan_131 rfl ?_
                    refine n_getI (pc := 132) (j := 15) dX12_readSpan_132 fl_RX12_232 (by decide) sh_177 rfl rfl ?_
                    refine r_iconst (pc := 135) (v := 1) dX12_readSpan_135 (by decide) ?_
                    refine r_isub (pc := 136) dX12_readSpan_136 ?_
                    refine r_iconst (pc := 137) (v := 3) dX12_readSpan_137 (by decide) ?_
                    refine n_Vv0 (pc := 138) (S0 := []) (spX12_pushDay h) gmX12_pushDay selX12_pushDay lk_RX12_195 dX12_readSpan_138 rfl (by decide) sh_177 ⟨rfl, by decide⟩ rfl ⟨by show 4 + 1 ≤ dd + 14; omega, by show 8 + (3 + 11) + 40 * (4) ≤ 40 * (dd + 14); omega⟩ (Nat.le_of_ble_eq_true rfl) ⟨by show _ ≤ 2 * g; omega, by show _ ≤ 8 * g; omega⟩ (fun s22 h => ?_)
                    refine r_goto (pc := 141) (tgt := 251) dX12_readSpan_141 (by decide) ?_
                    exact n_vret (pc := 251) dX12_readSpan_251 rfl (by omega) (by omega) h
                · replace h := h.2 c
                  refine r_aload_n (pc := 107) (x := 177) dX12_readSpan_107 rfl ?_
                  refine r_aload_n (pc := 108) (x := 177) dX12_readSpan_108 rfl ?_
                  refine n_getI (pc := 109) (j := 15) dX12_readSpan_109 fl_RX12_232 (by decide) sh_177 rfl rfl ?_
                  refine r_iconst (pc := 112) (v := 1) dX12_readSpan_112 (by decide) ?_
                  refine r_iadd (pc := 113) dX12_readSpan_113 ?_
                  refine r_iconst (pc := 114) (v := 3) dX12_readSpan_114 (by decide) ?_
                  refine n_Vv0 (pc := 115) (S0 := []) (spX12_pushDay h) gmX12_pushDay selX12_pushDay lk_RX12_195 dX12_readSpan_115 rfl (by decide) sh_177 ⟨rfl, by decide⟩ rfl ⟨by show 4 + 1 ≤ dd + 14; omega, by show 8 + (3 + 11) + 40 * (4) ≤ 40 * (dd + 14); omega⟩ (Nat.le_of_ble_eq_true rfl) ⟨by show _ ≤ 2 * g; omega, by show _ ≤ 8 * g; omega⟩ (fun s23 h => ?_)
                  refine r_goto (pc := 118) (tgt := 251) dX12_readSpan_118 (by decide) ?_
                  exact n_vret (pc := 251) dX12_readSpan_251 rfl (by omega) (by omega) h
              · replace h := h.2 c
                refine r_aload_n (pc := 86) (x := 177) dX12_readSpan_86 rfl ?_
                refine r_aload_n (pc := 87) (x := 177) dX12_readSpan_87 rfl ?_
                refine n_getI (pc := 88) (j := 15) dX12_readSpan_88 fl_RX12_232 (by decide) sh_177 rfl rfl ?_
                refine r_iconst (pc := 91) (v := 3) dX12_readSpan_91 (by decide) ?_
                refine n_Vv0 (pc := 92) (S0 := []) (spX12_pushDay h) gmX12_pushDay selX12_pushDay lk_RX12_195 dX12_readSpan_92 rfl (by decide) sh_177 ⟨rfl, by decide⟩ rfl ⟨by show 4 + 1 ≤ dd + 14; omega, by show 8 + (3 + 11) + 40 * (4) ≤ 40 * (dd + 14); omega⟩ (Nat.le_of_ble_eq_true rfl) ⟨by show _ ≤ 2 * g; omega, by show _ ≤ 8 * g; omega⟩ (fun s24 h => ?_)
                refine r_goto (pc := 95) (tgt := 251) dX12_readSpan_95 (by decide) ?_
                exact n_vret (pc := 251) dX12_readSpan_251 rfl (by omega) (by omega) h
            · replace h := h.2 c
              refine r_aload_n (pc := 65) (x := 177) dX12_readSpan_65 rfl ?_
              refine r_aload_n (pc := 66) (x := 177) dX12_readSpan_66 rfl ?_
              obtain ⟨g25a, g25b, hg25, h⟩ := h
              refine n_Vi (pc := 67) (S0 := [.ref 177]) (spX12_needDayName h) gmX12_needDayName selX12_needDayName lk_RX12_223 dX12_readSpan_67 rfl (by decide) sh_177 ⟨rfl, by decide⟩ rfl ⟨by show 10 + 1 ≤ dd + 14; omega, by show 8 + (2 + 11) + 40 * (10) ≤ 40 * (dd + 14); omega⟩ (Nat.le_of_ble_eq_true rfl) ⟨by show _ ≤ 2 * g; omega, by show _ ≤ 8 * g; omega⟩ (fun r25 s25 h => ?_)
              refine r_iconst (pc := 70) (v := 1) dX12_readSpan_70 (by decide) ?_
              obtain ⟨g26a, g26b, hg26, h⟩ := h
              refine n_Vv (pc := 71) (S0 := []) (spfX12_readOf hrc h) gmX12_readOf selX12_readOf lk_RX12_226 dX12_readSpan_71 rfl (by decide) sh_177 ⟨rfl, by decide⟩ rfl ⟨by show dd + 12 + 1 ≤ dd + 14; omega, by show 8 + (7 + 11) + 40 * (dd + 12) ≤ 40 * (dd + 14); omega⟩ (Nat.le_of_ble_eq_true rfl) ⟨by show _ ≤ 2 * g; omega, by show _ ≤ 8 * g; omega⟩ (fun s26 h => ?_)
              refine r_goto (pc := 74) (tgt := 251) dX12_readSpan_74 (by decide) ?_
              exact n_vret (pc := 251) dX12_readSpan_251 rfl (by omega) (by omega) h
          · replace h := h.2 c
            refine n_L (L' := [some (.ref 177)]) (le_s (le_e)) ?_
            exact pX12_readSpan_49 hrc _ _ h  _ _ (by omega) (by omega)
    · replace h := h.2 c
      refine r_aload_n (pc := 15) (x := 177) dX12_readSpan_15 rfl ?_
      obtain ⟨g27a, g27b, hg27, h⟩ := h
      refine n_Vv (pc := 16) (S0 := []) (spfX12_readNumbered hrc h) gmX12_readNumbered selX12_readNumbered lk_RX12_209 dX12_readSpan_16 rfl (by decide) sh_177 ⟨rfl, by decide⟩ rfl ⟨by show dd + 12 + 1 ≤ dd + 14; omega, by show 8 + (8 + 11) + 40 * (dd + 12) ≤ 40 * (dd + 14); omega⟩ (Nat.le_of_ble_eq_true rfl) ⟨by show _ ≤ 2 * g; omega, by show _ ≤ 8 * g; omega⟩ (fun s27 h => ?_)
      refine r_goto (pc := 19) (tgt := 251) dX12_readSpan_19 (by decide) ?_
      exact n_vret (pc := 251) dX12_readSpan_251 rfl (by omega) (by omega) h
  · replace h := h.2 c
    exact n_vret (pc := 7) dX12_readSpan_7 rfl (by omega) (by omega) h
def wpX12_readSpan : Nat → Nat → gS → (gS → Prop) → Prop
  | 0, _, _, _ => False
  | d + 1, g, s, Q => wfX12_readSpan (fun g s Q => wpX12_readSpan d g s Q) g s Q
set_option maxRecDepth 20000 in
theorem spX12_readSpan {l : Launch} (d : Nat) : ∀ {g : Nat}  {s : gS} {Q : gS → Prop} (h : wpX12_readSpan d g s Q), Ct l mX12_readSpan (3 * d + 11) (2 * g) (8 * g) [.ref 177] (nrm s) (q_v Q) := by
  induction d with
  | zero => intro _ _ _; exact (fun h => h.elim)
  | succ d ih =>
    intro g s Q h
    have e : 3 * (d + 1) + 11 = 3 * d + 14 := by omega
    rw [e]
    exact spfX12_readSpan (dd := 3 * d) (fun _ _ _ h => ih  h)  h
def wX12_readPart_54  (Q : gS → Prop) (k45 : Nat → Int32 → Int32 → Int32 → Int32 → gS → Prop) : Nat → Nat → Int32 → Int32 → Int32 → Int32 → Int32 → gS → Prop
  | 0, _, _, _, _, _, _, _ => False
  | n + 1, g, y1, y2, y3, y4, y5, s => (y3 ≤ y5 → k45 g y1 y2 y3 (y4 + 1) s) ∧ (¬ (y3 ≤ y5) → wpX12_h y4 0 s (fun r6 s6 => wpX12_h y5 1 s6 (fun r7 s7 => (r7 < r6 → wX12_readPart_54  Q k45 n g y1 y2 y3 y4 (y5 + 1) s7) ∧ (¬ (r7 < r6) → wpX12_h y4 0 s7 (fun r8 s8 => wpX12_h y5 1 s8 (fun r9 s9 => wpX12_h y4 2 s9 (fun r10 s10 => wpX12_h y5 2 s10 (fun r11 s11 => wpX12_h y4 3 s11 (fun r12 s12 => wpX12_h y5 3 s12 (fun r13 s13 => wpX12_push r8 r9 (jmax r10 r11) (jmin r12 r13) s13 (fun s14 => wX12_readPart_54  Q k45 n g y1 y2 y3 y4 (y5 + 1) s14)))))))))))
set_option maxRecDepth 20000 in
theorem pX12_readPart_54 {l : Launch} {X : gX} {G : Nat}   {Q : gS → Prop} {k45 : Nat → Int32 → Int32 → Int32 → Int32 → gS → Prop} : ∀ (n : Nat) (g : Nat) (y1 : Int32) (y2 : Int32) (y3 : Int32) (y4 : Int32) (y5 : Int32) (s : gS) (h : wX12_readPart_54  Q k45 n g y1 y2 y3 y4 y5 s) (hk45 : ∀ (g : Nat) (y1 : Int32) (y2 : Int32) (y3 : Int32) (y4 : Int32) (s : gS), k45 g y1 y2 y3 y4 s → ∀ (k n : Nat), k + 2 * g ≤ 2 * G → n + 8 * g ≤ 8 * G → Gw l mX12_readPart (g_rm 102 (2 * G) (8 * G)) X 45 [some (.ref 177), some (.int y1), some (.int y2), some (.int y3), some (.int y4), none] [] (nrm s) k n (g_Z X (q_v Q) (2 * G) (8 * G))), ∀ (k n : Nat), k + 2 * g ≤ 2 * G → n + 8 * g ≤ 8 * G → Gw l mX12_readPart (g_rm 102 (2 * G) (8 * G)) X 54 [some (.ref 177), some (.int y1), some (.int y2), some (.int y3), some (.int y4), some (.int y5)] [] (nrm s) k n (g_Z X (q_v Q) (2 * G) (8 * G)) := by
  intro n
  induction n with
  | zero => intro g y1 y2 y3 y4 y5 s h; exact h.elim
  | succ n ih0 =>
    intro g y1 y2 y3 y4 y5 s h hk45
    have ih : ∀ (g : Nat) (y1 : Int32) (y2 : Int32) (y3 : Int32) (y4 : Int32) (y5 : Int32) (s : gS), wX12_readPart_54  Q k45 n g y1 y2 y3 y4 y5 s → ∀ (k n : Nat), k + 2 * g ≤ 2 * G → n + 8 * g ≤ 8 * G → Gw l mX12_readPart (g_rm 102 (2 * G) (8 * G)) X 54 [some (.ref 177), some (.int y1), some (.int y2), some (.int y3), some (.int y4), some (.int y5)] [] (nrm s) k n (g_Z X (q_v Q) (2 * G) (8 * G)) := fun g y1 y2 y3 y4 y5 s h => ih0 g y1 y2 y3 y4 y5 s h hk45
    intro k n hg1 hg2
    refine r_iload (pc := 54) (x := y5) dX12_readPart_54 rfl ?_
    refine r_iload_n (pc := 56) (x := y3) dX12_readPart_56 rfl ?_
    refine r_icmp_ge (pc := 57) (tgt := 135) dX12_readPart_57 (by decide) (fun c => ?_) (fun c => ?_)
    · replace h := h.1 c
      refine n_iinc (pc := 135) (x := y4) (w := 1) (L' := [some (.ref 177), some (.int y1), some (.int y2), some (.int y3), some (.int (y4 + 1)), some (.int y5)]) dX12_readPart_135 rfl (by decide) rfl (by decide) rfl ?_
      refine r_goto (pc := 138) (tgt := 45) dX12_readPart_138 (by decide) ?_
      refine n_L (L' := [some (.ref 177), some (.int y1), some (.int y2), some (.int y3), some (.int (y4 + 1)), none]) (le_s (le_s (le_s (le_s (le_s (le_n (le_e))))))) ?_
      exact hk45 _ _ _ _ _ _ h _ _ (by omega) (by omega)
    · replace h := h.2 c
      refine r_aload_n (pc := 60) (x := 177) dX12_readPart_60 rfl ?_
      refine r_iload (pc := 61) (x := y4) dX12_readPart_61 rfl ?_
      refine r_iconst (pc := 63) (v := 0) dX12_readPart_63 (by decide) ?_
      refine n_Vi0 (pc := 64) (S0 := []) (spX12_h h) gmX12_h selX12_h lk_RX12_284 dX12_readPart_64 rfl (by decide) sh_177 ⟨rfl, by decide⟩ rfl ⟨Nat.le_of_ble_eq_true rfl, Nat.le_of_ble_eq_true rfl⟩ (Nat.le_of_ble_eq_true rfl) ⟨by show _ ≤ 2 * G; omega, by show _ ≤ 8 * G; omega⟩ (fun r6 s6 h => ?_)
      refine r_aload_n (pc := 67) (x := 177) dX12_readPart_67 rfl ?_
      refine r_iload (pc := 68) (x := y5) dX12_readPart_68 rfl ?_
      refine r_iconst (pc := 70) (v := 1) dX12_readPart_70 (by decide) ?_
      refine n_Vi0 (pc := 71) (S0 := [.int r6]) (spX12_h h) gmX12_h selX12_h lk_RX12_284 dX12_readPart_71 rfl (by decide) sh_177 ⟨rfl, by decide⟩ rfl ⟨Nat.le_of_ble_eq_true rfl, Nat.le_of_ble_eq_true rfl⟩ (Nat.le_of_ble_eq_true rfl) ⟨by show _ ≤ 2 * G; omega, by show _ ≤ 8 * G; omega⟩ (fun r7 s7 h => ?_)
      refine r_icmp_gt (pc := 74) (tgt := 129) dX12_readPart_74 (by decide) (fun c => ?_) (fun c => ?_)
      · replace h := h.1 c
        refine n_iinc (pc := 129) (x := y5) (w := 1) (L' := [some (.ref 177), some (.int y1), some (.int y2), some (.int y3), some (.int y4), some (.int (y5 + 1))]) dX12_readPart_129 rfl (by decide) rfl (by decide) rfl ?_
        refine r_goto (pc := 132) (tgt := 54) dX12_readPart_132 (by decide) ?_
        refine n_L (L' := [some (.ref 177), some (.int y1), some (.int y2), some (.int y3), some (.int y4), some (.int (y5 + 1))]) (le_s (le_s (le_s (le_s (le_s (le_s (le_e))))))) ?_
        exact ih _ _ _ _ _ _ _ h _ _ (by omega) (by omega)
      · replace h := h.2 c
        refine r_aload_n (pc := 77) (x := 177) dX12_readPart_77 rfl ?_
        refine r_aload_n (pc := 78) (x := 177) dX12_readPart_78 rfl ?_
        refine r_iload (pc := 79) (x := y4) dX12_readPart_79 rfl ?_
        refine r_iconst (pc := 81) (v := 0) dX12_readPart_81 (by decide) ?_
        refine n_Vi0 (pc := 82) (S0 := [.ref 177]) (spX12_h h) gmX12_h selX12_h lk_RX12_284 dX12_readPart_82 rfl (by decide) sh_177 ⟨rfl, by decide⟩ rfl ⟨Nat.le_of_ble_eq_true rfl, Nat.le_of_ble_eq_true rfl⟩ (Nat.le_of_ble_eq_true rfl) ⟨by show _ ≤ 2 * G; omega, by show _ ≤ 8 * G; omega⟩ (fun r8 s8 h => ?_)
        refine r_aload_n (pc := 85) (x := 177) dX12_readPart_85 rfl ?_
        refine r_iload (pc := 86) (x := y5) dX12_readPart_86 rfl ?_
        refine r_iconst (pc := 88) (v := 1) dX12_readPart_88 (by decide) ?_
        refine n_Vi0 (pc := 89) (S0 := [.int r8, .ref 177]) (spX12_h h) gmX12_h selX12_h lk_RX12_284 dX12_readPart_89 rfl (by decide) sh_177 ⟨rfl, by decide⟩ rfl ⟨Nat.le_of_ble_eq_true rfl, Nat.le_of_ble_eq_true rfl⟩ (Nat.le_of_ble_eq_true rfl) ⟨by show _ ≤ 2 * G; omega, by show _ ≤ 8 * G; omega⟩ (fun r9 s9 h => ?_)
        refine r_aload_n (pc := 92) (x := 177) dX12_readPart_92 rfl ?_
        refine r_iload (pc := 93) (x := y4) dX12_readPart_93 rfl ?_
        refine r_iconst (pc := 95) (v := 2) dX12_readPart_95 (by decide) ?_
        refine n_Vi0 (pc := 96) (S0 := [.int r9, .int r8, .ref 177]) (spX12_h h) gmX12_h selX12_h lk_RX12_284 dX12_readPart_96 rfl (by decide) sh_177 ⟨rfl, by decide⟩ rfl ⟨Nat.le_of_ble_eq_true rfl, Nat.le_of_ble_eq_true rfl⟩ (Nat.le_of_ble_eq_true rfl) ⟨by show _ ≤ 2 * G; omega, by show _ ≤ 8 * G; omega⟩ (fun r10 s10 h => ?_)
        refine r_aload_n (pc := 99) (x := 177) dX12_readPart_99 rfl ?_
        refine r_iload (pc := 100) (x := y5) dX12_readPart_100 rfl ?_
        refine r_iconst (pc := 102) (v := 2) dX12_readPart_102 (by decide) ?_
        refine n_Vi0 (pc := 103) (S0 := [.int r10, .int r9, .int r8, .ref 177]) (spX12_h h) gmX12_h selX12_h lk_RX12_284 dX12_readPart_103 rfl (by decide) sh_177 ⟨rfl, by decide⟩ rfl ⟨Nat.le_of_ble_eq_true rfl, Nat.le_of_ble_eq_true rfl⟩ (Nat.le_of_ble_eq_true rfl) ⟨by show _ ≤ 2 * G; omega, by show _ ≤ 8 * G; omega⟩ (fun r11 s11 h => ?_)
        refine n_max (pc := 106) dX12_readPart_106 lk_RX12_179 ⟨Nat.le_of_ble_eq_true rfl, Nat.le_of_ble_eq_true rfl⟩ ⟨by show _ ≤ 2 * G; omega, by show _ ≤ 8 * G; omega⟩ ?_
        refine r_aload_n (pc := 109) (x := 177) dX12_readPart_109 rfl ?_
        refine r_iload (pc := 110) (x := y4) dX12_readPart_110 rfl ?_
        refine r_iconst (pc := 112) (v := 3) dX12_readPart_112 (by decide) ?_
        refine n_Vi0 (pc := 113) (S0 := [.int (jmax r10 r11), .int r9, .int r8, .ref 177]) (spX12_h h) gmX12_h selX12_h lk_RX12_284 dX12_readPart_113 rfl (by decide) sh_177 ⟨rfl, by decide⟩ rfl ⟨Nat.le_of_ble_eq_true rfl, Nat.le_of_ble_eq_true rfl⟩ (Nat.le_of_ble_eq_true rfl) ⟨by show _ ≤ 2 * G; omega, by show _ ≤ 8 * G; omega⟩ (fun r12 s12 h => ?_)
        refine r_aload_n (pc := 116) (x := 177) dX12_readPart_116 rfl ?_
        refine r_iload (pc := 117) (x := y5) dX12_readPart_117 rfl ?_
        refine r_iconst (pc := 119) (v := 3) dX12_readPart_119 (by decide) ?_
        refine n_Vi0 (pc := 120) (S0 := [.int r12, .int (jmax r10 r11), .int r9, .int r8, .ref 177]) (spX12_h h) gmX12_h selX12_h lk_RX12_284 dX12_readPart_120 rfl (by decide) sh_177 ⟨rfl, by decide⟩ rfl ⟨Nat.le_of_ble_eq_true rfl, Nat.le_of_ble_eq_true rfl⟩ (Nat.le_of_ble_eq_true rfl) ⟨by show _ ≤ 2 * G; omega, by show _ ≤ 8 * G; omega⟩ (fun r13 s13 h => ?_)
        refine n_min (pc := 123) dX12_readPart_123 lk_RX12_101 ⟨Nat.le_of_ble_eq_true rfl, Nat.le_of_ble_eq_true rfl⟩ ⟨by show _ ≤ 2 * G; omega, by show _ ≤ 8 * G; omega⟩ ?_
        refine n_Vv0 (pc := 126) (S0 := []) (spX12_push h) gmX12_push selX12_push lk_RX12_191 dX12_readPart_126 rfl (by decide) sh_177 ⟨rfl, by decide⟩ rfl ⟨Nat.le_of_ble_eq_true rfl, Nat.le_of_ble_eq_true rfl⟩ (Nat.le_of_ble_eq_true rfl) ⟨by show _ ≤ 2 * G; omega, by show _ ≤ 8 * G; omega⟩ (fun s14 h => ?_)
        refine n_iinc (pc := 129) (x := y5) (w := 1) (L' := [some (.ref 177), some (.int y1), some (.int y2), some (.int y3), some (.int y4), some (.int (y5 + 1))]) dX12_readPart_129 rfl (by decide) rfl (by decide) rfl ?_
        refine r_goto (pc := 132) (tgt := 54) dX12_readPart_132 (by decide) ?_
        refine n_L (L' := [some (.ref 177), some (.int y1), some (.int y2), some (.int y3), some (.int y4), some (.int (y5 + 1))]) (le_s (le_s (le_s (le_s (le_s (le_s (le_e))))))) ?_
        exact ih _ _ _ _ _ _ _ h _ _ (by omega) (by omega)
def wX12_readPart_45  (Q : gS → Prop)  : Nat → Nat → Int32 → Int32 → Int32 → Int32 → gS → Prop
  | 0, _, _, _, _, _, _ => False
  | n + 1, g, y1, y2, y3, y4, s => (y2 ≤ y4 → wpX12_drop y1 y3 s (fun s5 => Q s5)) ∧ (¬ (y2 ≤ y4) → ∃ n54, wX12_readPart_54  Q (fun g y1 y2 y3 y4 s => wX12_readPart_45  Q n g y1 y2 y3 y4 s) n54 g y1 y2 y3 y4 y2 s)
set_option maxRecDepth 20000 in
theorem pX12_readPart_45 {l : Launch} {X : gX} {G : Nat}   {Q : gS → Prop}  : ∀ (n : Nat) (g : Nat) (y1 : Int32) (y2 : Int32) (y3 : Int32) (y4 : Int32) (s : gS) (h : wX12_readPart_45  Q n g y1 y2 y3 y4 s) , ∀ (k n : Nat), k + 2 * g ≤ 2 * G → n + 8 * g ≤ 8 * G → Gw l mX12_readPart (g_rm 102 (2 * G) (8 * G)) X 45 [some (.ref 177), some (.int y1), some (.int y2), some (.int y3), some (.int y4), none] [] (nrm s) k n (g_Z X (q_v Q) (2 * G) (8 * G)) := by
  intro n
  induction n with
  | zero => intro g y1 y2 y3 y4 s h; exact h.elim
  | succ n ih0 =>
    intro g y1 y2 y3 y4 s h 
    have ih : ∀ (g : Nat) (y1 : Int32) (y2 : Int32) (y3 : Int32) (y4 : Int32) (s : gS), wX12_readPart_45  Q n g y1 y2 y3 y4 s → ∀ (k n : Nat), k + 2 * g ≤ 2 * G → n + 8 * g ≤ 8 * G → Gw l mX12_readPart (g_rm 102 (2 * G) (8 * G)) X 45 [some (.ref 177), some (.int y1), some (.int y2), some (.int y3), some (.int y4), none] [] (nrm s) k n (g_Z X (q_v Q) (2 * G) (8 * G)) := fun g y1 y2 y3 y4 s h => ih0 g y1 y2 y3 y4 s h 
    intro k n hg1 hg2
    refine r_iload (pc := 45) (x := y4) dX12_readPart_45 rfl ?_
    refine r_iload_n (pc := 47) (x := y2) dX12_readPart_47 rfl ?_
    refine r_icmp_ge (pc := 48) (tgt := 141) dX12_readPart_48 (by decide) (fun c => ?_) (fun c => ?_)
    · replace h := h.1 c
      refine r_aload_n (pc := 141) (x := 177) dX12_readPart_141 rfl ?_
      refine r_iload_n (pc := 142) (x := y1) dX12_readPart_142 rfl ?_
      refine r_iload_n (pc := 143) (x := y3) dX12_readPart_143 rfl ?_
      refine n_Vv0 (pc := 144) (S0 := []) (spX12_drop h) gmX12_drop selX12_drop lk_RX12_287 dX12_readPart_144 rfl (by decide) sh_177 ⟨rfl, by decide⟩ rfl ⟨Nat.le_of_ble_eq_true rfl, Nat.le_of_ble_eq_true rfl⟩ (Nat.le_of_ble_eq_true rfl) ⟨by show _ ≤ 2 * G; omega, by show _ ≤ 8 * G; omega⟩ (fun s5 h => ?_)
      exact n_vret (pc := 147) dX12_readPart_147 rfl (by omega) (by omega) h
    · replace h := h.2 c
      refine r_iload_n (pc := 51) (x := y2) dX12_readPart_51 rfl ?_
      refine r_istore (pc := 52) (L' := [some (.ref 177), some (.int y1), some (.int y2), some (.int y3), some (.int y4), some (.int y2)]) dX12_readPart_52 rfl (by decide) rfl ?_
      refine n_L (L' := [some (.ref 177), some (.int y1), some (.int y2), some (.int y3), some (.int y4), some (.int y2)]) (le_s (le_s (le_s (le_s (le_s (le_s (le_e))))))) ?_
      obtain ⟨n, h⟩ := h
      exact pX12_readPart_54  n _ _ _ _ _ _ _ h ih _ _ (by omega) (by omega)
def wpX12_readPart (g : Nat) (s : gS) (Q : gS → Prop) : Prop := ∃ g1a g1b, g1a + g1b ≤ g ∧ wpX12_readSpan 30 g1a s (fun s1 => wpX12_takes 1024 s1 (fun r2 s2 => (¬ r2 = 0 → ∃ g3a g3b, g3a + g3b ≤ g1b ∧ wpX12_readSpan 30 g3a s2 (fun s3 => wpX12_fine s3 (fun r4 s4 => (¬ r4 = 0 → ∃ n45, wX12_readPart_45  Q n45 g3b (gi s 177 14) (gi s2 177 14) (gi s4 177 14) (gi s 177 14) s4) ∧ (r4 = 0 → Q s4)))) ∧ (r2 = 0 → Q s2)))
set_option maxRecDepth 20000 in
theorem spX12_readPart {l : Launch} {g : Nat}  {s : gS} {Q : gS → Prop} (h : wpX12_readPart g s Q) : Ct l mX12_readPart 102 (2 * g) (8 * g) [.ref 177] (nrm s) (q_v Q) := by
  refine Ct.of (by decide) (Nat.le_of_ble_eq_true rfl) (fun X => ?_)
  refine n_L (L' := [some (.ref 177), none, none, none, none, none]) (le_s (le_p (le_p (le_p (le_p (le_p (le_e))))))) ?_
  have hg1 : 0 + 2 * g ≤ 2 * g := by omega
  have hg2 : 0 + 8 * g ≤ 8 * g := by omega
  refine r_aload_n (pc := 0) (x := 177) dX12_readPart_0 rfl ?_
  refine n_getI (pc := 1) (j := 14) dX12_readPart_1 fl_RX12_188 (by decide) sh_177 rfl rfl ?_
  refine r_istore_n (pc := 4) (L' := [some (.ref 177), some (.int (gi s 177 14)), none, none, none, none]) dX12_readPart_4 rfl (by decide) rfl ?_
  refine r_aload_n (pc := 5) (x := 177) dX12_readPart_5 rfl ?_
  obtain ⟨g1a, g1b, hg1, h⟩ := h
  refine n_Vv (pc := 6) (S0 := []) (spX12_readSpan 30 h) gmX12_readSpan selX12_readSpan lk_RX12_281 dX12_readPart_6 rfl (by decide) sh_177 ⟨rfl, by decide⟩ rfl ⟨Nat.le_of_ble_eq_true rfl, Nat.le_of_ble_eq_true rfl⟩ (Nat.le_of_ble_eq_true rfl) ⟨by show _ ≤ 2 * g; omega, by show _ ≤ 8 * g; omega⟩ (fun s1 h => ?_)
  refine r_aload_n (pc := 9) (x := 177) dX12_readPart_9 rfl ?_
  refine n_ldc_wS (pc := 10) (i := 24) dX12_readPart_10 sr_RX12_311 ?_
  refine n_Vi0S (pc := 13) (S0 := []) (spX12_takes h) (Or.inl (by decide)) gmX12_takes selX12_takes lk_RX12_161 dX12_readPart_13 rfl (by decide) sh_177 ⟨rfl, by decide⟩ rfl ⟨Nat.le_of_ble_eq_true rfl, Nat.le_of_ble_eq_true rfl⟩ (Nat.le_of_ble_eq_true rfl) ⟨by show _ ≤ 2 * g; omega, by show _ ≤ 8 * g; omega⟩ (fun r2 s2 h => ?_)
  refine r_if_ne (pc := 16) (tgt := 20) dX12_readPart_16 (by decide) (fun c => ?_) (fun c => ?_)
  · replace h := h.1 c
    refine r_aload_n (pc := 20) (x := 177) dX12_readPart_20 rfl ?_
    refine n_getI (pc := 21) (j := 14) dX12_readPart_21 fl_RX12_188 (by decide) sh_177 rfl rfl ?_
    refine r_istore_n (pc := 24) (L' := [some (.ref 177), some (.int (gi s 177 14)), some (.int (gi s2 177 14)), none, none, none]) dX12_readPart_24 rfl (by decide) rfl ?_
    refine r_aload_n (pc := 25) (x := 177) dX12_readPart_25 rfl ?_
    obtain ⟨g3a, g3b, hg3, h⟩ := h
    refine n_Vv (pc := 26) (S0 := []) (spX12_readSpan 30 h) gmX12_readSpan selX12_readSpan lk_RX12_281 dX12_readPart_26 rfl (by decide) sh_177 ⟨rfl, by decide⟩ rfl ⟨Nat.le_of_ble_eq_true rfl, Nat.le_of_ble_eq_true rfl⟩ (Nat.le_of_ble_eq_true rfl) ⟨by show _ ≤ 2 * g; omega, by show _ ≤ 8 * g; omega⟩ (fun s3 h => ?_)
    refine r_aload_n (pc := 29) (x := 177) dX12_readPart_29 rfl ?_
    refine n_Vi0 (pc := 30) (S0 := []) (spX12_fine h) gmX12_fine selX12_fine lk_RX12_121 dX12_readPart_30 rfl (by decide) sh_177 ⟨rfl, by decide⟩ rfl ⟨Nat.le_of_ble_eq_true rfl, Nat.le_of_ble_eq_true rfl⟩ (Nat.le_of_ble_eq_true rfl) ⟨by show _ ≤ 2 * g; omega, by show _ ≤ 8 * g; omega⟩ (fun r4 s4 h => ?_)
    refine r_if_ne (pc := 33) (tgt := 37) dX12_readPart_33 (by decide) (fun c => ?_) (fun c => ?_)
    · replace h := h.1 c
      refine r_aload_n (pc := 37) (x := 177) dX12_readPart_37 rfl ?_
      refine n_getI (pc := 38) (j := 14) dX12_readPart_38 fl_RX12_188 (by decide) sh_177 rfl rfl ?_
      refine r_istore_n (pc := 41) (L' := [some (.ref 177), some (.int (gi s 177 14)), some (.int (gi s2 177 14)), some (.int (gi s4 177 14)), none, none]) dX12_readPart_41 rfl (by decide) rfl ?_
      refine r_iload_n (pc := 42) (x := gi s 177 14) dX12_readPart_42 rfl ?_
      refine r_istore (pc := 43) (L' := [some (.ref 177), some (.int (gi s 177 14)), some (.int (gi s2 177 14)), some (.int (gi s4 177 14)), some (.int (gi s 177 14)), none]) dX12_readPart_43 rfl (by decide) rfl ?_
      refine n_L (L' := [some (.ref 177), some (.int (gi s 177 14)), some (.int (gi s2 177 14)), some (.int (gi s4 177 14)), some (.int (gi s 177 14)), none]) (le_s (le_s (le_s (le_s (le_s (le_n (le_e))))))) ?_
      obtain ⟨n, h⟩ := h
      exact pX12_readPart_45  n _ _ _ _ _ _ h  _ _ (by omega) (by omega)
    · replace h := h.2 c
      exact n_vret (pc := 36) dX12_readPart_36 rfl (by omega) (by omega) h
  · replace h := h.2 c
    exact n_vret (pc := 19) dX12_readPart_19 rfl (by omega) (by omega) h
def wX12_readPhrase_56 (x1 : Int32) (Q : Int32 → gS → Prop) (k64 : Nat → gS → Prop) (g : Nat) (s : gS) : Prop := wpX12_fault (gi s 177 9) s (fun s3 => k64 g s3)
set_option maxRecDepth 20000 in
theorem pX12_readPhrase_56 {l : Launch} {X : gX} {G : Nat} {x1 : Int32}  {Q : Int32 → gS → Prop} {k64 : Nat → gS → Prop} (g : Nat) (s : gS) (h : wX12_readPhrase_56 x1 Q k64 g s) (hk64 : ∀ (g : Nat) (s : gS), k64 g s → ∀ (k n : Nat), k + 2 * g ≤ 2 * G → n + 8 * g ≤ 8 * G → Gw l mX12_readPhrase (g_rm 103 (2 * G) (8 * G)) X 64 [some (.ref 177), none] [] (nrm s) k n (g_Z X (q_i Q) (2 * G) (8 * G))) : ∀ (k n : Nat), k + 2 * g ≤ 2 * G → n + 8 * g ≤ 8 * G → Gw l mX12_readPhrase (g_rm 103 (2 * G) (8 * G)) X 56 [some (.ref 177), none] [] (nrm s) k n (g_Z X (q_i Q) (2 * G) (8 * G)) := by
  intro k n hg1 hg2
  refine r_aload_n (pc := 56) (x := 177) dX12_readPhrase_56 rfl ?_
  refine r_aload_n (pc := 57) (x := 177) dX12_readPhrase_57 rfl ?_
  refine n_getI (pc := 58) (j := 9) dX12_readPhrase_58 fl_RX12_133 (by decide) sh_177 rfl rfl ?_
  refine n_Vv0 (pc := 61) (S0 := []) (spX12_fault h) gmX12_fault selX12_fault lk_RX12_125 dX12_readPhrase_61 rfl (by decide) sh_177 ⟨rfl, by decide⟩ rfl ⟨Nat.le_of_ble_eq_true rfl, Nat.le_of_ble_eq_true rfl⟩ (Nat.le_of_ble_eq_true rfl) ⟨by show _ ≤ 2 * G; omega, by show _ ≤ 8 * G; omega⟩ (fun s3 h => ?_)
  refine n_L (L' := [some (.ref 177), none]) (le_s (le_n (le_e))) ?_
  exact hk64 _ _ h _ _ (by omega) (by omega)
def wX12_readPhrase_64 (x1 : Int32) (Q : Int32 → gS → Prop)  (g : Nat) (s : gS) : Prop := wpX12_fine s (fun r7 s7 => (r7 = 0 → Q 0 s7) ∧ (¬ (r7 = 0) → wpX12_wasRight s7 (fun r8 s8 => (r8 = 0 → Q 0 s8) ∧ (¬ (r8 = 0) → Q 1 s8))))
set_option maxRecDepth 20000 in
theorem pX12_readPhrase_64 {l : Launch} {X : gX} {G : Nat} {x1 : Int32}  {Q : Int32 → gS → Prop}  (g : Nat) (s : gS) (h : wX12_readPhrase_64 x1 Q g s)  : ∀ (k n : Nat), k + 2 * g ≤ 2 * G → n + 8 * g ≤ 8 * G → Gw l mX12_readPhrase (g_rm 103 (2 * G) (8 * G)) X 64 [some (.ref 177), none] [] (nrm s) k n (g_Z X (q_i Q) (2 * G) (8 * G)) := by
  intro k n hg1 hg2
  refine r_aload_n (pc := 64) (x := 177) dX12_readPhrase_64 rfl ?_
  refine n_Vi0 (pc := 65) (S0 := []) (spX12_fine h) gmX12_fine selX12_fine lk_RX12_121 dX12_readPhrase_65 rfl (by decide) sh_177 ⟨rfl, by decide⟩ rfl ⟨Nat.le_of_ble_eq_true rfl, Nat.le_of_ble_eq_true rfl⟩ (Nat.le_of_ble_eq_true rfl) ⟨by show _ ≤ 2 * G; omega, by show _ ≤ 8 * G; omega⟩ (fun r7 s7 h => ?_)
  refine r_if_eq (pc := 68) (tgt := 82) dX12_readPhrase_68 (by decide) (fun c => ?_) (fun c => ?_)
  · replace h := h.1 c
    refine r_iconst (pc := 82) (v := 0) dX12_readPhrase_82 (by decide) ?_
    exact n_zret (pc := 83) dX12_readPhrase_83 rfl (by decide) (by omega) (by omega) h
  · replace h := h.2 c
    refine r_aload_n (pc := 71) (x := 177) dX12_readPhrase_71 rfl ?_
    refine n_Vi0 (pc := 72) (S0 := []) (spX12_wasRight h) gmX12_wasRight selX12_wasRight lk_RX12_318 dX12_readPhrase_72 rfl (by decide) sh_177 ⟨rfl, by decide⟩ rfl ⟨Nat.le_of_ble_eq_true rfl, Nat.le_of_ble_eq_true rfl⟩ (Nat.le_of_ble_eq_true rfl) ⟨by show _ ≤ 2 * G; omega, by show _ ≤ 8 * G; omega⟩ (fun r8 s8 h => ?_)
    refine r_if_eq (pc := 75) (tgt := 82) dX12_readPhrase_75 (by decide) (fun c => ?_) (fun c => ?_)
    · replace h := h.1 c
      refine r_iconst (pc := 82) (v := 0) dX12_readPhrase_82 (by decide) ?_
      exact n_zret (pc := 83) dX12_readPhrase_83 rfl (by decide) (by omega) (by omega) h
    · replace h := h.2 c
      refine r_iconst (pc := 78) (v := 1) dX12_readPhrase_78 (by decide) ?_
      refine r_goto (pc := 79) (tgt := 83) dX12_readPhrase_79 (by decide) ?_
      exact n_zret (pc := 83) dX12_readPhrase_83 rfl (by decide) (by omega) (by omega) h
def wX12_readPhrase_18 (x1 : Int32) (Q : Int32 → gS → Prop)  : Nat → Nat → gS → Prop
  | 0, _, _ => False
  | n + 1, g, s => wpX12_takes 1025 s (fun r4 s4 => (r4 = 0 → wpX12_fine s4 (fun r5 s5 => (r5 = 0 → wX12_readPhrase_64 x1 Q g s5) ∧ (¬ (r5 = 0) → (¬ (gi s5 177 11) = 0 → wX12_readPhrase_56 x1 Q (wX12_readPhrase_64 x1 Q) g s5) ∧ ((gi s5 177 11) = 0 → ((gi s5 177 12) = 0 → wX12_readPhrase_64 x1 Q g s5) ∧ (¬ ((gi s5 177 12) = 0) → wX12_readPhrase_56 x1 Q (wX12_readPhrase_64 x1 Q) g s5))))) ∧ (¬ (r4 = 0) → ∃ g6a g6b, g6a + g6b ≤ g ∧ wpX12_readPart g6a s4 (fun s6 => wX12_readPhrase_18 x1 Q n g6b s6)))
set_option maxRecDepth 20000 in
theorem pX12_readPhrase_18 {l : Launch} {X : gX} {G : Nat} {x1 : Int32}  {Q : Int32 → gS → Prop}  : ∀ (n : Nat) (g : Nat) (s : gS) (h : wX12_readPhrase_18 x1 Q n g s) , ∀ (k n : Nat), k + 2 * g ≤ 2 * G → n + 8 * g ≤ 8 * G → Gw l mX12_readPhrase (g_rm 103 (2 * G) (8 * G)) X 18 [some (.ref 177), none] [] (nrm s) k n (g_Z X (q_i Q) (2 * G) (8 * G)) := by
  intro n
  induction n with
  | zero => intro g s h; exact h.elim
  | succ n ih0 =>
    intro g s h 
    have ih : ∀ (g : Nat) (s : gS), wX12_readPhrase_18 x1 Q n g s → ∀ (k n : Nat), k + 2 * g ≤ 2 * G → n + 8 * g ≤ 8 * G → Gw l mX12_readPhrase (g_rm 103 (2 * G) (8 * G)) X 18 [some (.ref 177), none] [] (nrm s) k n (g_Z X (q_i Q) (2 * G) (8 * G)) := fun g s h => ih0 g s h 
    intro k n hg1 hg2
    refine r_aload_n (pc := 18) (x := 177) dX12_readPhrase_18 rfl ?_
    refine n_ldc_wS (pc := 19) (i := 25) dX12_readPhrase_19 sr_RX12_316 ?_
    refine n_Vi0S (pc := 22) (S0 := []) (spX12_takes h) (Or.inl (by decide)) gmX12_takes selX12_takes lk_RX12_161 dX12_readPhrase_22 rfl (by decide) sh_177 ⟨rfl, by decide⟩ rfl ⟨Nat.le_of_ble_eq_true rfl, Nat.le_of_ble_eq_true rfl⟩ (Nat.le_of_ble_eq_true rfl) ⟨by show _ ≤ 2 * G; omega, by show _ ≤ 8 * G; omega⟩ (fun r4 s4 h => ?_)
    refine r_if_eq (pc := 25) (tgt := 35) dX12_readPhrase_25 (by decide) (fun c => ?_) (fun c => ?_)
    · replace h := h.1 c
      refine r_aload_n (pc := 35) (x := 177) dX12_readPhrase_35 rfl ?_
      refine n_Vi0 (pc := 36) (S0 := []) (spX12_fine h) gmX12_fine selX12_fine lk_RX12_121 dX12_readPhrase_36 rfl (by decide) sh_177 ⟨rfl, by decide⟩ rfl ⟨Nat.le_of_ble_eq_true rfl, Nat.le_of_ble_eq_true rfl⟩ (Nat.le_of_ble_eq_true rfl) ⟨by show _ ≤ 2 * G; omega, by show _ ≤ 8 * G; omega⟩ (fun r5 s5 h => ?_)
      refine r_if_eq (pc := 39) (tgt := 64) dX12_readPhrase_39 (by decide) (fun c => ?_) (fun c => ?_)
      · replace h := h.1 c
        refine n_L (L' := [some (.ref 177), none]) (le_s (le_n (le_e))) ?_
        exact pX12_readPhrase_64  _ _ h  _ _ (by omega) (by omega)
      · replace h := h.2 c
        refine r_aload_n (pc := 42) (x := 177) dX12_readPhrase_42 rfl ?_
        refine n_getI (pc := 43) (j := 11) dX12_readPhrase_43 fl_RX12_136 (by decide) sh_177 rfl rfl ?_
        refine r_if_ne (pc := 46) (tgt := 56) dX12_readPhrase_46 (by decide) (fun c => ?_) (fun c => ?_)
        · replace h := h.1 c
          refine n_L (L' := [some (.ref 177), none]) (le_s (le_n (le_e))) ?_
          exact pX12_readPhrase_56  _ _ h (fun _ _ h _ _ hg1 hg2 => pX12_readPhrase_64  _ _ h  _ _ hg1 hg2) _ _ (by omega) (by omega)
        · replace h := h.2 c
          refine r_aload_n (pc := 49) (x := 177) dX12_readPhrase_49 rfl ?_
          refine n_getI (pc := 50) (j := 12) dX12_readPhrase_50 fl_RX12_140 (by decide) sh_177 rfl rfl ?_
          refine r_if_eq (pc := 53) (tgt := 64) dX12_readPhrase_53 (by decide) (fun c => ?_) (fun c => ?_)
          · replace h := h.1 c
            refine n_L (L' := [some (.ref 177), none]) (le_s (le_n (le_e))) ?_
            exact pX12_readPhrase_64  _ _ h  _ _ (by omega) (by omega)
          · replace h := h.2 c
            refine n_L (L' := [some (.ref 177), none]) (le_s (le_n (le_e))) ?_
            exact pX12_readPhrase_56  _ _ h (fun _ _ h _ _ hg1 hg2 => pX12_readPhrase_64  _ _ h  _ _ hg1 hg2) _ _ (by omega) (by omega)
    · replace h := h.2 c
      refine r_aload_n (pc := 28) (x := 177) dX12_readPhrase_28 rfl ?_
      obtain ⟨g6a, g6b, hg6, h⟩ := h
      refine n_Vv (pc := 29) (S0 := []) (spX12_readPart h) gmX12_readPart selX12_readPart lk_RX12_313 dX12_readPhrase_29 rfl (by decide) sh_177 ⟨rfl, by decide⟩ rfl ⟨Nat.le_of_ble_eq_true rfl, Nat.le_of_ble_eq_true rfl⟩ (Nat.le_of_ble_eq_true rfl) ⟨by show _ ≤ 2 * G; omega, by show _ ≤ 8 * G; omega⟩ (fun s6 h => ?_)
      refine r_goto (pc := 32) (tgt := 18) dX12_readPhrase_32 (by decide) ?_
      refine n_L (L' := [some (.ref 177), none]) (le_s (le_n (le_e))) ?_
      exact ih _ _ h _ _ (by omega) (by omega)
def wpX12_readPhrase (g : Nat) (x1 : Int32) (s : gS) (Q : Int32 → gS → Prop) : Prop := wpX12_goWord (wi (wi s 177 15 x1) 177 7 0) (fun s1 => ∃ g2a g2b, g2a + g2b ≤ g ∧ wpX12_readPart g2a s1 (fun s2 => ∃ n18, wX12_readPhrase_18 x1 Q n18 g2b s2))
set_option maxRecDepth 20000 in
theorem spX12_readPhrase {l : Launch} {g : Nat} {x1 : Int32}  {s : gS} {Q : Int32 → gS → Prop} (h : wpX12_readPhrase g x1 s Q) : Ct l mX12_readPhrase 103 (2 * g) (8 * g) [.ref 177, .int x1] (nrm s) (q_i Q) := by
  refine Ct.of (by decide) (Nat.le_of_ble_eq_true rfl) (fun X => ?_)
  refine n_L (L' := [some (.ref 177), some (.int x1)]) (le_s (le_s (le_e))) ?_
  have hg1 : 0 + 2 * g ≤ 2 * g := by omega
  have hg2 : 0 + 8 * g ≤ 8 * g := by omega
  refine r_aload_n (pc := 0) (x := 177) dX12_readPhrase_0 rfl ?_
  refine r_iload_n (pc := 1) (x := x1) dX12_readPhrase_1 rfl ?_
  refine n_putI (pc := 2) (j := 15) dX12_readPhrase_2 fl_RX12_232 fw_12_15 (by decide) sh_177 rfl rfl ?_
  refine r_aload_n (pc := 5) (x := 177) dX12_readPhrase_5 rfl ?_
  refine r_iconst (pc := 6) (v := 0) dX12_readPhrase_6 (by decide) ?_
  refine n_putI (pc := 7) (j := 7) dX12_readPhrase_7 fl_RX12_115 fw_12_7 (by decide) sh_177 rfl rfl ?_
  refine r_aload_n (pc := 10) (x := 177) dX12_readPhrase_10 rfl ?_
  refine n_Vv0 (pc := 11) (S0 := []) (spX12_goWord h) gmX12_goWord selX12_goWord lk_RX12_158 dX12_readPhrase_11 rfl (by decide) sh_177 ⟨rfl, by decide⟩ rfl ⟨Nat.le_of_ble_eq_true rfl, Nat.le_of_ble_eq_true rfl⟩ (Nat.le_of_ble_eq_true rfl) ⟨by show _ ≤ 2 * g; omega, by show _ ≤ 8 * g; omega⟩ (fun s1 h => ?_)
  refine r_aload_n (pc := 14) (x := 177) dX12_readPhrase_14 rfl ?_
  obtain ⟨g2a, g2b, hg2, h⟩ := h
  refine n_Vv (pc := 15) (S0 := []) (spX12_readPart h) gmX12_readPart selX12_readPart lk_RX12_313 dX12_readPhrase_15 rfl (by decide) sh_177 ⟨rfl, by decide⟩ rfl ⟨Nat.le_of_ble_eq_true rfl, Nat.le_of_ble_eq_true rfl⟩ (Nat.le_of_ble_eq_true rfl) ⟨by show _ ≤ 2 * g; omega, by show _ ≤ 8 * g; omega⟩ (fun s2 h => ?_)
  refine n_L (L' := [some (.ref 177), none]) (le_s (le_n (le_e))) ?_
  obtain ⟨n, h⟩ := h
  exact pX12_readPhrase_18  n _ _ h  _ _ (by omega) (by omega)
def wX12_tells_136 (x1 : Int32) (x2 : Int32) (Q : Int32 → gS → Prop) (k89 : Nat → Int32 → gS → Prop) : Nat → Nat → Int32 → Int32 → gS → Prop
  | 0, _, _, _, _ => False
  | n + 1, g, y3, y5, s => ((gi s 177 14) ≤ y5 → k89 g (y3 + 1) s) ∧ (¬ ((gi s 177 14) ≤ y5) → wpX12_h y5 3 s (fun r15 s15 => wpX12_of x2 y3 3 s15 (fun r16 s16 => vp_in ((4 * y5) + 3) 4096 ∧ (wX12_tells_136 x1 x2 Q k89 n g y3 (y5 + 1) (wi s16 181 (ix ((4 * y5) + 3)) (jmin r15 r16))))))
set_option maxRecDepth 20000 in
theorem pX12_tells_136 {l : Launch} {X : gX} {G : Nat} {x1 : Int32} {x2 : Int32}  {Q : Int32 → gS → Prop} {k89 : Nat → Int32 → gS → Prop} : ∀ (n : Nat) (g : Nat) (y3 : Int32) (y5 : Int32) (s : gS) (h : wX12_tells_136 x1 x2 Q k89 n g y3 y5 s) (hk89 : ∀ (g : Nat) (y3 : Int32) (s : gS), k89 g y3 s → ∀ (k n : Nat), k + 2 * g ≤ 2 * G → n + 8 * g ≤ 8 * G → Gw l mX12_tells (g_rm 104 (2 * G) (8 * G)) X 89 [some (.ref 177), some (.int x1), some (.int x2), some (.int y3), none, none] [] (nrm s) k n (g_Z X (q_i Q) (2 * G) (8 * G))), ∀ (k n : Nat), k + 2 * g ≤ 2 * G → n + 8 * g ≤ 8 * G → Gw l mX12_tells (g_rm 104 (2 * G) (8 * G)) X 136 [some (.ref 177), some (.int x1), some (.int x2), some (.int y3), none, some (.int y5)] [] (nrm s) k n (g_Z X (q_i Q) (2 * G) (8 * G)) := by
  intro n
  induction n with
  | zero => intro g y3 y5 s h; exact h.elim
  | succ n ih0 =>
    intro g y3 y5 s h hk89
    have ih : ∀ (g : Nat) (y3 : Int32) (y5 : Int32) (s : gS), wX12_tells_136 x1 x2 Q k89 n g y3 y5 s → ∀ (k n : Nat), k + 2 * g ≤ 2 * G → n + 8 * g ≤ 8 * G → Gw l mX12_tells (g_rm 104 (2 * G) (8 * G)) X 136 [some (.ref 177), some (.int x1), some (.int x2), some (.int y3), none, some (.int y5)] [] (nrm s) k n (g_Z X (q_i Q) (2 * G) (8 * G)) := fun g y3 y5 s h => ih0 g y3 y5 s h hk89
    intro k n hg1 hg2
    refine r_iload (pc := 136) (x := y5) dX12_tells_136 rfl ?_
    refine r_aload_n (pc := 138) (x := 177) dX12_tells_138 rfl ?_
    refine n_getI (pc := 139) (j := 14) dX12_tells_139 fl_RX12_188 (by decide) sh_177 rfl rfl ?_
    refine r_icmp_ge (pc := 142) (tgt := 179) dX12_tells_142 (by decide) (fun c => ?_) (fun c => ?_)
    · replace h := h.1 c
      refine n_iinc (pc := 179) (x := y3) (w := 1) (L' := [some (.ref 177), some (.int x1), some (.int x2), some (.int (y3 + 1)), none, some (.int y5)]) dX12_tells_179 rfl (by decide) rfl (by decide) rfl ?_
      refine r_goto (pc := 182) (tgt := 89) dX12_tells_182 (by decide) ?_
      refine n_L (L' := [some (.ref 177), some (.int x1), some (.int x2), some (.int (y3 + 1)), none, none]) (le_s (le_s (le_s (le_s (le_n (le_n (le_e))))))) ?_
      exact hk89 _ _ _ h _ _ (by omega) (by omega)
    · replace h := h.2 c
      refine r_aload_n (pc := 145) (x := 177) dX12_tells_145 rfl ?_
      refine n_getR (pc := 146) (j := 13) (q := 181) dX12_tells_146 fl_RX12_21 (by decide) sh_177 rfl rfl rfl ?_
      refine r_iconst (pc := 149) (v := 4) dX12_tells_149 (by decide) ?_
      refine r_iload (pc := 150) (x := y5) dX12_tells_150 rfl ?_
      refine r_imul (pc := 152) dX12_tells_152 ?_
      refine r_iconst (pc := 153) (v := 3) dX12_tells_153 (by decide) ?_
      refine r_iadd (pc := 154) dX12_tells_154 ?_
      refine r_aload_n (pc := 155) (x := 177) dX12_tells_155 rfl ?_
      refine r_iload (pc := 156) (x := y5) dX12_tells_156 rfl ?_
      refine r_iconst (pc := 158) (v := 3) dX12_tells_158 (by decide) ?_
      refine n_Vi0 (pc := 159) (S0 := [.int ((4 * y5) + 3), .ref 181]) (spX12_h h) gmX12_h selX12_h lk_RX12_284 dX12_tells_159 rfl (by decide) sh_177 ⟨rfl, by decide⟩ rfl ⟨Nat.le_of_ble_eq_true rfl, Nat.le_of_ble_eq_true rfl⟩ (Nat.le_of_ble_eq_true rfl) ⟨by show _ ≤ 2 * G; omega, by show _ ≤ 8 * G; omega⟩ (fun r15 s15 h => ?_)
      refine r_aload_n (pc := 162) (x := 177) dX12_tells_162 rfl ?_
      refine r_iload_n (pc := 163) (x := x2) dX12_tells_163 rfl ?_
      refine r_iload_n (pc := 164) (x := y3) dX12_tells_164 rfl ?_
      refine r_iconst (pc := 165) (v := 3) dX12_tells_165 (by decide) ?_
      refine n_Vi0 (pc := 166) (S0 := [.int r15, .int ((4 * y5) + 3), .ref 181]) (spX12_of h) gmX12_of selX12_of lk_RX12_333 dX12_tells_166 rfl (by decide) sh_177 ⟨rfl, by decide⟩ rfl ⟨Nat.le_of_ble_eq_true rfl, Nat.le_of_ble_eq_true rfl⟩ (Nat.le_of_ble_eq_true rfl) ⟨by show _ ≤ 2 * G; omega, by show _ ≤ 8 * G; omega⟩ (fun r16 s16 h => ?_)
      refine n_min (pc := 169) dX12_tells_169 lk_RX12_101 ⟨Nat.le_of_ble_eq_true rfl, Nat.le_of_ble_eq_true rfl⟩ ⟨by show _ ≤ 2 * G; omega, by show _ ≤ 8 * G; omega⟩ ?_
      obtain ⟨b17, h⟩ := h
      refine n_iast (pc := 172) (j := (ix ((4 * y5) + 3))) dX12_tells_172 (by decide) sh_181 b17 rfl ?_
      refine n_iinc (pc := 173) (x := y5) (w := 1) (L' := [some (.ref 177), some (.int x1), some (.int x2), some (.int y3), none, some (.int (y5 + 1))]) dX12_tells_173 rfl (by decide) rfl (by decide) rfl ?_
      refine r_goto (pc := 176) (tgt := 136) dX12_tells_176 (by decide) ?_
      refine n_L (L' := [some (.ref 177), some (.int x1), some (.int x2), some (.int y3), none, some (.int (y5 + 1))]) (le_s (le_s (le_s (le_s (le_n (le_s (le_e))))))) ?_
      exact ih _ _ _ _ h _ _ (by omega) (by omega)
def wX12_tells_231 (x1 : Int32) (x2 : Int32) (Q : Int32 → gS → Prop) (k219 : Nat → Int32 → gS → Prop) : Nat → Nat → Int32 → Int32 → gS → Prop
  | 0, _, _, _, _ => False
  | n + 1, g, y4, y5, s => (4 ≤ y5 → wpX12_place x1 y4 s (fun r10 s10 => vp_in (r10 + 4) 218 ∧ (k219 g (y4 + 1) (wi s10 178 (ix (r10 + 4)) 1)))) ∧ (¬ (4 ≤ y5) → wpX12_place x1 y4 s (fun r12 s12 => wpX12_h y4 y5 s12 (fun r13 s13 => vp_in (r12 + y5) 218 ∧ (wX12_tells_231 x1 x2 Q k219 n g y4 (y5 + 1) (wi s13 178 (ix (r12 + y5)) r13)))))
set_option maxRecDepth 20000 in
theorem pX12_tells_231 {l : Launch} {X : gX} {G : Nat} {x1 : Int32} {x2 : Int32}  {Q : Int32 → gS → Prop} {k219 : Nat → Int32 → gS → Prop} : ∀ (n : Nat) (g : Nat) (y4 : Int32) (y5 : Int32) (s : gS) (h : wX12_tells_231 x1 x2 Q k219 n g y4 y5 s) (hk219 : ∀ (g : Nat) (y4 : Int32) (s : gS), k219 g y4 s → ∀ (k n : Nat), k + 2 * g ≤ 2 * G → n + 8 * g ≤ 8 * G → Gw l mX12_tells (g_rm 104 (2 * G) (8 * G)) X 219 [some (.ref 177), some (.int x1), none, none, some (.int y4), none] [] (nrm s) k n (g_Z X (q_i Q) (2 * G) (8 * G))), ∀ (k n : Nat), k + 2 * g ≤ 2 * G → n + 8 * g ≤ 8 * G → Gw l mX12_tells (g_rm 104 (2 * G) (8 * G)) X 231 [some (.ref 177), some (.int x1), none, none, some (.int y4), some (.int y5)] [] (nrm s) k n (g_Z X (q_i Q) (2 * G) (8 * G)) := by
  intro n
  induction n with
  | zero => intro g y4 y5 s h; exact h.elim
  | succ n ih0 =>
    intro g y4 y5 s h hk219
    have ih : ∀ (g : Nat) (y4 : Int32) (y5 : Int32) (s : gS), wX12_tells_231 x1 x2 Q k219 n g y4 y5 s → ∀ (k n : Nat), k + 2 * g ≤ 2 * G → n + 8 * g ≤ 8 * G → Gw l mX12_tells (g_rm 104 (2 * G) (8 * G)) X 231 [some (.ref 177), some (.int x1), none, none, some (.int y4), some (.int y5)] [] (nrm s) k n (g_Z X (q_i Q) (2 * G) (8 * G)) := fun g y4 y5 s h => ih0 g y4 y5 s h hk219
    intro k n hg1 hg2
    refine r_iload (pc := 231) (x := y5) dX12_tells_231 rfl ?_
    refine r_iconst (pc := 233) (v := 4) dX12_tells_233 (by decide) ?_
    refine r_icmp_ge (pc := 234) (tgt := 265) dX12_tells_234 (by decide) (fun c => ?_) (fun c => ?_)
    · replace h := h.1 c
      refine r_aload_n (pc := 265) (x := 177) dX12_tells_265 rfl ?_
      refine n_getR (pc := 266) (j := 0) (q := 178) dX12_tells_266 fl_RX12_9 (by decide) sh_177 rfl rfl rfl ?_
      refine r_iload_n (pc := 269) (x := x1) dX12_tells_269 rfl ?_
      refine r_iload (pc := 270) (x := y4) dX12_tells_270 rfl ?_
      refine n_Si0 (pc := 272) (S0 := [.ref 178]) (spX12_place h) gmX12_place lk_RX12_324 dX12_tells_272 rfl rfl ⟨Nat.le_of_ble_eq_true rfl, Nat.le_of_ble_eq_true rfl⟩ (Nat.le_of_ble_eq_true rfl) ⟨by show _ ≤ 2 * G; omega, by show _ ≤ 8 * G; omega⟩ (fun r10 s10 h => ?_)
      refine r_iconst (pc := 275) (v := 4) dX12_tells_275 (by decide) ?_
      refine r_iadd (pc := 276) dX12_tells_276 ?_
      refine r_iconst (pc := 277) (v := 1) dX12_tells_277 (by decide) ?_
      obtain ⟨b11, h⟩ := h
      refine n_iast (pc := 278) (j := (ix (r10 + 4))) dX12_tells_278 (by decide) sh_178 b11 rfl ?_
      refine n_iinc (pc := 279) (x := y4) (w := 1) (L' := [some (.ref 177), some (.int x1), none, none, some (.int (y4 + 1)), some (.int y5)]) dX12_tells_279 rfl (by decide) rfl (by decide) rfl ?_
      refine r_goto (pc := 282) (tgt := 219) dX12_tells_282 (by decide) ?_
      refine n_L (L' := [some (.ref 177), some (.int x1), none, none, some (.int (y4 + 1)), none]) (le_s (le_s (le_n (le_n (le_s (le_n (le_e))))))) ?_
      exact hk219 _ _ _ h _ _ (by omega) (by omega)
    · replace h := h.2 c
      refine r_aload_n (pc := 237) (x := 177) dX12_tells_237 rfl ?_
      refine n_getR (pc := 238) (j := 0) (q := 178) dX12_tells_238 fl_RX12_9 (by decide) sh_177 rfl rfl rfl ?_
      refine r_iload_n (pc := 241) (x := x1) dX12_tells_241 rfl ?_
      refine r_iload (pc := 242) (x := y4) dX12_tells_242 rfl ?_
      refine n_Si0 (pc := 244) (S0 := [.ref 178]) (spX12_place h) gmX12_place lk_RX12_324 dX12_tells_244 rfl rfl ⟨Nat.le_of_ble_eq_true rfl, Nat.le_of_ble_eq_true rfl⟩ (Nat.le_of_ble_eq_true rfl) ⟨by show _ ≤ 2 * G; omega, by show _ ≤ 8 * G; omega⟩ (fun r12 s12 h => ?_)
      refine r_iload (pc := 247) (x := y5) dX12_tells_247 rfl ?_
      refine r_iadd (pc := 249) dX12_tells_249 ?_
      refine r_aload_n (pc := 250) (x := 177) dX12_tells_250 rfl ?_
      refine r_iload (pc := 251) (x := y4) dX12_tells_251 rfl ?_
      refine r_iload (pc := 253) (x := y5) dX12_tells_253 rfl ?_
      refine n_Vi0 (pc := 255) (S0 := [.int (r12 + y5), .ref 178]) (spX12_h h) gmX12_h selX12_h lk_RX12_284 dX12_tells_255 rfl (by decide) sh_177 ⟨rfl, by decide⟩ rfl ⟨Nat.le_of_ble_eq_true rfl, Nat.le_of_ble_eq_true rfl⟩ (Nat.le_of_ble_eq_true rfl) ⟨by show _ ≤ 2 * G; omega, by show _ ≤ 8 * G; omega⟩ (fun r13 s13 h => ?_)
      obtain ⟨b14, h⟩ := h
      refine n_iast (pc := 258) (j := (ix (r12 + y5))) dX12_tells_258 (by decide) sh_178 b14 rfl ?_
      refine n_iinc (pc := 259) (x := y5) (w := 1) (L' := [some (.ref 177), some (.int x1), none, none, some (.int y4), some (.int (y5 + 1))]) dX12_tells_259 rfl (by decide) rfl (by decide) rfl ?_
      refine r_goto (pc := 262) (tgt := 231) dX12_tells_262 (by decide) ?_
      refine n_L (L' := [some (.ref 177), some (.int x1), none, none, some (.int y4), some (.int (y5 + 1))]) (le_s (le_s (le_n (le_n (le_s (le_s (le_e))))))) ?_
      exact ih _ _ _ _ h _ _ (by omega) (by omega)
def wX12_tells_219 (x1 : Int32) (x2 : Int32) (Q : Int32 → gS → Prop)  : Nat → Nat → Int32 → gS → Prop
  | 0, _, _, _ => False
  | n + 1, g, y4, s => ((gi s 177 14) ≤ y4 → Q (gi s 177 14) s) ∧ (¬ ((gi s 177 14) ≤ y4) → ∃ n231, wX12_tells_231 x1 x2 Q (fun g y4 s => wX12_tells_219 x1 x2 Q n g y4 s) n231 g y4 0 s)
set_option maxRecDepth 20000 in
theorem pX12_tells_219 {l : Launch} {X : gX} {G : Nat} {x1 : Int32} {x2 : Int32}  {Q : Int32 → gS → Prop}  : ∀ (n : Nat) (g : Nat) (y4 : Int32) (s : gS) (h : wX12_tells_219 x1 x2 Q n g y4 s) , ∀ (k n : Nat), k + 2 * g ≤ 2 * G → n + 8 * g ≤ 8 * G → Gw l mX12_tells (g_rm 104 (2 * G) (8 * G)) X 219 [some (.ref 177), some (.int x1), none, none, some (.int y4), none] [] (nrm s) k n (g_Z X (q_i Q) (2 * G) (8 * G)) := by
  intro n
  induction n with
  | zero => intro g y4 s h; exact h.elim
  | succ n ih0 =>
    intro g y4 s h 
    have ih : ∀ (g : Nat) (y4 : Int32) (s : gS), wX12_tells_219 x1 x2 Q n g y4 s → ∀ (k n : Nat), k + 2 * g ≤ 2 * G → n + 8 * g ≤ 8 * G → Gw l mX12_tells (g_rm 104 (2 * G) (8 * G)) X 219 [some (.ref 177), some (.int x1), none, none, some (.int y4), none] [] (nrm s) k n (g_Z X (q_i Q) (2 * G) (8 * G)) := fun g y4 s h => ih0 g y4 s h 
    intro k n hg1 hg2
    refine r_iload (pc := 219) (x := y4) dX12_tells_219 rfl ?_
    refine r_aload_n (pc := 221) (x := 177) dX12_tells_221 rfl ?_
    refine n_getI (pc := 222) (j := 14) dX12_tells_222 fl_RX12_188 (by decide) sh_177 rfl rfl ?_
    refine r_icmp_ge (pc := 225) (tgt := 285) dX12_tells_225 (by decide) (fun c => ?_) (fun c => ?_)
    · replace h := h.1 c
      refine r_aload_n (pc := 285) (x := 177) dX12_tells_285 rfl ?_
      refine n_getI (pc := 286) (j := 14) dX12_tells_286 fl_RX12_188 (by decide) sh_177 rfl rfl ?_
      exact n_iret (pc := 289) dX12_tells_289 rfl (by omega) (by omega) h
    · replace h := h.2 c
      refine r_iconst (pc := 228) (v := 0) dX12_tells_228 (by decide) ?_
      refine r_istore (pc := 229) (L' := [some (.ref 177), some (.int x1), none, none, some (.int y4), some (.int 0)]) dX12_tells_229 rfl (by decide) rfl ?_
      refine n_L (L' := [some (.ref 177), some (.int x1), none, none, some (.int y4), some (.int 0)]) (le_s (le_s (le_n (le_n (le_s (le_s (le_e))))))) ?_
      obtain ⟨n, h⟩ := h
      exact pX12_tells_231  n _ _ _ _ h ih _ _ (by omega) (by omega)
def wX12_tells_89 (x1 : Int32) (x2 : Int32) (Q : Int32 → gS → Prop) (k185 : Nat → gS → Prop) : Nat → Nat → Int32 → gS → Prop
  | 0, _, _, _ => False
  | n + 1, g, y3, s => vp_in (2 + x2) 218 ∧ (((gi s 178 (ix (2 + x2))) ≤ y3 → k185 g s) ∧ (¬ ((gi s 178 (ix (2 + x2))) ≤ y3) → wpX12_of x2 y3 4 s (fun r19 s19 => (¬ r19 = 0 → wpX12_of x2 y3 0 s19 (fun r20 s20 => ∃ g21a g21b, g21a + g21b ≤ g ∧ wpX12_readPhrase g21a r20 s20 (fun r21 s21 => ∃ n136, wX12_tells_136 x1 x2 Q (fun g y3 s => wX12_tells_89 x1 x2 Q k185 n g y3 s) n136 g21b y3 (gi s19 177 14) s21))) ∧ (r19 = 0 → wX12_tells_89 x1 x2 Q k185 n g (y3 + 1) s19))))
set_option maxRecDepth 20000 in
theorem pX12_tells_89 {l : Launch} {X : gX} {G : Nat} {x1 : Int32} {x2 : Int32}  {Q : Int32 → gS → Prop} {k185 : Nat → gS → Prop} : ∀ (n : Nat) (g : Nat) (y3 : Int32) (s : gS) (h : wX12_tells_89 x1 x2 Q k185 n g y3 s) (hk185 : ∀ (g : Nat) (s : gS), k185 g s → ∀ (k n : Nat), k + 2 * g ≤ 2 * G → n + 8 * g ≤ 8 * G → Gw l mX12_tells (g_rm 104 (2 * G) (8 * G)) X 185 [some (.ref 177), some (.int x1), none, none, none, none] [] (nrm s) k n (g_Z X (q_i Q) (2 * G) (8 * G))), ∀ (k n : Nat), k + 2 * g ≤ 2 * G → n + 8 * g ≤ 8 * G → Gw l mX12_tells (g_rm 104 (2 * G) (8 * G)) X 89 [some (.ref 177), some (.int x1), some (.int x2), some (.int y3), none, none] [] (nrm s) k n (g_Z X (q_i Q) (2 * G) (8 * G)) := by
  intro n
  induction n with
  | zero => intro g y3 s h; exact h.elim
  | succ n ih0 =>
    intro g y3 s h hk185
    have ih : ∀ (g : Nat) (y3 : Int32) (s : gS), wX12_tells_89 x1 x2 Q k185 n g y3 s → ∀ (k n : Nat), k + 2 * g ≤ 2 * G → n + 8 * g ≤ 8 * G → Gw l mX12_tells (g_rm 104 (2 * G) (8 * G)) X 89 [some (.ref 177), some (.int x1), some (.int x2), some (.int y3), none, none] [] (nrm s) k n (g_Z X (q_i Q) (2 * G) (8 * G)) := fun g y3 s h => ih0 g y3 s h hk185
    intro k n hg1 hg2
    refine r_iload_n (pc := 89) (x := y3) dX12_tells_89 rfl ?_
    refine r_aload_n (pc := 90) (x := 177) dX12_tells_90 rfl ?_
    refine n_getR (pc := 91) (j := 0) (q := 178) dX12_tells_91 fl_RX12_9 (by decide) sh_177 rfl rfl rfl ?_
    refine r_iconst (pc := 94) (v := 2) dX12_tells_94 (by decide) ?_
    refine r_iload_n (pc := 95) (x := x2) dX12_tells_95 rfl ?_
    refine r_iadd (pc := 96) dX12_tells_96 ?_
    obtain ⟨b18, h⟩ := h
    refine n_iald (pc := 97) (j := (ix (2 + x2))) dX12_tells_97 (by decide) sh_178 b18 rfl ?_
    refine r_icmp_ge (pc := 98) (tgt := 185) dX12_tells_98 (by decide) (fun c => ?_) (fun c => ?_)
    · replace h := h.1 c
      refine n_L (L' := [some (.ref 177), some (.int x1), none, none, none, none]) (le_s (le_s (le_n (le_n (le_n (le_n (le_e))))))) ?_
      exact hk185 _ _ h _ _ (by omega) (by omega)
    · replace h := h.2 c
      refine r_aload_n (pc := 101) (x := 177) dX12_tells_101 rfl ?_
      refine r_iload_n (pc := 102) (x := x2) dX12_tells_102 rfl ?_
      refine r_iload_n (pc := 103) (x := y3) dX12_tells_103 rfl ?_
      refine r_iconst (pc := 104) (v := 4) dX12_tells_104 (by decide) ?_
      refine n_Vi0 (pc := 105) (S0 := []) (spX12_of h) gmX12_of selX12_of lk_RX12_333 dX12_tells_105 rfl (by decide) sh_177 ⟨rfl, by decide⟩ rfl ⟨Nat.le_of_ble_eq_true rfl, Nat.le_of_ble_eq_true rfl⟩ (Nat.le_of_ble_eq_true rfl) ⟨by show _ ≤ 2 * G; omega, by show _ ≤ 8 * G; omega⟩ (fun r19 s19 h => ?_)
      refine r_if_ne (pc := 108) (tgt := 114) dX12_tells_108 (by decide) (fun c => ?_) (fun c => ?_)
      · replace h := h.1 c
        refine r_aload_n (pc := 114) (x := 177) dX12_tells_114 rfl ?_
        refine n_getI (pc := 115) (j := 14) dX12_tells_115 fl_RX12_188 (by decide) sh_177 rfl rfl ?_
        refine r_istore (pc := 118) (L' := [some (.ref 177), some (.int x1), some (.int x2), some (.int y3), some (.int (gi s19 177 14)), none]) dX12_tells_118 rfl (by decide) rfl ?_
        refine r_aload_n (pc := 120) (x := 177) dX12_tells_120 rfl ?_
        refine r_aload_n (pc := 121) (x := 177) dX12_tells_121 rfl ?_
        refine r_iload_n (pc := 122) (x := x2) dX12_tells_122 rfl ?_
        refine r_iload_n (pc := 123) (x := y3) dX12_tells_123 rfl ?_
        refine r_iconst (pc := 124) (v := 0) dX12_tells_124 (by decide) ?_
        refine n_Vi0 (pc := 125) (S0 := [.ref 177]) (spX12_of h) gmX12_of selX12_of lk_RX12_333 dX12_tells_125 rfl (by decide) sh_177 ⟨rfl, by decide⟩ rfl ⟨Nat.le_of_ble_eq_true rfl, Nat.le_of_ble_eq_true rfl⟩ (Nat.le_of_ble_eq_true rfl) ⟨by show _ ≤ 2 * G; omega, by show _ ≤ 8 * G; omega⟩ (fun r20 s20 h => ?_)
        obtain ⟨g21a, g21b, hg21, h⟩ := h
        refine n_Vi (pc := 128) (S0 := []) (spX12_readPhrase h) gmX12_readPhrase selX12_readPhrase lk_RX12_335 dX12_tells_128 rfl (by decide) sh_177 ⟨rfl, by decide⟩ rfl ⟨Nat.le_of_ble_eq_true rfl, Nat.le_of_ble_eq_true rfl⟩ (Nat.le_of_ble_eq_true rfl) ⟨by show _ ≤ 2 * G; omega, by show _ ≤ 8 * G; omega⟩ (fun r21 s21 h => ?_)
        refine r_pop (pc := 131) dX12_tells_131 rfl ?_
        refine r_iload (pc := 132) (x := gi s19 177 14) dX12_tells_132 rfl ?_
        refine r_istore (pc := 134) (L' := [some (.ref 177), some (.int x1), some (.int x2), some (.int y3), some (.int (gi s19 177 14)), some (.int (gi s19 177 14))]) dX12_tells_134 rfl (by decide) rfl ?_
        refine n_L (L' := [some (.ref 177), some (.int x1), some (.int x2), some (.int y3), none, some (.int (gi s19 177 14))]) (le_s (le_s (le_s (le_s (le_n (le_s (le_e))))))) ?_
        obtain ⟨n, h⟩ := h
        exact pX12_tells_136  n _ _ _ _ h ih _ _ (by omega) (by omega)
      · replace h := h.2 c
        refine r_goto (pc := 111) (tgt := 179) dX12_tells_111 (by decide) ?_
        refine n_iinc (pc := 179) (x := y3) (w := 1) (L' := [some (.ref 177), some (.int x1), some (.int x2), some (.int (y3 + 1)), none, none]) dX12_tells_179 rfl (by decide) rfl (by decide) rfl ?_
        refine r_goto (pc := 182) (tgt := 89) dX12_tells_182 (by decide) ?_
        refine n_L (L' := [some (.ref 177), some (.int x1), some (.int x2), some (.int (y3 + 1)), none, none]) (le_s (le_s (le_s (le_s (le_n (le_n (le_e))))))) ?_
        exact ih _ _ _ h _ _ (by omega) (by omega)
def wX12_tells_185 (x1 : Int32) (x2 : Int32) (Q : Int32 → gS → Prop)  (g : Nat) (s : gS) : Prop := wpX12_join s (fun s5 => wpX12_refusesHeap s5 (fun r6 s6 => (0 ≤ r6 → wpX12_change s6 (fun s7 => vp_in (2 + x1) 218 ∧ (∃ n219, wX12_tells_219 x1 x2 Q n219 g 0 (wi s7 178 (ix (2 + x1)) (gi s7 177 14))))) ∧ (¬ (0 ≤ r6) → Q r6 s6)))
set_option maxRecDepth 20000 in
theorem pX12_tells_185 {l : Launch} {X : gX} {G : Nat} {x1 : Int32} {x2 : Int32}  {Q : Int32 → gS → Prop}  (g : Nat) (s : gS) (h : wX12_tells_185 x1 x2 Q g s)  : ∀ (k n : Nat), k + 2 * g ≤ 2 * G → n + 8 * g ≤ 8 * G → Gw l mX12_tells (g_rm 104 (2 * G) (8 * G)) X 185 [some (.ref 177), some (.int x1), none, none, none, none] [] (nrm s) k n (g_Z X (q_i Q) (2 * G) (8 * G)) := by
  intro k n hg1 hg2
  refine r_aload_n (pc := 185) (x := 177) dX12_tells_185 rfl ?_
  refine n_Vv0 (pc := 186) (S0 := []) (spX12_join h) gmX12_join selX12_join lk_RX12_338 dX12_tells_186 rfl (by decide) sh_177 ⟨rfl, by decide⟩ rfl ⟨Nat.le_of_ble_eq_true rfl, Nat.le_of_ble_eq_true rfl⟩ (Nat.le_of_ble_eq_true rfl) ⟨by show _ ≤ 2 * G; omega, by show _ ≤ 8 * G; omega⟩ (fun s5 h => ?_)
  refine r_aload_n (pc := 189) (x := 177) dX12_tells_189 rfl ?_
  refine n_Vi0 (pc := 190) (S0 := []) (spX12_refusesHeap h) gmX12_refusesHeap selX12_refusesHeap lk_RX12_341 dX12_tells_190 rfl (by decide) sh_177 ⟨rfl, by decide⟩ rfl ⟨Nat.le_of_ble_eq_true rfl, Nat.le_of_ble_eq_true rfl⟩ (Nat.le_of_ble_eq_true rfl) ⟨by show _ ≤ 2 * G; omega, by show _ ≤ 8 * G; omega⟩ (fun r6 s6 h => ?_)
  refine r_istore_n (pc := 193) (L' := [some (.ref 177), some (.int x1), none, some (.int r6), none, none]) dX12_tells_193 rfl (by decide) rfl ?_
  refine r_iload_n (pc := 194) (x := r6) dX12_tells_194 rfl ?_
  refine r_if_ge (pc := 195) (tgt := 200) dX12_tells_195 (by decide) (fun c => ?_) (fun c => ?_)
  · replace h := h.1 c
    refine r_aload_n (pc := 200) (x := 177) dX12_tells_200 rfl ?_
    refine n_Vv0 (pc := 201) (S0 := []) (spX12_change h) gmX12_change selX12_change lk_RX12_344 dX12_tells_201 rfl (by decide) sh_177 ⟨rfl, by decide⟩ rfl ⟨Nat.le_of_ble_eq_true rfl, Nat.le_of_ble_eq_true rfl⟩ (Nat.le_of_ble_eq_true rfl) ⟨by show _ ≤ 2 * G; omega, by show _ ≤ 8 * G; omega⟩ (fun s7 h => ?_)
    refine r_aload_n (pc := 204) (x := 177) dX12_tells_204 rfl ?_
    refine n_getR (pc := 205) (j := 0) (q := 178) dX12_tells_205 fl_RX12_9 (by decide) sh_177 rfl rfl rfl ?_
    refine r_iconst (pc := 208) (v := 2) dX12_tells_208 (by decide) ?_
    refine r_iload_n (pc := 209) (x := x1) dX12_tells_209 rfl ?_
    refine r_iadd (pc := 210) dX12_tells_210 ?_
    refine r_aload_n (pc := 211) (x := 177) dX12_tells_211 rfl ?_
    refine n_getI (pc := 212) (j := 14) dX12_tells_212 fl_RX12_188 (by decide) sh_177 rfl rfl ?_
    obtain ⟨b8, h⟩ := h
    refine n_iast (pc := 215) (j := (ix (2 + x1))) dX12_tells_215 (by decide) sh_178 b8 rfl ?_
    refine r_iconst (pc := 216) (v := 0) dX12_tells_216 (by decide) ?_
    refine r_istore (pc := 217) (L' := [some (.ref 177), some (.int x1), none, some (.int r6), some (.int 0), none]) dX12_tells_217 rfl (by decide) rfl ?_
    refine n_L (L' := [some (.ref 177), some (.int x1), none, none, some (.int 0), none]) (le_s (le_s (le_n (le_n (le_s (le_n (le_e))))))) ?_
    obtain ⟨n, h⟩ := h
    exact pX12_tells_219  n _ _ _ h  _ _ (by omega) (by omega)
  · replace h := h.2 c
    refine r_iload_n (pc := 198) (x := r6) dX12_tells_198 rfl ?_
    exact n_iret (pc := 199) dX12_tells_199 rfl (by omega) (by omega) h
def wX12_tells_64 (x1 : Int32) (x2 : Int32) (Q : Int32 → gS → Prop)  (g : Nat) (z0 : Int32) (s : gS) : Prop := ∃ g4a g4b, g4a + g4b ≤ g ∧ wpX12_readPhrase g4a z0 s (fun r4 s4 => (¬ r4 = 0 → (x2 = (-1) → wX12_tells_185 x1 x2 Q g4b s4) ∧ (¬ (x2 = (-1)) → ∃ n89, wX12_tells_89 x1 x2 Q (wX12_tells_185 x1 x2 Q) n89 g4b 0 (wi s4 177 14 0))) ∧ (r4 = 0 → Q ((-1) - (gi s4 177 8)) s4))
set_option maxRecDepth 20000 in
theorem pX12_tells_64 {l : Launch} {X : gX} {G : Nat} {x1 : Int32} {x2 : Int32}  {Q : Int32 → gS → Prop}  (g : Nat) (z0 : Int32) (s : gS) (h : wX12_tells_64 x1 x2 Q g z0 s)  : ∀ (k n : Nat), k + 2 * g ≤ 2 * G → n + 8 * g ≤ 8 * G → Gw l mX12_tells (g_rm 104 (2 * G) (8 * G)) X 64 [some (.ref 177), some (.int x1), some (.int x2), none, none, none] [.int z0, .ref 177] (nrm s) k n (g_Z X (q_i Q) (2 * G) (8 * G)) := by
  intro k n hg1 hg2
  obtain ⟨g4a, g4b, hg4, h⟩ := h
  refine n_Vi (pc := 64) (S0 := []) (spX12_readPhrase h) gmX12_readPhrase selX12_readPhrase lk_RX12_335 dX12_tells_64 rfl (by decide) sh_177 ⟨rfl, by decide⟩ rfl ⟨Nat.le_of_ble_eq_true rfl, Nat.le_of_ble_eq_true rfl⟩ (Nat.le_of_ble_eq_true rfl) ⟨by show _ ≤ 2 * G; omega, by show _ ≤ 8 * G; omega⟩ (fun r4 s4 h => ?_)
  refine r_if_ne (pc := 67) (tgt := 77) dX12_tells_67 (by decide) (fun c => ?_) (fun c => ?_)
  · replace h := h.1 c
    refine r_iload_n (pc := 77) (x := x2) dX12_tells_77 rfl ?_
    refine r_iconst (pc := 78) (v := (-1)) dX12_tells_78 (by decide) ?_
    refine r_icmp_eq (pc := 79) (tgt := 185) dX12_tells_79 (by decide) (fun c => ?_) (fun c => ?_)
    · replace h := h.1 c
      refine n_L (L' := [some (.ref 177), some (.int x1), none, none, none, none]) (le_s (le_s (le_n (le_n (le_n (le_n (le_e))))))) ?_
      exact pX12_tells_185  _ _ h  _ _ (by omega) (by omega)
    · replace h := h.2 c
      refine r_aload_n (pc := 82) (x := 177) dX12_tells_82 rfl ?_
      refine r_iconst (pc := 83) (v := 0) dX12_tells_83 (by decide) ?_
      refine n_putI (pc := 84) (j := 14) dX12_tells_84 fl_RX12_188 fw_12_14 (by decide) sh_177 rfl rfl ?_
      refine r_iconst (pc := 87) (v := 0) dX12_tells_87 (by decide) ?_
      refine r_istore_n (pc := 88) (L' := [some (.ref 177), some (.int x1), some (.int x2), some (.int 0), none, none]) dX12_tells_88 rfl (by decide) rfl ?_
      refine n_L (L' := [some (.ref 177), some (.int x1), some (.int x2), some (.int 0), none, none]) (le_s (le_s (le_s (le_s (le_n (le_n (le_e))))))) ?_
      obtain ⟨n, h⟩ := h
      exact pX12_tells_89  n _ _ _ h (fun _ _ h _ _ hg1 hg2 => pX12_tells_185  _ _ h  _ _ hg1 hg2) _ _ (by omega) (by omega)
  · replace h := h.2 c
    refine r_iconst (pc := 70) (v := (-1)) dX12_tells_70 (by decide) ?_
    refine r_aload_n (pc := 71) (x := 177) dX12_tells_71 rfl ?_
    refine n_getI (pc := 72) (j := 8) dX12_tells_72 fl_RX12_118 (by decide) sh_177 rfl rfl ?_
    refine r_isub (pc := 75) dX12_tells_75 ?_
    exact n_iret (pc := 76) dX12_tells_76 rfl (by omega) (by omega) h
def wX12_tells_37 (x1 : Int32) (x2 : Int32) (Q : Int32 → gS → Prop)  (g : Nat) (s : gS) : Prop := (¬ x2 = (-1) → wpX12_of x2 0 0 (wi s 177 14 0) (fun r9 s9 => wX12_tells_64 x1 x2 Q g r9 s9)) ∧ (x2 = (-1) → wX12_tells_64 x1 x2 Q g (gi (wi s 177 14 0) 178 0) (wi s 177 14 0))
set_option maxRecDepth 20000 in
theorem pX12_tells_37 {l : Launch} {X : gX} {G : Nat} {x1 : Int32} {x2 : Int32}  {Q : Int32 → gS → Prop}  (g : Nat) (s : gS) (h : wX12_tells_37 x1 x2 Q g s)  : ∀ (k n : Nat), k + 2 * g ≤ 2 * G → n + 8 * g ≤ 8 * G → Gw l mX12_tells (g_rm 104 (2 * G) (8 * G)) X 37 [some (.ref 177), some (.int x1), some (.int x2), none, none, none] [] (nrm s) k n (g_Z X (q_i Q) (2 * G) (8 * G)) := by
  intro k n hg1 hg2
  refine r_aload_n (pc := 37) (x := 177) dX12_tells_37 rfl ?_
  refine r_iconst (pc := 38) (v := 0) dX12_tells_38 (by decide) ?_
  refine n_putI (pc := 39) (j := 14) dX12_tells_39 fl_RX12_188 fw_12_14 (by decide) sh_177 rfl rfl ?_
  refine r_aload_n (pc := 42) (x := 177) dX12_tells_42 rfl ?_
  refine r_iload_n (pc := 43) (x := x2) dX12_tells_43 rfl ?_
  refine r_iconst (pc := 44) (v := (-1)) dX12_tells_44 (by decide) ?_
  refine r_icmp_ne (pc := 45) (tgt := 57) dX12_tells_45 (by decide) (fun c => ?_) (fun c => ?_)
  · replace h := h.1 c
    refine r_aload_n (pc := 57) (x := 177) dX12_tells_57 rfl ?_
    refine r_iload_n (pc := 58) (x := x2) dX12_tells_58 rfl ?_
    refine r_iconst (pc := 59) (v := 0) dX12_tells_59 (by decide) ?_
    refine r_iconst (pc := 60) (v := 0) dX12_tells_60 (by decide) ?_
    refine n_Vi0 (pc := 61) (S0 := [.ref 177]) (spX12_of h) gmX12_of selX12_of lk_RX12_333 dX12_tells_61 rfl (by decide) sh_177 ⟨rfl, by decide⟩ rfl ⟨Nat.le_of_ble_eq_true rfl, Nat.le_of_ble_eq_true rfl⟩ (Nat.le_of_ble_eq_true rfl) ⟨by show _ ≤ 2 * G; omega, by show _ ≤ 8 * G; omega⟩ (fun r9 s9 h => ?_)
    refine n_L (L' := [some (.ref 177), some (.int x1), some (.int x2), none, none, none]) (le_s (le_s (le_s (le_n (le_n (le_n (le_e))))))) ?_
    exact pX12_tells_64  _ _ _ h  _ _ (by omega) (by omega)
  · replace h := h.2 c
    refine r_aload_n (pc := 48) (x := 177) dX12_tells_48 rfl ?_
    refine n_getR (pc := 49) (j := 0) (q := 178) dX12_tells_49 fl_RX12_9 (by decide) sh_177 rfl rfl rfl ?_
    refine r_iconst (pc := 52) (v := 0) dX12_tells_52 (by decide) ?_
    refine n_iald (pc := 53) (j := 0) dX12_tells_53 (by decide) sh_178 (vp_inc (by decide)) (by decide) ?_
    refine r_goto (pc := 54) (tgt := 64) dX12_tells_54 (by decide) ?_
    refine n_L (L' := [some (.ref 177), some (.int x1), some (.int x2), none, none, none]) (le_s (le_s (le_s (le_n (le_n (le_n (le_e))))))) ?_
    exact pX12_tells_64  _ _ _ h  _ _ (by omega) (by omega)
def wpX12_tells (g : Nat) (x1 : Int32) (x2 : Int32) (s : gS) (Q : Int32 → gS → Prop) : Prop := wpX12_begin (wi s 177 5 0) (fun s1 => wpX12_isEvent x1 s1 (fun r2 s2 => (r2 = 0 → Q (-1) s2) ∧ (¬ (r2 = 0) → (x2 = (-1) → wX12_tells_37 x1 x2 Q g s2) ∧ (¬ (x2 = (-1)) → wpX12_isTold x2 s2 (fun r3 s3 => (r3 = 0 → Q (-1) s3) ∧ (¬ (r3 = 0) → (¬ x2 = x1 → wX12_tells_37 x1 x2 Q g s3) ∧ (x2 = x1 → Q (-1) s3)))))))
set_option maxRecDepth 20000 in
theorem spX12_tells {l : Launch} {g : Nat} {x1 : Int32} {x2 : Int32}  {s : gS} {Q : Int32 → gS → Prop} (h : wpX12_tells g x1 x2 s Q) : Ct l mX12_tells 104 (2 * g) (8 * g) [.ref 177, .int x1, .int x2] (nrm s) (q_i Q) := by
  refine Ct.of (by decide) (Nat.le_of_ble_eq_true rfl) (fun X => ?_)
  refine n_L (L' := [some (.ref 177), some (.int x1), some (.int x2), none, none, none]) (le_s (le_s (le_s (le_p (le_p (le_p (le_e))))))) ?_
  have hg1 : 0 + 2 * g ≤ 2 * g := by omega
  have hg2 : 0 + 8 * g ≤ 8 * g := by omega
  refine r_aload_n (pc := 0) (x := 177) dX12_tells_0 rfl ?_
  refine r_iconst (pc := 1) (v := 0) dX12_tells_1 (by decide) ?_
  refine n_putI (pc := 2) (j := 5) dX12_tells_2 fl_RX12_55 fw_12_5 (by decide) sh_177 rfl rfl ?_
  refine r_aload_n (pc := 5) (x := 177) dX12_tells_5 rfl ?_
  refine n_Vv0 (pc := 6) (S0 := []) (spX12_begin h) gmX12_begin selX12_begin lk_RX12_327 dX12_tells_6 rfl (by decide) sh_177 ⟨rfl, by decide⟩ rfl ⟨Nat.le_of_ble_eq_true rfl, Nat.le_of_ble_eq_true rfl⟩ (Nat.le_of_ble_eq_true rfl) ⟨by show _ ≤ 2 * g; omega, by show _ ≤ 8 * g; omega⟩ (fun s1 h => ?_)
  refine r_aload_n (pc := 9) (x := 177) dX12_tells_9 rfl ?_
  refine r_iload_n (pc := 10) (x := x1) dX12_tells_10 rfl ?_
  refine n_Vi0 (pc := 11) (S0 := []) (spX12_isEvent h) gmX12_isEvent selX12_isEvent lk_RX12_321 dX12_tells_11 rfl (by decide) sh_177 ⟨rfl, by decide⟩ rfl ⟨Nat.le_of_ble_eq_true rfl, Nat.le_of_ble_eq_true rfl⟩ (Nat.le_of_ble_eq_true rfl) ⟨by show _ ≤ 2 * g; omega, by show _ ≤ 8 * g; omega⟩ (fun r2 s2 h => ?_)
  refine r_if_eq (pc := 14) (tgt := 35) dX12_tells_14 (by decide) (fun c => ?_) (fun c => ?_)
  · replace h := h.1 c
    refine r_iconst (pc := 35) (v := (-1)) dX12_tells_35 (by decide) ?_
    exact n_iret (pc := 36) dX12_tells_36 rfl (by omega) (by omega) h
  · replace h := h.2 c
    refine r_iload_n (pc := 17) (x := x2) dX12_tells_17 rfl ?_
    refine r_iconst (pc := 18) (v := (-1)) dX12_tells_18 (by decide) ?_
    refine r_icmp_eq (pc := 19) (tgt := 37) dX12_tells_19 (by decide) (fun c => ?_) (fun c => ?_)
    · replace h := h.1 c
      refine n_L (L' := [some (.ref 177), some (.int x1), some (.int x2), none, none, none]) (le_s (le_s (le_s (le_n (le_n (le_n (le_e))))))) ?_
      exact pX12_tells_37  _ _ h  _ _ (by omega) (by omega)
    · replace h := h.2 c
      refine r_aload_n (pc := 22) (x := 177) dX12_tells_22 rfl ?_
      refine r_iload_n (pc := 23) (x := x2) dX12_tells_23 rfl ?_
      refine n_Vi0 (pc := 24) (S0 := []) (spX12_isTold h) gmX12_isTold selX12_isTold lk_RX12_330 dX12_tells_24 rfl (by decide) sh_177 ⟨rfl, by decide⟩ rfl ⟨Nat.le_of_ble_eq_true rfl, Nat.le_of_ble_eq_true rfl⟩ (Nat.le_of_ble_eq_true rfl) ⟨by show _ ≤ 2 * g; omega, by show _ ≤ 8 * g; omega⟩ (fun r3 s3 h => ?_)
      refine r_if_eq (pc := 27) (tgt := 35) dX12_tells_27 (by decide) (fun c => ?_) (fun c => ?_)
      · replace h := h.1 c
        refine r_iconst (pc := 35) (v := (-1)) dX12_tells_35 (by decide) ?_
        exact n_iret (pc := 36) dX12_tells_36 rfl (by omega) (by omega) h
      · replace h := h.2 c
        refine r_iload_n (pc := 30) (x := x2) dX12_tells_30 rfl ?_
        refine r_iload_n (pc := 31) (x := x1) dX12_tells_31 rfl ?_
        refine r_icmp_ne (pc := 32) (tgt := 37) dX12_tells_32 (by decide) (fun c => ?_) (fun c => ?_)
        · replace h := h.1 c
          refine n_L (L' := [some (.ref 177), some (.int x1), some (.int x2), none, none, none]) (le_s (le_s (le_s (le_n (le_n (le_n (le_e))))))) ?_
          exact pX12_tells_37  _ _ h  _ _ (by omega) (by omega)
        · replace h := h.2 c
          refine r_iconst (pc := 35) (v := (-1)) dX12_tells_35 (by decide) ?_
          exact n_iret (pc := 36) dX12_tells_36 rfl (by omega) (by omega) h
def wX12_means_71 (x1 : Int32) (Q : Int32 → gS → Prop) (k60 : Nat → Int32 → gS → Prop) : Nat → Nat → Int32 → Int32 → gS → Prop
  | 0, _, _, _, _ => False
  | n + 1, g, y3, y4, s => (4 ≤ y4 → k60 g (y3 + 1) s) ∧ (¬ (4 ≤ y4) → wpX12_h y3 y4 s (fun r6 s6 => wpX12_tell r6.toInt64 s6 (fun s7 => wX12_means_71 x1 Q k60 n g y3 (y4 + 1) s7)))
set_option maxRecDepth 20000 in
theorem pX12_means_71 {l : Launch} {X : gX} {G : Nat} {x1 : Int32}  {Q : Int32 → gS → Prop} {k60 : Nat → Int32 → gS → Prop} : ∀ (n : Nat) (g : Nat) (y3 : Int32) (y4 : Int32) (s : gS) (h : wX12_means_71 x1 Q k60 n g y3 y4 s) (hk60 : ∀ (g : Nat) (y3 : Int32) (s : gS), k60 g y3 s → ∀ (k n : Nat), k + 2 * g ≤ 2 * G → n + 8 * g ≤ 8 * G → Gw l mX12_means (g_rm 104 (2 * G) (8 * G)) X 60 [some (.ref 177), none, none, some (.int y3), none] [] (nrm s) k n (g_Z X (q_i Q) (2 * G) (8 * G))), ∀ (k n : Nat), k + 2 * g ≤ 2 * G → n + 8 * g ≤ 8 * G → Gw l mX12_means (g_rm 104 (2 * G) (8 * G)) X 71 [some (.ref 177), none, none, some (.int y3), some (.int y4)] [] (nrm s) k n (g_Z X (q_i Q) (2 * G) (8 * G)) := by
  intro n
  induction n with
  | zero => intro g y3 y4 s h; exact h.elim
  | succ n ih0 =>
    intro g y3 y4 s h hk60
    have ih : ∀ (g : Nat) (y3 : Int32) (y4 : Int32) (s : gS), wX12_means_71 x1 Q k60 n g y3 y4 s → ∀ (k n : Nat), k + 2 * g ≤ 2 * G → n + 8 * g ≤ 8 * G → Gw l mX12_means (g_rm 104 (2 * G) (8 * G)) X 71 [some (.ref 177), none, none, some (.int y3), some (.int y4)] [] (nrm s) k n (g_Z X (q_i Q) (2 * G) (8 * G)) := fun g y3 y4 s h => ih0 g y3 y4 s h hk60
    intro k n hg1 hg2
    refine r_iload (pc := 71) (x := y4) dX12_means_71 rfl ?_
    refine r_iconst (pc := 73) (v := 4) dX12_means_73 (by decide) ?_
    refine r_icmp_ge (pc := 74) (tgt := 95) dX12_means_74 (by decide) (fun c => ?_) (fun c => ?_)
    · replace h := h.1 c
      refine n_iinc (pc := 95) (x := y3) (w := 1) (L' := [some (.ref 177), none, none, some (.int (y3 + 1)), some (.int y4)]) dX12_means_95 rfl (by decide) rfl (by decide) rfl ?_
      refine r_goto (pc := 98) (tgt := 60) dX12_means_98 (by decide) ?_
      refine n_L (L' := [some (.ref 177), none, none, some (.int (y3 + 1)), none]) (le_s (le_n (le_n (le_s (le_n (le_e)))))) ?_
      exact hk60 _ _ _ h _ _ (by omega) (by omega)
    · replace h := h.2 c
      refine r_aload_n (pc := 77) (x := 177) dX12_means_77 rfl ?_
      refine r_aload_n (pc := 78) (x := 177) dX12_means_78 rfl ?_
      refine r_iload_n (pc := 79) (x := y3) dX12_means_79 rfl ?_
      refine r_iload (pc := 80) (x := y4) dX12_means_80 rfl ?_
      refine n_Vi0 (pc := 82) (S0 := [.ref 177]) (spX12_h h) gmX12_h selX12_h lk_RX12_284 dX12_means_82 rfl (by decide) sh_177 ⟨rfl, by decide⟩ rfl ⟨Nat.le_of_ble_eq_true rfl, Nat.le_of_ble_eq_true rfl⟩ (Nat.le_of_ble_eq_true rfl) ⟨by show _ ≤ 2 * G; omega, by show _ ≤ 8 * G; omega⟩ (fun r6 s6 h => ?_)
      refine r_i2l (pc := 85) dX12_means_85 ?_
      refine n_Vv0 (pc := 86) (S0 := []) (spX12_tell h) gmX12_tell selX12_tell lk_RX12_91 dX12_means_86 rfl (by decide) sh_177 ⟨rfl, by decide⟩ rfl ⟨Nat.le_of_ble_eq_true rfl, Nat.le_of_ble_eq_true rfl⟩ (Nat.le_of_ble_eq_true rfl) ⟨by show _ ≤ 2 * G; omega, by show _ ≤ 8 * G; omega⟩ (fun s7 h => ?_)
      refine n_iinc (pc := 89) (x := y4) (w := 1) (L' := [some (.ref 177), none, none, some (.int y3), some (.int (y4 + 1))]) dX12_means_89 rfl (by decide) rfl (by decide) rfl ?_
      refine r_goto (pc := 92) (tgt := 71) dX12_means_92 (by decide) ?_
      refine n_L (L' := [some (.ref 177), none, none, some (.int y3), some (.int (y4 + 1))]) (le_s (le_n (le_n (le_s (le_s (le_e)))))) ?_
      exact ih _ _ _ _ h _ _ (by omega) (by omega)
def wX12_means_60 (x1 : Int32) (Q : Int32 → gS → Prop)  : Nat → Nat → Int32 → gS → Prop
  | 0, _, _, _ => False
  | n + 1, g, y3, s => ((gi s 177 14) ≤ y3 → Q (gi s 177 14) s) ∧ (¬ ((gi s 177 14) ≤ y3) → ∃ n71, wX12_means_71 x1 Q (fun g y3 s => wX12_means_60 x1 Q n g y3 s) n71 g y3 0 s)
set_option maxRecDepth 20000 in
theorem pX12_means_60 {l : Launch} {X : gX} {G : Nat} {x1 : Int32}  {Q : Int32 → gS → Prop}  : ∀ (n : Nat) (g : Nat) (y3 : Int32) (s : gS) (h : wX12_means_60 x1 Q n g y3 s) , ∀ (k n : Nat), k + 2 * g ≤ 2 * G → n + 8 * g ≤ 8 * G → Gw l mX12_means (g_rm 104 (2 * G) (8 * G)) X 60 [some (.ref 177), none, none, some (.int y3), none] [] (nrm s) k n (g_Z X (q_i Q) (2 * G) (8 * G)) := by
  intro n
  induction n with
  | zero => intro g y3 s h; exact h.elim
  | succ n ih0 =>
    intro g y3 s h 
    have ih : ∀ (g : Nat) (y3 : Int32) (s : gS), wX12_means_60 x1 Q n g y3 s → ∀ (k n : Nat), k + 2 * g ≤ 2 * G → n + 8 * g ≤ 8 * G → Gw l mX12_means (g_rm 104 (2 * G) (8 * G)) X 60 [some (.ref 177), none, none, some (.int y3), none] [] (nrm s) k n (g_Z X (q_i Q) (2 * G) (8 * G)) := fun g y3 s h => ih0 g y3 s h 
    intro k n hg1 hg2
    refine r_iload_n (pc := 60) (x := y3) dX12_means_60 rfl ?_
    refine r_aload_n (pc := 61) (x := 177) dX12_means_61 rfl ?_
    refine n_getI (pc := 62) (j := 14) dX12_means_62 fl_RX12_188 (by decide) sh_177 rfl rfl ?_
    refine r_icmp_ge (pc := 65) (tgt := 101) dX12_means_65 (by decide) (fun c => ?_) (fun c => ?_)
    · replace h := h.1 c
      refine r_aload_n (pc := 101) (x := 177) dX12_means_101 rfl ?_
      refine n_getI (pc := 102) (j := 14) dX12_means_102 fl_RX12_188 (by decide) sh_177 rfl rfl ?_
      exact n_iret (pc := 105) dX12_means_105 rfl (by omega) (by omega) h
    · replace h := h.2 c
      refine r_iconst (pc := 68) (v := 0) dX12_means_68 (by decide) ?_
      refine r_istore (pc := 69) (L' := [some (.ref 177), none, none, some (.int y3), some (.int 0)]) dX12_means_69 rfl (by decide) rfl ?_
      refine n_L (L' := [some (.ref 177), none, none, some (.int y3), some (.int 0)]) (le_s (le_n (le_n (le_s (le_s (le_e)))))) ?_
      obtain ⟨n, h⟩ := h
      exact pX12_means_71  n _ _ _ _ h ih _ _ (by omega) (by omega)
def wpX12_means (g : Nat) (x1 : Int32) (s : gS) (Q : Int32 → gS → Prop) : Prop := wpX12_begin (wi s 177 5 0) (fun s1 => wpX12_isDay x1 s1 (fun r2 s2 => (¬ r2 = 0 → ∃ g3a g3b, g3a + g3b ≤ g ∧ wpX12_readPhrase g3a x1 (wi s2 177 14 0) (fun r3 s3 => (¬ r3 = 0 → wpX12_join s3 (fun s4 => wpX12_refusesHeap s4 (fun r5 s5 => (0 ≤ r5 → ∃ n60, wX12_means_60 x1 Q n60 g3b 0 (wi s5 177 4 0)) ∧ (¬ (0 ≤ r5) → Q r5 s5)))) ∧ (r3 = 0 → Q ((-1) - (gi s3 177 8)) s3))) ∧ (r2 = 0 → Q (-1) s2)))
set_option maxRecDepth 20000 in
theorem spX12_means {l : Launch} {g : Nat} {x1 : Int32}  {s : gS} {Q : Int32 → gS → Prop} (h : wpX12_means g x1 s Q) : Ct l mX12_means 104 (2 * g) (8 * g) [.ref 177, .int x1] (nrm s) (q_i Q) := by
  refine Ct.of (by decide) (Nat.le_of_ble_eq_true rfl) (fun X => ?_)
  refine n_L (L' := [some (.ref 177), some (.int x1), none, none, none]) (le_s (le_s (le_p (le_p (le_p (le_e)))))) ?_
  have hg1 : 0 + 2 * g ≤ 2 * g := by omega
  have hg2 : 0 + 8 * g ≤ 8 * g := by omega
  refine r_aload_n (pc := 0) (x := 177) dX12_means_0 rfl ?_
  refine r_iconst (pc := 1) (v := 0) dX12_means_1 (by decide) ?_
  refine n_putI (pc := 2) (j := 5) dX12_means_2 fl_RX12_55 fw_12_5 (by decide) sh_177 rfl rfl ?_
  refine r_aload_n (pc := 5) (x := 177) dX12_means_5 rfl ?_
  refine n_Vv0 (pc := 6) (S0 := []) (spX12_begin h) gmX12_begin selX12_begin lk_RX12_327 dX12_means_6 rfl (by decide) sh_177 ⟨rfl, by decide⟩ rfl ⟨Nat.le_of_ble_eq_true rfl, Nat.le_of_ble_eq_true rfl⟩ (Nat.le_of_ble_eq_true rfl) ⟨by show _ ≤ 2 * g; omega, by show _ ≤ 8 * g; omega⟩ (fun s1 h => ?_)
  refine r_iload_n (pc := 9) (x := x1) dX12_means_9 rfl ?_
  refine n_Si0 (pc := 10) (S0 := []) (spX12_isDay h) gmX12_isDay lk_RX12_83 dX12_means_10 rfl rfl ⟨Nat.le_of_ble_eq_true rfl, Nat.le_of_ble_eq_true rfl⟩ (Nat.le_of_ble_eq_true rfl) ⟨by show _ ≤ 2 * g; omega, by show _ ≤ 8 * g; omega⟩ (fun r2 s2 h => ?_)
  refine r_if_ne (pc := 13) (tgt := 18) dX12_means_13 (by decide) (fun c => ?_) (fun c => ?_)
  · replace h := h.1 c
    refine r_aload_n (pc := 18) (x := 177) dX12_means_18 rfl ?_
    refine r_iconst (pc := 19) (v := 0) dX12_means_19 (by decide) ?_
    refine n_putI (pc := 20) (j := 14) dX12_means_20 fl_RX12_188 fw_12_14 (by decide) sh_177 rfl rfl ?_
    refine r_aload_n (pc := 23) (x := 177) dX12_means_23 rfl ?_
    refine r_iload_n (pc := 24) (x := x1) dX12_means_24 rfl ?_
    obtain ⟨g3a, g3b, hg3, h⟩ := h
    refine n_Vi (pc := 25) (S0 := []) (spX12_readPhrase h) gmX12_readPhrase selX12_readPhrase lk_RX12_335 dX12_means_25 rfl (by decide) sh_177 ⟨rfl, by decide⟩ rfl ⟨Nat.le_of_ble_eq_true rfl, Nat.le_of_ble_eq_true rfl⟩ (Nat.le_of_ble_eq_true rfl) ⟨by show _ ≤ 2 * g; omega, by show _ ≤ 8 * g; omega⟩ (fun r3 s3 h => ?_)
    refine r_if_ne (pc := 28) (tgt := 38) dX12_means_28 (by decide) (fun c => ?_) (fun c => ?_)
    · replace h := h.1 c
      refine r_aload_n (pc := 38) (x := 177) dX12_means_38 rfl ?_
      refine n_Vv0 (pc := 39) (S0 := []) (spX12_join h) gmX12_join selX12_join lk_RX12_338 dX12_means_39 rfl (by decide) sh_177 ⟨rfl, by decide⟩ rfl ⟨Nat.le_of_ble_eq_true rfl, Nat.le_of_ble_eq_true rfl⟩ (Nat.le_of_ble_eq_true rfl) ⟨by show _ ≤ 2 * g; omega, by show _ ≤ 8 * g; omega⟩ (fun s4 h => ?_)
      refine r_aload_n (pc := 42) (x := 177) dX12_means_42 rfl ?_
      refine n_Vi0 (pc := 43) (S0 := []) (spX12_refusesHeap h) gmX12_refusesHeap selX12_refusesHeap lk_RX12_341 dX12_means_43 rfl (by decide) sh_177 ⟨rfl, by decide⟩ rfl ⟨Nat.le_of_ble_eq_true rfl, Nat.le_of_ble_eq_true rfl⟩ (Nat.le_of_ble_eq_true rfl) ⟨by show _ ≤ 2 * g; omega, by show _ ≤ 8 * g; omega⟩ (fun r5 s5 h => ?_)
      refine r_istore_n (pc := 46) (L' := [some (.ref 177), some (.int x1), some (.int r5), none, none]) dX12_means_46 rfl (by decide) rfl ?_
      refine r_iload_n (pc := 47) (x := r5) dX12_means_47 rfl ?_
      refine r_if_ge (pc := 48) (tgt := 53) dX12_means_48 (by decide) (fun c => ?_) (fun c => ?_)
      · replace h := h.1 c
        refine r_aload_n (pc := 53) (x := 177) dX12_means_53 rfl ?_
        refine r_iconst (pc := 54) (v := 0) dX12_means_54 (by decide) ?_
        refine n_putI (pc := 55) (j := 4) dX12_means_55 fl_RX12_59 fw_12_4 (by decide) sh_177 rfl rfl ?_
        refine r_iconst (pc := 58) (v := 0) dX12_means_58 (by decide) ?_
        refine r_istore_n (pc := 59) (L' := [some (.ref 177), some (.int x1), some (.int r5), some (.int 0), none]) dX12_means_59 rfl (by decide) rfl ?_
        refine n_L (L' := [some (.ref 177), none, none, some (.int 0), none]) (le_s (le_n (le_n (le_s (le_n (le_e)))))) ?_
        obtain ⟨n, h⟩ := h
        exact pX12_means_60  n _ _ _ h  _ _ (by omega) (by omega)
      · replace h := h.2 c
        refine r_iload_n (pc := 51) (x := r5) dX12_means_51 rfl ?_
        exact n_iret (pc := 52) dX12_means_52 rfl (by omega) (by omega) h
    · replace h := h.2 c
      refine r_iconst (pc := 31) (v := (-1)) dX12_means_31 (by decide) ?_
      refine r_aload_n (pc := 32) (x := 177) dX12_means_32 rfl ?_
      refine n_getI (pc := 33) (j := 8) dX12_means_33 fl_RX12_118 (by decide) sh_177 rfl rfl ?_
      refine r_isub (pc := 36) dX12_means_36 ?_
      exact n_iret (pc := 37) dX12_means_37 rfl (by omega) (by omega) h
  · replace h := h.2 c
    refine r_iconst (pc := 16) (v := (-1)) dX12_means_16 (by decide) ?_
    exact n_iret (pc := 17) dX12_means_17 rfl (by omega) (by omega) h
