def wpX5_clear (a0 : Nat) (s : gS) (Q : gS → Prop) : Prop := Q (wi (wi s a0 1 0) a0 2 0)
set_option maxRecDepth 20000 in
theorem spX5_clear {l : Launch} {a0 : Nat} (ha0 : isRd a0) {s : gS} {Q : gS → Prop} (h : wpX5_clear a0 s Q) : Ct l mX5_clear 1 0 0 [.ref a0] (nrm s) (q_v Q) := by
  refine Ct.of (by decide) (Nat.le_of_ble_eq_true rfl) (fun X => ?_)
  refine n_L (L' := [some (.ref a0)]) (le_s (le_e)) ?_
  refine r_aload_n (pc := 0) (x := a0) dX5_clear_0 rfl ?_
  refine r_iconst (pc := 1) (v := 0) dX5_clear_1 (by decide) ?_
  refine n_putI (pc := 2) (j := 1) dX5_clear_2 fl_RX5_15 fw_5_1 (lt_Rd ha0) (sh_Rd ha0) rfl rfl ?_
  refine r_aload_n (pc := 5) (x := a0) dX5_clear_5 rfl ?_
  refine r_iconst (pc := 6) (v := 0) dX5_clear_6 (by decide) ?_
  refine n_putZ (pc := 7) (j := 2) dX5_clear_7 fl_RX5_19 fw_5_2 (lt_Rd ha0) (sh_Rd ha0) rfl rfl (by decide) ?_
  exact n_vret (pc := 10) dX5_clear_10 rfl (Nat.le_refl _) (Nat.le_refl _) h
def wX5_add_33 (a0 : Nat) (x1 : Int32) (x2 : Int32) (x3 : Int32) (x4 : Int32) (Q : gS → Prop)   (s : gS) : Prop := Q (wi s a0 2 1)
set_option maxRecDepth 20000 in
theorem pX5_add_33 {l : Launch} {X : gX} {a0 : Nat} {x1 : Int32} {x2 : Int32} {x3 : Int32} {x4 : Int32} (ha0 : isRd a0) {Q : gS → Prop}   (s : gS) (h : wX5_add_33 a0 x1 x2 x3 x4 Q  s)  : Gw l mX5_add (g_rm 1 0 0) X 33 [some (.ref a0), none, none, none, none, none] [] (nrm s) 0 0 (g_Z X (q_v Q) 0 0) := by
  refine r_aload_n (pc := 33) (x := a0) dX5_add_33 rfl ?_
  refine r_iconst (pc := 34) (v := 1) dX5_add_34 (by decide) ?_
  refine n_putZ (pc := 35) (j := 2) dX5_add_35 fl_RX5_19 fw_5_2 (lt_Rd ha0) (sh_Rd ha0) rfl rfl (by decide) ?_
  exact n_vret (pc := 38) dX5_add_38 rfl (Nat.le_refl _) (Nat.le_refl _) h
def wpX5_add (a0 : Nat) (x1 : Int32) (x2 : Int32) (x3 : Int32) (x4 : Int32) (s : gS) (Q : gS → Prop) : Prop := (x1 < 0 → Q s) ∧ (¬ (x1 < 0) → (9999 < x2 → Q s) ∧ (¬ (9999 < x2) → (x1 ≤ x2 → ((gi s a0 1) < 0 → wX5_add_33 a0 x1 x2 x3 x4 Q s) ∧ (¬ ((gi s a0 1) < 0) → ((gi s a0 1) < 6 → vp_in (((gi s a0 1) * 4) + 0) 24 ∧ (vp_in (((gi s a0 1) * 4) + 1) 24 ∧ (vp_in (((gi s a0 1) * 4) + 2) 24 ∧ (vp_in (((gi s a0 1) * 4) + 3) 24 ∧ (Q (wi (wi (wi (wi (wi s (a0 + 1) (ix (((gi s a0 1) * 4) + 0)) x1) (a0 + 1) (ix (((gi s a0 1) * 4) + 1)) x2) (a0 + 1) (ix (((gi s a0 1) * 4) + 2)) x3) (a0 + 1) (ix (((gi s a0 1) * 4) + 3)) x4) a0 1 ((gi (wi (wi (wi (wi s (a0 + 1) (ix (((gi s a0 1) * 4) + 0)) x1) (a0 + 1) (ix (((gi s a0 1) * 4) + 1)) x2) (a0 + 1) (ix (((gi s a0 1) * 4) + 2)) x3) (a0 + 1) (ix (((gi s a0 1) * 4) + 3)) x4) a0 1) + 1))))))) ∧ (¬ ((gi s a0 1) < 6) → wX5_add_33 a0 x1 x2 x3 x4 Q s))) ∧ (¬ (x1 ≤ x2) → Q s)))
set_option maxRecDepth 20000 in
theorem spX5_add {l : Launch} {a0 : Nat} {x1 : Int32} {x2 : Int32} {x3 : Int32} {x4 : Int32} (ha0 : isRd a0) {s : gS} {Q : gS → Prop} (h : wpX5_add a0 x1 x2 x3 x4 s Q) : Ct l mX5_add 1 0 0 [.ref a0, .int x1, .int x2, .int x3, .int x4] (nrm s) (q_v Q) := by
  refine Ct.of (by decide) (Nat.le_of_ble_eq_true rfl) (fun X => ?_)
  refine n_L (L' := [some (.ref a0), some (.int x1), some (.int x2), some (.int x3), some (.int x4), none]) (le_s (le_s (le_s (le_s (le_s (le_p (le_e))))))) ?_
  refine r_iload_n (pc := 0) (x := x1) dX5_add_0 rfl ?_
  refine r_if_lt (pc := 1) (tgt := 16) dX5_add_1 (by decide) (fun c => ?_) (fun c => ?_)
  · replace h := h.1 c
    exact n_vret (pc := 16) dX5_add_16 rfl (Nat.le_refl _) (Nat.le_refl _) h
  · replace h := h.2 c
    refine r_iload_n (pc := 4) (x := x2) dX5_add_4 rfl ?_
    refine r_sipush (pc := 5) (v := 9999) dX5_add_5 (by decide) ?_
    refine r_icmp_gt (pc := 8) (tgt := 16) dX5_add_8 (by decide) (fun c => ?_) (fun c => ?_)
    · replace h := h.1 c
      exact n_vret (pc := 16) dX5_add_16 rfl (Nat.le_refl _) (Nat.le_refl _) h
    · replace h := h.2 c
      refine r_iload_n (pc := 11) (x := x1) dX5_add_11 rfl ?_
      refine r_iload_n (pc := 12) (x := x2) dX5_add_12 rfl ?_
      refine r_icmp_le (pc := 13) (tgt := 17) dX5_add_13 (by decide) (fun c => ?_) (fun c => ?_)
      · replace h := h.1 c
        refine r_aload_n (pc := 17) (x := a0) dX5_add_17 rfl ?_
        refine n_getI (pc := 18) (j := 1) dX5_add_18 fl_RX5_15 (lt_Rd ha0) (sh_Rd ha0) rfl rfl ?_
        refine r_if_lt (pc := 21) (tgt := 33) dX5_add_21 (by decide) (fun c => ?_) (fun c => ?_)
        · replace h := h.1 c
          refine n_L (L' := [some (.ref a0), none, none, none, none, none]) (le_s (le_n (le_n (le_n (le_n (le_n (le_e))))))) ?_
          exact pX5_add_33 ha0  _ h 
        · replace h := h.2 c
          refine r_aload_n (pc := 24) (x := a0) dX5_add_24 rfl ?_
          refine n_getI (pc := 25) (j := 1) dX5_add_25 fl_RX5_15 (lt_Rd ha0) (sh_Rd ha0) rfl rfl ?_
          refine r_bipush (pc := 28) (v := 6) dX5_add_28 (by decide) ?_
          refine r_icmp_lt (pc := 30) (tgt := 39) dX5_add_30 (by decide) (fun c => ?_) (fun c => ?_)
          · replace h := h.1 c
            refine r_aload_n (pc := 39) (x := a0) dX5_add_39 rfl ?_
            refine n_getI (pc := 40) (j := 1) dX5_add_40 fl_RX5_15 (lt_Rd ha0) (sh_Rd ha0) rfl rfl ?_
            refine r_iconst (pc := 43) (v := 4) dX5_add_43 (by decide) ?_
            refine r_imul (pc := 44) dX5_add_44 ?_
            refine r_istore (pc := 45) (L' := [some (.ref a0), some (.int x1), some (.int x2), some (.int x3), some (.int x4), some (.int ((gi s a0 1) * 4))]) dX5_add_45 rfl (by decide) rfl ?_
            refine r_aload_n (pc := 47) (x := a0) dX5_add_47 rfl ?_
            refine n_getR (pc := 48) (j := 0) (q := (a0 + 1)) dX5_add_48 fl_RX5_9 (lt_Rd ha0) (sh_Rd ha0) rfl rfl (rf_Rd_0 ha0) ?_
            refine r_iload (pc := 51) (x := (gi s a0 1) * 4) dX5_add_51 rfl ?_
            refine r_iconst (pc := 53) (v := 0) dX5_add_53 (by decide) ?_
            refine r_iadd (pc := 54) dX5_add_54 ?_
            refine r_iload_n (pc := 55) (x := x1) dX5_add_55 rfl ?_
            obtain ⟨b1, h⟩ := h
            refine n_iast (pc := 56) (j := (ix (((gi s a0 1) * 4) + 0))) dX5_add_56 (lt_Rd_1 ha0) (sh_Rd_1 ha0) b1 rfl ?_
            refine r_aload_n (pc := 57) (x := a0) dX5_add_57 rfl ?_
            refine n_getR (pc := 58) (j := 0) (q := (a0 + 1)) dX5_add_58 fl_RX5_9 (lt_Rd ha0) (sh_Rd ha0) rfl rfl (rf_Rd_0 ha0) ?_
            refine r_iload (pc := 61) (x := (gi s a0 1) * 4) dX5_add_61 rfl ?_
            refine r_iconst (pc := 63) (v := 1) dX5_add_63 (by decide) ?_
            refine r_iadd (pc := 64) dX5_add_64 ?_
            refine r_iload_n (pc := 65) (x := x2) dX5_add_65 rfl ?_
            obtain ⟨b2, h⟩ := h
            refine n_iast (pc := 66) (j := (ix (((gi s a0 1) * 4) + 1))) dX5_add_66 (lt_Rd_1 ha0) (sh_Rd_1 ha0) b2 rfl ?_
            refine r_aload_n (pc := 67) (x := a0) dX5_add_67 rfl ?_
            refine n_getR (pc := 68) (j := 0) (q := (a0 + 1)) dX5_add_68 fl_RX5_9 (lt_Rd ha0) (sh_Rd ha0) rfl rfl (rf_Rd_0 ha0) ?_
            refine r_iload (pc := 71) (x := (gi s a0 1) * 4) dX5_add_71 rfl ?_
            refine r_iconst (pc := 73) (v := 2) dX5_add_73 (by decide) ?_
            refine r_iadd (pc := 74) dX5_add_74 ?_
            refine r_iload_n (pc := 75) (x := x3) dX5_add_75 rfl ?_
            obtain ⟨b3, h⟩ := h
            refine n_iast (pc := 76) (j := (ix (((gi s a0 1) * 4) + 2))) dX5_add_76 (lt_Rd_1 ha0) (sh_Rd_1 ha0) b3 rfl ?_
            refine r_aload_n (pc := 77) (x := a0) dX5_add_77 rfl ?_
            refine n_getR (pc := 78) (j := 0) (q := (a0 + 1)) dX5_add_78 fl_RX5_9 (lt_Rd ha0) (sh_Rd ha0) rfl rfl (rf_Rd_0 ha0) ?_
            refine r_iload (pc := 81) (x := (gi s a0 1) * 4) dX5_add_81 rfl ?_
            refine r_iconst (pc := 83) (v := 3) dX5_add_83 (by decide) ?_
            refine r_iadd (pc := 84) dX5_add_84 ?_
            refine r_iload (pc := 85) (x := x4) dX5_add_85 rfl ?_
            obtain ⟨b4, h⟩ := h
            refine n_iast (pc := 87) (j := (ix (((gi s a0 1) * 4) + 3))) dX5_add_87 (lt_Rd_1 ha0) (sh_Rd_1 ha0) b4 rfl ?_
            refine r_aload_n (pc := 88) (x := a0) dX5_add_88 rfl ?_
            refine r_dup (pc := 89) dX5_add_89 rfl ?_
            refine n_getI (pc := 90) (j := 1) dX5_add_90 fl_RX5_15 (lt_Rd ha0) (sh_Rd ha0) rfl rfl ?_
            refine r_iconst (pc := 93) (v := 1) dX5_add_93 (by decide) ?_
            refine r_iadd (pc := 94) dX5_add_94 ?_
            refine n_putI (pc := 95) (j := 1) dX5_add_95 fl_RX5_15 fw_5_1 (lt_Rd ha0) (sh_Rd ha0) rfl rfl ?_
            exact n_vret (pc := 98) dX5_add_98 rfl (Nat.le_refl _) (Nat.le_refl _) h
          · replace h := h.2 c
            refine n_L (L' := [some (.ref a0), none, none, none, none, none]) (le_s (le_n (le_n (le_n (le_n (le_n (le_e))))))) ?_
            exact pX5_add_33 ha0  _ h 
      · replace h := h.2 c
        exact n_vret (pc := 16) dX5_add_16 rfl (Nat.le_refl _) (Nat.le_refl _) h
def wpX5_addMonths (a0 : Nat) (x1 : Int32) (x2 : Int32) (x3 : Int32) (x4 : Int32) (s : gS) (Q : gS → Prop) : Prop := (x1 < 0 → Q s) ∧ (¬ (x1 < 0) → (336 < (x1 + x2) → Q s) ∧ (¬ (336 < (x1 + x2)) → wpX0_monthStart x1 s (fun r1 s1 => wpX0_monthStart (x1 + x2) s1 (fun r2 s2 => wpX5_add a0 r1 (r2 - 1) x3 x4 s2 (fun s3 => Q s3)))))
set_option maxRecDepth 20000 in
theorem spX5_addMonths {l : Launch} {a0 : Nat} {x1 : Int32} {x2 : Int32} {x3 : Int32} {x4 : Int32} (ha0 : isRd a0) {s : gS} {Q : gS → Prop} (h : wpX5_addMonths a0 x1 x2 x3 x4 s Q) : Ct l mX5_addMonths 2 0 0 [.ref a0, .int x1, .int x2, .int x3, .int x4] (nrm s) (q_v Q) := by
  refine Ct.of (by decide) (Nat.le_of_ble_eq_true rfl) (fun X => ?_)
  refine n_L (L' := [some (.ref a0), some (.int x1), some (.int x2), some (.int x3), some (.int x4)]) (le_s (le_s (le_s (le_s (le_s (le_e)))))) ?_
  refine r_iload_n (pc := 0) (x := x1) dX5_addMonths_0 rfl ?_
  refine r_if_lt (pc := 1) (tgt := 32) dX5_addMonths_1 (by decide) (fun c => ?_) (fun c => ?_)
  · replace h := h.1 c
    exact n_vret (pc := 32) dX5_addMonths_32 rfl (Nat.le_refl _) (Nat.le_refl _) h
  · replace h := h.2 c
    refine r_iload_n (pc := 4) (x := x1) dX5_addMonths_4 rfl ?_
    refine r_iload_n (pc := 5) (x := x2) dX5_addMonths_5 rfl ?_
    refine r_iadd (pc := 6) dX5_addMonths_6 ?_
    refine r_sipush (pc := 7) (v := 336) dX5_addMonths_7 (by decide) ?_
    refine r_icmp_gt (pc := 10) (tgt := 32) dX5_addMonths_10 (by decide) (fun c => ?_) (fun c => ?_)
    · replace h := h.1 c
      exact n_vret (pc := 32) dX5_addMonths_32 rfl (Nat.le_refl _) (Nat.le_refl _) h
    · replace h := h.2 c
      refine r_aload_n (pc := 13) (x := a0) dX5_addMonths_13 rfl ?_
      refine r_iload_n (pc := 14) (x := x1) dX5_addMonths_14 rfl ?_
      refine n_Si0 (pc := 15) (S0 := [.ref a0]) (spX0_monthStart h) gmX0_monthStart lk_RX5_36 dX5_addMonths_15 rfl rfl ⟨Nat.le_of_ble_eq_true rfl, Nat.le_of_ble_eq_true rfl⟩ (Nat.le_of_ble_eq_true rfl) ⟨Nat.zero_le _, Nat.zero_le _⟩ (fun r1 s1 h => ?_)
      refine r_iload_n (pc := 18) (x := x1) dX5_addMonths_18 rfl ?_
      refine r_iload_n (pc := 19) (x := x2) dX5_addMonths_19 rfl ?_
      refine r_iadd (pc := 20) dX5_addMonths_20 ?_
      refine n_Si0 (pc := 21) (S0 := [.int r1, .ref a0]) (spX0_monthStart h) gmX0_monthStart lk_RX5_36 dX5_addMonths_21 rfl rfl ⟨Nat.le_of_ble_eq_true rfl, Nat.le_of_ble_eq_true rfl⟩ (Nat.le_of_ble_eq_true rfl) ⟨Nat.zero_le _, Nat.zero_le _⟩ (fun r2 s2 h => ?_)
      refine r_iconst (pc := 24) (v := 1) dX5_addMonths_24 (by decide) ?_
      refine r_isub (pc := 25) dX5_addMonths_25 ?_
      refine r_iload_n (pc := 26) (x := x3) dX5_addMonths_26 rfl ?_
      refine r_iload (pc := 27) (x := x4) dX5_addMonths_27 rfl ?_
      refine n_Vv0 (pc := 29) (S0 := []) (spX5_add ha0 h) gmX5_add selX5_add lk_RX5_32 dX5_addMonths_29 rfl (lt_Rd ha0) (sh_Rd ha0) ⟨rfl, by decide⟩ rfl ⟨Nat.le_of_ble_eq_true rfl, Nat.le_of_ble_eq_true rfl⟩ (Nat.le_of_ble_eq_true rfl) ⟨Nat.zero_le _, Nat.zero_le _⟩ (fun s3 h => ?_)
      exact n_vret (pc := 32) dX5_addMonths_32 rfl (Nat.le_refl _) (Nat.le_refl _) h
def wpX5_addUnit (a0 : Nat) (x1 : Int32) (x2 : Int32) (x3 : Int32) (x4 : Int32) (s : gS) (Q : gS → Prop) : Prop := (¬ x1 = 0 → (¬ x1 = 1 → (¬ x1 = 2 → wpX0_yearOf x2 s (fun r1 s1 => wpX5_addMonths a0 ((r1 + x3) * 12) 12 3 x4 s1 (fun s2 => Q s2))) ∧ (x1 = 2 → wpX0_monthOf x2 s (fun r3 s3 => wpX5_addMonths a0 (r3 + x3) 1 2 x4 s3 (fun s4 => Q s4)))) ∧ (x1 = 1 → wpX0_monday x2 s (fun r5 s5 => wpX5_add a0 (r5 + (7 * x3)) ((r5 + (7 * x3)) + 6) 1 x4 s5 (fun s6 => Q s6)))) ∧ (x1 = 0 → wpX5_add a0 (x2 + x3) (x2 + x3) 0 x4 s (fun s7 => Q s7))
set_option maxRecDepth 20000 in
theorem spX5_addUnit {l : Launch} {a0 : Nat} {x1 : Int32} {x2 : Int32} {x3 : Int32} {x4 : Int32} (ha0 : isRd a0) {s : gS} {Q : gS → Prop} (h : wpX5_addUnit a0 x1 x2 x3 x4 s Q) : Ct l mX5_addUnit 3 0 0 [.ref a0, .int x1, .int x2, .int x3, .int x4] (nrm s) (q_v Q) := by
  refine Ct.of (by decide) (Nat.le_of_ble_eq_true rfl) (fun X => ?_)
  refine n_L (L' := [some (.ref a0), some (.int x1), some (.int x2), some (.int x3), some (.int x4), none]) (le_s (le_s (le_s (le_s (le_s (le_p (le_e))))))) ?_
  refine r_iload_n (pc := 0) (x := x1) dX5_addUnit_0 rfl ?_
  refine r_if_ne (pc := 1) (tgt := 20) dX5_addUnit_1 (by decide) (fun c => ?_) (fun c => ?_)
  · replace h := h.1 c
    refine r_iload_n (pc := 20) (x := x1) dX5_addUnit_20 rfl ?_
    refine r_iconst (pc := 21) (v := 1) dX5_addUnit_21 (by decide) ?_
    refine r_icmp_ne (pc := 22) (tgt := 53) dX5_addUnit_22 (by decide) (fun c => ?_) (fun c => ?_)
    · replace h := h.1 c
      refine r_iload_n (pc := 53) (x := x1) dX5_addUnit_53 rfl ?_
      refine r_iconst (pc := 54) (v := 2) dX5_addUnit_54 (by decide) ?_
      refine r_icmp_ne (pc := 55) (tgt := 75) dX5_addUnit_55 (by decide) (fun c => ?_) (fun c => ?_)
      · replace h := h.1 c
        refine r_aload_n (pc := 75) (x := a0) dX5_addUnit_75 rfl ?_
        refine r_iload_n (pc := 76) (x := x2) dX5_addUnit_76 rfl ?_
        refine n_Si0 (pc := 77) (S0 := [.ref a0]) (spX0_yearOf h) gmX0_yearOf lk_RX5_51 dX5_addUnit_77 rfl rfl ⟨Nat.le_of_ble_eq_true rfl, Nat.le_of_ble_eq_true rfl⟩ (Nat.le_of_ble_eq_true rfl) ⟨Nat.zero_le _, Nat.zero_le _⟩ (fun r1 s1 h => ?_)
        refine r_iload_n (pc := 80) (x := x3) dX5_addUnit_80 rfl ?_
        refine r_iadd (pc := 81) dX5_addUnit_81 ?_
        refine r_bipush (pc := 82) (v := 12) dX5_addUnit_82 (by decide) ?_
        refine r_imul (pc := 84) dX5_addUnit_84 ?_
        refine r_bipush (pc := 85) (v := 12) dX5_addUnit_85 (by decide) ?_
        refine r_iconst (pc := 87) (v := 3) dX5_addUnit_87 (by decide) ?_
        refine r_iload (pc := 88) (x := x4) dX5_addUnit_88 rfl ?_
        refine n_Vv0 (pc := 90) (S0 := []) (spX5_addMonths ha0 h) gmX5_addMonths selX5_addMonths lk_RX5_48 dX5_addUnit_90 rfl (lt_Rd ha0) (sh_Rd ha0) ⟨rfl, by decide⟩ rfl ⟨Nat.le_of_ble_eq_true rfl, Nat.le_of_ble_eq_true rfl⟩ (Nat.le_of_ble_eq_true rfl) ⟨Nat.zero_le _, Nat.zero_le _⟩ (fun s2 h => ?_)
        exact n_vret (pc := 93) dX5_addUnit_93 rfl (Nat.le_refl _) (Nat.le_refl _) h
      · replace h := h.2 c
        refine r_aload_n (pc := 58) (x := a0) dX5_addUnit_58 rfl ?_
        refine r_iload_n (pc := 59) (x := x2) dX5_addUnit_59 rfl ?_
        refine n_Si0 (pc := 60) (S0 := [.ref a0]) (spX0_monthOf h) gmX0_monthOf lk_RX5_45 dX5_addUnit_60 rfl rfl ⟨Nat.le_of_ble_eq_true rfl, Nat.le_of_ble_eq_true rfl⟩ (Nat.le_of_ble_eq_true rfl) ⟨Nat.zero_le _, Nat.zero_le _⟩ (fun r3 s3 h => ?_)
        refine r_iload_n (pc := 63) (x := x3) dX5_addUnit_63 rfl ?_
        refine r_iadd (pc := 64) dX5_addUnit_64 ?_
        refine r_iconst (pc := 65) (v := 1) dX5_addUnit_65 (by decide) ?_
        refine r_iconst (pc := 66) (v := 2) dX5_addUnit_66 (by decide) ?_
        refine r_iload (pc := 67) (x := x4) dX5_addUnit_67 rfl ?_
        refine n_Vv0 (pc := 69) (S0 := []) (spX5_addMonths ha0 h) gmX5_addMonths selX5_addMonths lk_RX5_48 dX5_addUnit_69 rfl (lt_Rd ha0) (sh_Rd ha0) ⟨rfl, by decide⟩ rfl ⟨Nat.le_of_ble_eq_true rfl, Nat.le_of_ble_eq_true rfl⟩ (Nat.le_of_ble_eq_true rfl) ⟨Nat.zero_le _, Nat.zero_le _⟩ (fun s4 h => ?_)
        refine r_goto (pc := 72) (tgt := 93) dX5_addUnit_72 (by decide) ?_
        exact n_vret (pc := 93) dX5_addUnit_93 rfl (Nat.le_refl _) (Nat.le_refl _) h
    · replace h := h.2 c
      refine r_iload_n (pc := 25) (x := x2) dX5_addUnit_25 rfl ?_
      refine n_Si0 (pc := 26) (S0 := []) (spX0_monday h) gmX0_monday lk_RX5_42 dX5_addUnit_26 rfl rfl ⟨Nat.le_of_ble_eq_true rfl, Nat.le_of_ble_eq_true rfl⟩ (Nat.le_of_ble_eq_true rfl) ⟨Nat.zero_le _, Nat.zero_le _⟩ (fun r5 s5 h => ?_)
      refine r_bipush (pc := 29) (v := 7) dX5_addUnit_29 (by decide) ?_
      refine r_iload_n (pc := 31) (x := x3) dX5_addUnit_31 rfl ?_
      refine r_imul (pc := 32) dX5_addUnit_32 ?_
      refine r_iadd (pc := 33) dX5_addUnit_33 ?_
      refine r_istore (pc := 34) (L' := [some (.ref a0), some (.int x1), some (.int x2), some (.int x3), some (.int x4), some (.int (r5 + (7 * x3)))]) dX5_addUnit_34 rfl (by decide) rfl ?_
      refine r_aload_n (pc := 36) (x := a0) dX5_addUnit_36 rfl ?_
      refine r_iload (pc := 37) (x := r5 + (7 * x3)) dX5_addUnit_37 rfl ?_
      refine r_iload (pc := 39) (x := r5 + (7 * x3)) dX5_addUnit_39 rfl ?_
      refine r_bipush (pc := 41) (v := 6) dX5_addUnit_41 (by decide) ?_
      refine r_iadd (pc := 43) dX5_addUnit_43 ?_
      refine r_iconst (pc := 44) (v := 1) dX5_addUnit_44 (by decide) ?_
      refine r_iload (pc := 45) (x := x4) dX5_addUnit_45 rfl ?_
      refine n_Vv0 (pc := 47) (S0 := []) (spX5_add ha0 h) gmX5_add selX5_add lk_RX5_32 dX5_addUnit_47 rfl (lt_Rd ha0) (sh_Rd ha0) ⟨rfl, by decide⟩ rfl ⟨Nat.le_of_ble_eq_true rfl, Nat.le_of_ble_eq_true rfl⟩ (Nat.le_of_ble_eq_true rfl) ⟨Nat.zero_le _, Nat.zero_le _⟩ (fun s6 h => ?_)
      refine r_goto (pc := 50) (tgt := 93) dX5_addUnit_50 (by decide) ?_
      exact n_vret (pc := 93) dX5_addUnit_93 rfl (Nat.le_refl _) (Nat.le_refl _) h
  · replace h := h.2 c
    refine r_aload_n (pc := 4) (x := a0) dX5_addUnit_4 rfl ?_
    refine r_iload_n (pc := 5) (x := x2) dX5_addUnit_5 rfl ?_
    refine r_iload_n (pc := 6) (x := x3) dX5_addUnit_6 rfl ?_
    refine r_iadd (pc := 7) dX5_addUnit_7 ?_
    refine r_iload_n (pc := 8) (x := x2) dX5_addUnit_8 rfl ?_
    refine r_iload_n (pc := 9) (x := x3) dX5_addUnit_9 rfl ?_
    refine r_iadd (pc := 10) dX5_addUnit_10 ?_
    refine r_iconst (pc := 11) (v := 0) dX5_addUnit_11 (by decide) ?_
    refine r_iload (pc := 12) (x := x4) dX5_addUnit_12 rfl ?_
    refine n_Vv0 (pc := 14) (S0 := []) (spX5_add ha0 h) gmX5_add selX5_add lk_RX5_32 dX5_addUnit_14 rfl (lt_Rd ha0) (sh_Rd ha0) ⟨rfl, by decide⟩ rfl ⟨Nat.le_of_ble_eq_true rfl, Nat.le_of_ble_eq_true rfl⟩ (Nat.le_of_ble_eq_true rfl) ⟨Nat.zero_le _, Nat.zero_le _⟩ (fun s7 h => ?_)
    refine r_goto (pc := 17) (tgt := 93) dX5_addUnit_17 (by decide) ?_
    exact n_vret (pc := 93) dX5_addUnit_93 rfl (Nat.le_refl _) (Nat.le_refl _) h
def wpX5_value (a0 : Nat) (x1 : Int32) (x2 : Int32) (s : gS) (Q : Int32 → gS → Prop) : Prop := (x1 < 0 → Q 0 s) ∧ (¬ (x1 < 0) → (6 ≤ x1 → Q 0 s) ∧ (¬ (6 ≤ x1) → (x2 < 0 → Q 0 s) ∧ (¬ (x2 < 0) → (4 ≤ x2 → Q 0 s) ∧ (¬ (4 ≤ x2) → vp_in ((x1 * 4) + x2) 24 ∧ (Q (gi s (a0 + 1) (ix ((x1 * 4) + x2))) s)))))
set_option maxRecDepth 20000 in
theorem spX5_value {l : Launch} {a0 : Nat} {x1 : Int32} {x2 : Int32} (ha0 : isRd a0) {s : gS} {Q : Int32 → gS → Prop} (h : wpX5_value a0 x1 x2 s Q) : Ct l mX5_value 1 0 0 [.ref a0, .int x1, .int x2] (nrm s) (q_i Q) := by
  refine Ct.of (by decide) (Nat.le_of_ble_eq_true rfl) (fun X => ?_)
  refine n_L (L' := [some (.ref a0), some (.int x1), some (.int x2)]) (le_s (le_s (le_s (le_e)))) ?_
  refine r_iload_n (pc := 0) (x := x1) dX5_value_0 rfl ?_
  refine r_if_lt (pc := 1) (tgt := 32) dX5_value_1 (by decide) (fun c => ?_) (fun c => ?_)
  · replace h := h.1 c
    refine r_iconst (pc := 32) (v := 0) dX5_value_32 (by decide) ?_
    exact n_iret (pc := 33) dX5_value_33 rfl (Nat.le_refl _) (Nat.le_refl _) h
  · replace h := h.2 c
    refine r_iload_n (pc := 4) (x := x1) dX5_value_4 rfl ?_
    refine r_bipush (pc := 5) (v := 6) dX5_value_5 (by decide) ?_
    refine r_icmp_ge (pc := 7) (tgt := 32) dX5_value_7 (by decide) (fun c => ?_) (fun c => ?_)
    · replace h := h.1 c
      refine r_iconst (pc := 32) (v := 0) dX5_value_32 (by decide) ?_
      exact n_iret (pc := 33) dX5_value_33 rfl (Nat.le_refl _) (Nat.le_refl _) h
    · replace h := h.2 c
      refine r_iload_n (pc := 10) (x := x2) dX5_value_10 rfl ?_
      refine r_if_lt (pc := 11) (tgt := 32) dX5_value_11 (by decide) (fun c => ?_) (fun c => ?_)
      · replace h := h.1 c
        refine r_iconst (pc := 32) (v := 0) dX5_value_32 (by decide) ?_
        exact n_iret (pc := 33) dX5_value_33 rfl (Nat.le_refl _) (Nat.le_refl _) h
      · replace h := h.2 c
        refine r_iload_n (pc := 14) (x := x2) dX5_value_14 rfl ?_
        refine r_iconst (pc := 15) (v := 4) dX5_value_15 (by decide) ?_
        refine r_icmp_ge (pc := 16) (tgt := 32) dX5_value_16 (by decide) (fun c => ?_) (fun c => ?_)
        · replace h := h.1 c
          refine r_iconst (pc := 32) (v := 0) dX5_value_32 (by decide) ?_
          exact n_iret (pc := 33) dX5_value_33 rfl (Nat.le_refl _) (Nat.le_refl _) h
        · replace h := h.2 c
          refine r_aload_n (pc := 19) (x := a0) dX5_value_19 rfl ?_
          refine n_getR (pc := 20) (j := 0) (q := (a0 + 1)) dX5_value_20 fl_RX5_9 (lt_Rd ha0) (sh_Rd ha0) rfl rfl (rf_Rd_0 ha0) ?_
          refine r_iload_n (pc := 23) (x := x1) dX5_value_23 rfl ?_
          refine r_iconst (pc := 24) (v := 4) dX5_value_24 (by decide) ?_
          refine r_imul (pc := 25) dX5_value_25 ?_
          refine r_iload_n (pc := 26) (x := x2) dX5_value_26 rfl ?_
          refine r_iadd (pc := 27) dX5_value_27 ?_
          obtain ⟨b1, h⟩ := h
          refine n_iald (pc := 28) (j := (ix ((x1 * 4) + x2))) dX5_value_28 (lt_Rd_1 ha0) (sh_Rd_1 ha0) b1 rfl ?_
          refine r_goto (pc := 29) (tgt := 33) dX5_value_29 (by decide) ?_
          exact n_iret (pc := 33) dX5_value_33 rfl (Nat.le_refl _) (Nat.le_refl _) h
def wX5_merge_103 (a0 : Nat) (x1 : Int32) (x2 : Int32) (x3 : Int32) (x4 : Int32) (Q : gS → Prop)   (s : gS) : Prop := wpX5_add a0 x1 x2 x3 x4 s (fun s7 => Q s7)
set_option maxRecDepth 20000 in
theorem pX5_merge_103 {l : Launch} {X : gX} {a0 : Nat} {x1 : Int32} {x2 : Int32} {x3 : Int32} {x4 : Int32} (ha0 : isRd a0) {Q : gS → Prop}   (s : gS) (h : wX5_merge_103 a0 x1 x2 x3 x4 Q  s)  : Gw l mX5_merge (g_rm 2 0 0) X 103 [some (.ref a0), some (.int x1), some (.int x2), some (.int x3), some (.int x4), none, none] [] (nrm s) 0 0 (g_Z X (q_v Q) 0 0) := by
  refine r_aload_n (pc := 103) (x := a0) dX5_merge_103 rfl ?_
  refine r_iload_n (pc := 104) (x := x1) dX5_merge_104 rfl ?_
  refine r_iload_n (pc := 105) (x := x2) dX5_merge_105 rfl ?_
  refine r_iload_n (pc := 106) (x := x3) dX5_merge_106 rfl ?_
  refine r_iload (pc := 107) (x := x4) dX5_merge_107 rfl ?_
  refine n_Vv0 (pc := 109) (S0 := []) (spX5_add ha0 h) gmX5_add selX5_add lk_RX5_32 dX5_merge_109 rfl (lt_Rd ha0) (sh_Rd ha0) ⟨rfl, by decide⟩ rfl ⟨Nat.le_of_ble_eq_true rfl, Nat.le_of_ble_eq_true rfl⟩ (Nat.le_of_ble_eq_true rfl) ⟨Nat.zero_le _, Nat.zero_le _⟩ (fun s7 h => ?_)
  exact n_vret (pc := 112) dX5_merge_112 rfl (Nat.le_refl _) (Nat.le_refl _) h
def wX5_merge_3 (a0 : Nat) (x1 : Int32) (x2 : Int32) (x3 : Int32) (x4 : Int32) (Q : gS → Prop)  : Nat → Int32 → gS → Prop
  | 0, _, _ => False
  | n + 1, y5, s => ((gi s a0 1) ≤ y5 → wX5_merge_103 a0 x1 x2 x3 x4 Q s) ∧ (¬ ((gi s a0 1) ≤ y5) → (6 ≤ y5 → wX5_merge_103 a0 x1 x2 x3 x4 Q s) ∧ (¬ (6 ≤ y5) → vp_in ((y5 * 4) + 0) 24 ∧ ((¬ (gi s (a0 + 1) (ix ((y5 * 4) + 0))) = x1 → wX5_merge_3 a0 x1 x2 x3 x4 Q n (y5 + 1) s) ∧ ((gi s (a0 + 1) (ix ((y5 * 4) + 0))) = x1 → vp_in ((y5 * 4) + 1) 24 ∧ ((¬ (gi s (a0 + 1) (ix ((y5 * 4) + 1))) = x2 → wX5_merge_3 a0 x1 x2 x3 x4 Q n (y5 + 1) s) ∧ ((gi s (a0 + 1) (ix ((y5 * 4) + 1))) = x2 → vp_in ((y5 * 4) + 2) 24 ∧ (vp_in ((y5 * 4) + 2) 24 ∧ (vp_in ((y5 * 4) + 3) 24 ∧ (vp_in ((y5 * 4) + 3) 24 ∧ (Q (wi (wi s (a0 + 1) (ix ((y5 * 4) + 2)) (jmin (gi s (a0 + 1) (ix ((y5 * 4) + 2))) x3)) (a0 + 1) (ix ((y5 * 4) + 3)) (jmax (gi (wi s (a0 + 1) (ix ((y5 * 4) + 2)) (jmin (gi s (a0 + 1) (ix ((y5 * 4) + 2))) x3)) (a0 + 1) (ix ((y5 * 4) + 3))) x4))))))))))))
set_option maxRecDepth 20000 in
theorem pX5_merge_3 {l : Launch} {X : gX} {a0 : Nat} {x1 : Int32} {x2 : Int32} {x3 : Int32} {x4 : Int32} (ha0 : isRd a0) {Q : gS → Prop}  : ∀ (n : Nat) (y5 : Int32) (s : gS) (h : wX5_merge_3 a0 x1 x2 x3 x4 Q n y5 s) , Gw l mX5_merge (g_rm 2 0 0) X 3 [some (.ref a0), some (.int x1), some (.int x2), some (.int x3), some (.int x4), some (.int y5), none] [] (nrm s) 0 0 (g_Z X (q_v Q) 0 0) := by
  intro n
  induction n with
  | zero => intro y5 s h; exact h.elim
  | succ n ih0 =>
    intro y5 s h 
    have ih : ∀ (y5 : Int32) (s : gS), wX5_merge_3 a0 x1 x2 x3 x4 Q n y5 s → Gw l mX5_merge (g_rm 2 0 0) X 3 [some (.ref a0), some (.int x1), some (.int x2), some (.int x3), some (.int x4), some (.int y5), none] [] (nrm s) 0 0 (g_Z X (q_v Q) 0 0) := fun y5 s h => ih0 y5 s h 
    refine r_iload (pc := 3) (x := y5) dX5_merge_3 rfl ?_
    refine r_aload_n (pc := 5) (x := a0) dX5_merge_5 rfl ?_
    refine n_getI (pc := 6) (j := 1) dX5_merge_6 fl_RX5_15 (lt_Rd ha0) (sh_Rd ha0) rfl rfl ?_
    refine r_icmp_ge (pc := 9) (tgt := 103) dX5_merge_9 (by decide) (fun c => ?_) (fun c => ?_)
    · replace h := h.1 c
      refine n_L (L' := [some (.ref a0), some (.int x1), some (.int x2), some (.int x3), some (.int x4), none, none]) (le_s (le_s (le_s (le_s (le_s (le_n (le_n (le_e)))))))) ?_
      exact pX5_merge_103 ha0  _ h 
    · replace h := h.2 c
      refine r_iload (pc := 12) (x := y5) dX5_merge_12 rfl ?_
      refine r_bipush (pc := 14) (v := 6) dX5_merge_14 (by decide) ?_
      refine r_icmp_ge (pc := 16) (tgt := 103) dX5_merge_16 (by decide) (fun c => ?_) (fun c => ?_)
      · replace h := h.1 c
        refine n_L (L' := [some (.ref a0), some (.int x1), some (.int x2), some (.int x3), some (.int x4), none, none]) (le_s (le_s (le_s (le_s (le_s (le_n (le_n (le_e)))))))) ?_
        exact pX5_merge_103 ha0  _ h 
      · replace h := h.2 c
        refine r_iload (pc := 19) (x := y5) dX5_merge_19 rfl ?_
        refine r_iconst (pc := 21) (v := 4) dX5_merge_21 (by decide) ?_
        refine r_imul (pc := 22) dX5_merge_22 ?_
        refine r_istore (pc := 23) (L' := [some (.ref a0), some (.int x1), some (.int x2), some (.int x3), some (.int x4), some (.int y5), some (.int (y5 * 4))]) dX5_merge_23 rfl (by decide) rfl ?_
        refine r_aload_n (pc := 25) (x := a0) dX5_merge_25 rfl ?_
        refine n_getR (pc := 26) (j := 0) (q := (a0 + 1)) dX5_merge_26 fl_RX5_9 (lt_Rd ha0) (sh_Rd ha0) rfl rfl (rf_Rd_0 ha0) ?_
        refine r_iload (pc := 29) (x := y5 * 4) dX5_merge_29 rfl ?_
        refine r_iconst (pc := 31) (v := 0) dX5_merge_31 (by decide) ?_
        refine r_iadd (pc := 32) dX5_merge_32 ?_
        obtain ⟨b1, h⟩ := h
        refine n_iald (pc := 33) (j := (ix ((y5 * 4) + 0))) dX5_merge_33 (lt_Rd_1 ha0) (sh_Rd_1 ha0) b1 rfl ?_
        refine r_iload_n (pc := 34) (x := x1) dX5_merge_34 rfl ?_
        refine r_icmp_ne (pc := 35) (tgt := 97) dX5_merge_35 (by decide) (fun c => ?_) (fun c => ?_)
        · replace h := h.1 c
          refine n_iinc (pc := 97) (x := y5) (w := 1) (L' := [some (.ref a0), some (.int x1), some (.int x2), some (.int x3), some (.int x4), some (.int (y5 + 1)), some (.int (y5 * 4))]) dX5_merge_97 rfl (by decide) rfl (by decide) rfl ?_
          refine r_goto (pc := 100) (tgt := 3) dX5_merge_100 (by decide) ?_
          refine n_L (L' := [some (.ref a0), some (.int x1), some (.int x2), some (.int x3), some (.int x4), some (.int (y5 + 1)), none]) (le_s (le_s (le_s (le_s (le_s (le_s (le_n (le_e)))))))) ?_
          exact ih _ _ h
        · replace h := h.2 c
          refine r_aload_n (pc := 38) (x := a0) dX5_merge_38 rfl ?_
          refine n_getR (pc := 39) (j := 0) (q := (a0 + 1)) dX5_merge_39 fl_RX5_9 (lt_Rd ha0) (sh_Rd ha0) rfl rfl (rf_Rd_0 ha0) ?_
          refine r_iload (pc := 42) (x := y5 * 4) dX5_merge_42 rfl ?_
          refine r_iconst (pc := 44) (v := 1) dX5_merge_44 (by decide) ?_
          refine r_iadd (pc := 45) dX5_merge_45 ?_
          obtain ⟨b2, h⟩ := h
          refine n_iald (pc := 46) (j := (ix ((y5 * 4) + 1))) dX5_merge_46 (lt_Rd_1 ha0) (sh_Rd_1 ha0) b2 rfl ?_
          refine r_iload_n (pc := 47) (x := x2) dX5_merge_47 rfl ?_
          refine r_icmp_ne (pc := 48) (tgt := 97) dX5_merge_48 (by decide) (fun c => ?_) (fun c => ?_)
          · replace h := h.1 c
            refine n_iinc (pc := 97) (x := y5) (w := 1) (L' := [some (.ref a0), some (.int x1), some (.int x2), some (.int x3), some (.int x4), some (.int (y5 + 1)), some (.int (y5 * 4))]) dX5_merge_97 rfl (by decide) rfl (by decide) rfl ?_
            refine r_goto (pc := 100) (tgt := 3) dX5_merge_100 (by decide) ?_
            refine n_L (L' := [some (.ref a0), some (.int x1), some (.int x2), some (.int x3), some (.int x4), some (.int (y5 + 1)), none]) (le_s (le_s (le_s (le_s (le_s (le_s (le_n (le_e)))))))) ?_
            exact ih _ _ h
          · replace h := h.2 c
            refine r_aload_n (pc := 51) (x := a0) dX5_merge_51 rfl ?_
            refine n_getR (pc := 52) (j := 0) (q := (a0 + 1)) dX5_merge_52 fl_RX5_9 (lt_Rd ha0) (sh_Rd ha0) rfl rfl (rf_Rd_0 ha0) ?_
            refine r_iload (pc := 55) (x := y5 * 4) dX5_merge_55 rfl ?_
            refine r_iconst (pc := 57) (v := 2) dX5_merge_57 (by decide) ?_
            refine r_iadd (pc := 58) dX5_merge_58 ?_
            refine r_aload_n (pc := 59) (x := a0) dX5_merge_59 rfl ?_
            refine n_getR (pc := 60) (j := 0) (q := (a0 + 1)) dX5_merge_60 fl_RX5_9 (lt_Rd ha0) (sh_Rd ha0) rfl rfl (rf_Rd_0 ha0) ?_
            refine r_iload (pc := 63) (x := y5 * 4) dX5_merge_63 rfl ?_
            refine r_iconst (pc := 65) (v := 2) dX5_merge_65 (by decide) ?_
            refine r_iadd (pc := 66) dX5_merge_66 ?_
            obtain ⟨b3, h⟩ := h
            refine n_iald (pc := 67) (j := (ix ((y5 * 4) + 2))) dX5_merge_67 (lt_Rd_1 ha0) (sh_Rd_1 ha0) b3 rfl ?_
            refine r_iload_n (pc := 68) (x := x3) dX5_merge_68 rfl ?_
            refine n_min (pc := 69) dX5_merge_69 lk_RX5_23 ⟨Nat.le_of_ble_eq_true rfl, Nat.le_of_ble_eq_true rfl⟩ ⟨Nat.zero_le _, Nat.zero_le _⟩ ?_
            obtain ⟨b4, h⟩ := h
            refine n_iast (pc := 72) (j := (ix ((y5 * 4) + 2))) dX5_merge_72 (lt_Rd_1 ha0) (sh_Rd_1 ha0) b4 rfl ?_
            refine r_aload_n (pc := 73) (x := a0) dX5_merge_73 rfl ?_
            refine n_getR (pc := 74) (j := 0) (q := (a0 + 1)) dX5_merge_74 fl_RX5_9 (lt_Rd ha0) (sh_Rd ha0) rfl rfl (rf_Rd_0 ha0) ?_
            refine r_iload (pc := 77) (x := y5 * 4) dX5_merge_77 rfl ?_
            refine r_iconst (pc := 79) (v := 3) dX5_merge_79 (by decide) ?_
            refine r_iadd (pc := 80) dX5_merge_80 ?_
            refine r_aload_n (pc := 81) (x := a0) dX5_merge_81 rfl ?_
            refine n_getR (pc := 82) (j := 0) (q := (a0 + 1)) dX5_merge_82 fl_RX5_9 (lt_Rd ha0) (sh_Rd ha0) rfl rfl (rf_Rd_0 ha0) ?_
            refine r_iload (pc := 85) (x := y5 * 4) dX5_merge_85 rfl ?_
            refine r_iconst (pc := 87) (v := 3) dX5_merge_87 (by decide) ?_
            refine r_iadd (pc := 88) dX5_merge_88 ?_
            obtain ⟨b5, h⟩ := h
            refine n_iald (pc := 89) (j := (ix ((y5 * 4) + 3))) dX5_merge_89 (lt_Rd_1 ha0) (sh_Rd_1 ha0) b5 rfl ?_
            refine r_iload (pc := 90) (x := x4) dX5_merge_90 rfl ?_
            refine n_max (pc := 92) dX5_merge_92 lk_RX5_29 ⟨Nat.le_of_ble_eq_true rfl, Nat.le_of_ble_eq_true rfl⟩ ⟨Nat.zero_le _, Nat.zero_le _⟩ ?_
            obtain ⟨b6, h⟩ := h
            refine n_iast (pc := 95) (j := (ix ((y5 * 4) + 3))) dX5_merge_95 (lt_Rd_1 ha0) (sh_Rd_1 ha0) b6 rfl ?_
            exact n_vret (pc := 96) dX5_merge_96 rfl (Nat.le_refl _) (Nat.le_refl _) h
def wpX5_merge (a0 : Nat) (x1 : Int32) (x2 : Int32) (x3 : Int32) (x4 : Int32) (s : gS) (Q : gS → Prop) : Prop := ∃ n3, wX5_merge_3 a0 x1 x2 x3 x4 Q n3 0 s
set_option maxRecDepth 20000 in
theorem spX5_merge {l : Launch} {a0 : Nat} {x1 : Int32} {x2 : Int32} {x3 : Int32} {x4 : Int32} (ha0 : isRd a0) {s : gS} {Q : gS → Prop} (h : wpX5_merge a0 x1 x2 x3 x4 s Q) : Ct l mX5_merge 2 0 0 [.ref a0, .int x1, .int x2, .int x3, .int x4] (nrm s) (q_v Q) := by
  refine Ct.of (by decide) (Nat.le_of_ble_eq_true rfl) (fun X => ?_)
  refine n_L (L' := [some (.ref a0), some (.int x1), some (.int x2), some (.int x3), some (.int x4), none, none]) (le_s (le_s (le_s (le_s (le_s (le_p (le_p (le_e)))))))) ?_
  refine r_iconst (pc := 0) (v := 0) dX5_merge_0 (by decide) ?_
  refine r_istore (pc := 1) (L' := [some (.ref a0), some (.int x1), some (.int x2), some (.int x3), some (.int x4), some (.int 0), none]) dX5_merge_1 rfl (by decide) rfl ?_
  refine n_L (L' := [some (.ref a0), some (.int x1), some (.int x2), some (.int x3), some (.int x4), some (.int 0), none]) (le_s (le_s (le_s (le_s (le_s (le_s (le_n (le_e)))))))) ?_
  obtain ⟨n, h⟩ := h
  exact pX5_merge_3 ha0 n _ _ h 
def wpX3_push (a1 : Nat) (s : gS) (Q : gS → Prop) : Prop := ((170 : Int32) = 170 → vp_in ((gi s 25 1) &&& 7) 8 ∧ (Q (wi (wi (cpI s a1 (ix 0) (26 + 1 + (ix ((gi s 25 1) &&& 7))) (ix 0) (ix 170)) 25 1 (((gi (cpI s a1 (ix 0) (26 + 1 + (ix ((gi s 25 1) &&& 7))) (ix 0) (ix 170)) 25 1) + 1) &&& 7)) 25 2 (jmin ((gi (wi (cpI s a1 (ix 0) (26 + 1 + (ix ((gi s 25 1) &&& 7))) (ix 0) (ix 170)) 25 1 (((gi (cpI s a1 (ix 0) (26 + 1 + (ix ((gi s 25 1) &&& 7))) (ix 0) (ix 170)) 25 1) + 1) &&& 7)) 25 2) + 1) 8)))) ∧ (¬ ((170 : Int32) = 170) → Q s)
set_option maxRecDepth 20000 in
theorem spX3_push {l : Launch} {a1 : Nat} (ha1 : isA170 a1) {s : gS} {Q : gS → Prop} (h : wpX3_push a1 s Q) : Ct l mX3_push 2 0 0 [.ref 25, .ref a1] (nrm s) (q_v Q) := by
  refine Ct.of (by decide) (Nat.le_of_ble_eq_true rfl) (fun X => ?_)
  refine n_L (L' := [some (.ref 25), some (.ref a1)]) (le_s (le_s (le_e))) ?_
  refine r_aload_n (pc := 0) (x := a1) dX3_push_0 rfl ?_
  refine r_ifnull (pc := 1) dX3_push_1 ?_
  refine r_aload_n (pc := 4) (x := a1) dX3_push_4 rfl ?_
  refine n_alen (pc := 5) (v := 170) dX3_push_5 (lt_A170 ha1) (sh_A170 ha1) (by decide) (by decide) ?_
  refine r_sipush (pc := 6) (v := 170) dX3_push_6 (by decide) ?_
  refine r_icmp_eq (pc := 9) (tgt := 13) dX3_push_9 (by decide) (fun c => ?_) (fun c => ?_)
  · replace h := h.1 c
    refine r_aload_n (pc := 13) (x := a1) dX3_push_13 rfl ?_
    refine r_iconst (pc := 14) (v := 0) dX3_push_14 (by decide) ?_
    refine r_aload_n (pc := 15) (x := 25) dX3_push_15 rfl ?_
    refine n_getR (pc := 16) (j := 0) (q := 26) dX3_push_16 fl_RX3_13 (by decide) sh_25 rfl rfl rfl ?_
    refine r_aload_n (pc := 19) (x := 25) dX3_push_19 rfl ?_
    refine n_getI (pc := 20) (j := 1) dX3_push_20 fl_RX3_16 (by decide) sh_25 rfl rfl ?_
    refine r_bipush (pc := 23) (v := 7) dX3_push_23 (by decide) ?_
    refine r_iand (pc := 25) dX3_push_25 ?_
    obtain ⟨b1, h⟩ := h
    refine n_aald (pc := 26) (j := (ix ((gi s 25 1) &&& 7))) (q := (26 + 1 + (ix ((gi s 25 1) &&& 7)))) dX3_push_26 (by decide) sh_26 b1 rfl (ro_26 (vp_lt b1)) ?_
    refine r_iconst (pc := 27) (v := 0) dX3_push_27 (by decide) ?_
    refine r_sipush (pc := 28) (v := 170) dX3_push_28 (by decide) ?_
    refine n_copy (pc := 31) dX3_push_31 lk_RX3_23 ⟨Nat.le_of_ble_eq_true rfl, Nat.le_of_ble_eq_true rfl⟩ (lt_A170 ha1) (sh_A170 ha1) (lr_26 (vp_lt b1)) (sr_26 (vp_lt b1)) (by decide) (by decide) (by decide) (by decide) (by decide) ?_
    refine r_aload_n (pc := 34) (x := 25) dX3_push_34 rfl ?_
    refine r_aload_n (pc := 35) (x := 25) dX3_push_35 rfl ?_
    refine n_getI (pc := 36) (j := 1) dX3_push_36 fl_RX3_16 (by decide) sh_25 rfl rfl ?_
    refine r_iconst (pc := 39) (v := 1) dX3_push_39 (by decide) ?_
    refine r_iadd (pc := 40) dX3_push_40 ?_
    refine r_bipush (pc := 41) (v := 7) dX3_push_41 (by decide) ?_
    refine r_iand (pc := 43) dX3_push_43 ?_
    refine n_putI (pc := 44) (j := 1) dX3_push_44 fl_RX3_16 fw_3_1 (by decide) sh_25 rfl rfl ?_
    refine r_aload_n (pc := 47) (x := 25) dX3_push_47 rfl ?_
    refine r_aload_n (pc := 48) (x := 25) dX3_push_48 rfl ?_
    refine n_getI (pc := 49) (j := 2) dX3_push_49 fl_RX3_20 (by decide) sh_25 rfl rfl ?_
    refine r_iconst (pc := 52) (v := 1) dX3_push_52 (by decide) ?_
    refine r_iadd (pc := 53) dX3_push_53 ?_
    refine r_bipush (pc := 54) (v := 8) dX3_push_54 (by decide) ?_
    refine n_min (pc := 56) dX3_push_56 lk_RX3_29 ⟨Nat.le_of_ble_eq_true rfl, Nat.le_of_ble_eq_true rfl⟩ ⟨Nat.zero_le _, Nat.zero_le _⟩ ?_
    refine n_putI (pc := 59) (j := 2) dX3_push_59 fl_RX3_20 fw_3_2 (by decide) sh_25 rfl rfl ?_
    exact n_vret (pc := 62) dX3_push_62 rfl (Nat.le_refl _) (Nat.le_refl _) h
  · replace h := h.2 c
    exact n_vret (pc := 12) dX3_push_12 rfl (Nat.le_refl _) (Nat.le_refl _) h
def wpX3_pop (a1 : Nat) (s : gS) (Q : gS → Prop) : Prop := ((gi s 25 2) = 0 → Q s) ∧ (¬ ((gi s 25 2) = 0) → ((170 : Int32) = 170 → vp_in ((gi (wi s 25 1 (((gi s 25 1) - 1) &&& 7)) 25 1) &&& 7) 8 ∧ (Q (wi (cpI (wi s 25 1 (((gi s 25 1) - 1) &&& 7)) (26 + 1 + (ix ((gi (wi s 25 1 (((gi s 25 1) - 1) &&& 7)) 25 1) &&& 7))) (ix 0) a1 (ix 0) (ix 170)) 25 2 ((gi (cpI (wi s 25 1 (((gi s 25 1) - 1) &&& 7)) (26 + 1 + (ix ((gi (wi s 25 1 (((gi s 25 1) - 1) &&& 7)) 25 1) &&& 7))) (ix 0) a1 (ix 0) (ix 170)) 25 2) - 1)))) ∧ (¬ ((170 : Int32) = 170) → Q s))
set_option maxRecDepth 20000 in
theorem spX3_pop {l : Launch} {a1 : Nat} (ha1 : isA170 a1) {s : gS} {Q : gS → Prop} (h : wpX3_pop a1 s Q) : Ct l mX3_pop 2 0 0 [.ref 25, .ref a1] (nrm s) (q_v Q) := by
  refine Ct.of (by decide) (Nat.le_of_ble_eq_true rfl) (fun X => ?_)
  refine n_L (L' := [some (.ref 25), some (.ref a1)]) (le_s (le_s (le_e))) ?_
  refine r_aload_n (pc := 0) (x := 25) dX3_pop_0 rfl ?_
  refine n_getI (pc := 1) (j := 2) dX3_pop_1 fl_RX3_20 (by decide) sh_25 rfl rfl ?_
  refine r_if_eq (pc := 4) (tgt := 19) dX3_pop_4 (by decide) (fun c => ?_) (fun c => ?_)
  · replace h := h.1 c
    exact n_vret (pc := 19) dX3_pop_19 rfl (Nat.le_refl _) (Nat.le_refl _) h
  · replace h := h.2 c
    refine r_aload_n (pc := 7) (x := a1) dX3_pop_7 rfl ?_
    refine r_ifnull (pc := 8) dX3_pop_8 ?_
    refine r_aload_n (pc := 11) (x := a1) dX3_pop_11 rfl ?_
    refine n_alen (pc := 12) (v := 170) dX3_pop_12 (lt_A170 ha1) (sh_A170 ha1) (by decide) (by decide) ?_
    refine r_sipush (pc := 13) (v := 170) dX3_pop_13 (by decide) ?_
    refine r_icmp_eq (pc := 16) (tgt := 20) dX3_pop_16 (by decide) (fun c => ?_) (fun c => ?_)
    · replace h := h.1 c
      refine r_aload_n (pc := 20) (x := 25) dX3_pop_20 rfl ?_
      refine r_aload_n (pc := 21) (x := 25) dX3_pop_21 rfl ?_
      refine n_getI (pc := 22) (j := 1) dX3_pop_22 fl_RX3_16 (by decide) sh_25 rfl rfl ?_
      refine r_iconst (pc := 25) (v := 1) dX3_pop_25 (by decide) ?_
      refine r_isub (pc := 26) dX3_pop_26 ?_
      refine r_bipush (pc := 27) (v := 7) dX3_pop_27 (by decide) ?_
      refine r_iand (pc := 29) dX3_pop_29 ?_
      refine n_putI (pc := 30) (j := 1) dX3_pop_30 fl_RX3_16 fw_3_1 (by decide) sh_25 rfl rfl ?_
      refine r_aload_n (pc := 33) (x := 25) dX3_pop_33 rfl ?_
      refine n_getR (pc := 34) (j := 0) (q := 26) dX3_pop_34 fl_RX3_13 (by decide) sh_25 rfl rfl rfl ?_
      refine r_aload_n (pc := 37) (x := 25) dX3_pop_37 rfl ?_
      refine n_getI (pc := 38) (j := 1) dX3_pop_38 fl_RX3_16 (by decide) sh_25 rfl rfl ?_
      refine r_bipush (pc := 41) (v := 7) dX3_pop_41 (by decide) ?_
      refine r_iand (pc := 43) dX3_pop_43 ?_
      obtain ⟨b1, h⟩ := h
      refine n_aald (pc := 44) (j := (ix ((gi (wi s 25 1 (((gi s 25 1) - 1) &&& 7)) 25 1) &&& 7))) (q := (26 + 1 + (ix ((gi (wi s 25 1 (((gi s 25 1) - 1) &&& 7)) 25 1) &&& 7)))) dX3_pop_44 (by decide) sh_26 b1 rfl (ro_26 (vp_lt b1)) ?_
      refine r_iconst (pc := 45) (v := 0) dX3_pop_45 (by decide) ?_
      refine r_aload_n (pc := 46) (x := a1) dX3_pop_46 rfl ?_
      refine r_iconst (pc := 47) (v := 0) dX3_pop_47 (by decide) ?_
      refine r_sipush (pc := 48) (v := 170) dX3_pop_48 (by decide) ?_
      refine n_copy (pc := 51) dX3_pop_51 lk_RX3_23 ⟨Nat.le_of_ble_eq_true rfl, Nat.le_of_ble_eq_true rfl⟩ (lr_26 (vp_lt b1)) (sr_26 (vp_lt b1)) (lt_A170 ha1) (sh_A170 ha1) (by decide) (by decide) (by decide) (by decide) (by decide) ?_
      refine r_aload_n (pc := 54) (x := 25) dX3_pop_54 rfl ?_
      refine r_dup (pc := 55) dX3_pop_55 rfl ?_
      refine n_getI (pc := 56) (j := 2) dX3_pop_56 fl_RX3_20 (by decide) sh_25 rfl rfl ?_
      refine r_iconst (pc := 59) (v := 1) dX3_pop_59 (by decide) ?_
      refine r_isub (pc := 60) dX3_pop_60 ?_
      refine n_putI (pc := 61) (j := 2) dX3_pop_61 fl_RX3_20 fw_3_2 (by decide) sh_25 rfl rfl ?_
      exact n_vret (pc := 64) dX3_pop_64 rfl (Nat.le_refl _) (Nat.le_refl _) h
    · replace h := h.2 c
      exact n_vret (pc := 19) dX3_pop_19 rfl (Nat.le_refl _) (Nat.le_refl _) h
def wpX3_clear  (s : gS) (Q : gS → Prop) : Prop := Q (wi s 25 2 0)
set_option maxRecDepth 20000 in
theorem spX3_clear {l : Launch}   {s : gS} {Q : gS → Prop} (h : wpX3_clear  s Q) : Ct l mX3_clear 1 0 0 [.ref 25] (nrm s) (q_v Q) := by
  refine Ct.of (by decide) (Nat.le_of_ble_eq_true rfl) (fun X => ?_)
  refine n_L (L' := [some (.ref 25)]) (le_s (le_e)) ?_
  refine r_aload_n (pc := 0) (x := 25) dX3_clear_0 rfl ?_
  refine r_iconst (pc := 1) (v := 0) dX3_clear_1 (by decide) ?_
  refine n_putI (pc := 2) (j := 2) dX3_clear_2 fl_RX3_20 fw_3_2 (by decide) sh_25 rfl rfl ?_
  exact n_vret (pc := 5) dX3_clear_5 rfl (Nat.le_refl _) (Nat.le_refl _) h
def wpX9_signAt (x1 : Int32) (s : gS) (Q : Int32 → gS → Prop) : Prop := (x1 < 0 → Q (-1) s) ∧ (¬ (x1 < 0) → ((gi s 1 1) ≤ x1 → Q (-1) s) ∧ (¬ ((gi s 1 1) ≤ x1) → (80 ≤ x1 → Q (-1) s) ∧ (¬ (80 ≤ x1) → vp_in x1 80 ∧ (Q (gi s 2 (ix x1)) s))))
set_option maxRecDepth 20000 in
theorem spX9_signAt {l : Launch} {x1 : Int32}  {s : gS} {Q : Int32 → gS → Prop} (h : wpX9_signAt x1 s Q) : Ct l mX9_signAt 1 0 0 [.ref 1, .int x1] (nrm s) (q_i Q) := by
  refine Ct.of (by decide) (Nat.le_of_ble_eq_true rfl) (fun X => ?_)
  refine n_L (L' := [some (.ref 1), some (.int x1)]) (le_s (le_s (le_e))) ?_
  refine r_iload_n (pc := 0) (x := x1) dX9_signAt_0 rfl ?_
  refine r_if_lt (pc := 1) (tgt := 27) dX9_signAt_1 (by decide) (fun c => ?_) (fun c => ?_)
  · replace h := h.1 c
    refine r_iconst (pc := 27) (v := (-1)) dX9_signAt_27 (by decide) ?_
    exact n_iret (pc := 28) dX9_signAt_28 rfl (Nat.le_refl _) (Nat.le_refl _) h
  · replace h := h.2 c
    refine r_iload_n (pc := 4) (x := x1) dX9_signAt_4 rfl ?_
    refine r_aload_n (pc := 5) (x := 1) dX9_signAt_5 rfl ?_
    refine n_getI (pc := 6) (j := 1) dX9_signAt_6 fl_RX9_15 (by decide) sh_1 rfl rfl ?_
    refine r_icmp_ge (pc := 9) (tgt := 27) dX9_signAt_9 (by decide) (fun c => ?_) (fun c => ?_)
    · replace h := h.1 c
      refine r_iconst (pc := 27) (v := (-1)) dX9_signAt_27 (by decide) ?_
      exact n_iret (pc := 28) dX9_signAt_28 rfl (Nat.le_refl _) (Nat.le_refl _) h
    · replace h := h.2 c
      refine r_iload_n (pc := 12) (x := x1) dX9_signAt_12 rfl ?_
      refine r_bipush (pc := 13) (v := 80) dX9_signAt_13 (by decide) ?_
      refine r_icmp_ge (pc := 15) (tgt := 27) dX9_signAt_15 (by decide) (fun c => ?_) (fun c => ?_)
      · replace h := h.1 c
        refine r_iconst (pc := 27) (v := (-1)) dX9_signAt_27 (by decide) ?_
        exact n_iret (pc := 28) dX9_signAt_28 rfl (Nat.le_refl _) (Nat.le_refl _) h
      · replace h := h.2 c
        refine r_aload_n (pc := 18) (x := 1) dX9_signAt_18 rfl ?_
        refine n_getR (pc := 19) (j := 0) (q := 2) dX9_signAt_19 fl_RX9_9 (by decide) sh_1 rfl rfl rfl ?_
        refine r_iload_n (pc := 22) (x := x1) dX9_signAt_22 rfl ?_
        obtain ⟨b1, h⟩ := h
        refine n_iald (pc := 23) (j := (ix x1)) dX9_signAt_23 (by decide) sh_2 b1 rfl ?_
        refine r_goto (pc := 24) (tgt := 28) dX9_signAt_24 (by decide) ?_
        exact n_iret (pc := 28) dX9_signAt_28 rfl (Nat.le_refl _) (Nat.le_refl _) h
def wX10_endOfBlanks_4 (x1 : Int32) (Q : Int32 → gS → Prop)  : Nat → Int32 → Int32 → gS → Prop
  | 0, _, _, _ => False
  | n + 1, y2, y3, s => (80 ≤ y3 → Q y2 s) ∧ (¬ (80 ≤ y3) → wpX9_signAt y2 s (fun r1 s1 => (¬ r1 = 32 → Q y2 s1) ∧ (r1 = 32 → wX10_endOfBlanks_4 x1 Q n (y2 + 1) (y3 + 1) s1)))
set_option maxRecDepth 20000 in
theorem pX10_endOfBlanks_4 {l : Launch} {X : gX} {x1 : Int32}  {Q : Int32 → gS → Prop}  : ∀ (n : Nat) (y2 : Int32) (y3 : Int32) (s : gS) (h : wX10_endOfBlanks_4 x1 Q n y2 y3 s) , Gw l mX10_endOfBlanks (g_rm 2 0 0) X 4 [some (.ref 1), none, some (.int y2), some (.int y3)] [] (nrm s) 0 0 (g_Z X (q_i Q) 0 0) := by
  intro n
  induction n with
  | zero => intro y2 y3 s h; exact h.elim
  | succ n ih0 =>
    intro y2 y3 s h 
    have ih : ∀ (y2 : Int32) (y3 : Int32) (s : gS), wX10_endOfBlanks_4 x1 Q n y2 y3 s → Gw l mX10_endOfBlanks (g_rm 2 0 0) X 4 [some (.ref 1), none, some (.int y2), some (.int y3)] [] (nrm s) 0 0 (g_Z X (q_i Q) 0 0) := fun y2 y3 s h => ih0 y2 y3 s h 
    refine r_iload_n (pc := 4) (x := y3) dX10_endOfBlanks_4 rfl ?_
    refine r_bipush (pc := 5) (v := 80) dX10_endOfBlanks_5 (by decide) ?_
    refine r_icmp_ge (pc := 7) (tgt := 29) dX10_endOfBlanks_7 (by decide) (fun c => ?_) (fun c => ?_)
    · replace h := h.1 c
      refine r_iload_n (pc := 29) (x := y2) dX10_endOfBlanks_29 rfl ?_
      exact n_iret (pc := 30) dX10_endOfBlanks_30 rfl (Nat.le_refl _) (Nat.le_refl _) h
    · replace h := h.2 c
      refine r_aload_n (pc := 10) (x := 1) dX10_endOfBlanks_10 rfl ?_
      refine r_iload_n (pc := 11) (x := y2) dX10_endOfBlanks_11 rfl ?_
      refine n_Vi0 (pc := 12) (S0 := []) (spX9_signAt h) gmX9_signAt selX9_signAt lk_RX10_54 dX10_endOfBlanks_12 rfl (by decide) sh_1 ⟨rfl, by decide⟩ rfl ⟨Nat.le_of_ble_eq_true rfl, Nat.le_of_ble_eq_true rfl⟩ (Nat.le_of_ble_eq_true rfl) ⟨Nat.zero_le _, Nat.zero_le _⟩ (fun r1 s1 h => ?_)
      refine r_bipush (pc := 15) (v := 32) dX10_endOfBlanks_15 (by decide) ?_
      refine r_icmp_ne (pc := 17) (tgt := 29) dX10_endOfBlanks_17 (by decide) (fun c => ?_) (fun c => ?_)
      · replace h := h.1 c
        refine r_iload_n (pc := 29) (x := y2) dX10_endOfBlanks_29 rfl ?_
        exact n_iret (pc := 30) dX10_endOfBlanks_30 rfl (Nat.le_refl _) (Nat.le_refl _) h
      · replace h := h.2 c
        refine n_iinc (pc := 20) (x := y2) (w := 1) (L' := [some (.ref 1), none, some (.int (y2 + 1)), some (.int y3)]) dX10_endOfBlanks_20 rfl (by decide) rfl (by decide) rfl ?_
        refine n_iinc (pc := 23) (x := y3) (w := 1) (L' := [some (.ref 1), none, some (.int (y2 + 1)), some (.int (y3 + 1))]) dX10_endOfBlanks_23 rfl (by decide) rfl (by decide) rfl ?_
        refine r_goto (pc := 26) (tgt := 4) dX10_endOfBlanks_26 (by decide) ?_
        refine n_L (L' := [some (.ref 1), none, some (.int (y2 + 1)), some (.int (y3 + 1))]) (le_s (le_n (le_s (le_s (le_e))))) ?_
        exact ih _ _ _ h
def wpX10_endOfBlanks (x1 : Int32) (s : gS) (Q : Int32 → gS → Prop) : Prop := ∃ n4, wX10_endOfBlanks_4 x1 Q n4 x1 0 s
set_option maxRecDepth 20000 in
theorem spX10_endOfBlanks {l : Launch} {x1 : Int32}  {s : gS} {Q : Int32 → gS → Prop} (h : wpX10_endOfBlanks x1 s Q) : Ct l mX10_endOfBlanks 2 0 0 [.ref 1, .int x1] (nrm s) (q_i Q) := by
  refine Ct.of (by decide) (Nat.le_of_ble_eq_true rfl) (fun X => ?_)
  refine n_L (L' := [some (.ref 1), some (.int x1), none, none]) (le_s (le_s (le_p (le_p (le_e))))) ?_
  refine r_iload_n (pc := 0) (x := x1) dX10_endOfBlanks_0 rfl ?_
  refine r_istore_n (pc := 1) (L' := [some (.ref 1), some (.int x1), some (.int x1), none]) dX10_endOfBlanks_1 rfl (by decide) rfl ?_
  refine r_iconst (pc := 2) (v := 0) dX10_endOfBlanks_2 (by decide) ?_
  refine r_istore_n (pc := 3) (L' := [some (.ref 1), some (.int x1), some (.int x1), some (.int 0)]) dX10_endOfBlanks_3 rfl (by decide) rfl ?_
  refine n_L (L' := [some (.ref 1), none, some (.int x1), some (.int 0)]) (le_s (le_n (le_s (le_s (le_e))))) ?_
  obtain ⟨n, h⟩ := h
  exact pX10_endOfBlanks_4  n _ _ _ h 
def wpX9_isDigit (x1 : Int32) (s : gS) (Q : Int32 → gS → Prop) : Prop := wpX9_signAt x1 s (fun r1 s1 => (r1 < 48 → Q 0 s1) ∧ (¬ (r1 < 48) → (57 < r1 → Q 0 s1) ∧ (¬ (57 < r1) → Q 1 s1)))
set_option maxRecDepth 20000 in
theorem spX9_isDigit {l : Launch} {x1 : Int32}  {s : gS} {Q : Int32 → gS → Prop} (h : wpX9_isDigit x1 s Q) : Ct l mX9_isDigit 2 0 0 [.ref 1, .int x1] (nrm s) (q_i Q) := by
  refine Ct.of (by decide) (Nat.le_of_ble_eq_true rfl) (fun X => ?_)
  refine n_L (L' := [some (.ref 1), some (.int x1), none]) (le_s (le_s (le_p (le_e)))) ?_
  refine r_aload_n (pc := 0) (x := 1) dX9_isDigit_0 rfl ?_
  refine r_iload_n (pc := 1) (x := x1) dX9_isDigit_1 rfl ?_
  refine n_Vi0 (pc := 2) (S0 := []) (spX9_signAt h) gmX9_signAt selX9_signAt lk_RX9_19 dX9_isDigit_2 rfl (by decide) sh_1 ⟨rfl, by decide⟩ rfl ⟨Nat.le_of_ble_eq_true rfl, Nat.le_of_ble_eq_true rfl⟩ (Nat.le_of_ble_eq_true rfl) ⟨Nat.zero_le _, Nat.zero_le _⟩ (fun r1 s1 h => ?_)
  refine r_istore_n (pc := 5) (L' := [some (.ref 1), some (.int x1), some (.int r1)]) dX9_isDigit_5 rfl (by decide) rfl ?_
  refine r_iload_n (pc := 6) (x := r1) dX9_isDigit_6 rfl ?_
  refine r_bipush (pc := 7) (v := 48) dX9_isDigit_7 (by decide) ?_
  refine r_icmp_lt (pc := 9) (tgt := 22) dX9_isDigit_9 (by decide) (fun c => ?_) (fun c => ?_)
  · replace h := h.1 c
    refine r_iconst (pc := 22) (v := 0) dX9_isDigit_22 (by decide) ?_
    exact n_zret (pc := 23) dX9_isDigit_23 rfl (by decide) (Nat.le_refl _) (Nat.le_refl _) h
  · replace h := h.2 c
    refine r_iload_n (pc := 12) (x := r1) dX9_isDigit_12 rfl ?_
    refine r_bipush (pc := 13) (v := 57) dX9_isDigit_13 (by decide) ?_
    refine r_icmp_gt (pc := 15) (tgt := 22) dX9_isDigit_15 (by decide) (fun c => ?_) (fun c => ?_)
    · replace h := h.1 c
      refine r_iconst (pc := 22) (v := 0) dX9_isDigit_22 (by decide) ?_
      exact n_zret (pc := 23) dX9_isDigit_23 rfl (by decide) (Nat.le_refl _) (Nat.le_refl _) h
    · replace h := h.2 c
      refine r_iconst (pc := 18) (v := 1) dX9_isDigit_18 (by decide) ?_
      refine r_goto (pc := 19) (tgt := 23) dX9_isDigit_19 (by decide) ?_
      exact n_zret (pc := 23) dX9_isDigit_23 rfl (by decide) (Nat.le_refl _) (Nat.le_refl _) h
def wX10_endOfDigits_4 (x1 : Int32) (Q : Int32 → gS → Prop)  : Nat → Int32 → Int32 → gS → Prop
  | 0, _, _, _ => False
  | n + 1, y2, y3, s => (4 ≤ y3 → Q y2 s) ∧ (¬ (4 ≤ y3) → wpX9_isDigit y2 s (fun r1 s1 => (r1 = 0 → Q y2 s1) ∧ (¬ (r1 = 0) → wX10_endOfDigits_4 x1 Q n (y2 + 1) (y3 + 1) s1)))
set_option maxRecDepth 20000 in
theorem pX10_endOfDigits_4 {l : Launch} {X : gX} {x1 : Int32}  {Q : Int32 → gS → Prop}  : ∀ (n : Nat) (y2 : Int32) (y3 : Int32) (s : gS) (h : wX10_endOfDigits_4 x1 Q n y2 y3 s) , Gw l mX10_endOfDigits (g_rm 3 0 0) X 4 [some (.ref 1), none, some (.int y2), some (.int y3)] [] (nrm s) 0 0 (g_Z X (q_i Q) 0 0) := by
  intro n
  induction n with
  | zero => intro y2 y3 s h; exact h.elim
  | succ n ih0 =>
    intro y2 y3 s h 
    have ih : ∀ (y2 : Int32) (y3 : Int32) (s : gS), wX10_endOfDigits_4 x1 Q n y2 y3 s → Gw l mX10_endOfDigits (g_rm 3 0 0) X 4 [some (.ref 1), none, some (.int y2), some (.int y3)] [] (nrm s) 0 0 (g_Z X (q_i Q) 0 0) := fun y2 y3 s h => ih0 y2 y3 s h 
    refine r_iload_n (pc := 4) (x := y3) dX10_endOfDigits_4 rfl ?_
    refine r_iconst (pc := 5) (v := 4) dX10_endOfDigits_5 (by decide) ?_
    refine r_icmp_ge (pc := 6) (tgt := 26) dX10_endOfDigits_6 (by decide) (fun c => ?_) (fun c => ?_)
    · replace h := h.1 c
      refine r_iload_n (pc := 26) (x := y2) dX10_endOfDigits_26 rfl ?_
      exact n_iret (pc := 27) dX10_endOfDigits_27 rfl (Nat.le_refl _) (Nat.le_refl _) h
    · replace h := h.2 c
      refine r_aload_n (pc := 9) (x := 1) dX10_endOfDigits_9 rfl ?_
      refine r_iload_n (pc := 10) (x := y2) dX10_endOfDigits_10 rfl ?_
      refine n_Vi0 (pc := 11) (S0 := []) (spX9_isDigit h) gmX9_isDigit selX9_isDigit lk_RX10_37 dX10_endOfDigits_11 rfl (by decide) sh_1 ⟨rfl, by decide⟩ rfl ⟨Nat.le_of_ble_eq_true rfl, Nat.le_of_ble_eq_true rfl⟩ (Nat.le_of_ble_eq_true rfl) ⟨Nat.zero_le _, Nat.zero_le _⟩ (fun r1 s1 h => ?_)
      refine r_if_eq (pc := 14) (tgt := 26) dX10_endOfDigits_14 (by decide) (fun c => ?_) (fun c => ?_)
      · replace h := h.1 c
        refine r_iload_n (pc := 26) (x := y2) dX10_endOfDigits_26 rfl ?_
        exact n_iret (pc := 27) dX10_endOfDigits_27 rfl (Nat.le_refl _) (Nat.le_refl _) h
      · replace h := h.2 c
        refine n_iinc (pc := 17) (x := y2) (w := 1) (L' := [some (.ref 1), none, some (.int (y2 + 1)), some (.int y3)]) dX10_endOfDigits_17 rfl (by decide) rfl (by decide) rfl ?_
        refine n_iinc (pc := 20) (x := y3) (w := 1) (L' := [some (.ref 1), none, some (.int (y2 + 1)), some (.int (y3 + 1))]) dX10_endOfDigits_20 rfl (by decide) rfl (by decide) rfl ?_
        refine r_goto (pc := 23) (tgt := 4) dX10_endOfDigits_23 (by decide) ?_
        refine n_L (L' := [some (.ref 1), none, some (.int (y2 + 1)), some (.int (y3 + 1))]) (le_s (le_n (le_s (le_s (le_e))))) ?_
        exact ih _ _ _ h
def wpX10_endOfDigits (x1 : Int32) (s : gS) (Q : Int32 → gS → Prop) : Prop := ∃ n4, wX10_endOfDigits_4 x1 Q n4 x1 0 s
set_option maxRecDepth 20000 in
theorem spX10_endOfDigits {l : Launch} {x1 : Int32}  {s : gS} {Q : Int32 → gS → Prop} (h : wpX10_endOfDigits x1 s Q) : Ct l mX10_endOfDigits 3 0 0 [.ref 1, .int x1] (nrm s) (q_i Q) := by
  refine Ct.of (by decide) (Nat.le_of_ble_eq_true rfl) (fun X => ?_)
  refine n_L (L' := [some (.ref 1), some (.int x1), none, none]) (le_s (le_s (le_p (le_p (le_e))))) ?_
  refine r_iload_n (pc := 0) (x := x1) dX10_endOfDigits_0 rfl ?_
  refine r_istore_n (pc := 1) (L' := [some (.ref 1), some (.int x1), some (.int x1), none]) dX10_endOfDigits_1 rfl (by decide) rfl ?_
  refine r_iconst (pc := 2) (v := 0) dX10_endOfDigits_2 (by decide) ?_
  refine r_istore_n (pc := 3) (L' := [some (.ref 1), some (.int x1), some (.int x1), some (.int 0)]) dX10_endOfDigits_3 rfl (by decide) rfl ?_
  refine n_L (L' := [some (.ref 1), none, some (.int x1), some (.int 0)]) (le_s (le_n (le_s (le_s (le_e))))) ?_
  obtain ⟨n, h⟩ := h
  exact pX10_endOfDigits_4  n _ _ _ h 
def wpX9_digitAt (x1 : Int32) (s : gS) (Q : Int32 → gS → Prop) : Prop := wpX9_isDigit x1 s (fun r1 s1 => (r1 = 0 → Q 0 s1) ∧ (¬ (r1 = 0) → wpX9_signAt x1 s1 (fun r2 s2 => Q (r2 - 48) s2)))
set_option maxRecDepth 20000 in
theorem spX9_digitAt {l : Launch} {x1 : Int32}  {s : gS} {Q : Int32 → gS → Prop} (h : wpX9_digitAt x1 s Q) : Ct l mX9_digitAt 3 0 0 [.ref 1, .int x1] (nrm s) (q_i Q) := by
  refine Ct.of (by decide) (Nat.le_of_ble_eq_true rfl) (fun X => ?_)
  refine n_L (L' := [some (.ref 1), some (.int x1)]) (le_s (le_s (le_e))) ?_
  refine r_aload_n (pc := 0) (x := 1) dX9_digitAt_0 rfl ?_
  refine r_iload_n (pc := 1) (x := x1) dX9_digitAt_1 rfl ?_
  refine n_Vi0 (pc := 2) (S0 := []) (spX9_isDigit h) gmX9_isDigit selX9_isDigit lk_RX9_23 dX9_digitAt_2 rfl (by decide) sh_1 ⟨rfl, by decide⟩ rfl ⟨Nat.le_of_ble_eq_true rfl, Nat.le_of_ble_eq_true rfl⟩ (Nat.le_of_ble_eq_true rfl) ⟨Nat.zero_le _, Nat.zero_le _⟩ (fun r1 s1 h => ?_)
  refine r_if_eq (pc := 5) (tgt := 19) dX9_digitAt_5 (by decide) (fun c => ?_) (fun c => ?_)
  · replace h := h.1 c
    refine r_iconst (pc := 19) (v := 0) dX9_digitAt_19 (by decide) ?_
    exact n_iret (pc := 20) dX9_digitAt_20 rfl (Nat.le_refl _) (Nat.le_refl _) h
  · replace h := h.2 c
    refine r_aload_n (pc := 8) (x := 1) dX9_digitAt_8 rfl ?_
    refine r_iload_n (pc := 9) (x := x1) dX9_digitAt_9 rfl ?_
    refine n_Vi0 (pc := 10) (S0 := []) (spX9_signAt h) gmX9_signAt selX9_signAt lk_RX9_19 dX9_digitAt_10 rfl (by decide) sh_1 ⟨rfl, by decide⟩ rfl ⟨Nat.le_of_ble_eq_true rfl, Nat.le_of_ble_eq_true rfl⟩ (Nat.le_of_ble_eq_true rfl) ⟨Nat.zero_le _, Nat.zero_le _⟩ (fun r2 s2 h => ?_)
    refine r_bipush (pc := 13) (v := 48) dX9_digitAt_13 (by decide) ?_
    refine r_isub (pc := 15) dX9_digitAt_15 ?_
    refine r_goto (pc := 16) (tgt := 20) dX9_digitAt_16 (by decide) ?_
    exact n_iret (pc := 20) dX9_digitAt_20 rfl (Nat.le_refl _) (Nat.le_refl _) h
def wX10_numberKind_16 (x1 : Int32) (x2 : Int32) (Q : Int32 → gS → Prop)  : Nat → Int32 → Int32 → gS → Prop
  | 0, _, _, _ => False
  | n + 1, y3, y4, s => (x2 ≤ y4 → Q (100 + y3) s) ∧ (¬ (x2 ≤ y4) → wpX9_digitAt y4 s (fun r2 s2 => wX10_numberKind_16 x1 x2 Q n ((y3 * 10) + r2) (y4 + 1) s2))
set_option maxRecDepth 20000 in
theorem pX10_numberKind_16 {l : Launch} {X : gX} {x1 : Int32} {x2 : Int32}  {Q : Int32 → gS → Prop}  : ∀ (n : Nat) (y3 : Int32) (y4 : Int32) (s : gS) (h : wX10_numberKind_16 x1 x2 Q n y3 y4 s) , Gw l mX10_numberKind (g_rm 4 0 0) X 16 [some (.ref 1), none, some (.int x2), some (.int y3), some (.int y4)] [] (nrm s) 0 0 (g_Z X (q_i Q) 0 0) := by
  intro n
  induction n with
  | zero => intro y3 y4 s h; exact h.elim
  | succ n ih0 =>
    intro y3 y4 s h 
    have ih : ∀ (y3 : Int32) (y4 : Int32) (s : gS), wX10_numberKind_16 x1 x2 Q n y3 y4 s → Gw l mX10_numberKind (g_rm 4 0 0) X 16 [some (.ref 1), none, some (.int x2), some (.int y3), some (.int y4)] [] (nrm s) 0 0 (g_Z X (q_i Q) 0 0) := fun y3 y4 s h => ih0 y3 y4 s h 
    refine r_iload (pc := 16) (x := y4) dX10_numberKind_16 rfl ?_
    refine r_iload_n (pc := 18) (x := x2) dX10_numberKind_18 rfl ?_
    refine r_icmp_ge (pc := 19) (tgt := 40) dX10_numberKind_19 (by decide) (fun c => ?_) (fun c => ?_)
    · replace h := h.1 c
      refine r_bipush (pc := 40) (v := 100) dX10_numberKind_40 (by decide) ?_
      refine r_iload_n (pc := 42) (x := y3) dX10_numberKind_42 rfl ?_
      refine r_iadd (pc := 43) dX10_numberKind_43 ?_
      exact n_iret (pc := 44) dX10_numberKind_44 rfl (Nat.le_refl _) (Nat.le_refl _) h
    · replace h := h.2 c
      refine r_iload_n (pc := 22) (x := y3) dX10_numberKind_22 rfl ?_
      refine r_bipush (pc := 23) (v := 10) dX10_numberKind_23 (by decide) ?_
      refine r_imul (pc := 25) dX10_numberKind_25 ?_
      refine r_aload_n (pc := 26) (x := 1) dX10_numberKind_26 rfl ?_
      refine r_iload (pc := 27) (x := y4) dX10_numberKind_27 rfl ?_
      refine n_Vi0 (pc := 29) (S0 := [.int (y3 * 10)]) (spX9_digitAt h) gmX9_digitAt selX9_digitAt lk_RX10_61 dX10_numberKind_29 rfl (by decide) sh_1 ⟨rfl, by decide⟩ rfl ⟨Nat.le_of_ble_eq_true rfl, Nat.le_of_ble_eq_true rfl⟩ (Nat.le_of_ble_eq_true rfl) ⟨Nat.zero_le _, Nat.zero_le _⟩ (fun r2 s2 h => ?_)
      refine r_iadd (pc := 32) dX10_numberKind_32 ?_
      refine r_istore_n (pc := 33) (L' := [some (.ref 1), none, some (.int x2), some (.int ((y3 * 10) + r2)), some (.int y4)]) dX10_numberKind_33 rfl (by decide) rfl ?_
      refine n_iinc (pc := 34) (x := y4) (w := 1) (L' := [some (.ref 1), none, some (.int x2), some (.int ((y3 * 10) + r2)), some (.int (y4 + 1))]) dX10_numberKind_34 rfl (by decide) rfl (by decide) rfl ?_
      refine r_goto (pc := 37) (tgt := 16) dX10_numberKind_37 (by decide) ?_
      refine n_L (L' := [some (.ref 1), none, some (.int x2), some (.int ((y3 * 10) + r2)), some (.int (y4 + 1))]) (le_s (le_n (le_s (le_s (le_s (le_e)))))) ?_
      exact ih _ _ _ h
def wpX10_numberKind (x1 : Int32) (x2 : Int32) (s : gS) (Q : Int32 → gS → Prop) : Prop := wpX9_isDigit x2 s (fun r1 s1 => (r1 = 0 → ∃ n16, wX10_numberKind_16 x1 x2 Q n16 0 x1 s1) ∧ (¬ (r1 = 0) → Q 40 s1))
set_option maxRecDepth 20000 in
theorem spX10_numberKind {l : Launch} {x1 : Int32} {x2 : Int32}  {s : gS} {Q : Int32 → gS → Prop} (h : wpX10_numberKind x1 x2 s Q) : Ct l mX10_numberKind 4 0 0 [.ref 1, .int x1, .int x2] (nrm s) (q_i Q) := by
  refine Ct.of (by decide) (Nat.le_of_ble_eq_true rfl) (fun X => ?_)
  refine n_L (L' := [some (.ref 1), some (.int x1), some (.int x2), none, none]) (le_s (le_s (le_s (le_p (le_p (le_e)))))) ?_
  refine r_aload_n (pc := 0) (x := 1) dX10_numberKind_0 rfl ?_
  refine r_iload_n (pc := 1) (x := x2) dX10_numberKind_1 rfl ?_
  refine n_Vi0 (pc := 2) (S0 := []) (spX9_isDigit h) gmX9_isDigit selX9_isDigit lk_RX10_37 dX10_numberKind_2 rfl (by decide) sh_1 ⟨rfl, by decide⟩ rfl ⟨Nat.le_of_ble_eq_true rfl, Nat.le_of_ble_eq_true rfl⟩ (Nat.le_of_ble_eq_true rfl) ⟨Nat.zero_le _, Nat.zero_le _⟩ (fun r1 s1 h => ?_)
  refine r_if_eq (pc := 5) (tgt := 11) dX10_numberKind_5 (by decide) (fun c => ?_) (fun c => ?_)
  · replace h := h.1 c
    refine r_iconst (pc := 11) (v := 0) dX10_numberKind_11 (by decide) ?_
    refine r_istore_n (pc := 12) (L' := [some (.ref 1), some (.int x1), some (.int x2), some (.int 0), none]) dX10_numberKind_12 rfl (by decide) rfl ?_
    refine r_iload_n (pc := 13) (x := x1) dX10_numberKind_13 rfl ?_
    refine r_istore (pc := 14) (L' := [some (.ref 1), some (.int x1), some (.int x2), some (.int 0), some (.int x1)]) dX10_numberKind_14 rfl (by decide) rfl ?_
    refine n_L (L' := [some (.ref 1), none, some (.int x2), some (.int 0), some (.int x1)]) (le_s (le_n (le_s (le_s (le_s (le_e)))))) ?_
    obtain ⟨n, h⟩ := h
    exact pX10_numberKind_16  n _ _ _ h 
  · replace h := h.2 c
    refine r_bipush (pc := 8) (v := 40) dX10_numberKind_8 (by decide) ?_
    exact n_iret (pc := 10) dX10_numberKind_10 rfl (Nat.le_refl _) (Nat.le_refl _) h
def wpX9_isLetter (x1 : Int32) (s : gS) (Q : Int32 → gS → Prop) : Prop := wpX9_signAt x1 s (fun r1 s1 => (r1 < 97 → Q 0 s1) ∧ (¬ (r1 < 97) → (122 < r1 → Q 0 s1) ∧ (¬ (122 < r1) → Q 1 s1)))
set_option maxRecDepth 20000 in
theorem spX9_isLetter {l : Launch} {x1 : Int32}  {s : gS} {Q : Int32 → gS → Prop} (h : wpX9_isLetter x1 s Q) : Ct l mX9_isLetter 2 0 0 [.ref 1, .int x1] (nrm s) (q_i Q) := by
  refine Ct.of (by decide) (Nat.le_of_ble_eq_true rfl) (fun X => ?_)
  refine n_L (L' := [some (.ref 1), some (.int x1), none]) (le_s (le_s (le_p (le_e)))) ?_
  refine r_aload_n (pc := 0) (x := 1) dX9_isLetter_0 rfl ?_
  refine r_iload_n (pc := 1) (x := x1) dX9_isLetter_1 rfl ?_
  refine n_Vi0 (pc := 2) (S0 := []) (spX9_signAt h) gmX9_signAt selX9_signAt lk_RX9_19 dX9_isLetter_2 rfl (by decide) sh_1 ⟨rfl, by decide⟩ rfl ⟨Nat.le_of_ble_eq_true rfl, Nat.le_of_ble_eq_true rfl⟩ (Nat.le_of_ble_eq_true rfl) ⟨Nat.zero_le _, Nat.zero_le _⟩ (fun r1 s1 h => ?_)
  refine r_istore_n (pc := 5) (L' := [some (.ref 1), some (.int x1), some (.int r1)]) dX9_isLetter_5 rfl (by decide) rfl ?_
  refine r_iload_n (pc := 6) (x := r1) dX9_isLetter_6 rfl ?_
  refine r_bipush (pc := 7) (v := 97) dX9_isLetter_7 (by decide) ?_
  refine r_icmp_lt (pc := 9) (tgt := 22) dX9_isLetter_9 (by decide) (fun c => ?_) (fun c => ?_)
  · replace h := h.1 c
    refine r_iconst (pc := 22) (v := 0) dX9_isLetter_22 (by decide) ?_
    exact n_zret (pc := 23) dX9_isLetter_23 rfl (by decide) (Nat.le_refl _) (Nat.le_refl _) h
  · replace h := h.2 c
    refine r_iload_n (pc := 12) (x := r1) dX9_isLetter_12 rfl ?_
    refine r_bipush (pc := 13) (v := 122) dX9_isLetter_13 (by decide) ?_
    refine r_icmp_gt (pc := 15) (tgt := 22) dX9_isLetter_15 (by decide) (fun c => ?_) (fun c => ?_)
    · replace h := h.1 c
      refine r_iconst (pc := 22) (v := 0) dX9_isLetter_22 (by decide) ?_
      exact n_zret (pc := 23) dX9_isLetter_23 rfl (by decide) (Nat.le_refl _) (Nat.le_refl _) h
    · replace h := h.2 c
      refine r_iconst (pc := 18) (v := 1) dX9_isLetter_18 (by decide) ?_
      refine r_goto (pc := 19) (tgt := 23) dX9_isLetter_19 (by decide) ?_
      exact n_zret (pc := 23) dX9_isLetter_23 rfl (by decide) (Nat.le_refl _) (Nat.le_refl _) h
def wX10_endOfLetters_4 (x1 : Int32) (Q : Int32 → gS → Prop)  : Nat → Int32 → Int32 → gS → Prop
  | 0, _, _, _ => False
  | n + 1, y2, y3, s => (80 ≤ y3 → Q y2 s) ∧ (¬ (80 ≤ y3) → wpX9_isLetter y2 s (fun r1 s1 => (r1 = 0 → Q y2 s1) ∧ (¬ (r1 = 0) → wX10_endOfLetters_4 x1 Q n (y2 + 1) (y3 + 1) s1)))
set_option maxRecDepth 20000 in
theorem pX10_endOfLetters_4 {l : Launch} {X : gX} {x1 : Int32}  {Q : Int32 → gS → Prop}  : ∀ (n : Nat) (y2 : Int32) (y3 : Int32) (s : gS) (h : wX10_endOfLetters_4 x1 Q n y2 y3 s) , Gw l mX10_endOfLetters (g_rm 3 0 0) X 4 [some (.ref 1), none, some (.int y2), some (.int y3)] [] (nrm s) 0 0 (g_Z X (q_i Q) 0 0) := by
  intro n
  induction n with
  | zero => intro y2 y3 s h; exact h.elim
  | succ n ih0 =>
    intro y2 y3 s h 
    have ih : ∀ (y2 : Int32) (y3 : Int32) (s : gS), wX10_endOfLetters_4 x1 Q n y2 y3 s → Gw l mX10_endOfLetters (g_rm 3 0 0) X 4 [some (.ref 1), none, some (.int y2), some (.int y3)] [] (nrm s) 0 0 (g_Z X (q_i Q) 0 0) := fun y2 y3 s h => ih0 y2 y3 s h 
    refine r_iload_n (pc := 4) (x := y3) dX10_endOfLetters_4 rfl ?_
    refine r_bipush (pc := 5) (v := 80) dX10_endOfLetters_5 (by decide) ?_
    refine r_icmp_ge (pc := 7) (tgt := 27) dX10_endOfLetters_7 (by decide) (fun c => ?_) (fun c => ?_)
    · replace h := h.1 c
      refine r_iload_n (pc := 27) (x := y2) dX10_endOfLetters_27 rfl ?_
      exact n_iret (pc := 28) dX10_endOfLetters_28 rfl (Nat.le_refl _) (Nat.le_refl _) h
    · replace h := h.2 c
      refine r_aload_n (pc := 10) (x := 1) dX10_endOfLetters_10 rfl ?_
      refine r_iload_n (pc := 11) (x := y2) dX10_endOfLetters_11 rfl ?_
      refine n_Vi0 (pc := 12) (S0 := []) (spX9_isLetter h) gmX9_isLetter selX9_isLetter lk_RX10_58 dX10_endOfLetters_12 rfl (by decide) sh_1 ⟨rfl, by decide⟩ rfl ⟨Nat.le_of_ble_eq_true rfl, Nat.le_of_ble_eq_true rfl⟩ (Nat.le_of_ble_eq_true rfl) ⟨Nat.zero_le _, Nat.zero_le _⟩ (fun r1 s1 h => ?_)
      refine r_if_eq (pc := 15) (tgt := 27) dX10_endOfLetters_15 (by decide) (fun c => ?_) (fun c => ?_)
      · replace h := h.1 c
        refine r_iload_n (pc := 27) (x := y2) dX10_endOfLetters_27 rfl ?_
        exact n_iret (pc := 28) dX10_endOfLetters_28 rfl (Nat.le_refl _) (Nat.le_refl _) h
      · replace h := h.2 c
        refine n_iinc (pc := 18) (x := y2) (w := 1) (L' := [some (.ref 1), none, some (.int (y2 + 1)), some (.int y3)]) dX10_endOfLetters_18 rfl (by decide) rfl (by decide) rfl ?_
        refine n_iinc (pc := 21) (x := y3) (w := 1) (L' := [some (.ref 1), none, some (.int (y2 + 1)), some (.int (y3 + 1))]) dX10_endOfLetters_21 rfl (by decide) rfl (by decide) rfl ?_
        refine r_goto (pc := 24) (tgt := 4) dX10_endOfLetters_24 (by decide) ?_
        refine n_L (L' := [some (.ref 1), none, some (.int (y2 + 1)), some (.int (y3 + 1))]) (le_s (le_n (le_s (le_s (le_e))))) ?_
        exact ih _ _ _ h
def wpX10_endOfLetters (x1 : Int32) (s : gS) (Q : Int32 → gS → Prop) : Prop := ∃ n4, wX10_endOfLetters_4 x1 Q n4 x1 0 s
set_option maxRecDepth 20000 in
theorem spX10_endOfLetters {l : Launch} {x1 : Int32}  {s : gS} {Q : Int32 → gS → Prop} (h : wpX10_endOfLetters x1 s Q) : Ct l mX10_endOfLetters 3 0 0 [.ref 1, .int x1] (nrm s) (q_i Q) := by
  refine Ct.of (by decide) (Nat.le_of_ble_eq_true rfl) (fun X => ?_)
  refine n_L (L' := [some (.ref 1), some (.int x1), none, none]) (le_s (le_s (le_p (le_p (le_e))))) ?_
  refine r_iload_n (pc := 0) (x := x1) dX10_endOfLetters_0 rfl ?_
  refine r_istore_n (pc := 1) (L' := [some (.ref 1), some (.int x1), some (.int x1), none]) dX10_endOfLetters_1 rfl (by decide) rfl ?_
  refine r_iconst (pc := 2) (v := 0) dX10_endOfLetters_2 (by decide) ?_
  refine r_istore_n (pc := 3) (L' := [some (.ref 1), some (.int x1), some (.int x1), some (.int 0)]) dX10_endOfLetters_3 rfl (by decide) rfl ?_
  refine n_L (L' := [some (.ref 1), none, some (.int x1), some (.int 0)]) (le_s (le_n (le_s (le_s (le_e))))) ?_
  obtain ⟨n, h⟩ := h
  exact pX10_endOfLetters_4  n _ _ _ h 
def wX10_letterKind_63 (x1 : Int32) (x2 : Int32) (Q : Int32 → gS → Prop) (k64 : Int32 → Int32 → Int32 → Int32 → gS → Prop) (y3 : Int32) (y4 : Int32) (y6 : Int32) (s : gS) : Prop := k64 y3 y4 y6 0 s
set_option maxRecDepth 20000 in
theorem pX10_letterKind_63 {l : Launch} {X : gX} {x1 : Int32} {x2 : Int32}  {Q : Int32 → gS → Prop} {k64 : Int32 → Int32 → Int32 → Int32 → gS → Prop} (y3 : Int32) (y4 : Int32) (y6 : Int32) (s : gS) (h : wX10_letterKind_63 x1 x2 Q k64 y3 y4 y6 s) (hk64 : ∀ (y3 : Int32) (y4 : Int32) (y6 : Int32) (z0 : Int32) (s : gS), k64 y3 y4 y6 z0 s → Gw l mX10_letterKind (g_rm 5 0 0) X 64 [some (.ref 1), some (.int x1), some (.int x2), some (.int y3), some (.int y4), none, some (.int y6), none] [.int z0] (nrm s) 0 0 (g_Z X (q_i Q) 0 0)) : Gw l mX10_letterKind (g_rm 5 0 0) X 63 [some (.ref 1), some (.int x1), some (.int x2), some (.int y3), some (.int y4), none, some (.int y6), none] [] (nrm s) 0 0 (g_Z X (q_i Q) 0 0) := by
  refine r_iconst (pc := 63) (v := 0) dX10_letterKind_63 (by decide) ?_
  refine n_L (L' := [some (.ref 1), some (.int x1), some (.int x2), some (.int y3), some (.int y4), none, some (.int y6), none]) (le_s (le_s (le_s (le_s (le_s (le_n (le_s (le_n (le_e))))))))) ?_
  exact hk64 _ _ _ _ _ h
def wX10_letterKind_64 (x1 : Int32) (x2 : Int32) (Q : Int32 → gS → Prop) (k11 : Int32 → Int32 → Int32 → Int32 → gS → Prop) (y3 : Int32) (y4 : Int32) (y6 : Int32) (z0 : Int32) (s : gS) : Prop := k11 y3 (y4 + 1) z0 (y6 + 1) s
set_option maxRecDepth 20000 in
theorem pX10_letterKind_64 {l : Launch} {X : gX} {x1 : Int32} {x2 : Int32}  {Q : Int32 → gS → Prop} {k11 : Int32 → Int32 → Int32 → Int32 → gS → Prop} (y3 : Int32) (y4 : Int32) (y6 : Int32) (z0 : Int32) (s : gS) (h : wX10_letterKind_64 x1 x2 Q k11 y3 y4 y6 z0 s) (hk11 : ∀ (y3 : Int32) (y4 : Int32) (y5 : Int32) (y6 : Int32) (s : gS), k11 y3 y4 y5 y6 s → Gw l mX10_letterKind (g_rm 5 0 0) X 11 [some (.ref 1), some (.int x1), some (.int x2), some (.int y3), some (.int y4), some (.int y5), some (.int y6), none] [] (nrm s) 0 0 (g_Z X (q_i Q) 0 0)) : Gw l mX10_letterKind (g_rm 5 0 0) X 64 [some (.ref 1), some (.int x1), some (.int x2), some (.int y3), some (.int y4), none, some (.int y6), none] [.int z0] (nrm s) 0 0 (g_Z X (q_i Q) 0 0) := by
  refine r_istore (pc := 64) (L' := [some (.ref 1), some (.int x1), some (.int x2), some (.int y3), some (.int y4), some (.int z0), some (.int y6), none]) dX10_letterKind_64 rfl (by decide) rfl ?_
  refine n_iinc (pc := 66) (x := y4) (w := 1) (L' := [some (.ref 1), some (.int x1), some (.int x2), some (.int y3), some (.int (y4 + 1)), some (.int z0), some (.int y6), none]) dX10_letterKind_66 rfl (by decide) rfl (by decide) rfl ?_
  refine r_goto (pc := 69) (tgt := 94) dX10_letterKind_69 (by decide) ?_
  refine n_iinc (pc := 94) (x := y6) (w := 1) (L' := [some (.ref 1), some (.int x1), some (.int x2), some (.int y3), some (.int (y4 + 1)), some (.int z0), some (.int (y6 + 1)), none]) dX10_letterKind_94 rfl (by decide) rfl (by decide) rfl ?_
  refine r_goto (pc := 97) (tgt := 11) dX10_letterKind_97 (by decide) ?_
  refine n_L (L' := [some (.ref 1), some (.int x1), some (.int x2), some (.int y3), some (.int (y4 + 1)), some (.int z0), some (.int (y6 + 1)), none]) (le_s (le_s (le_s (le_s (le_s (le_s (le_s (le_n (le_e))))))))) ?_
  exact hk11 _ _ _ _ _ h
def wX10_letterKind_85 (x1 : Int32) (x2 : Int32) (Q : Int32 → gS → Prop) (k11 : Int32 → Int32 → Int32 → Int32 → gS → Prop) (y3 : Int32) (y6 : Int32) (s : gS) : Prop := k11 (y3 + 1) x1 1 (y6 + 1) s
set_option maxRecDepth 20000 in
theorem pX10_letterKind_85 {l : Launch} {X : gX} {x1 : Int32} {x2 : Int32}  {Q : Int32 → gS → Prop} {k11 : Int32 → Int32 → Int32 → Int32 → gS → Prop} (y3 : Int32) (y6 : Int32) (s : gS) (h : wX10_letterKind_85 x1 x2 Q k11 y3 y6 s) (hk11 : ∀ (y3 : Int32) (y4 : Int32) (y5 : Int32) (y6 : Int32) (s : gS), k11 y3 y4 y5 y6 s → Gw l mX10_letterKind (g_rm 5 0 0) X 11 [some (.ref 1), some (.int x1), some (.int x2), some (.int y3), some (.int y4), some (.int y5), some (.int y6), none] [] (nrm s) 0 0 (g_Z X (q_i Q) 0 0)) : Gw l mX10_letterKind (g_rm 5 0 0) X 85 [some (.ref 1), some (.int x1), some (.int x2), some (.int y3), none, none, some (.int y6), none] [] (nrm s) 0 0 (g_Z X (q_i Q) 0 0) := by
  refine n_iinc (pc := 85) (x := y3) (w := 1) (L' := [some (.ref 1), some (.int x1), some (.int x2), some (.int (y3 + 1)), none, none, some (.int y6), none]) dX10_letterKind_85 rfl (by decide) rfl (by decide) rfl ?_
  refine r_iload_n (pc := 88) (x := x1) dX10_letterKind_88 rfl ?_
  refine r_istore (pc := 89) (L' := [some (.ref 1), some (.int x1), some (.int x2), some (.int (y3 + 1)), some (.int x1), none, some (.int y6), none]) dX10_letterKind_89 rfl (by decide) rfl ?_
  refine r_iconst (pc := 91) (v := 1) dX10_letterKind_91 (by decide) ?_
  refine r_istore (pc := 92) (L' := [some (.ref 1), some (.int x1), some (.int x2), some (.int (y3 + 1)), some (.int x1), some (.int 1), some (.int y6), none]) dX10_letterKind_92 rfl (by decide) rfl ?_
  refine n_iinc (pc := 94) (x := y6) (w := 1) (L' := [some (.ref 1), some (.int x1), some (.int x2), some (.int (y3 + 1)), some (.int x1), some (.int 1), some (.int (y6 + 1)), none]) dX10_letterKind_94 rfl (by decide) rfl (by decide) rfl ?_
  refine r_goto (pc := 97) (tgt := 11) dX10_letterKind_97 (by decide) ?_
  refine n_L (L' := [some (.ref 1), some (.int x1), some (.int x2), some (.int (y3 + 1)), some (.int x1), some (.int 1), some (.int (y6 + 1)), none]) (le_s (le_s (le_s (le_s (le_s (le_s (le_s (le_n (le_e))))))))) ?_
  exact hk11 _ _ _ _ _ h
def wX10_letterKind_11 (x1 : Int32) (x2 : Int32) (Q : Int32 → gS → Prop)  : Nat → Int32 → Int32 → Int32 → Int32 → gS → Prop
  | 0, _, _, _, _, _ => False
  | n + 1, y3, y4, y5, y6, s => ((sl 1000) ≤ y6 → Q 40 s) ∧ (¬ ((sl 1000) ≤ y6) → vp_in y6 (g_sb 1000).length ∧ (((sch 1000 (ix y6)) = 32 → (y5 = 0 → wX10_letterKind_85 x1 x2 Q (fun y3 y4 y5 y6 s => wX10_letterKind_11 x1 x2 Q n y3 y4 y5 y6 s) y3 y6 s) ∧ (¬ (y5 = 0) → (¬ y4 = x2 → wX10_letterKind_85 x1 x2 Q (fun y3 y4 y5 y6 s => wX10_letterKind_11 x1 x2 Q n y3 y4 y5 y6 s) y3 y6 s) ∧ (y4 = x2 → Q y3 s))) ∧ (¬ ((sch 1000 (ix y6)) = 32) → (y5 = 0 → wX10_letterKind_63 x1 x2 Q (wX10_letterKind_64 x1 x2 Q (fun y3 y4 y5 y6 s => wX10_letterKind_11 x1 x2 Q n y3 y4 y5 y6 s)) y3 y4 y6 s) ∧ (¬ (y5 = 0) → (x2 ≤ y4 → wX10_letterKind_63 x1 x2 Q (wX10_letterKind_64 x1 x2 Q (fun y3 y4 y5 y6 s => wX10_letterKind_11 x1 x2 Q n y3 y4 y5 y6 s)) y3 y4 y6 s) ∧ (¬ (x2 ≤ y4) → wpX9_signAt y4 s (fun r2 s2 => (¬ r2 = (sch 1000 (ix y6)) → wX10_letterKind_63 x1 x2 Q (wX10_letterKind_64 x1 x2 Q (fun y3 y4 y5 y6 s => wX10_letterKind_11 x1 x2 Q n y3 y4 y5 y6 s)) y3 y4 y6 s2) ∧ (r2 = (sch 1000 (ix y6)) → wX10_letterKind_64 x1 x2 Q (fun y3 y4 y5 y6 s => wX10_letterKind_11 x1 x2 Q n y3 y4 y5 y6 s) y3 y4 y6 1 s2)))))))
set_option maxRecDepth 20000 in
theorem pX10_letterKind_11 {l : Launch} {X : gX} {x1 : Int32} {x2 : Int32}  {Q : Int32 → gS → Prop}  : ∀ (n : Nat) (y3 : Int32) (y4 : Int32) (y5 : Int32) (y6 : Int32) (s : gS) (h : wX10_letterKind_11 x1 x2 Q n y3 y4 y5 y6 s) , Gw l mX10_letterKind (g_rm 5 0 0) X 11 [some (.ref 1), some (.int x1), some (.int x2), some (.int y3), some (.int y4), some (.int y5), some (.int y6), none] [] (nrm s) 0 0 (g_Z X (q_i Q) 0 0) := by
  intro n
  induction n with
  | zero => intro y3 y4 y5 y6 s h; exact h.elim
  | succ n ih0 =>
    intro y3 y4 y5 y6 s h 
    have ih : ∀ (y3 : Int32) (y4 : Int32) (y5 : Int32) (y6 : Int32) (s : gS), wX10_letterKind_11 x1 x2 Q n y3 y4 y5 y6 s → Gw l mX10_letterKind (g_rm 5 0 0) X 11 [some (.ref 1), some (.int x1), some (.int x2), some (.int y3), some (.int y4), some (.int y5), some (.int y6), none] [] (nrm s) 0 0 (g_Z X (q_i Q) 0 0) := fun y3 y4 y5 y6 s h => ih0 y3 y4 y5 y6 s h 
    refine r_iload (pc := 11) (x := y6) dX10_letterKind_11 rfl ?_
    refine n_ldcS (pc := 13) (i := 0) dX10_letterKind_13 sr_RX10_64 ?_
    refine n_slen (pc := 15) dX10_letterKind_15 lk_RX10_66 ⟨Nat.le_of_ble_eq_true rfl, Nat.le_of_ble_eq_true rfl⟩ (Nat.le_of_ble_eq_true rfl) ⟨Nat.zero_le _, Nat.zero_le _⟩ (Or.inl (by decide)) ?_
    refine r_icmp_ge (pc := 18) (tgt := 100) dX10_letterKind_18 (by decide) (fun c => ?_) (fun c => ?_)
    · replace h := h.1 c
      refine r_bipush (pc := 100) (v := 40) dX10_letterKind_100 (by decide) ?_
      exact n_iret (pc := 102) dX10_letterKind_102 rfl (Nat.le_refl _) (Nat.le_refl _) h
    · replace h := h.2 c
      refine n_ldcS (pc := 21) (i := 0) dX10_letterKind_21 sr_RX10_64 ?_
      refine r_iload (pc := 23) (x := y6) dX10_letterKind_23 rfl ?_
      obtain ⟨b1, h⟩ := h
      refine n_schar (pc := 25) dX10_letterKind_25 lk_RX10_71 ⟨Nat.le_of_ble_eq_true rfl, Nat.le_of_ble_eq_true rfl⟩ (Nat.le_of_ble_eq_true rfl) ⟨Nat.zero_le _, Nat.zero_le _⟩ (Or.inl (by decide)) b1 ?_
      refine r_istore (pc := 28) (L' := [some (.ref 1), some (.int x1), some (.int x2), some (.int y3), some (.int y4), some (.int y5), some (.int y6), some (.int (sch 1000 (ix y6)))]) dX10_letterKind_28 rfl (by decide) rfl ?_
      refine r_iload (pc := 30) (x := sch 1000 (ix y6)) dX10_letterKind_30 rfl ?_
      refine r_bipush (pc := 32) (v := 32) dX10_letterKind_32 (by decide) ?_
      refine r_icmp_eq (pc := 34) (tgt := 72) dX10_letterKind_34 (by decide) (fun c => ?_) (fun c => ?_)
      · replace h := h.1 c
        refine r_iload (pc := 72) (x := y5) dX10_letterKind_72 rfl ?_
        refine r_if_eq (pc := 74) (tgt := 85) dX10_letterKind_74 (by decide) (fun c => ?_) (fun c => ?_)
        · replace h := h.1 c
          refine n_L (L' := [some (.ref 1), some (.int x1), some (.int x2), some (.int y3), none, none, some (.int y6), none]) (le_s (le_s (le_s (le_s (le_n (le_n (le_s (le_n (le_e))))))))) ?_
          exact pX10_letterKind_85  _ _ _ h ih
        · replace h := h.2 c
          refine r_iload (pc := 77) (x := y4) dX10_letterKind_77 rfl ?_
          refine r_iload_n (pc := 79) (x := x2) dX10_letterKind_79 rfl ?_
          refine r_icmp_ne (pc := 80) (tgt := 85) dX10_letterKind_80 (by decide) (fun c => ?_) (fun c => ?_)
          · replace h := h.1 c
            refine n_L (L' := [some (.ref 1), some (.int x1), some (.int x2), some (.int y3), none, none, some (.int y6), none]) (le_s (le_s (le_s (le_s (le_n (le_n (le_s (le_n (le_e))))))))) ?_
            exact pX10_letterKind_85  _ _ _ h ih
          · replace h := h.2 c
            refine r_iload_n (pc := 83) (x := y3) dX10_letterKind_83 rfl ?_
            exact n_iret (pc := 84) dX10_letterKind_84 rfl (Nat.le_refl _) (Nat.le_refl _) h
      · replace h := h.2 c
        refine r_iload (pc := 37) (x := y5) dX10_letterKind_37 rfl ?_
        refine r_if_eq (pc := 39) (tgt := 63) dX10_letterKind_39 (by decide) (fun c => ?_) (fun c => ?_)
        · replace h := h.1 c
          refine n_L (L' := [some (.ref 1), some (.int x1), some (.int x2), some (.int y3), some (.int y4), none, some (.int y6), none]) (le_s (le_s (le_s (le_s (le_s (le_n (le_s (le_n (le_e))))))))) ?_
          exact pX10_letterKind_63  _ _ _ _ h (fun _ _ _ _ _ h => pX10_letterKind_64  _ _ _ _ _ h ih)
        · replace h := h.2 c
          refine r_iload (pc := 42) (x := y4) dX10_letterKind_42 rfl ?_
          refine r_iload_n (pc := 44) (x := x2) dX10_letterKind_44 rfl ?_
          refine r_icmp_ge (pc := 45) (tgt := 63) dX10_letterKind_45 (by decide) (fun c => ?_) (fun c => ?_)
          · replace h := h.1 c
            refine n_L (L' := [some (.ref 1), some (.int x1), some (.int x2), some (.int y3), some (.int y4), none, some (.int y6), none]) (le_s (le_s (le_s (le_s (le_s (le_n (le_s (le_n (le_e))))))))) ?_
            exact pX10_letterKind_63  _ _ _ _ h (fun _ _ _ _ _ h => pX10_letterKind_64  _ _ _ _ _ h ih)
          · replace h := h.2 c
            refine r_aload_n (pc := 48) (x := 1) dX10_letterKind_48 rfl ?_
            refine r_iload (pc := 49) (x := y4) dX10_letterKind_49 rfl ?_
            refine n_Vi0 (pc := 51) (S0 := []) (spX9_signAt h) gmX9_signAt selX9_signAt lk_RX10_54 dX10_letterKind_51 rfl (by decide) sh_1 ⟨rfl, by decide⟩ rfl ⟨Nat.le_of_ble_eq_true rfl, Nat.le_of_ble_eq_true rfl⟩ (Nat.le_of_ble_eq_true rfl) ⟨Nat.zero_le _, Nat.zero_le _⟩ (fun r2 s2 h => ?_)
            refine r_iload (pc := 54) (x := sch 1000 (ix y6)) dX10_letterKind_54 rfl ?_
            refine r_icmp_ne (pc := 56) (tgt := 63) dX10_letterKind_56 (by decide) (fun c => ?_) (fun c => ?_)
            · replace h := h.1 c
              refine n_L (L' := [some (.ref 1), some (.int x1), some (.int x2), some (.int y3), some (.int y4), none, some (.int y6), none]) (le_s (le_s (le_s (le_s (le_s (le_n (le_s (le_n (le_e))))))))) ?_
              exact pX10_letterKind_63  _ _ _ _ h (fun _ _ _ _ _ h => pX10_letterKind_64  _ _ _ _ _ h ih)
            · replace h := h.2 c
              refine r_iconst (pc := 59) (v := 1) dX10_letterKind_59 (by decide) ?_
              refine r_goto (pc := 60) (tgt := 64) dX10_letterKind_60 (by decide) ?_
              refine n_L (L' := [some (.ref 1), some (.int x1), some (.int x2), some (.int y3), some (.int y4), none, some (.int y6), none]) (le_s (le_s (le_s (le_s (le_s (le_n (le_s (le_n (le_e))))))))) ?_
              exact pX10_letterKind_64  _ _ _ _ _ h ih
def wpX10_letterKind (x1 : Int32) (x2 : Int32) (s : gS) (Q : Int32 → gS → Prop) : Prop := ∃ n11, wX10_letterKind_11 x1 x2 Q n11 0 x1 1 0 s
set_option maxRecDepth 20000 in
theorem spX10_letterKind {l : Launch} {x1 : Int32} {x2 : Int32}  {s : gS} {Q : Int32 → gS → Prop} (h : wpX10_letterKind x1 x2 s Q) : Ct l mX10_letterKind 5 0 0 [.ref 1, .int x1, .int x2] (nrm s) (q_i Q) := by
  refine Ct.of (by decide) (Nat.le_of_ble_eq_true rfl) (fun X => ?_)
  refine n_L (L' := [some (.ref 1), some (.int x1), some (.int x2), none, none, none, none, none]) (le_s (le_s (le_s (le_p (le_p (le_p (le_p (le_p (le_e))))))))) ?_
  refine r_iconst (pc := 0) (v := 0) dX10_letterKind_0 (by decide) ?_
  refine r_istore_n (pc := 1) (L' := [some (.ref 1), some (.int x1), some (.int x2), some (.int 0), none, none, none, none]) dX10_letterKind_1 rfl (by decide) rfl ?_
  refine r_iload_n (pc := 2) (x := x1) dX10_letterKind_2 rfl ?_
  refine r_istore (pc := 3) (L' := [some (.ref 1), some (.int x1), some (.int x2), some (.int 0), some (.int x1), none, none, none]) dX10_letterKind_3 rfl (by decide) rfl ?_
  refine r_iconst (pc := 5) (v := 1) dX10_letterKind_5 (by decide) ?_
  refine r_istore (pc := 6) (L' := [some (.ref 1), some (.int x1), some (.int x2), some (.int 0), some (.int x1), some (.int 1), none, none]) dX10_letterKind_6 rfl (by decide) rfl ?_
  refine r_iconst (pc := 8) (v := 0) dX10_letterKind_8 (by decide) ?_
  refine r_istore (pc := 9) (L' := [some (.ref 1), some (.int x1), some (.int x2), some (.int 0), some (.int x1), some (.int 1), some (.int 0), none]) dX10_letterKind_9 rfl (by decide) rfl ?_
  refine n_L (L' := [some (.ref 1), some (.int x1), some (.int x2), some (.int 0), some (.int x1), some (.int 1), some (.int 0), none]) (le_s (le_s (le_s (le_s (le_s (le_s (le_s (le_n (le_e))))))))) ?_
  obtain ⟨n, h⟩ := h
  exact pX10_letterKind_11  n _ _ _ _ _ h 
def wX10_split_93  (Q : gS → Prop) (k116 : Int32 → Int32 → Int32 → gS → Prop) (y2 : Int32) (y3 : Int32) (y4 : Int32) (z0 : Int32) (z1 : Int32) (s : gS) : Prop := vp_in z1 81 ∧ (k116 y2 y3 y4 (wi s 6 (ix z1) z0))
set_option maxRecDepth 20000 in
theorem pX10_split_93 {l : Launch} {X : gX}   {Q : gS → Prop} {k116 : Int32 → Int32 → Int32 → gS → Prop} (y2 : Int32) (y3 : Int32) (y4 : Int32) (z0 : Int32) (z1 : Int32) (s : gS) (h : wX10_split_93  Q k116 y2 y3 y4 z0 z1 s) (hk116 : ∀ (y2 : Int32) (y3 : Int32) (y4 : Int32) (s : gS), k116 y2 y3 y4 s → Gw l mX10_split (g_rm 6 0 0) X 116 [some (.ref 4), some (.ref 1), some (.int y2), some (.int y3), some (.int y4)] [] (nrm s) 0 0 (g_Z X (q_v Q) 0 0)) : Gw l mX10_split (g_rm 6 0 0) X 93 [some (.ref 4), some (.ref 1), some (.int y2), some (.int y3), some (.int y4)] [.int z0, .int z1, .ref 6] (nrm s) 0 0 (g_Z X (q_v Q) 0 0) := by
  obtain ⟨b12, h⟩ := h
  refine n_iast (pc := 93) (j := (ix z1)) dX10_split_93 (by decide) sh_6 b12 rfl ?_
  refine r_goto (pc := 94) (tgt := 116) dX10_split_94 (by decide) ?_
  refine n_L (L' := [some (.ref 4), some (.ref 1), some (.int y2), some (.int y3), some (.int y4)]) (le_s (le_s (le_s (le_s (le_s (le_e)))))) ?_
  exact hk116 _ _ _ _ h
def wX10_split_116  (Q : gS → Prop) (k8 : Int32 → Int32 → gS → Prop) (k145 : gS → Prop) (y2 : Int32) (y3 : Int32) (y4 : Int32) (s : gS) : Prop := vp_in y4 81 ∧ ((y3 = 41 → k145 (wi s 5 (ix y4) y3)) ∧ (¬ (y3 = 41) → (¬ y3 = 40 → k8 y2 (y4 + 1) (wi s 5 (ix y4) y3)) ∧ (y3 = 40 → k145 (wi s 5 (ix y4) y3))))
set_option maxRecDepth 20000 in
theorem pX10_split_116 {l : Launch} {X : gX}   {Q : gS → Prop} {k8 : Int32 → Int32 → gS → Prop} {k145 : gS → Prop} (y2 : Int32) (y3 : Int32) (y4 : Int32) (s : gS) (h : wX10_split_116  Q k8 k145 y2 y3 y4 s) (hk8 : ∀ (y2 : Int32) (y4 : Int32) (s : gS), k8 y2 y4 s → Gw l mX10_split (g_rm 6 0 0) X 8 [some (.ref 4), some (.ref 1), some (.int y2), none, some (.int y4)] [] (nrm s) 0 0 (g_Z X (q_v Q) 0 0)) (hk145 : ∀ (s : gS), k145  s → Gw l mX10_split (g_rm 6 0 0) X 145 [some (.ref 4), none, none, none, none] [] (nrm s) 0 0 (g_Z X (q_v Q) 0 0)) : Gw l mX10_split (g_rm 6 0 0) X 116 [some (.ref 4), some (.ref 1), some (.int y2), some (.int y3), some (.int y4)] [] (nrm s) 0 0 (g_Z X (q_v Q) 0 0) := by
  refine r_aload_n (pc := 116) (x := 4) dX10_split_116 rfl ?_
  refine n_getR (pc := 117) (j := 0) (q := 5) dX10_split_117 fl_RX10_9 (by decide) sh_4 rfl rfl rfl ?_
  refine r_iload (pc := 120) (x := y4) dX10_split_120 rfl ?_
  refine r_iload_n (pc := 122) (x := y3) dX10_split_122 rfl ?_
  obtain ⟨b11, h⟩ := h
  refine n_iast (pc := 123) (j := (ix y4)) dX10_split_123 (by decide) sh_5 b11 rfl ?_
  refine r_iload_n (pc := 124) (x := y3) dX10_split_124 rfl ?_
  refine r_bipush (pc := 125) (v := 41) dX10_split_125 (by decide) ?_
  refine r_icmp_eq (pc := 127) (tgt := 145) dX10_split_127 (by decide) (fun c => ?_) (fun c => ?_)
  · replace h := h.1 c
    refine n_L (L' := [some (.ref 4), none, none, none, none]) (le_s (le_n (le_n (le_n (le_n (le_e)))))) ?_
    exact hk145  _ h
  · replace h := h.2 c
    refine r_iload_n (pc := 130) (x := y3) dX10_split_130 rfl ?_
    refine r_bipush (pc := 131) (v := 40) dX10_split_131 (by decide) ?_
    refine r_icmp_ne (pc := 133) (tgt := 139) dX10_split_133 (by decide) (fun c => ?_) (fun c => ?_)
    · replace h := h.1 c
      refine n_iinc (pc := 139) (x := y4) (w := 1) (L' := [some (.ref 4), some (.ref 1), some (.int y2), some (.int y3), some (.int (y4 + 1))]) dX10_split_139 rfl (by decide) rfl (by decide) rfl ?_
      refine r_goto (pc := 142) (tgt := 8) dX10_split_142 (by decide) ?_
      refine n_L (L' := [some (.ref 4), some (.ref 1), some (.int y2), none, some (.int (y4 + 1))]) (le_s (le_s (le_s (le_n (le_s (le_e)))))) ?_
      exact hk8 _ _ _ h
    · replace h := h.2 c
      refine r_goto (pc := 136) (tgt := 145) dX10_split_136 (by decide) ?_
      refine n_L (L' := [some (.ref 4), none, none, none, none]) (le_s (le_n (le_n (le_n (le_n (le_e)))))) ?_
      exact hk145  _ h
def wX10_split_145  (Q : gS → Prop)   (s : gS) : Prop := Q (wi (wi (wi s 4 2 0) 4 3 (gi (wi s 4 2 0) 5 0)) 4 4 (gi (wi (wi s 4 2 0) 4 3 (gi (wi s 4 2 0) 5 0)) 6 0))
set_option maxRecDepth 20000 in
theorem pX10_split_145 {l : Launch} {X : gX}   {Q : gS → Prop}   (s : gS) (h : wX10_split_145  Q  s)  : Gw l mX10_split (g_rm 6 0 0) X 145 [some (.ref 4), none, none, none, none] [] (nrm s) 0 0 (g_Z X (q_v Q) 0 0) := by
  refine r_aload_n (pc := 145) (x := 4) dX10_split_145 rfl ?_
  refine r_iconst (pc := 146) (v := 0) dX10_split_146 (by decide) ?_
  refine n_putI (pc := 147) (j := 2) dX10_split_147 fl_RX10_18 fw_10_2 (by decide) sh_4 rfl rfl ?_
  refine r_aload_n (pc := 150) (x := 4) dX10_split_150 rfl ?_
  refine r_aload_n (pc := 151) (x := 4) dX10_split_151 rfl ?_
  refine n_getR (pc := 152) (j := 0) (q := 5) dX10_split_152 fl_RX10_9 (by decide) sh_4 rfl rfl rfl ?_
  refine r_iconst (pc := 155) (v := 0) dX10_split_155 (by decide) ?_
  refine n_iald (pc := 156) (j := 0) dX10_split_156 (by decide) sh_5 (vp_inc (by decide)) (by decide) ?_
  refine n_putI (pc := 157) (j := 3) dX10_split_157 fl_RX10_22 fw_10_3 (by decide) sh_4 rfl rfl ?_
  refine r_aload_n (pc := 160) (x := 4) dX10_split_160 rfl ?_
  refine r_aload_n (pc := 161) (x := 4) dX10_split_161 rfl ?_
  refine n_getR (pc := 162) (j := 1) (q := 6) dX10_split_162 fl_RX10_15 (by decide) sh_4 rfl rfl rfl ?_
  refine r_iconst (pc := 165) (v := 0) dX10_split_165 (by decide) ?_
  refine n_iald (pc := 166) (j := 0) dX10_split_166 (by decide) sh_6 (vp_inc (by decide)) (by decide) ?_
  refine n_putI (pc := 167) (j := 4) dX10_split_167 fl_RX10_25 fw_10_4 (by decide) sh_4 rfl rfl ?_
  exact n_vret (pc := 170) dX10_split_170 rfl (Nat.le_refl _) (Nat.le_refl _) h
def wX10_split_8  (Q : gS → Prop)  : Nat → Int32 → Int32 → gS → Prop
  | 0, _, _, _ => False
  | n + 1, y2, y4, s => (80 < y4 → wX10_split_145  Q s) ∧ (¬ (80 < y4) → wpX10_endOfBlanks y2 s (fun r1 s1 => vp_in y4 81 ∧ ((r1 < (gi (wi s1 6 (ix y4) r1) 1 1) → wpX9_isDigit r1 (wi s1 6 (ix y4) r1) (fun r3 s3 => (r3 = 0 → wpX10_endOfLetters r1 s3 (fun r4 s4 => vp_in y4 81 ∧ (wpX10_letterKind (gi s4 6 (ix y4)) r4 s4 (fun r6 s6 => wX10_split_116  Q (fun y2 y4 s => wX10_split_8  Q n y2 y4 s) (wX10_split_145  Q) r4 r6 y4 s6)))) ∧ (¬ (r3 = 0) → wpX10_endOfDigits r1 s3 (fun r7 s7 => vp_in y4 81 ∧ (wpX10_numberKind (gi s7 6 (ix y4)) r7 s7 (fun r9 s9 => (¬ r9 = 40 → vp_in y4 81 ∧ (wX10_split_93  Q (wX10_split_116  Q (fun y2 y4 s => wX10_split_8  Q n y2 y4 s) (wX10_split_145  Q)) r7 r9 y4 (gi s9 6 (ix y4)) y4 s9)) ∧ (r9 = 40 → wX10_split_93  Q (wX10_split_116  Q (fun y2 y4 s => wX10_split_8  Q n y2 y4 s) (wX10_split_145  Q)) r7 r9 y4 r7 y4 s9))))))) ∧ (¬ (r1 < (gi (wi s1 6 (ix y4) r1) 1 1)) → wX10_split_116  Q (fun y2 y4 s => wX10_split_8  Q n y2 y4 s) (wX10_split_145  Q) r1 41 y4 (wi s1 6 (ix y4) r1)))))
set_option maxRecDepth 20000 in
theorem pX10_split_8 {l : Launch} {X : gX}   {Q : gS → Prop}  : ∀ (n : Nat) (y2 : Int32) (y4 : Int32) (s : gS) (h : wX10_split_8  Q n y2 y4 s) , Gw l mX10_split (g_rm 6 0 0) X 8 [some (.ref 4), some (.ref 1), some (.int y2), none, some (.int y4)] [] (nrm s) 0 0 (g_Z X (q_v Q) 0 0) := by
  intro n
  induction n with
  | zero => intro y2 y4 s h; exact h.elim
  | succ n ih0 =>
    intro y2 y4 s h 
    have ih : ∀ (y2 : Int32) (y4 : Int32) (s : gS), wX10_split_8  Q n y2 y4 s → Gw l mX10_split (g_rm 6 0 0) X 8 [some (.ref 4), some (.ref 1), some (.int y2), none, some (.int y4)] [] (nrm s) 0 0 (g_Z X (q_v Q) 0 0) := fun y2 y4 s h => ih0 y2 y4 s h 
    refine r_iload (pc := 8) (x := y4) dX10_split_8 rfl ?_
    refine r_bipush (pc := 10) (v := 80) dX10_split_10 (by decide) ?_
    refine r_icmp_gt (pc := 12) (tgt := 145) dX10_split_12 (by decide) (fun c => ?_) (fun c => ?_)
    · replace h := h.1 c
      refine n_L (L' := [some (.ref 4), none, none, none, none]) (le_s (le_n (le_n (le_n (le_n (le_e)))))) ?_
      exact pX10_split_145   _ h 
    · replace h := h.2 c
      refine r_aload_n (pc := 15) (x := 1) dX10_split_15 rfl ?_
      refine r_iload_n (pc := 16) (x := y2) dX10_split_16 rfl ?_
      refine n_Si0 (pc := 17) (S0 := []) (spX10_endOfBlanks h) gmX10_endOfBlanks lk_RX10_28 dX10_split_17 rfl rfl ⟨Nat.le_of_ble_eq_true rfl, Nat.le_of_ble_eq_true rfl⟩ (Nat.le_of_ble_eq_true rfl) ⟨Nat.zero_le _, Nat.zero_le _⟩ (fun r1 s1 h => ?_)
      refine r_istore_n (pc := 20) (L' := [some (.ref 4), some (.ref 1), some (.int r1), none, some (.int y4)]) dX10_split_20 rfl (by decide) rfl ?_
      refine r_aload_n (pc := 21) (x := 4) dX10_split_21 rfl ?_
      refine n_getR (pc := 22) (j := 1) (q := 6) dX10_split_22 fl_RX10_15 (by decide) sh_4 rfl rfl rfl ?_
      refine r_iload (pc := 25) (x := y4) dX10_split_25 rfl ?_
      refine r_iload_n (pc := 27) (x := r1) dX10_split_27 rfl ?_
      obtain ⟨b2, h⟩ := h
      refine n_iast (pc := 28) (j := (ix y4)) dX10_split_28 (by decide) sh_6 b2 rfl ?_
      refine r_iload_n (pc := 29) (x := r1) dX10_split_29 rfl ?_
      refine r_aload_n (pc := 30) (x := 1) dX10_split_30 rfl ?_
      refine n_getI (pc := 31) (j := 1) dX10_split_31 fl_RX10_32 (by decide) sh_1 rfl rfl ?_
      refine r_icmp_lt (pc := 34) (tgt := 43) dX10_split_34 (by decide) (fun c => ?_) (fun c => ?_)
      · replace h := h.1 c
        refine r_aload_n (pc := 43) (x := 1) dX10_split_43 rfl ?_
        refine r_iload_n (pc := 44) (x := r1) dX10_split_44 rfl ?_
        refine n_Vi0 (pc := 45) (S0 := []) (spX9_isDigit h) gmX9_isDigit selX9_isDigit lk_RX10_37 dX10_split_45 rfl (by decide) sh_1 ⟨rfl, by decide⟩ rfl ⟨Nat.le_of_ble_eq_true rfl, Nat.le_of_ble_eq_true rfl⟩ (Nat.le_of_ble_eq_true rfl) ⟨Nat.zero_le _, Nat.zero_le _⟩ (fun r3 s3 h => ?_)
        refine r_if_eq (pc := 48) (tgt := 97) dX10_split_48 (by decide) (fun c => ?_) (fun c => ?_)
        · replace h := h.1 c
          refine r_aload_n (pc := 97) (x := 1) dX10_split_97 rfl ?_
          refine r_iload_n (pc := 98) (x := r1) dX10_split_98 rfl ?_
          refine n_Si0 (pc := 99) (S0 := []) (spX10_endOfLetters h) gmX10_endOfLetters lk_RX10_48 dX10_split_99 rfl rfl ⟨Nat.le_of_ble_eq_true rfl, Nat.le_of_ble_eq_true rfl⟩ (Nat.le_of_ble_eq_true rfl) ⟨Nat.zero_le _, Nat.zero_le _⟩ (fun r4 s4 h => ?_)
          refine r_istore_n (pc := 102) (L' := [some (.ref 4), some (.ref 1), some (.int r4), none, some (.int y4)]) dX10_split_102 rfl (by decide) rfl ?_
          refine r_aload_n (pc := 103) (x := 1) dX10_split_103 rfl ?_
          refine r_aload_n (pc := 104) (x := 4) dX10_split_104 rfl ?_
          refine n_getR (pc := 105) (j := 1) (q := 6) dX10_split_105 fl_RX10_15 (by decide) sh_4 rfl rfl rfl ?_
          refine r_iload (pc := 108) (x := y4) dX10_split_108 rfl ?_
          obtain ⟨b5, h⟩ := h
          refine n_iald (pc := 110) (j := (ix y4)) dX10_split_110 (by decide) sh_6 b5 rfl ?_
          refine r_iload_n (pc := 111) (x := r4) dX10_split_111 rfl ?_
          refine n_Si0 (pc := 112) (S0 := []) (spX10_letterKind h) gmX10_letterKind lk_RX10_51 dX10_split_112 rfl rfl ⟨Nat.le_of_ble_eq_true rfl, Nat.le_of_ble_eq_true rfl⟩ (Nat.le_of_ble_eq_true rfl) ⟨Nat.zero_le _, Nat.zero_le _⟩ (fun r6 s6 h => ?_)
          refine r_istore_n (pc := 115) (L' := [some (.ref 4), some (.ref 1), some (.int r4), some (.int r6), some (.int y4)]) dX10_split_115 rfl (by decide) rfl ?_
          refine n_L (L' := [some (.ref 4), some (.ref 1), some (.int r4), some (.int r6), some (.int y4)]) (le_s (le_s (le_s (le_s (le_s (le_e)))))) ?_
          exact pX10_split_116  _ _ _ _ h ih (fun  _ h => pX10_split_145   _ h )
        · replace h := h.2 c
          refine r_aload_n (pc := 51) (x := 1) dX10_split_51 rfl ?_
          refine r_iload_n (pc := 52) (x := r1) dX10_split_52 rfl ?_
          refine n_Si0 (pc := 53) (S0 := []) (spX10_endOfDigits h) gmX10_endOfDigits lk_RX10_41 dX10_split_53 rfl rfl ⟨Nat.le_of_ble_eq_true rfl, Nat.le_of_ble_eq_true rfl⟩ (Nat.le_of_ble_eq_true rfl) ⟨Nat.zero_le _, Nat.zero_le _⟩ (fun r7 s7 h => ?_)
          refine r_istore_n (pc := 56) (L' := [some (.ref 4), some (.ref 1), some (.int r7), none, some (.int y4)]) dX10_split_56 rfl (by decide) rfl ?_
          refine r_aload_n (pc := 57) (x := 1) dX10_split_57 rfl ?_
          refine r_aload_n (pc := 58) (x := 4) dX10_split_58 rfl ?_
          refine n_getR (pc := 59) (j := 1) (q := 6) dX10_split_59 fl_RX10_15 (by decide) sh_4 rfl rfl rfl ?_
          refine r_iload (pc := 62) (x := y4) dX10_split_62 rfl ?_
          obtain ⟨b8, h⟩ := h
          refine n_iald (pc := 64) (j := (ix y4)) dX10_split_64 (by decide) sh_6 b8 rfl ?_
          refine r_iload_n (pc := 65) (x := r7) dX10_split_65 rfl ?_
          refine n_Si0 (pc := 66) (S0 := []) (spX10_numberKind h) gmX10_numberKind lk_RX10_44 dX10_split_66 rfl rfl ⟨Nat.le_of_ble_eq_true rfl, Nat.le_of_ble_eq_true rfl⟩ (Nat.le_of_ble_eq_true rfl) ⟨Nat.zero_le _, Nat.zero_le _⟩ (fun r9 s9 h => ?_)
          refine r_istore_n (pc := 69) (L' := [some (.ref 4), some (.ref 1), some (.int r7), some (.int r9), some (.int y4)]) dX10_split_69 rfl (by decide) rfl ?_
          refine r_aload_n (pc := 70) (x := 4) dX10_split_70 rfl ?_
          refine n_getR (pc := 71) (j := 1) (q := 6) dX10_split_71 fl_RX10_15 (by decide) sh_4 rfl rfl rfl ?_
          refine r_iload (pc := 74) (x := y4) dX10_split_74 rfl ?_
          refine r_iload_n (pc := 76) (x := r9) dX10_split_76 rfl ?_
          refine r_bipush (pc := 77) (v := 40) dX10_split_77 (by decide) ?_
          refine r_icmp_ne (pc := 79) (tgt := 86) dX10_split_79 (by decide) (fun c => ?_) (fun c => ?_)
          · replace h := h.1 c
            refine r_aload_n (pc := 86) (x := 4) dX10_split_86 rfl ?_
            refine n_getR (pc := 87) (j := 1) (q := 6) dX10_split_87 fl_RX10_15 (by decide) sh_4 rfl rfl rfl ?_
            refine r_iload (pc := 90) (x := y4) dX10_split_90 rfl ?_
            obtain ⟨b10, h⟩ := h
            refine n_iald (pc := 92) (j := (ix y4)) dX10_split_92 (by decide) sh_6 b10 rfl ?_
            refine n_L (L' := [some (.ref 4), some (.ref 1), some (.int r7), some (.int r9), some (.int y4)]) (le_s (le_s (le_s (le_s (le_s (le_e)))))) ?_
            exact pX10_split_93  _ _ _ _ _ _ h (fun _ _ _ _ h => pX10_split_116  _ _ _ _ h ih (fun  _ h => pX10_split_145   _ h ))
          · replace h := h.2 c
            refine r_iload_n (pc := 82) (x := r7) dX10_split_82 rfl ?_
            refine r_goto (pc := 83) (tgt := 93) dX10_split_83 (by decide) ?_
            refine n_L (L' := [some (.ref 4), some (.ref 1), some (.int r7), some (.int r9), some (.int y4)]) (le_s (le_s (le_s (le_s (le_s (le_e)))))) ?_
            exact pX10_split_93  _ _ _ _ _ _ h (fun _ _ _ _ h => pX10_split_116  _ _ _ _ h ih (fun  _ h => pX10_split_145   _ h ))
      · replace h := h.2 c
        refine r_bipush (pc := 37) (v := 41) dX10_split_37 (by decide) ?_
        refine r_istore_n (pc := 39) (L' := [some (.ref 4), some (.ref 1), some (.int r1), some (.int 41), some (.int y4)]) dX10_split_39 rfl (by decide) rfl ?_
        refine r_goto (pc := 40) (tgt := 116) dX10_split_40 (by decide) ?_
        refine n_L (L' := [some (.ref 4), some (.ref 1), some (.int r1), some (.int 41), some (.int y4)]) (le_s (le_s (le_s (le_s (le_s (le_e)))))) ?_
        exact pX10_split_116  _ _ _ _ h ih (fun  _ h => pX10_split_145   _ h )
def wpX10_split  (s : gS) (Q : gS → Prop) : Prop := ∃ n8, wX10_split_8  Q n8 0 0 s
set_option maxRecDepth 20000 in
theorem spX10_split {l : Launch}   {s : gS} {Q : gS → Prop} (h : wpX10_split  s Q) : Ct l mX10_split 6 0 0 [.ref 4, .ref 1] (nrm s) (q_v Q) := by
  refine Ct.of (by decide) (Nat.le_of_ble_eq_true rfl) (fun X => ?_)
  refine n_L (L' := [some (.ref 4), some (.ref 1), none, none, none]) (le_s (le_s (le_p (le_p (le_p (le_e)))))) ?_
  refine r_iconst (pc := 0) (v := 0) dX10_split_0 (by decide) ?_
  refine r_istore_n (pc := 1) (L' := [some (.ref 4), some (.ref 1), some (.int 0), none, none]) dX10_split_1 rfl (by decide) rfl ?_
  refine r_bipush (pc := 2) (v := 40) dX10_split_2 (by decide) ?_
  refine r_istore_n (pc := 4) (L' := [some (.ref 4), some (.ref 1), some (.int 0), some (.int 40), none]) dX10_split_4 rfl (by decide) rfl ?_
  refine r_iconst (pc := 5) (v := 0) dX10_split_5 (by decide) ?_
  refine r_istore (pc := 6) (L' := [some (.ref 4), some (.ref 1), some (.int 0), some (.int 40), some (.int 0)]) dX10_split_6 rfl (by decide) rfl ?_
  refine n_L (L' := [some (.ref 4), some (.ref 1), some (.int 0), none, some (.int 0)]) (le_s (le_s (le_s (le_n (le_s (le_e)))))) ?_
  obtain ⟨n, h⟩ := h
  exact pX10_split_8  n _ _ _ h 
def wpX10_isNumber  (s : gS) (Q : Int32 → gS → Prop) : Prop := ((gi s 4 3) < 100 → Q 0 s) ∧ (¬ ((gi s 4 3) < 100) → Q 1 s)
set_option maxRecDepth 20000 in
theorem spX10_isNumber {l : Launch}   {s : gS} {Q : Int32 → gS → Prop} (h : wpX10_isNumber  s Q) : Ct l mX10_isNumber 1 0 0 [.ref 4] (nrm s) (q_i Q) := by
  refine Ct.of (by decide) (Nat.le_of_ble_eq_true rfl) (fun X => ?_)
  refine n_L (L' := [some (.ref 4)]) (le_s (le_e)) ?_
  refine r_aload_n (pc := 0) (x := 4) dX10_isNumber_0 rfl ?_
  refine n_getI (pc := 1) (j := 3) dX10_isNumber_1 fl_RX10_22 (by decide) sh_4 rfl rfl ?_
  refine r_bipush (pc := 4) (v := 100) dX10_isNumber_4 (by decide) ?_
  refine r_icmp_lt (pc := 6) (tgt := 13) dX10_isNumber_6 (by decide) (fun c => ?_) (fun c => ?_)
  · replace h := h.1 c
    refine r_iconst (pc := 13) (v := 0) dX10_isNumber_13 (by decide) ?_
    exact n_zret (pc := 14) dX10_isNumber_14 rfl (by decide) (Nat.le_refl _) (Nat.le_refl _) h
  · replace h := h.2 c
    refine r_iconst (pc := 9) (v := 1) dX10_isNumber_9 (by decide) ?_
    refine r_goto (pc := 10) (tgt := 14) dX10_isNumber_10 (by decide) ?_
    exact n_zret (pc := 14) dX10_isNumber_14 rfl (by decide) (Nat.le_refl _) (Nat.le_refl _) h
def wpX10_number  (s : gS) (Q : Int32 → gS → Prop) : Prop := Q ((gi s 4 3) - 100) s
set_option maxRecDepth 20000 in
theorem spX10_number {l : Launch}   {s : gS} {Q : Int32 → gS → Prop} (h : wpX10_number  s Q) : Ct l mX10_number 1 0 0 [.ref 4] (nrm s) (q_i Q) := by
  refine Ct.of (by decide) (Nat.le_of_ble_eq_true rfl) (fun X => ?_)
  refine n_L (L' := [some (.ref 4)]) (le_s (le_e)) ?_
  refine r_aload_n (pc := 0) (x := 4) dX10_number_0 rfl ?_
  refine n_getI (pc := 1) (j := 3) dX10_number_1 fl_RX10_22 (by decide) sh_4 rfl rfl ?_
  refine r_bipush (pc := 4) (v := 100) dX10_number_4 (by decide) ?_
  refine r_isub (pc := 6) dX10_number_6 ?_
  exact n_iret (pc := 7) dX10_number_7 rfl (Nat.le_refl _) (Nat.le_refl _) h
def wpX10_isFrom (x1 : Int32) (x2 : Int32) (s : gS) (Q : Int32 → gS → Prop) : Prop := ((gi s 4 3) < (100 + x1) → Q 0 s) ∧ (¬ ((gi s 4 3) < (100 + x1)) → ((100 + x2) < (gi s 4 3) → Q 0 s) ∧ (¬ ((100 + x2) < (gi s 4 3)) → Q 1 s))
set_option maxRecDepth 20000 in
theorem spX10_isFrom {l : Launch} {x1 : Int32} {x2 : Int32}  {s : gS} {Q : Int32 → gS → Prop} (h : wpX10_isFrom x1 x2 s Q) : Ct l mX10_isFrom 1 0 0 [.ref 4, .int x1, .int x2] (nrm s) (q_i Q) := by
  refine Ct.of (by decide) (Nat.le_of_ble_eq_true rfl) (fun X => ?_)
  refine n_L (L' := [some (.ref 4), some (.int x1), some (.int x2)]) (le_s (le_s (le_s (le_e)))) ?_
  refine r_aload_n (pc := 0) (x := 4) dX10_isFrom_0 rfl ?_
  refine n_getI (pc := 1) (j := 3) dX10_isFrom_1 fl_RX10_22 (by decide) sh_4 rfl rfl ?_
  refine r_bipush (pc := 4) (v := 100) dX10_isFrom_4 (by decide) ?_
  refine r_iload_n (pc := 6) (x := x1) dX10_isFrom_6 rfl ?_
  refine r_iadd (pc := 7) dX10_isFrom_7 ?_
  refine r_icmp_lt (pc := 8) (tgt := 26) dX10_isFrom_8 (by decide) (fun c => ?_) (fun c => ?_)
  · replace h := h.1 c
    refine r_iconst (pc := 26) (v := 0) dX10_isFrom_26 (by decide) ?_
    exact n_zret (pc := 27) dX10_isFrom_27 rfl (by decide) (Nat.le_refl _) (Nat.le_refl _) h
  · replace h := h.2 c
    refine r_aload_n (pc := 11) (x := 4) dX10_isFrom_11 rfl ?_
    refine n_getI (pc := 12) (j := 3) dX10_isFrom_12 fl_RX10_22 (by decide) sh_4 rfl rfl ?_
    refine r_bipush (pc := 15) (v := 100) dX10_isFrom_15 (by decide) ?_
    refine r_iload_n (pc := 17) (x := x2) dX10_isFrom_17 rfl ?_
    refine r_iadd (pc := 18) dX10_isFrom_18 ?_
    refine r_icmp_gt (pc := 19) (tgt := 26) dX10_isFrom_19 (by decide) (fun c => ?_) (fun c => ?_)
    · replace h := h.1 c
      refine r_iconst (pc := 26) (v := 0) dX10_isFrom_26 (by decide) ?_
      exact n_zret (pc := 27) dX10_isFrom_27 rfl (by decide) (Nat.le_refl _) (Nat.le_refl _) h
    · replace h := h.2 c
      refine r_iconst (pc := 22) (v := 1) dX10_isFrom_22 (by decide) ?_
      refine r_goto (pc := 23) (tgt := 27) dX10_isFrom_23 (by decide) ?_
      exact n_zret (pc := 27) dX10_isFrom_27 rfl (by decide) (Nat.le_refl _) (Nat.le_refl _) h
def wpX10_advance  (s : gS) (Q : gS → Prop) : Prop := ((gi s 4 2) < 0 → Q s) ∧ (¬ ((gi s 4 2) < 0) → (80 ≤ (gi s 4 2) → Q s) ∧ (¬ (80 ≤ (gi s 4 2)) → ((gi s 4 3) = 41 → Q s) ∧ (¬ ((gi s 4 3) = 41) → ((gi s 4 3) = 40 → Q s) ∧ (¬ ((gi s 4 3) = 40) → vp_in (gi (wi s 4 2 ((gi s 4 2) + 1)) 4 2) 81 ∧ (vp_in (gi (wi (wi s 4 2 ((gi s 4 2) + 1)) 4 3 (gi (wi s 4 2 ((gi s 4 2) + 1)) 5 (ix (gi (wi s 4 2 ((gi s 4 2) + 1)) 4 2)))) 4 2) 81 ∧ (Q (wi (wi (wi s 4 2 ((gi s 4 2) + 1)) 4 3 (gi (wi s 4 2 ((gi s 4 2) + 1)) 5 (ix (gi (wi s 4 2 ((gi s 4 2) + 1)) 4 2)))) 4 4 (gi (wi (wi s 4 2 ((gi s 4 2) + 1)) 4 3 (gi (wi s 4 2 ((gi s 4 2) + 1)) 5 (ix (gi (wi s 4 2 ((gi s 4 2) + 1)) 4 2)))) 6 (ix (gi (wi (wi s 4 2 ((gi s 4 2) + 1)) 4 3 (gi (wi s 4 2 ((gi s 4 2) + 1)) 5 (ix (gi (wi s 4 2 ((gi s 4 2) + 1)) 4 2)))) 4 2))))))))))
set_option maxRecDepth 20000 in
theorem spX10_advance {l : Launch}   {s : gS} {Q : gS → Prop} (h : wpX10_advance  s Q) : Ct l mX10_advance 1 0 0 [.ref 4] (nrm s) (q_v Q) := by
  refine Ct.of (by decide) (Nat.le_of_ble_eq_true rfl) (fun X => ?_)
  refine n_L (L' := [some (.ref 4)]) (le_s (le_e)) ?_
  refine r_aload_n (pc := 0) (x := 4) dX10_advance_0 rfl ?_
  refine n_getI (pc := 1) (j := 2) dX10_advance_1 fl_RX10_18 (by decide) sh_4 rfl rfl ?_
  refine r_if_lt (pc := 4) (tgt := 70) dX10_advance_4 (by decide) (fun c => ?_) (fun c => ?_)
  · replace h := h.1 c
    exact n_vret (pc := 70) dX10_advance_70 rfl (Nat.le_refl _) (Nat.le_refl _) h
  · replace h := h.2 c
    refine r_aload_n (pc := 7) (x := 4) dX10_advance_7 rfl ?_
    refine n_getI (pc := 8) (j := 2) dX10_advance_8 fl_RX10_18 (by decide) sh_4 rfl rfl ?_
    refine r_bipush (pc := 11) (v := 80) dX10_advance_11 (by decide) ?_
    refine r_icmp_ge (pc := 13) (tgt := 70) dX10_advance_13 (by decide) (fun c => ?_) (fun c => ?_)
    · replace h := h.1 c
      exact n_vret (pc := 70) dX10_advance_70 rfl (Nat.le_refl _) (Nat.le_refl _) h
    · replace h := h.2 c
      refine r_aload_n (pc := 16) (x := 4) dX10_advance_16 rfl ?_
      refine n_getI (pc := 17) (j := 3) dX10_advance_17 fl_RX10_22 (by decide) sh_4 rfl rfl ?_
      refine r_bipush (pc := 20) (v := 41) dX10_advance_20 (by decide) ?_
      refine r_icmp_eq (pc := 22) (tgt := 70) dX10_advance_22 (by decide) (fun c => ?_) (fun c => ?_)
      · replace h := h.1 c
        exact n_vret (pc := 70) dX10_advance_70 rfl (Nat.le_refl _) (Nat.le_refl _) h
      · replace h := h.2 c
        refine r_aload_n (pc := 25) (x := 4) dX10_advance_25 rfl ?_
        refine n_getI (pc := 26) (j := 3) dX10_advance_26 fl_RX10_22 (by decide) sh_4 rfl rfl ?_
        refine r_bipush (pc := 29) (v := 40) dX10_advance_29 (by decide) ?_
        refine r_icmp_eq (pc := 31) (tgt := 70) dX10_advance_31 (by decide) (fun c => ?_) (fun c => ?_)
        · replace h := h.1 c
          exact n_vret (pc := 70) dX10_advance_70 rfl (Nat.le_refl _) (Nat.le_refl _) h
        · replace h := h.2 c
          refine r_aload_n (pc := 34) (x := 4) dX10_advance_34 rfl ?_
          refine r_dup (pc := 35) dX10_advance_35 rfl ?_
          refine n_getI (pc := 36) (j := 2) dX10_advance_36 fl_RX10_18 (by decide) sh_4 rfl rfl ?_
          refine r_iconst (pc := 39) (v := 1) dX10_advance_39 (by decide) ?_
          refine r_iadd (pc := 40) dX10_advance_40 ?_
          refine n_putI (pc := 41) (j := 2) dX10_advance_41 fl_RX10_18 fw_10_2 (by decide) sh_4 rfl rfl ?_
          refine r_aload_n (pc := 44) (x := 4) dX10_advance_44 rfl ?_
          refine r_aload_n (pc := 45) (x := 4) dX10_advance_45 rfl ?_
          refine n_getR (pc := 46) (j := 0) (q := 5) dX10_advance_46 fl_RX10_9 (by decide) sh_4 rfl rfl rfl ?_
          refine r_aload_n (pc := 49) (x := 4) dX10_advance_49 rfl ?_
          refine n_getI (pc := 50) (j := 2) dX10_advance_50 fl_RX10_18 (by decide) sh_4 rfl rfl ?_
          obtain ⟨b1, h⟩ := h
          refine n_iald (pc := 53) (j := (ix (gi (wi s 4 2 ((gi s 4 2) + 1)) 4 2))) dX10_advance_53 (by decide) sh_5 b1 rfl ?_
          refine n_putI (pc := 54) (j := 3) dX10_advance_54 fl_RX10_22 fw_10_3 (by decide) sh_4 rfl rfl ?_
          refine r_aload_n (pc := 57) (x := 4) dX10_advance_57 rfl ?_
          refine r_aload_n (pc := 58) (x := 4) dX10_advance_58 rfl ?_
          refine n_getR (pc := 59) (j := 1) (q := 6) dX10_advance_59 fl_RX10_15 (by decide) sh_4 rfl rfl rfl ?_
          refine r_aload_n (pc := 62) (x := 4) dX10_advance_62 rfl ?_
          refine n_getI (pc := 63) (j := 2) dX10_advance_63 fl_RX10_18 (by decide) sh_4 rfl rfl ?_
          obtain ⟨b2, h⟩ := h
          refine n_iald (pc := 66) (j := (ix (gi (wi (wi s 4 2 ((gi s 4 2) + 1)) 4 3 (gi (wi s 4 2 ((gi s 4 2) + 1)) 5 (ix (gi (wi s 4 2 ((gi s 4 2) + 1)) 4 2)))) 4 2))) dX10_advance_66 (by decide) sh_6 b2 rfl ?_
          refine n_putI (pc := 67) (j := 4) dX10_advance_67 fl_RX10_25 fw_10_4 (by decide) sh_4 rfl rfl ?_
          exact n_vret (pc := 70) dX10_advance_70 rfl (Nat.le_refl _) (Nat.le_refl _) h
def wpX10_isUnit  (s : gS) (Q : Int32 → gS → Prop) : Prop := ((gi s 4 3) < 0 → Q 0 s) ∧ (¬ ((gi s 4 3) < 0) → (3 < (gi s 4 3) → Q 0 s) ∧ (¬ (3 < (gi s 4 3)) → Q 1 s))
set_option maxRecDepth 20000 in
theorem spX10_isUnit {l : Launch}   {s : gS} {Q : Int32 → gS → Prop} (h : wpX10_isUnit  s Q) : Ct l mX10_isUnit 1 0 0 [.ref 4] (nrm s) (q_i Q) := by
  refine Ct.of (by decide) (Nat.le_of_ble_eq_true rfl) (fun X => ?_)
  refine n_L (L' := [some (.ref 4)]) (le_s (le_e)) ?_
  refine r_aload_n (pc := 0) (x := 4) dX10_isUnit_0 rfl ?_
  refine n_getI (pc := 1) (j := 3) dX10_isUnit_1 fl_RX10_22 (by decide) sh_4 rfl rfl ?_
  refine r_if_lt (pc := 4) (tgt := 19) dX10_isUnit_4 (by decide) (fun c => ?_) (fun c => ?_)
  · replace h := h.1 c
    refine r_iconst (pc := 19) (v := 0) dX10_isUnit_19 (by decide) ?_
    exact n_zret (pc := 20) dX10_isUnit_20 rfl (by decide) (Nat.le_refl _) (Nat.le_refl _) h
  · replace h := h.2 c
    refine r_aload_n (pc := 7) (x := 4) dX10_isUnit_7 rfl ?_
    refine n_getI (pc := 8) (j := 3) dX10_isUnit_8 fl_RX10_22 (by decide) sh_4 rfl rfl ?_
    refine r_iconst (pc := 11) (v := 3) dX10_isUnit_11 (by decide) ?_
    refine r_icmp_gt (pc := 12) (tgt := 19) dX10_isUnit_12 (by decide) (fun c => ?_) (fun c => ?_)
    · replace h := h.1 c
      refine r_iconst (pc := 19) (v := 0) dX10_isUnit_19 (by decide) ?_
      exact n_zret (pc := 20) dX10_isUnit_20 rfl (by decide) (Nat.le_refl _) (Nat.le_refl _) h
    · replace h := h.2 c
      refine r_iconst (pc := 15) (v := 1) dX10_isUnit_15 (by decide) ?_
      refine r_goto (pc := 16) (tgt := 20) dX10_isUnit_16 (by decide) ?_
      exact n_zret (pc := 20) dX10_isUnit_20 rfl (by decide) (Nat.le_refl _) (Nat.le_refl _) h
def wpX10_isDayName  (s : gS) (Q : Int32 → gS → Prop) : Prop := ((gi s 4 3) < 4 → Q 0 s) ∧ (¬ ((gi s 4 3) < 4) → (11 ≤ (gi s 4 3) → Q 0 s) ∧ (¬ (11 ≤ (gi s 4 3)) → Q 1 s))
set_option maxRecDepth 20000 in
theorem spX10_isDayName {l : Launch}   {s : gS} {Q : Int32 → gS → Prop} (h : wpX10_isDayName  s Q) : Ct l mX10_isDayName 1 0 0 [.ref 4] (nrm s) (q_i Q) := by
  refine Ct.of (by decide) (Nat.le_of_ble_eq_true rfl) (fun X => ?_)
  refine n_L (L' := [some (.ref 4)]) (le_s (le_e)) ?_
  refine r_aload_n (pc := 0) (x := 4) dX10_isDayName_0 rfl ?_
  refine n_getI (pc := 1) (j := 3) dX10_isDayName_1 fl_RX10_22 (by decide) sh_4 rfl rfl ?_
  refine r_iconst (pc := 4) (v := 4) dX10_isDayName_4 (by decide) ?_
  refine r_icmp_lt (pc := 5) (tgt := 21) dX10_isDayName_5 (by decide) (fun c => ?_) (fun c => ?_)
  · replace h := h.1 c
    refine r_iconst (pc := 21) (v := 0) dX10_isDayName_21 (by decide) ?_
    exact n_zret (pc := 22) dX10_isDayName_22 rfl (by decide) (Nat.le_refl _) (Nat.le_refl _) h
  · replace h := h.2 c
    refine r_aload_n (pc := 8) (x := 4) dX10_isDayName_8 rfl ?_
    refine n_getI (pc := 9) (j := 3) dX10_isDayName_9 fl_RX10_22 (by decide) sh_4 rfl rfl ?_
    refine r_bipush (pc := 12) (v := 11) dX10_isDayName_12 (by decide) ?_
    refine r_icmp_ge (pc := 14) (tgt := 21) dX10_isDayName_14 (by decide) (fun c => ?_) (fun c => ?_)
    · replace h := h.1 c
      refine r_iconst (pc := 21) (v := 0) dX10_isDayName_21 (by decide) ?_
      exact n_zret (pc := 22) dX10_isDayName_22 rfl (by decide) (Nat.le_refl _) (Nat.le_refl _) h
    · replace h := h.2 c
      refine r_iconst (pc := 17) (v := 1) dX10_isDayName_17 (by decide) ?_
      refine r_goto (pc := 18) (tgt := 22) dX10_isDayName_18 (by decide) ?_
      exact n_zret (pc := 22) dX10_isDayName_22 rfl (by decide) (Nat.le_refl _) (Nat.le_refl _) h
def wpX10_isMonthName  (s : gS) (Q : Int32 → gS → Prop) : Prop := ((gi s 4 3) < 11 → Q 0 s) ∧ (¬ ((gi s 4 3) < 11) → (23 ≤ (gi s 4 3) → Q 0 s) ∧ (¬ (23 ≤ (gi s 4 3)) → Q 1 s))
set_option maxRecDepth 20000 in
theorem spX10_isMonthName {l : Launch}   {s : gS} {Q : Int32 → gS → Prop} (h : wpX10_isMonthName  s Q) : Ct l mX10_isMonthName 1 0 0 [.ref 4] (nrm s) (q_i Q) := by
  refine Ct.of (by decide) (Nat.le_of_ble_eq_true rfl) (fun X => ?_)
  refine n_L (L' := [some (.ref 4)]) (le_s (le_e)) ?_
  refine r_aload_n (pc := 0) (x := 4) dX10_isMonthName_0 rfl ?_
  refine n_getI (pc := 1) (j := 3) dX10_isMonthName_1 fl_RX10_22 (by decide) sh_4 rfl rfl ?_
  refine r_bipush (pc := 4) (v := 11) dX10_isMonthName_4 (by decide) ?_
  refine r_icmp_lt (pc := 6) (tgt := 22) dX10_isMonthName_6 (by decide) (fun c => ?_) (fun c => ?_)
  · replace h := h.1 c
    refine r_iconst (pc := 22) (v := 0) dX10_isMonthName_22 (by decide) ?_
    exact n_zret (pc := 23) dX10_isMonthName_23 rfl (by decide) (Nat.le_refl _) (Nat.le_refl _) h
  · replace h := h.2 c
    refine r_aload_n (pc := 9) (x := 4) dX10_isMonthName_9 rfl ?_
    refine n_getI (pc := 10) (j := 3) dX10_isMonthName_10 fl_RX10_22 (by decide) sh_4 rfl rfl ?_
    refine r_bipush (pc := 13) (v := 23) dX10_isMonthName_13 (by decide) ?_
    refine r_icmp_ge (pc := 15) (tgt := 22) dX10_isMonthName_15 (by decide) (fun c => ?_) (fun c => ?_)
    · replace h := h.1 c
      refine r_iconst (pc := 22) (v := 0) dX10_isMonthName_22 (by decide) ?_
      exact n_zret (pc := 23) dX10_isMonthName_23 rfl (by decide) (Nat.le_refl _) (Nat.le_refl _) h
    · replace h := h.2 c
      refine r_iconst (pc := 18) (v := 1) dX10_isMonthName_18 (by decide) ?_
      refine r_goto (pc := 19) (tgt := 23) dX10_isMonthName_19 (by decide) ?_
      exact n_zret (pc := 23) dX10_isMonthName_23 rfl (by decide) (Nat.le_refl _) (Nat.le_refl _) h
def wpX10_beginsSpan  (s : gS) (Q : Int32 → gS → Prop) : Prop := ((gi s 4 3) < 23 → Q 0 s) ∧ (¬ ((gi s 4 3) < 23) → (33 < (gi s 4 3) → Q 0 s) ∧ (¬ (33 < (gi s 4 3)) → Q 1 s))
set_option maxRecDepth 20000 in
theorem spX10_beginsSpan {l : Launch}   {s : gS} {Q : Int32 → gS → Prop} (h : wpX10_beginsSpan  s Q) : Ct l mX10_beginsSpan 1 0 0 [.ref 4] (nrm s) (q_i Q) := by
  refine Ct.of (by decide) (Nat.le_of_ble_eq_true rfl) (fun X => ?_)
  refine n_L (L' := [some (.ref 4)]) (le_s (le_e)) ?_
  refine r_aload_n (pc := 0) (x := 4) dX10_beginsSpan_0 rfl ?_
  refine n_getI (pc := 1) (j := 3) dX10_beginsSpan_1 fl_RX10_22 (by decide) sh_4 rfl rfl ?_
  refine r_bipush (pc := 4) (v := 23) dX10_beginsSpan_4 (by decide) ?_
  refine r_icmp_lt (pc := 6) (tgt := 22) dX10_beginsSpan_6 (by decide) (fun c => ?_) (fun c => ?_)
  · replace h := h.1 c
    refine r_iconst (pc := 22) (v := 0) dX10_beginsSpan_22 (by decide) ?_
    exact n_zret (pc := 23) dX10_beginsSpan_23 rfl (by decide) (Nat.le_refl _) (Nat.le_refl _) h
  · replace h := h.2 c
    refine r_aload_n (pc := 9) (x := 4) dX10_beginsSpan_9 rfl ?_
    refine n_getI (pc := 10) (j := 3) dX10_beginsSpan_10 fl_RX10_22 (by decide) sh_4 rfl rfl ?_
    refine r_bipush (pc := 13) (v := 33) dX10_beginsSpan_13 (by decide) ?_
    refine r_icmp_gt (pc := 15) (tgt := 22) dX10_beginsSpan_15 (by decide) (fun c => ?_) (fun c => ?_)
    · replace h := h.1 c
      refine r_iconst (pc := 22) (v := 0) dX10_beginsSpan_22 (by decide) ?_
      exact n_zret (pc := 23) dX10_beginsSpan_23 rfl (by decide) (Nat.le_refl _) (Nat.le_refl _) h
    · replace h := h.2 c
      refine r_iconst (pc := 18) (v := 1) dX10_beginsSpan_18 (by decide) ?_
      refine r_goto (pc := 19) (tgt := 23) dX10_beginsSpan_19 (by decide) ?_
      exact n_zret (pc := 23) dX10_beginsSpan_23 rfl (by decide) (Nat.le_refl _) (Nat.le_refl _) h
def wpX6_clear  (s : gS) (Q : gS → Prop) : Prop := Q (wi s 18 1 0)
set_option maxRecDepth 20000 in
theorem spX6_clear {l : Launch}   {s : gS} {Q : gS → Prop} (h : wpX6_clear  s Q) : Ct l mX6_clear 1 0 0 [.ref 18] (nrm s) (q_v Q) := by
  refine Ct.of (by decide) (Nat.le_of_ble_eq_true rfl) (fun X => ?_)
  refine n_L (L' := [some (.ref 18)]) (le_s (le_e)) ?_
  refine r_aload_n (pc := 0) (x := 18) dX6_clear_0 rfl ?_
  refine r_iconst (pc := 1) (v := 0) dX6_clear_1 (by decide) ?_
  refine n_putI (pc := 2) (j := 1) dX6_clear_2 fl_RX6_15 fw_6_1 (by decide) sh_18 rfl rfl ?_
  exact n_vret (pc := 5) dX6_clear_5 rfl (Nat.le_refl _) (Nat.le_refl _) h
def wpX6_add (x1 : Int32) (s : gS) (Q : gS → Prop) : Prop := ((gi s 18 1) < 0 → Q s) ∧ (¬ ((gi s 18 1) < 0) → (24 ≤ (gi s 18 1) → Q s) ∧ (¬ (24 ≤ (gi s 18 1)) → vp_in (gi s 18 1) 24 ∧ (Q (wi (wi s 19 (ix (gi s 18 1)) x1) 18 1 ((gi (wi s 19 (ix (gi s 18 1)) x1) 18 1) + 1)))))
set_option maxRecDepth 20000 in
theorem spX6_add {l : Launch} {x1 : Int32}  {s : gS} {Q : gS → Prop} (h : wpX6_add x1 s Q) : Ct l mX6_add 1 0 0 [.ref 18, .int x1] (nrm s) (q_v Q) := by
  refine Ct.of (by decide) (Nat.le_of_ble_eq_true rfl) (fun X => ?_)
  refine n_L (L' := [some (.ref 18), some (.int x1)]) (le_s (le_s (le_e))) ?_
  refine r_aload_n (pc := 0) (x := 18) dX6_add_0 rfl ?_
  refine n_getI (pc := 1) (j := 1) dX6_add_1 fl_RX6_15 (by decide) sh_18 rfl rfl ?_
  refine r_if_lt (pc := 4) (tgt := 39) dX6_add_4 (by decide) (fun c => ?_) (fun c => ?_)
  · replace h := h.1 c
    exact n_vret (pc := 39) dX6_add_39 rfl (Nat.le_refl _) (Nat.le_refl _) h
  · replace h := h.2 c
    refine r_aload_n (pc := 7) (x := 18) dX6_add_7 rfl ?_
    refine n_getI (pc := 8) (j := 1) dX6_add_8 fl_RX6_15 (by decide) sh_18 rfl rfl ?_
    refine r_aload_n (pc := 11) (x := 18) dX6_add_11 rfl ?_
    refine n_getR (pc := 12) (j := 0) (q := 19) dX6_add_12 fl_RX6_9 (by decide) sh_18 rfl rfl rfl ?_
    refine n_alen (pc := 15) (v := 24) dX6_add_15 (by decide) sh_19 (by decide) (by decide) ?_
    refine r_icmp_ge (pc := 16) (tgt := 39) dX6_add_16 (by decide) (fun c => ?_) (fun c => ?_)
    · replace h := h.1 c
      exact n_vret (pc := 39) dX6_add_39 rfl (Nat.le_refl _) (Nat.le_refl _) h
    · replace h := h.2 c
      refine r_aload_n (pc := 19) (x := 18) dX6_add_19 rfl ?_
      refine n_getR (pc := 20) (j := 0) (q := 19) dX6_add_20 fl_RX6_9 (by decide) sh_18 rfl rfl rfl ?_
      refine r_aload_n (pc := 23) (x := 18) dX6_add_23 rfl ?_
      refine n_getI (pc := 24) (j := 1) dX6_add_24 fl_RX6_15 (by decide) sh_18 rfl rfl ?_
      refine r_iload_n (pc := 27) (x := x1) dX6_add_27 rfl ?_
      obtain ⟨b1, h⟩ := h
      refine n_iast (pc := 28) (j := (ix (gi s 18 1))) dX6_add_28 (by decide) sh_19 b1 rfl ?_
      refine r_aload_n (pc := 29) (x := 18) dX6_add_29 rfl ?_
      refine r_dup (pc := 30) dX6_add_30 rfl ?_
      refine n_getI (pc := 31) (j := 1) dX6_add_31 fl_RX6_15 (by decide) sh_18 rfl rfl ?_
      refine r_iconst (pc := 34) (v := 1) dX6_add_34 (by decide) ?_
      refine r_iadd (pc := 35) dX6_add_35 ?_
      refine n_putI (pc := 36) (j := 1) dX6_add_36 fl_RX6_15 fw_6_1 (by decide) sh_18 rfl rfl ?_
      exact n_vret (pc := 39) dX6_add_39 rfl (Nat.le_refl _) (Nat.le_refl _) h
def wpX6_numberAt (x1 : Int32) (s : gS) (Q : Int32 → gS → Prop) : Prop := (x1 < 0 → Q 0 s) ∧ (¬ (x1 < 0) → ((gi s 18 1) ≤ x1 → Q 0 s) ∧ (¬ ((gi s 18 1) ≤ x1) → (24 ≤ x1 → Q 0 s) ∧ (¬ (24 ≤ x1) → vp_in x1 24 ∧ (Q (gi s 19 (ix x1)) s))))
set_option maxRecDepth 20000 in
theorem spX6_numberAt {l : Launch} {x1 : Int32}  {s : gS} {Q : Int32 → gS → Prop} (h : wpX6_numberAt x1 s Q) : Ct l mX6_numberAt 1 0 0 [.ref 18, .int x1] (nrm s) (q_i Q) := by
  refine Ct.of (by decide) (Nat.le_of_ble_eq_true rfl) (fun X => ?_)
  refine n_L (L' := [some (.ref 18), some (.int x1)]) (le_s (le_s (le_e))) ?_
  refine r_iload_n (pc := 0) (x := x1) dX6_numberAt_0 rfl ?_
  refine r_if_lt (pc := 1) (tgt := 30) dX6_numberAt_1 (by decide) (fun c => ?_) (fun c => ?_)
  · replace h := h.1 c
    refine r_iconst (pc := 30) (v := 0) dX6_numberAt_30 (by decide) ?_
    exact n_iret (pc := 31) dX6_numberAt_31 rfl (Nat.le_refl _) (Nat.le_refl _) h
  · replace h := h.2 c
    refine r_iload_n (pc := 4) (x := x1) dX6_numberAt_4 rfl ?_
    refine r_aload_n (pc := 5) (x := 18) dX6_numberAt_5 rfl ?_
    refine n_getI (pc := 6) (j := 1) dX6_numberAt_6 fl_RX6_15 (by decide) sh_18 rfl rfl ?_
    refine r_icmp_ge (pc := 9) (tgt := 30) dX6_numberAt_9 (by decide) (fun c => ?_) (fun c => ?_)
    · replace h := h.1 c
      refine r_iconst (pc := 30) (v := 0) dX6_numberAt_30 (by decide) ?_
      exact n_iret (pc := 31) dX6_numberAt_31 rfl (Nat.le_refl _) (Nat.le_refl _) h
    · replace h := h.2 c
      refine r_iload_n (pc := 12) (x := x1) dX6_numberAt_12 rfl ?_
      refine r_aload_n (pc := 13) (x := 18) dX6_numberAt_13 rfl ?_
      refine n_getR (pc := 14) (j := 0) (q := 19) dX6_numberAt_14 fl_RX6_9 (by decide) sh_18 rfl rfl rfl ?_
      refine n_alen (pc := 17) (v := 24) dX6_numberAt_17 (by decide) sh_19 (by decide) (by decide) ?_
      refine r_icmp_ge (pc := 18) (tgt := 30) dX6_numberAt_18 (by decide) (fun c => ?_) (fun c => ?_)
      · replace h := h.1 c
        refine r_iconst (pc := 30) (v := 0) dX6_numberAt_30 (by decide) ?_
        exact n_iret (pc := 31) dX6_numberAt_31 rfl (Nat.le_refl _) (Nat.le_refl _) h
      · replace h := h.2 c
        refine r_aload_n (pc := 21) (x := 18) dX6_numberAt_21 rfl ?_
        refine n_getR (pc := 22) (j := 0) (q := 19) dX6_numberAt_22 fl_RX6_9 (by decide) sh_18 rfl rfl rfl ?_
        refine r_iload_n (pc := 25) (x := x1) dX6_numberAt_25 rfl ?_
        obtain ⟨b1, h⟩ := h
        refine n_iald (pc := 26) (j := (ix x1)) dX6_numberAt_26 (by decide) sh_19 b1 rfl ?_
        refine r_goto (pc := 27) (tgt := 31) dX6_numberAt_27 (by decide) ?_
        exact n_iret (pc := 31) dX6_numberAt_31 rfl (Nat.le_refl _) (Nat.le_refl _) h
def wpX9_append (x1 : Int32) (s : gS) (Q : Int32 → gS → Prop) : Prop := ((gi s 1 1) < 0 → Q (-1) s) ∧ (¬ ((gi s 1 1) < 0) → (((gi s 1 1) + 4) ≤ 80 → vp_in (gi s 1 1) 80 ∧ (vp_in ((gi (wi s 2 (ix (gi s 1 1)) (jushr x1 24)) 1 1) + 1) 80 ∧ (vp_in ((gi (wi (wi s 2 (ix (gi s 1 1)) (jushr x1 24)) 2 (ix ((gi (wi s 2 (ix (gi s 1 1)) (jushr x1 24)) 1 1) + 1)) ((jushr x1 16) &&& 255)) 1 1) + 2) 80 ∧ (vp_in ((gi (wi (wi (wi s 2 (ix (gi s 1 1)) (jushr x1 24)) 2 (ix ((gi (wi s 2 (ix (gi s 1 1)) (jushr x1 24)) 1 1) + 1)) ((jushr x1 16) &&& 255)) 2 (ix ((gi (wi (wi s 2 (ix (gi s 1 1)) (jushr x1 24)) 2 (ix ((gi (wi s 2 (ix (gi s 1 1)) (jushr x1 24)) 1 1) + 1)) ((jushr x1 16) &&& 255)) 1 1) + 2)) ((jushr x1 8) &&& 255)) 1 1) + 3) 80 ∧ (Q (gi (wi (wi (wi (wi (wi s 2 (ix (gi s 1 1)) (jushr x1 24)) 2 (ix ((gi (wi s 2 (ix (gi s 1 1)) (jushr x1 24)) 1 1) + 1)) ((jushr x1 16) &&& 255)) 2 (ix ((gi (wi (wi s 2 (ix (gi s 1 1)) (jushr x1 24)) 2 (ix ((gi (wi s 2 (ix (gi s 1 1)) (jushr x1 24)) 1 1) + 1)) ((jushr x1 16) &&& 255)) 1 1) + 2)) ((jushr x1 8) &&& 255)) 2 (ix ((gi (wi (wi (wi s 2 (ix (gi s 1 1)) (jushr x1 24)) 2 (ix ((gi (wi s 2 (ix (gi s 1 1)) (jushr x1 24)) 1 1) + 1)) ((jushr x1 16) &&& 255)) 2 (ix ((gi (wi (wi s 2 (ix (gi s 1 1)) (jushr x1 24)) 2 (ix ((gi (wi s 2 (ix (gi s 1 1)) (jushr x1 24)) 1 1) + 1)) ((jushr x1 16) &&& 255)) 1 1) + 2)) ((jushr x1 8) &&& 255)) 1 1) + 3)) (x1 &&& 255)) 1 1 ((gi (wi (wi (wi (wi s 2 (ix (gi s 1 1)) (jushr x1 24)) 2 (ix ((gi (wi s 2 (ix (gi s 1 1)) (jushr x1 24)) 1 1) + 1)) ((jushr x1 16) &&& 255)) 2 (ix ((gi (wi (wi s 2 (ix (gi s 1 1)) (jushr x1 24)) 2 (ix ((gi (wi s 2 (ix (gi s 1 1)) (jushr x1 24)) 1 1) + 1)) ((jushr x1 16) &&& 255)) 1 1) + 2)) ((jushr x1 8) &&& 255)) 2 (ix ((gi (wi (wi (wi s 2 (ix (gi s 1 1)) (jushr x1 24)) 2 (ix ((gi (wi s 2 (ix (gi s 1 1)) (jushr x1 24)) 1 1) + 1)) ((jushr x1 16) &&& 255)) 2 (ix ((gi (wi (wi s 2 (ix (gi s 1 1)) (jushr x1 24)) 2 (ix ((gi (wi s 2 (ix (gi s 1 1)) (jushr x1 24)) 1 1) + 1)) ((jushr x1 16) &&& 255)) 1 1) + 2)) ((jushr x1 8) &&& 255)) 1 1) + 3)) (x1 &&& 255)) 1 1) + 4)) 1 1) (wi (wi (wi (wi (wi s 2 (ix (gi s 1 1)) (jushr x1 24)) 2 (ix ((gi (wi s 2 (ix (gi s 1 1)) (jushr x1 24)) 1 1) + 1)) ((jushr x1 16) &&& 255)) 2 (ix ((gi (wi (wi s 2 (ix (gi s 1 1)) (jushr x1 24)) 2 (ix ((gi (wi s 2 (ix (gi s 1 1)) (jushr x1 24)) 1 1) + 1)) ((jushr x1 16) &&& 255)) 1 1) + 2)) ((jushr x1 8) &&& 255)) 2 (ix ((gi (wi (wi (wi s 2 (ix (gi s 1 1)) (jushr x1 24)) 2 (ix ((gi (wi s 2 (ix (gi s 1 1)) (jushr x1 24)) 1 1) + 1)) ((jushr x1 16) &&& 255)) 2 (ix ((gi (wi (wi s 2 (ix (gi s 1 1)) (jushr x1 24)) 2 (ix ((gi (wi s 2 (ix (gi s 1 1)) (jushr x1 24)) 1 1) + 1)) ((jushr x1 16) &&& 255)) 1 1) + 2)) ((jushr x1 8) &&& 255)) 1 1) + 3)) (x1 &&& 255)) 1 1 ((gi (wi (wi (wi (wi s 2 (ix (gi s 1 1)) (jushr x1 24)) 2 (ix ((gi (wi s 2 (ix (gi s 1 1)) (jushr x1 24)) 1 1) + 1)) ((jushr x1 16) &&& 255)) 2 (ix ((gi (wi (wi s 2 (ix (gi s 1 1)) (jushr x1 24)) 2 (ix ((gi (wi s 2 (ix (gi s 1 1)) (jushr x1 24)) 1 1) + 1)) ((jushr x1 16) &&& 255)) 1 1) + 2)) ((jushr x1 8) &&& 255)) 2 (ix ((gi (wi (wi (wi s 2 (ix (gi s 1 1)) (jushr x1 24)) 2 (ix ((gi (wi s 2 (ix (gi s 1 1)) (jushr x1 24)) 1 1) + 1)) ((jushr x1 16) &&& 255)) 2 (ix ((gi (wi (wi s 2 (ix (gi s 1 1)) (jushr x1 24)) 2 (ix ((gi (wi s 2 (ix (gi s 1 1)) (jushr x1 24)) 1 1) + 1)) ((jushr x1 16) &&& 255)) 1 1) + 2)) ((jushr x1 8) &&& 255)) 1 1) + 3)) (x1 &&& 255)) 1 1) + 4))))))) ∧ (¬ (((gi s 1 1) + 4) ≤ 80) → Q (-1) s))
set_option maxRecDepth 20000 in
theorem spX9_append {l : Launch} {x1 : Int32}  {s : gS} {Q : Int32 → gS → Prop} (h : wpX9_append x1 s Q) : Ct l mX9_append 1 0 0 [.ref 1, .int x1] (nrm s) (q_i Q) := by
  refine Ct.of (by decide) (Nat.le_of_ble_eq_true rfl) (fun X => ?_)
  refine n_L (L' := [some (.ref 1), some (.int x1)]) (le_s (le_s (le_e))) ?_
  refine r_aload_n (pc := 0) (x := 1) dX9_append_0 rfl ?_
  refine n_getI (pc := 1) (j := 1) dX9_append_1 fl_RX9_15 (by decide) sh_1 rfl rfl ?_
  refine r_if_lt (pc := 4) (tgt := 18) dX9_append_4 (by decide) (fun c => ?_) (fun c => ?_)
  · replace h := h.1 c
    refine r_iconst (pc := 18) (v := (-1)) dX9_append_18 (by decide) ?_
    exact n_iret (pc := 19) dX9_append_19 rfl (Nat.le_refl _) (Nat.le_refl _) h
  · replace h := h.2 c
    refine r_aload_n (pc := 7) (x := 1) dX9_append_7 rfl ?_
    refine n_getI (pc := 8) (j := 1) dX9_append_8 fl_RX9_15 (by decide) sh_1 rfl rfl ?_
    refine r_iconst (pc := 11) (v := 4) dX9_append_11 (by decide) ?_
    refine r_iadd (pc := 12) dX9_append_12 ?_
    refine r_bipush (pc := 13) (v := 80) dX9_append_13 (by decide) ?_
    refine r_icmp_le (pc := 15) (tgt := 20) dX9_append_15 (by decide) (fun c => ?_) (fun c => ?_)
    · replace h := h.1 c
      refine r_aload_n (pc := 20) (x := 1) dX9_append_20 rfl ?_
      refine n_getR (pc := 21) (j := 0) (q := 2) dX9_append_21 fl_RX9_9 (by decide) sh_1 rfl rfl rfl ?_
      refine r_aload_n (pc := 24) (x := 1) dX9_append_24 rfl ?_
      refine n_getI (pc := 25) (j := 1) dX9_append_25 fl_RX9_15 (by decide) sh_1 rfl rfl ?_
      refine r_iload_n (pc := 28) (x := x1) dX9_append_28 rfl ?_
      refine r_bipush (pc := 29) (v := 24) dX9_append_29 (by decide) ?_
      refine n_iushr (pc := 31) dX9_append_31 ?_
      obtain ⟨b1, h⟩ := h
      refine n_iast (pc := 32) (j := (ix (gi s 1 1))) dX9_append_32 (by decide) sh_2 b1 rfl ?_
      refine r_aload_n (pc := 33) (x := 1) dX9_append_33 rfl ?_
      refine n_getR (pc := 34) (j := 0) (q := 2) dX9_append_34 fl_RX9_9 (by decide) sh_1 rfl rfl rfl ?_
      refine r_aload_n (pc := 37) (x := 1) dX9_append_37 rfl ?_
      refine n_getI (pc := 38) (j := 1) dX9_append_38 fl_RX9_15 (by decide) sh_1 rfl rfl ?_
      refine r_iconst (pc := 41) (v := 1) dX9_append_41 (by decide) ?_
      refine r_iadd (pc := 42) dX9_append_42 ?_
      refine r_iload_n (pc := 43) (x := x1) dX9_append_43 rfl ?_
      refine r_bipush (pc := 44) (v := 16) dX9_append_44 (by decide) ?_
      refine n_iushr (pc := 46) dX9_append_46 ?_
      refine r_sipush (pc := 47) (v := 255) dX9_append_47 (by decide) ?_
      refine r_iand (pc := 50) dX9_append_50 ?_
      obtain ⟨b2, h⟩ := h
      refine n_iast (pc := 51) (j := (ix ((gi (wi s 2 (ix (gi s 1 1)) (jushr x1 24)) 1 1) + 1))) dX9_append_51 (by decide) sh_2 b2 rfl ?_
      refine r_aload_n (pc := 52) (x := 1) dX9_append_52 rfl ?_
      refine n_getR (pc := 53) (j := 0) (q := 2) dX9_append_53 fl_RX9_9 (by decide) sh_1 rfl rfl rfl ?_
      refine r_aload_n (pc := 56) (x := 1) dX9_append_56 rfl ?_
      refine n_getI (pc := 57) (j := 1) dX9_append_57 fl_RX9_15 (by decide) sh_1 rfl rfl ?_
      refine r_iconst (pc := 60) (v := 2) dX9_append_60 (by decide) ?_
      refine r_iadd (pc := 61) dX9_append_61 ?_
      refine r_iload_n (pc := 62) (x := x1) dX9_append_62 rfl ?_
      refine r_bipush (pc := 63) (v := 8) dX9_append_63 (by decide) ?_
      refine n_iushr (pc := 65) dX9_append_65 ?_
      refine r_sipush (pc := 66) (v := 255) dX9_append_66 (by decide) ?_
      refine r_iand (pc := 69) dX9_append_69 ?_
      obtain ⟨b3, h⟩ := h
      refine n_iast (pc := 70) (j := (ix ((gi (wi (wi s 2 (ix (gi s 1 1)) (jushr x1 24)) 2 (ix ((gi (wi s 2 (ix (gi s 1 1)) (jushr x1 24)) 1 1) + 1)) ((jushr x1 16) &&& 255)) 1 1) + 2))) dX9_append_70 (by decide) sh_2 b3 rfl ?_
      refine r_aload_n (pc := 71) (x := 1) dX9_append_71 rfl ?_
      refine n_getR (pc := 72) (j := 0) (q := 2) dX9_append_72 fl_RX9_9 (by decide) sh_1 rfl rfl rfl ?_
      refine r_aload_n (pc := 75) (x := 1) dX9_append_75 rfl ?_
      refine n_getI (pc := 76) (j := 1) dX9_append_76 fl_RX9_15 (by decide) sh_1 rfl rfl ?_
      refine r_iconst (pc := 79) (v := 3) dX9_append_79 (by decide) ?_
      refine r_iadd (pc := 80) dX9_append_80 ?_
      refine r_iload_n (pc := 81) (x := x1) dX9_append_81 rfl ?_
      refine r_sipush (pc := 82) (v := 255) dX9_append_82 (by decide) ?_
      refine r_iand (pc := 85) dX9_append_85 ?_
      obtain ⟨b4, h⟩ := h
      refine n_iast (pc := 86) (j := (ix ((gi (wi (wi (wi s 2 (ix (gi s 1 1)) (jushr x1 24)) 2 (ix ((gi (wi s 2 (ix (gi s 1 1)) (jushr x1 24)) 1 1) + 1)) ((jushr x1 16) &&& 255)) 2 (ix ((gi (wi (wi s 2 (ix (gi s 1 1)) (jushr x1 24)) 2 (ix ((gi (wi s 2 (ix (gi s 1 1)) (jushr x1 24)) 1 1) + 1)) ((jushr x1 16) &&& 255)) 1 1) + 2)) ((jushr x1 8) &&& 255)) 1 1) + 3))) dX9_append_86 (by decide) sh_2 b4 rfl ?_
      refine r_aload_n (pc := 87) (x := 1) dX9_append_87 rfl ?_
      refine r_dup (pc := 88) dX9_append_88 rfl ?_
      refine n_getI (pc := 89) (j := 1) dX9_append_89 fl_RX9_15 (by decide) sh_1 rfl rfl ?_
      refine r_iconst (pc := 92) (v := 4) dX9_append_92 (by decide) ?_
      refine r_iadd (pc := 93) dX9_append_93 ?_
      refine n_putI (pc := 94) (j := 1) dX9_append_94 fl_RX9_15 fw_9_1 (by decide) sh_1 rfl rfl ?_
      refine r_aload_n (pc := 97) (x := 1) dX9_append_97 rfl ?_
      refine n_getI (pc := 98) (j := 1) dX9_append_98 fl_RX9_15 (by decide) sh_1 rfl rfl ?_
      exact n_iret (pc := 101) dX9_append_101 rfl (Nat.le_refl _) (Nat.le_refl _) h
    · replace h := h.2 c
      refine r_iconst (pc := 18) (v := (-1)) dX9_append_18 (by decide) ?_
      exact n_iret (pc := 19) dX9_append_19 rfl (Nat.le_refl _) (Nat.le_refl _) h
def wpX9_cut (x1 : Int32) (s : gS) (Q : Int32 → gS → Prop) : Prop := (x1 < 0 → Q 0 s) ∧ (¬ (x1 < 0) → (x1 ≤ (gi s 1 1) → Q 1 (wi s 1 1 x1)) ∧ (¬ (x1 ≤ (gi s 1 1)) → Q 0 s))
set_option maxRecDepth 20000 in
theorem spX9_cut {l : Launch} {x1 : Int32}  {s : gS} {Q : Int32 → gS → Prop} (h : wpX9_cut x1 s Q) : Ct l mX9_cut 1 0 0 [.ref 1, .int x1] (nrm s) (q_i Q) := by
  refine Ct.of (by decide) (Nat.le_of_ble_eq_true rfl) (fun X => ?_)
  refine n_L (L' := [some (.ref 1), some (.int x1)]) (le_s (le_s (le_e))) ?_
  refine r_iload_n (pc := 0) (x := x1) dX9_cut_0 rfl ?_
  refine r_if_lt (pc := 1) (tgt := 12) dX9_cut_1 (by decide) (fun c => ?_) (fun c => ?_)
  · replace h := h.1 c
    refine r_iconst (pc := 12) (v := 0) dX9_cut_12 (by decide) ?_
    exact n_zret (pc := 13) dX9_cut_13 rfl (by decide) (Nat.le_refl _) (Nat.le_refl _) h
  · replace h := h.2 c
    refine r_iload_n (pc := 4) (x := x1) dX9_cut_4 rfl ?_
    refine r_aload_n (pc := 5) (x := 1) dX9_cut_5 rfl ?_
    refine n_getI (pc := 6) (j := 1) dX9_cut_6 fl_RX9_15 (by decide) sh_1 rfl rfl ?_
    refine r_icmp_le (pc := 9) (tgt := 14) dX9_cut_9 (by decide) (fun c => ?_) (fun c => ?_)
    · replace h := h.1 c
      refine r_aload_n (pc := 14) (x := 1) dX9_cut_14 rfl ?_
      refine r_iload_n (pc := 15) (x := x1) dX9_cut_15 rfl ?_
      refine n_putI (pc := 16) (j := 1) dX9_cut_16 fl_RX9_15 fw_9_1 (by decide) sh_1 rfl rfl ?_
      refine r_iconst (pc := 19) (v := 1) dX9_cut_19 (by decide) ?_
      exact n_zret (pc := 20) dX9_cut_20 rfl (by decide) (Nat.le_refl _) (Nat.le_refl _) h
    · replace h := h.2 c
      refine r_iconst (pc := 12) (v := 0) dX9_cut_12 (by decide) ?_
      exact n_zret (pc := 13) dX9_cut_13 rfl (by decide) (Nat.le_refl _) (Nat.le_refl _) h
def wpX9_clear  (s : gS) (Q : gS → Prop) : Prop := Q (wi s 1 1 0)
set_option maxRecDepth 20000 in
theorem spX9_clear {l : Launch}   {s : gS} {Q : gS → Prop} (h : wpX9_clear  s Q) : Ct l mX9_clear 1 0 0 [.ref 1] (nrm s) (q_v Q) := by
  refine Ct.of (by decide) (Nat.le_of_ble_eq_true rfl) (fun X => ?_)
  refine n_L (L' := [some (.ref 1)]) (le_s (le_e)) ?_
  refine r_aload_n (pc := 0) (x := 1) dX9_clear_0 rfl ?_
  refine r_iconst (pc := 1) (v := 0) dX9_clear_1 (by decide) ?_
  refine n_putI (pc := 2) (j := 1) dX9_clear_2 fl_RX9_15 fw_9_1 (by decide) sh_1 rfl rfl ?_
  exact n_vret (pc := 5) dX9_clear_5 rfl (Nat.le_refl _) (Nat.le_refl _) h
