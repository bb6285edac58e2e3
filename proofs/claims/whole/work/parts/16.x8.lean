def wpX8_orders (a0 : Nat) (s : gS) (Q : Int32 → gS → Prop) : Prop := Q (gi s (a0 + 1) 2) s
set_option maxRecDepth 20000 in
theorem spX8_orders {l : Launch} {a0 : Nat} (ha0 : isSt a0) {s : gS} {Q : Int32 → gS → Prop} (h : wpX8_orders a0 s Q) : Ct l mX8_orders 1 0 0 [.ref a0] (nrm s) (q_i Q) := by
  refine Ct.of (by decide) (Nat.le_of_ble_eq_true rfl) (fun X => ?_)
  refine n_L (L' := [some (.ref a0)]) (le_s (le_e)) ?_
  refine r_aload_n (pc := 0) (x := a0) dX8_orders_0 rfl ?_
  refine n_getR (pc := 1) (j := 0) (q := (a0 + 1)) dX8_orders_1 fl_RX8_11 (lt_St ha0) (sh_St ha0) rfl rfl (rf_St_0 ha0) ?_
  refine r_iconst (pc := 4) (v := 2) dX8_orders_4 (by decide) ?_
  refine n_iald (pc := 5) (j := 2) dX8_orders_5 (lt_St_1 ha0) (sh_St_1 ha0) (vp_inc (by decide)) (by decide) ?_
  exact n_iret (pc := 6) dX8_orders_6 rfl (Nat.le_refl _) (Nat.le_refl _) h
def wpX8_code (a0 : Nat) (x1 : Int32) (s : gS) (Q : Int32 → gS → Prop) : Prop := (x1 < 0 → Q 0 s) ∧ (¬ (x1 < 0) → (11 ≤ x1 → Q 0 s) ∧ (¬ (11 ≤ x1) → vp_in (3 + x1) 170 ∧ (Q (gi s (a0 + 1) (ix (3 + x1))) s)))
set_option maxRecDepth 20000 in
theorem spX8_code {l : Launch} {a0 : Nat} {x1 : Int32} (ha0 : isSt a0) {s : gS} {Q : Int32 → gS → Prop} (h : wpX8_code a0 x1 s Q) : Ct l mX8_code 1 0 0 [.ref a0, .int x1] (nrm s) (q_i Q) := by
  refine Ct.of (by decide) (Nat.le_of_ble_eq_true rfl) (fun X => ?_)
  refine n_L (L' := [some (.ref a0), some (.int x1)]) (le_s (le_s (le_e))) ?_
  refine r_iload_n (pc := 0) (x := x1) dX8_code_0 rfl ?_
  refine r_if_lt (pc := 1) (tgt := 21) dX8_code_1 (by decide) (fun c => ?_) (fun c => ?_)
  · replace h := h.1 c
    refine r_iconst (pc := 21) (v := 0) dX8_code_21 (by decide) ?_
    exact n_iret (pc := 22) dX8_code_22 rfl (Nat.le_refl _) (Nat.le_refl _) h
  · replace h := h.2 c
    refine r_iload_n (pc := 4) (x := x1) dX8_code_4 rfl ?_
    refine r_bipush (pc := 5) (v := 11) dX8_code_5 (by decide) ?_
    refine r_icmp_ge (pc := 7) (tgt := 21) dX8_code_7 (by decide) (fun c => ?_) (fun c => ?_)
    · replace h := h.1 c
      refine r_iconst (pc := 21) (v := 0) dX8_code_21 (by decide) ?_
      exact n_iret (pc := 22) dX8_code_22 rfl (Nat.le_refl _) (Nat.le_refl _) h
    · replace h := h.2 c
      refine r_aload_n (pc := 10) (x := a0) dX8_code_10 rfl ?_
      refine n_getR (pc := 11) (j := 0) (q := (a0 + 1)) dX8_code_11 fl_RX8_11 (lt_St ha0) (sh_St ha0) rfl rfl (rf_St_0 ha0) ?_
      refine r_iconst (pc := 14) (v := 3) dX8_code_14 (by decide) ?_
      refine r_iload_n (pc := 15) (x := x1) dX8_code_15 rfl ?_
      refine r_iadd (pc := 16) dX8_code_16 ?_
      obtain ⟨b1, h⟩ := h
      refine n_iald (pc := 17) (j := (ix (3 + x1))) dX8_code_17 (lt_St_1 ha0) (sh_St_1 ha0) b1 rfl ?_
      refine r_goto (pc := 18) (tgt := 22) dX8_code_18 (by decide) ?_
      exact n_iret (pc := 22) dX8_code_22 rfl (Nat.le_refl _) (Nat.le_refl _) h
def wpX8_isTold (a0 : Nat) (x1 : Int32) (s : gS) (Q : Int32 → gS → Prop) : Prop := (x1 < 0 → Q 0 s) ∧ (¬ (x1 < 0) → (6 ≤ x1 → Q 0 s) ∧ (¬ (6 ≤ x1) → (¬ ((jshr (gi s (a0 + 1) 1) x1) &&& 1) = 1 → Q 0 s) ∧ (((jshr (gi s (a0 + 1) 1) x1) &&& 1) = 1 → Q 1 s)))
set_option maxRecDepth 20000 in
theorem spX8_isTold {l : Launch} {a0 : Nat} {x1 : Int32} (ha0 : isSt a0) {s : gS} {Q : Int32 → gS → Prop} (h : wpX8_isTold a0 x1 s Q) : Ct l mX8_isTold 1 0 0 [.ref a0, .int x1] (nrm s) (q_i Q) := by
  refine Ct.of (by decide) (Nat.le_of_ble_eq_true rfl) (fun X => ?_)
  refine n_L (L' := [some (.ref a0), some (.int x1)]) (le_s (le_s (le_e))) ?_
  refine r_iload_n (pc := 0) (x := x1) dX8_isTold_0 rfl ?_
  refine r_if_lt (pc := 1) (tgt := 28) dX8_isTold_1 (by decide) (fun c => ?_) (fun c => ?_)
  · replace h := h.1 c
    refine r_iconst (pc := 28) (v := 0) dX8_isTold_28 (by decide) ?_
    exact n_zret (pc := 29) dX8_isTold_29 rfl (by decide) (Nat.le_refl _) (Nat.le_refl _) h
  · replace h := h.2 c
    refine r_iload_n (pc := 4) (x := x1) dX8_isTold_4 rfl ?_
    refine r_bipush (pc := 5) (v := 6) dX8_isTold_5 (by decide) ?_
    refine r_icmp_ge (pc := 7) (tgt := 28) dX8_isTold_7 (by decide) (fun c => ?_) (fun c => ?_)
    · replace h := h.1 c
      refine r_iconst (pc := 28) (v := 0) dX8_isTold_28 (by decide) ?_
      exact n_zret (pc := 29) dX8_isTold_29 rfl (by decide) (Nat.le_refl _) (Nat.le_refl _) h
    · replace h := h.2 c
      refine r_aload_n (pc := 10) (x := a0) dX8_isTold_10 rfl ?_
      refine n_getR (pc := 11) (j := 0) (q := (a0 + 1)) dX8_isTold_11 fl_RX8_11 (lt_St ha0) (sh_St ha0) rfl rfl (rf_St_0 ha0) ?_
      refine r_iconst (pc := 14) (v := 1) dX8_isTold_14 (by decide) ?_
      refine n_iald (pc := 15) (j := 1) dX8_isTold_15 (lt_St_1 ha0) (sh_St_1 ha0) (vp_inc (by decide)) (by decide) ?_
      refine r_iload_n (pc := 16) (x := x1) dX8_isTold_16 rfl ?_
      refine n_ishr (pc := 17) dX8_isTold_17 ?_
      refine r_iconst (pc := 18) (v := 1) dX8_isTold_18 (by decide) ?_
      refine r_iand (pc := 19) dX8_isTold_19 ?_
      refine r_iconst (pc := 20) (v := 1) dX8_isTold_20 (by decide) ?_
      refine r_icmp_ne (pc := 21) (tgt := 28) dX8_isTold_21 (by decide) (fun c => ?_) (fun c => ?_)
      · replace h := h.1 c
        refine r_iconst (pc := 28) (v := 0) dX8_isTold_28 (by decide) ?_
        exact n_zret (pc := 29) dX8_isTold_29 rfl (by decide) (Nat.le_refl _) (Nat.le_refl _) h
      · replace h := h.2 c
        refine r_iconst (pc := 24) (v := 1) dX8_isTold_24 (by decide) ?_
        refine r_goto (pc := 25) (tgt := 29) dX8_isTold_25 (by decide) ?_
        exact n_zret (pc := 29) dX8_isTold_29 rfl (by decide) (Nat.le_refl _) (Nat.le_refl _) h
def wpX8_bothAreTold (a0 : Nat) (x1 : Int32) (s : gS) (Q : Int32 → gS → Prop) : Prop := wpX8_isTold a0 (jrem (x1 / 10) 10) s (fun r1 s1 => (r1 = 0 → Q 0 s1) ∧ (¬ (r1 = 0) → wpX8_isTold a0 (jrem x1 10) s1 (fun r2 s2 => (r2 = 0 → Q 0 s2) ∧ (¬ (r2 = 0) → Q 1 s2))))
set_option maxRecDepth 20000 in
theorem spX8_bothAreTold {l : Launch} {a0 : Nat} {x1 : Int32} (ha0 : isSt a0) {s : gS} {Q : Int32 → gS → Prop} (h : wpX8_bothAreTold a0 x1 s Q) : Ct l mX8_bothAreTold 2 0 0 [.ref a0, .int x1] (nrm s) (q_i Q) := by
  refine Ct.of (by decide) (Nat.le_of_ble_eq_true rfl) (fun X => ?_)
  refine n_L (L' := [some (.ref a0), some (.int x1)]) (le_s (le_s (le_e))) ?_
  refine r_aload_n (pc := 0) (x := a0) dX8_bothAreTold_0 rfl ?_
  refine r_iload_n (pc := 1) (x := x1) dX8_bothAreTold_1 rfl ?_
  refine r_bipush (pc := 2) (v := 10) dX8_bothAreTold_2 (by decide) ?_
  refine r_idiv (pc := 4) dX8_bothAreTold_4 (by decide) ?_
  refine r_bipush (pc := 5) (v := 10) dX8_bothAreTold_5 (by decide) ?_
  refine n_irem (pc := 7) dX8_bothAreTold_7 (by decide) ?_
  refine n_Vi0 (pc := 8) (S0 := []) (spX8_isTold ha0 h) gmX8_isTold selX8_isTold lk_RX8_41 dX8_bothAreTold_8 rfl (lt_St ha0) (sh_St ha0) ⟨rfl, by decide⟩ rfl ⟨Nat.le_of_ble_eq_true rfl, Nat.le_of_ble_eq_true rfl⟩ (Nat.le_of_ble_eq_true rfl) ⟨Nat.zero_le _, Nat.zero_le _⟩ (fun r1 s1 h => ?_)
  refine r_if_eq (pc := 11) (tgt := 29) dX8_bothAreTold_11 (by decide) (fun c => ?_) (fun c => ?_)
  · replace h := h.1 c
    refine r_iconst (pc := 29) (v := 0) dX8_bothAreTold_29 (by decide) ?_
    exact n_zret (pc := 30) dX8_bothAreTold_30 rfl (by decide) (Nat.le_refl _) (Nat.le_refl _) h
  · replace h := h.2 c
    refine r_aload_n (pc := 14) (x := a0) dX8_bothAreTold_14 rfl ?_
    refine r_iload_n (pc := 15) (x := x1) dX8_bothAreTold_15 rfl ?_
    refine r_bipush (pc := 16) (v := 10) dX8_bothAreTold_16 (by decide) ?_
    refine n_irem (pc := 18) dX8_bothAreTold_18 (by decide) ?_
    refine n_Vi0 (pc := 19) (S0 := []) (spX8_isTold ha0 h) gmX8_isTold selX8_isTold lk_RX8_41 dX8_bothAreTold_19 rfl (lt_St ha0) (sh_St ha0) ⟨rfl, by decide⟩ rfl ⟨Nat.le_of_ble_eq_true rfl, Nat.le_of_ble_eq_true rfl⟩ (Nat.le_of_ble_eq_true rfl) ⟨Nat.zero_le _, Nat.zero_le _⟩ (fun r2 s2 h => ?_)
    refine r_if_eq (pc := 22) (tgt := 29) dX8_bothAreTold_22 (by decide) (fun c => ?_) (fun c => ?_)
    · replace h := h.1 c
      refine r_iconst (pc := 29) (v := 0) dX8_bothAreTold_29 (by decide) ?_
      exact n_zret (pc := 30) dX8_bothAreTold_30 rfl (by decide) (Nat.le_refl _) (Nat.le_refl _) h
    · replace h := h.2 c
      refine r_iconst (pc := 25) (v := 1) dX8_bothAreTold_25 (by decide) ?_
      refine r_goto (pc := 26) (tgt := 30) dX8_bothAreTold_26 (by decide) ?_
      exact n_zret (pc := 30) dX8_bothAreTold_30 rfl (by decide) (Nat.le_refl _) (Nat.le_refl _) h
def wpX8_value (a0 : Nat) (x1 : Int32) (x2 : Int32) (x3 : Int32) (s : gS) (Q : Int32 → gS → Prop) : Prop := (x1 < 0 → Q 0 s) ∧ (¬ (x1 < 0) → (6 ≤ x1 → Q 0 s) ∧ (¬ (6 ≤ x1) → (x2 < 0 → Q 0 s) ∧ (¬ (x2 < 0) → (6 ≤ x2 → Q 0 s) ∧ (¬ (6 ≤ x2) → (x3 < 0 → Q 0 s) ∧ (¬ (x3 < 0) → (x3 ≤ 3 → vp_in (((26 + (x1 * 24)) + (x2 * 4)) + x3) 170 ∧ (Q (gi s (a0 + 1) (ix (((26 + (x1 * 24)) + (x2 * 4)) + x3))) s)) ∧ (¬ (x3 ≤ 3) → Q 0 s))))))
set_option maxRecDepth 20000 in
theorem spX8_value {l : Launch} {a0 : Nat} {x1 : Int32} {x2 : Int32} {x3 : Int32} (ha0 : isSt a0) {s : gS} {Q : Int32 → gS → Prop} (h : wpX8_value a0 x1 x2 x3 s Q) : Ct l mX8_value 1 0 0 [.ref a0, .int x1, .int x2, .int x3] (nrm s) (q_i Q) := by
  refine Ct.of (by decide) (Nat.le_of_ble_eq_true rfl) (fun X => ?_)
  refine n_L (L' := [some (.ref a0), some (.int x1), some (.int x2), some (.int x3)]) (le_s (le_s (le_s (le_s (le_e))))) ?_
  refine r_iload_n (pc := 0) (x := x1) dX8_value_0 rfl ?_
  refine r_if_lt (pc := 1) (tgt := 29) dX8_value_1 (by decide) (fun c => ?_) (fun c => ?_)
  · replace h := h.1 c
    refine r_iconst (pc := 29) (v := 0) dX8_value_29 (by decide) ?_
    exact n_iret (pc := 30) dX8_value_30 rfl (Nat.le_refl _) (Nat.le_refl _) h
  · replace h := h.2 c
    refine r_iload_n (pc := 4) (x := x1) dX8_value_4 rfl ?_
    refine r_bipush (pc := 5) (v := 6) dX8_value_5 (by decide) ?_
    refine r_icmp_ge (pc := 7) (tgt := 29) dX8_value_7 (by decide) (fun c => ?_) (fun c => ?_)
    · replace h := h.1 c
      refine r_iconst (pc := 29) (v := 0) dX8_value_29 (by decide) ?_
      exact n_iret (pc := 30) dX8_value_30 rfl (Nat.le_refl _) (Nat.le_refl _) h
    · replace h := h.2 c
      refine r_iload_n (pc := 10) (x := x2) dX8_value_10 rfl ?_
      refine r_if_lt (pc := 11) (tgt := 29) dX8_value_11 (by decide) (fun c => ?_) (fun c => ?_)
      · replace h := h.1 c
        refine r_iconst (pc := 29) (v := 0) dX8_value_29 (by decide) ?_
        exact n_iret (pc := 30) dX8_value_30 rfl (Nat.le_refl _) (Nat.le_refl _) h
      · replace h := h.2 c
        refine r_iload_n (pc := 14) (x := x2) dX8_value_14 rfl ?_
        refine r_bipush (pc := 15) (v := 6) dX8_value_15 (by decide) ?_
        refine r_icmp_ge (pc := 17) (tgt := 29) dX8_value_17 (by decide) (fun c => ?_) (fun c => ?_)
        · replace h := h.1 c
          refine r_iconst (pc := 29) (v := 0) dX8_value_29 (by decide) ?_
          exact n_iret (pc := 30) dX8_value_30 rfl (Nat.le_refl _) (Nat.le_refl _) h
        · replace h := h.2 c
          refine r_iload_n (pc := 20) (x := x3) dX8_value_20 rfl ?_
          refine r_if_lt (pc := 21) (tgt := 29) dX8_value_21 (by decide) (fun c => ?_) (fun c => ?_)
          · replace h := h.1 c
            refine r_iconst (pc := 29) (v := 0) dX8_value_29 (by decide) ?_
            exact n_iret (pc := 30) dX8_value_30 rfl (Nat.le_refl _) (Nat.le_refl _) h
          · replace h := h.2 c
            refine r_iload_n (pc := 24) (x := x3) dX8_value_24 rfl ?_
            refine r_iconst (pc := 25) (v := 3) dX8_value_25 (by decide) ?_
            refine r_icmp_le (pc := 26) (tgt := 31) dX8_value_26 (by decide) (fun c => ?_) (fun c => ?_)
            · replace h := h.1 c
              refine r_aload_n (pc := 31) (x := a0) dX8_value_31 rfl ?_
              refine n_getR (pc := 32) (j := 0) (q := (a0 + 1)) dX8_value_32 fl_RX8_11 (lt_St ha0) (sh_St ha0) rfl rfl (rf_St_0 ha0) ?_
              refine r_bipush (pc := 35) (v := 26) dX8_value_35 (by decide) ?_
              refine r_iload_n (pc := 37) (x := x1) dX8_value_37 rfl ?_
              refine r_bipush (pc := 38) (v := 24) dX8_value_38 (by decide) ?_
              refine r_imul (pc := 40) dX8_value_40 ?_
              refine r_iadd (pc := 41) dX8_value_41 ?_
              refine r_iload_n (pc := 42) (x := x2) dX8_value_42 rfl ?_
              refine r_iconst (pc := 43) (v := 4) dX8_value_43 (by decide) ?_
              refine r_imul (pc := 44) dX8_value_44 ?_
              refine r_iadd (pc := 45) dX8_value_45 ?_
              refine r_iload_n (pc := 46) (x := x3) dX8_value_46 rfl ?_
              refine r_iadd (pc := 47) dX8_value_47 ?_
              obtain ⟨b1, h⟩ := h
              refine n_iald (pc := 48) (j := (ix (((26 + (x1 * 24)) + (x2 * 4)) + x3))) dX8_value_48 (lt_St_1 ha0) (sh_St_1 ha0) b1 rfl ?_
              exact n_iret (pc := 49) dX8_value_49 rfl (Nat.le_refl _) (Nat.le_refl _) h
            · replace h := h.2 c
              refine r_iconst (pc := 29) (v := 0) dX8_value_29 (by decide) ?_
              exact n_iret (pc := 30) dX8_value_30 rfl (Nat.le_refl _) (Nat.le_refl _) h
def wpX8_holds (x0 : Int32) (x1 : Int32) (x2 : Int32) (x3 : Int32) (x4 : Int32) (s : gS) (Q : Int32 → gS → Prop) : Prop := (x0 = 0 → (x3 ≤ x2 → Q 0 s) ∧ (¬ (x3 ≤ x2) → Q 1 s)) ∧ (x0 = 1 → (x4 < x1 → Q 0 s) ∧ (¬ (x4 < x1) → (x2 < x3 → Q 0 s) ∧ (¬ (x2 < x3) → Q 1 s))) ∧ (x0 = 2 → (x1 < x3 → Q 0 s) ∧ (¬ (x1 < x3) → (x4 < x2 → Q 0 s) ∧ (¬ (x4 < x2) → Q 1 s))) ∧ (x0 = 3 → (¬ x1 = x3 → Q 0 s) ∧ (x1 = x3 → Q 1 s)) ∧ (¬ x0 = 0 → ¬ x0 = 1 → ¬ x0 = 2 → ¬ x0 = 3 → (7 < (x3 - x2) → Q 0 s) ∧ (¬ (7 < (x3 - x2)) → (7 < (x1 - x4) → Q 0 s) ∧ (¬ (7 < (x1 - x4)) → Q 1 s)))
set_option maxRecDepth 20000 in
theorem spX8_holds {l : Launch} {x0 : Int32} {x1 : Int32} {x2 : Int32} {x3 : Int32} {x4 : Int32}  {s : gS} {Q : Int32 → gS → Prop} (h : wpX8_holds x0 x1 x2 x3 x4 s Q) : Ct l mX8_holds 1 0 0 [.int x0, .int x1, .int x2, .int x3, .int x4] (nrm s) (q_i Q) := by
  refine Ct.of (by decide) (Nat.le_of_ble_eq_true rfl) (fun X => ?_)
  refine n_L (L' := [some (.int x0), some (.int x1), some (.int x2), some (.int x3), some (.int x4)]) (le_s (le_s (le_s (le_s (le_s (le_e)))))) ?_
  refine r_iload_n (pc := 0) (x := x0) dX8_holds_0 rfl ?_
  by_cases c1_0 : x0 = 0
  · replace h := h.1 c1_0
    refine r_tableIn (pc := 1) (off := 31) (tgt := 32) dX8_holds_1 (by rw [c1_0]; decide) (by rw [c1_0]; decide) (by rw [c1_0]; decide) (by decide) ?_
    refine r_iload_n (pc := 32) (x := x2) dX8_holds_32 rfl ?_
    refine r_iload_n (pc := 33) (x := x3) dX8_holds_33 rfl ?_
    refine r_icmp_ge (pc := 34) (tgt := 41) dX8_holds_34 (by decide) (fun c => ?_) (fun c => ?_)
    · replace h := h.1 c
      refine r_iconst (pc := 41) (v := 0) dX8_holds_41 (by decide) ?_
      exact n_zret (pc := 42) dX8_holds_42 rfl (by decide) (Nat.le_refl _) (Nat.le_refl _) h
    · replace h := h.2 c
      refine r_iconst (pc := 37) (v := 1) dX8_holds_37 (by decide) ?_
      refine r_goto (pc := 38) (tgt := 42) dX8_holds_38 (by decide) ?_
      exact n_zret (pc := 42) dX8_holds_42 rfl (by decide) (Nat.le_refl _) (Nat.le_refl _) h
  by_cases c1_1 : x0 = 1
  · replace h := h.2.1 c1_1
    refine r_tableIn (pc := 1) (off := 42) (tgt := 43) dX8_holds_1 (by rw [c1_1]; decide) (by rw [c1_1]; decide) (by rw [c1_1]; decide) (by decide) ?_
    refine r_iload_n (pc := 43) (x := x1) dX8_holds_43 rfl ?_
    refine r_iload (pc := 44) (x := x4) dX8_holds_44 rfl ?_
    refine r_icmp_gt (pc := 46) (tgt := 58) dX8_holds_46 (by decide) (fun c => ?_) (fun c => ?_)
    · replace h := h.1 c
      refine r_iconst (pc := 58) (v := 0) dX8_holds_58 (by decide) ?_
      exact n_zret (pc := 59) dX8_holds_59 rfl (by decide) (Nat.le_refl _) (Nat.le_refl _) h
    · replace h := h.2 c
      refine r_iload_n (pc := 49) (x := x3) dX8_holds_49 rfl ?_
      refine r_iload_n (pc := 50) (x := x2) dX8_holds_50 rfl ?_
      refine r_icmp_gt (pc := 51) (tgt := 58) dX8_holds_51 (by decide) (fun c => ?_) (fun c => ?_)
      · replace h := h.1 c
        refine r_iconst (pc := 58) (v := 0) dX8_holds_58 (by decide) ?_
        exact n_zret (pc := 59) dX8_holds_59 rfl (by decide) (Nat.le_refl _) (Nat.le_refl _) h
      · replace h := h.2 c
        refine r_iconst (pc := 54) (v := 1) dX8_holds_54 (by decide) ?_
        refine r_goto (pc := 55) (tgt := 59) dX8_holds_55 (by decide) ?_
        exact n_zret (pc := 59) dX8_holds_59 rfl (by decide) (Nat.le_refl _) (Nat.le_refl _) h
  by_cases c1_2 : x0 = 2
  · replace h := h.2.2.1 c1_2
    refine r_tableIn (pc := 1) (off := 59) (tgt := 60) dX8_holds_1 (by rw [c1_2]; decide) (by rw [c1_2]; decide) (by rw [c1_2]; decide) (by decide) ?_
    refine r_iload_n (pc := 60) (x := x3) dX8_holds_60 rfl ?_
    refine r_iload_n (pc := 61) (x := x1) dX8_holds_61 rfl ?_
    refine r_icmp_gt (pc := 62) (tgt := 75) dX8_holds_62 (by decide) (fun c => ?_) (fun c => ?_)
    · replace h := h.1 c
      refine r_iconst (pc := 75) (v := 0) dX8_holds_75 (by decide) ?_
      exact n_zret (pc := 76) dX8_holds_76 rfl (by decide) (Nat.le_refl _) (Nat.le_refl _) h
    · replace h := h.2 c
      refine r_iload_n (pc := 65) (x := x2) dX8_holds_65 rfl ?_
      refine r_iload (pc := 66) (x := x4) dX8_holds_66 rfl ?_
      refine r_icmp_gt (pc := 68) (tgt := 75) dX8_holds_68 (by decide) (fun c => ?_) (fun c => ?_)
      · replace h := h.1 c
        refine r_iconst (pc := 75) (v := 0) dX8_holds_75 (by decide) ?_
        exact n_zret (pc := 76) dX8_holds_76 rfl (by decide) (Nat.le_refl _) (Nat.le_refl _) h
      · replace h := h.2 c
        refine r_iconst (pc := 71) (v := 1) dX8_holds_71 (by decide) ?_
        refine r_goto (pc := 72) (tgt := 76) dX8_holds_72 (by decide) ?_
        exact n_zret (pc := 76) dX8_holds_76 rfl (by decide) (Nat.le_refl _) (Nat.le_refl _) h
  by_cases c1_3 : x0 = 3
  · replace h := h.2.2.2.1 c1_3
    refine r_tableIn (pc := 1) (off := 76) (tgt := 77) dX8_holds_1 (by rw [c1_3]; decide) (by rw [c1_3]; decide) (by rw [c1_3]; decide) (by decide) ?_
    refine r_iload_n (pc := 77) (x := x1) dX8_holds_77 rfl ?_
    refine r_iload_n (pc := 78) (x := x3) dX8_holds_78 rfl ?_
    refine r_icmp_ne (pc := 79) (tgt := 86) dX8_holds_79 (by decide) (fun c => ?_) (fun c => ?_)
    · replace h := h.1 c
      refine r_iconst (pc := 86) (v := 0) dX8_holds_86 (by decide) ?_
      exact n_zret (pc := 87) dX8_holds_87 rfl (by decide) (Nat.le_refl _) (Nat.le_refl _) h
    · replace h := h.2 c
      refine r_iconst (pc := 82) (v := 1) dX8_holds_82 (by decide) ?_
      refine r_goto (pc := 83) (tgt := 87) dX8_holds_83 (by decide) ?_
      exact n_zret (pc := 87) dX8_holds_87 rfl (by decide) (Nat.le_refl _) (Nat.le_refl _) h
  replace h := h.2.2.2.2 c1_0 c1_1 c1_2 c1_3
  refine r_tableOut (pc := 1) (tgt := 88) dX8_holds_1 (by have e0 := lv_neT c1_0 (show (0 : Int32).toInt = 0 by decide); have e1 := lv_neT c1_1 (show (1 : Int32).toInt = 1 by decide); have e2 := lv_neT c1_2 (show (2 : Int32).toInt = 2 by decide); have e3 := lv_neT c1_3 (show (3 : Int32).toInt = 3 by decide); omega) (by decide) ?_
  refine r_iload_n (pc := 88) (x := x3) dX8_holds_88 rfl ?_
  refine r_iload_n (pc := 89) (x := x2) dX8_holds_89 rfl ?_
  refine r_isub (pc := 90) dX8_holds_90 ?_
  refine r_bipush (pc := 91) (v := 7) dX8_holds_91 (by decide) ?_
  refine r_icmp_gt (pc := 93) (tgt := 109) dX8_holds_93 (by decide) (fun c => ?_) (fun c => ?_)
  · replace h := h.1 c
    refine r_iconst (pc := 109) (v := 0) dX8_holds_109 (by decide) ?_
    exact n_zret (pc := 110) dX8_holds_110 rfl (by decide) (Nat.le_refl _) (Nat.le_refl _) h
  · replace h := h.2 c
    refine r_iload_n (pc := 96) (x := x1) dX8_holds_96 rfl ?_
    refine r_iload (pc := 97) (x := x4) dX8_holds_97 rfl ?_
    refine r_isub (pc := 99) dX8_holds_99 ?_
    refine r_bipush (pc := 100) (v := 7) dX8_holds_100 (by decide) ?_
    refine r_icmp_gt (pc := 102) (tgt := 109) dX8_holds_102 (by decide) (fun c => ?_) (fun c => ?_)
    · replace h := h.1 c
      refine r_iconst (pc := 109) (v := 0) dX8_holds_109 (by decide) ?_
      exact n_zret (pc := 110) dX8_holds_110 rfl (by decide) (Nat.le_refl _) (Nat.le_refl _) h
    · replace h := h.2 c
      refine r_iconst (pc := 105) (v := 1) dX8_holds_105 (by decide) ?_
      refine r_goto (pc := 106) (tgt := 110) dX8_holds_106 (by decide) ?_
      exact n_zret (pc := 110) dX8_holds_110 rfl (by decide) (Nat.le_refl _) (Nat.le_refl _) h
def wX8_bitsThatHold_38 (a0 : Nat) (x1 : Int32) (x2 : Int32) (Q : Int32 → gS → Prop)  : Nat → Int32 → Int32 → Int32 → Int32 → Int32 → gS → Prop
  | 0, _, _, _, _, _, _ => False
  | n + 1, y4, y5, y6, y7, y8, s => (6 ≤ y8 → Q y7 s) ∧ (¬ (6 ≤ y8) → wpX8_value a0 y4 y8 0 s (fun r3 s3 => wpX8_value a0 y4 y8 1 s3 (fun r4 s4 => wpX8_holds (x1 / 100) y5 y6 r3 r4 s4 (fun r5 s5 => (r5 = 0 → wX8_bitsThatHold_38 a0 x1 x2 Q n y4 y5 y6 y7 (y8 + 1) s5) ∧ (¬ (r5 = 0) → wX8_bitsThatHold_38 a0 x1 x2 Q n y4 y5 y6 (y7 ||| (jshl 1 y8)) (y8 + 1) s5)))))
set_option maxRecDepth 20000 in
theorem pX8_bitsThatHold_38 {l : Launch} {X : gX} {a0 : Nat} {x1 : Int32} {x2 : Int32} (ha0 : isSt a0) {Q : Int32 → gS → Prop}  : ∀ (n : Nat) (y4 : Int32) (y5 : Int32) (y6 : Int32) (y7 : Int32) (y8 : Int32) (s : gS) (h : wX8_bitsThatHold_38 a0 x1 x2 Q n y4 y5 y6 y7 y8 s) , Gw l mX8_bitsThatHold (g_rm 2 0 0) X 38 [some (.ref a0), some (.int x1), none, none, some (.int y4), some (.int y5), some (.int y6), some (.int y7), some (.int y8)] [] (nrm s) 0 0 (g_Z X (q_i Q) 0 0) := by
  intro n
  induction n with
  | zero => intro y4 y5 y6 y7 y8 s h; exact h.elim
  | succ n ih0 =>
    intro y4 y5 y6 y7 y8 s h 
    have ih : ∀ (y4 : Int32) (y5 : Int32) (y6 : Int32) (y7 : Int32) (y8 : Int32) (s : gS), wX8_bitsThatHold_38 a0 x1 x2 Q n y4 y5 y6 y7 y8 s → Gw l mX8_bitsThatHold (g_rm 2 0 0) X 38 [some (.ref a0), some (.int x1), none, none, some (.int y4), some (.int y5), some (.int y6), some (.int y7), some (.int y8)] [] (nrm s) 0 0 (g_Z X (q_i Q) 0 0) := fun y4 y5 y6 y7 y8 s h => ih0 y4 y5 y6 y7 y8 s h 
    refine r_iload (pc := 38) (x := y8) dX8_bitsThatHold_38 rfl ?_
    refine r_bipush (pc := 40) (v := 6) dX8_bitsThatHold_40 (by decide) ?_
    refine r_icmp_ge (pc := 42) (tgt := 92) dX8_bitsThatHold_42 (by decide) (fun c => ?_) (fun c => ?_)
    · replace h := h.1 c
      refine r_iload (pc := 92) (x := y7) dX8_bitsThatHold_92 rfl ?_
      exact n_iret (pc := 94) dX8_bitsThatHold_94 rfl (Nat.le_refl _) (Nat.le_refl _) h
    · replace h := h.2 c
      refine r_iload_n (pc := 45) (x := x1) dX8_bitsThatHold_45 rfl ?_
      refine r_bipush (pc := 46) (v := 100) dX8_bitsThatHold_46 (by decide) ?_
      refine r_idiv (pc := 48) dX8_bitsThatHold_48 (by decide) ?_
      refine r_iload (pc := 49) (x := y5) dX8_bitsThatHold_49 rfl ?_
      refine r_iload (pc := 51) (x := y6) dX8_bitsThatHold_51 rfl ?_
      refine r_aload_n (pc := 53) (x := a0) dX8_bitsThatHold_53 rfl ?_
      refine r_iload (pc := 54) (x := y4) dX8_bitsThatHold_54 rfl ?_
      refine r_iload (pc := 56) (x := y8) dX8_bitsThatHold_56 rfl ?_
      refine r_iconst (pc := 58) (v := 0) dX8_bitsThatHold_58 (by decide) ?_
      refine n_Vi0 (pc := 59) (S0 := [.int y6, .int y5, .int (x1 / 100)]) (spX8_value ha0 h) gmX8_value selX8_value lk_RX8_48 dX8_bitsThatHold_59 rfl (lt_St ha0) (sh_St ha0) ⟨rfl, by decide⟩ rfl ⟨Nat.le_of_ble_eq_true rfl, Nat.le_of_ble_eq_true rfl⟩ (Nat.le_of_ble_eq_true rfl) ⟨Nat.zero_le _, Nat.zero_le _⟩ (fun r3 s3 h => ?_)
      refine r_aload_n (pc := 62) (x := a0) dX8_bitsThatHold_62 rfl ?_
      refine r_iload (pc := 63) (x := y4) dX8_bitsThatHold_63 rfl ?_
      refine r_iload (pc := 65) (x := y8) dX8_bitsThatHold_65 rfl ?_
      refine r_iconst (pc := 67) (v := 1) dX8_bitsThatHold_67 (by decide) ?_
      refine n_Vi0 (pc := 68) (S0 := [.int r3, .int y6, .int y5, .int (x1 / 100)]) (spX8_value ha0 h) gmX8_value selX8_value lk_RX8_48 dX8_bitsThatHold_68 rfl (lt_St ha0) (sh_St ha0) ⟨rfl, by decide⟩ rfl ⟨Nat.le_of_ble_eq_true rfl, Nat.le_of_ble_eq_true rfl⟩ (Nat.le_of_ble_eq_true rfl) ⟨Nat.zero_le _, Nat.zero_le _⟩ (fun r4 s4 h => ?_)
      refine n_Si0 (pc := 71) (S0 := []) (spX8_holds h) gmX8_holds lk_RX8_55 dX8_bitsThatHold_71 rfl rfl ⟨Nat.le_of_ble_eq_true rfl, Nat.le_of_ble_eq_true rfl⟩ (Nat.le_of_ble_eq_true rfl) ⟨Nat.zero_le _, Nat.zero_le _⟩ (fun r5 s5 h => ?_)
      refine r_if_eq (pc := 74) (tgt := 86) dX8_bitsThatHold_74 (by decide) (fun c => ?_) (fun c => ?_)
      · replace h := h.1 c
        refine n_iinc (pc := 86) (x := y8) (w := 1) (L' := [some (.ref a0), some (.int x1), none, none, some (.int y4), some (.int y5), some (.int y6), some (.int y7), some (.int (y8 + 1))]) dX8_bitsThatHold_86 rfl (by decide) rfl (by decide) rfl ?_
        refine r_goto (pc := 89) (tgt := 38) dX8_bitsThatHold_89 (by decide) ?_
        refine n_L (L' := [some (.ref a0), some (.int x1), none, none, some (.int y4), some (.int y5), some (.int y6), some (.int y7), some (.int (y8 + 1))]) (le_s (le_s (le_n (le_n (le_s (le_s (le_s (le_s (le_s (le_e)))))))))) ?_
        exact ih _ _ _ _ _ _ h
      · replace h := h.2 c
        refine r_iload (pc := 77) (x := y7) dX8_bitsThatHold_77 rfl ?_
        refine r_iconst (pc := 79) (v := 1) dX8_bitsThatHold_79 (by decide) ?_
        refine r_iload (pc := 80) (x := y8) dX8_bitsThatHold_80 rfl ?_
        refine n_ishl (pc := 82) dX8_bitsThatHold_82 ?_
        refine r_ior (pc := 83) dX8_bitsThatHold_83 ?_
        refine r_istore (pc := 84) (L' := [some (.ref a0), some (.int x1), none, none, some (.int y4), some (.int y5), some (.int y6), some (.int (y7 ||| (jshl 1 y8))), some (.int y8)]) dX8_bitsThatHold_84 rfl (by decide) rfl ?_
        refine n_iinc (pc := 86) (x := y8) (w := 1) (L' := [some (.ref a0), some (.int x1), none, none, some (.int y4), some (.int y5), some (.int y6), some (.int (y7 ||| (jshl 1 y8))), some (.int (y8 + 1))]) dX8_bitsThatHold_86 rfl (by decide) rfl (by decide) rfl ?_
        refine r_goto (pc := 89) (tgt := 38) dX8_bitsThatHold_89 (by decide) ?_
        refine n_L (L' := [some (.ref a0), some (.int x1), none, none, some (.int y4), some (.int y5), some (.int y6), some (.int (y7 ||| (jshl 1 y8))), some (.int (y8 + 1))]) (le_s (le_s (le_n (le_n (le_s (le_s (le_s (le_s (le_s (le_e)))))))))) ?_
        exact ih _ _ _ _ _ _ h
def wpX8_bitsThatHold (a0 : Nat) (x1 : Int32) (x2 : Int32) (s : gS) (Q : Int32 → gS → Prop) : Prop := wpX8_value a0 (jrem (x1 / 10) 10) x2 0 s (fun r1 s1 => wpX8_value a0 (jrem (x1 / 10) 10) x2 1 s1 (fun r2 s2 => ∃ n38, wX8_bitsThatHold_38 a0 x1 x2 Q n38 (jrem x1 10) r1 r2 0 0 s2))
set_option maxRecDepth 20000 in
theorem spX8_bitsThatHold {l : Launch} {a0 : Nat} {x1 : Int32} {x2 : Int32} (ha0 : isSt a0) {s : gS} {Q : Int32 → gS → Prop} (h : wpX8_bitsThatHold a0 x1 x2 s Q) : Ct l mX8_bitsThatHold 2 0 0 [.ref a0, .int x1, .int x2] (nrm s) (q_i Q) := by
  refine Ct.of (by decide) (Nat.le_of_ble_eq_true rfl) (fun X => ?_)
  refine n_L (L' := [some (.ref a0), some (.int x1), some (.int x2), none, none, none, none, none, none]) (le_s (le_s (le_s (le_p (le_p (le_p (le_p (le_p (le_p (le_e)))))))))) ?_
  refine r_iload_n (pc := 0) (x := x1) dX8_bitsThatHold_0 rfl ?_
  refine r_bipush (pc := 1) (v := 10) dX8_bitsThatHold_1 (by decide) ?_
  refine r_idiv (pc := 3) dX8_bitsThatHold_3 (by decide) ?_
  refine r_bipush (pc := 4) (v := 10) dX8_bitsThatHold_4 (by decide) ?_
  refine n_irem (pc := 6) dX8_bitsThatHold_6 (by decide) ?_
  refine r_istore_n (pc := 7) (L' := [some (.ref a0), some (.int x1), some (.int x2), some (.int (jrem (x1 / 10) 10)), none, none, none, none, none]) dX8_bitsThatHold_7 rfl (by decide) rfl ?_
  refine r_iload_n (pc := 8) (x := x1) dX8_bitsThatHold_8 rfl ?_
  refine r_bipush (pc := 9) (v := 10) dX8_bitsThatHold_9 (by decide) ?_
  refine n_irem (pc := 11) dX8_bitsThatHold_11 (by decide) ?_
  refine r_istore (pc := 12) (L' := [some (.ref a0), some (.int x1), some (.int x2), some (.int (jrem (x1 / 10) 10)), some (.int (jrem x1 10)), none, none, none, none]) dX8_bitsThatHold_12 rfl (by decide) rfl ?_
  refine r_aload_n (pc := 14) (x := a0) dX8_bitsThatHold_14 rfl ?_
  refine r_iload_n (pc := 15) (x := jrem (x1 / 10) 10) dX8_bitsThatHold_15 rfl ?_
  refine r_iload_n (pc := 16) (x := x2) dX8_bitsThatHold_16 rfl ?_
  refine r_iconst (pc := 17) (v := 0) dX8_bitsThatHold_17 (by decide) ?_
  refine n_Vi0 (pc := 18) (S0 := []) (spX8_value ha0 h) gmX8_value selX8_value lk_RX8_48 dX8_bitsThatHold_18 rfl (lt_St ha0) (sh_St ha0) ⟨rfl, by decide⟩ rfl ⟨Nat.le_of_ble_eq_true rfl, Nat.le_of_ble_eq_true rfl⟩ (Nat.le_of_ble_eq_true rfl) ⟨Nat.zero_le _, Nat.zero_le _⟩ (fun r1 s1 h => ?_)
  refine r_istore (pc := 21) (L' := [some (.ref a0), some (.int x1), some (.int x2), some (.int (jrem (x1 / 10) 10)), some (.int (jrem x1 10)), some (.int r1), none, none, none]) dX8_bitsThatHold_21 rfl (by decide) rfl ?_
  refine r_aload_n (pc := 23) (x := a0) dX8_bitsThatHold_23 rfl ?_
  refine r_iload_n (pc := 24) (x := jrem (x1 / 10) 10) dX8_bitsThatHold_24 rfl ?_
  refine r_iload_n (pc := 25) (x := x2) dX8_bitsThatHold_25 rfl ?_
  refine r_iconst (pc := 26) (v := 1) dX8_bitsThatHold_26 (by decide) ?_
  refine n_Vi0 (pc := 27) (S0 := []) (spX8_value ha0 h) gmX8_value selX8_value lk_RX8_48 dX8_bitsThatHold_27 rfl (lt_St ha0) (sh_St ha0) ⟨rfl, by decide⟩ rfl ⟨Nat.le_of_ble_eq_true rfl, Nat.le_of_ble_eq_true rfl⟩ (Nat.le_of_ble_eq_true rfl) ⟨Nat.zero_le _, Nat.zero_le _⟩ (fun r2 s2 h => ?_)
  refine r_istore (pc := 30) (L' := [some (.ref a0), some (.int x1), some (.int x2), some (.int (jrem (x1 / 10) 10)), some (.int (jrem x1 10)), some (.int r1), some (.int r2), none, none]) dX8_bitsThatHold_30 rfl (by decide) rfl ?_
  refine r_iconst (pc := 32) (v := 0) dX8_bitsThatHold_32 (by decide) ?_
  refine r_istore (pc := 33) (L' := [some (.ref a0), some (.int x1), some (.int x2), some (.int (jrem (x1 / 10) 10)), some (.int (jrem x1 10)), some (.int r1), some (.int r2), some (.int 0), none]) dX8_bitsThatHold_33 rfl (by decide) rfl ?_
  refine r_iconst (pc := 35) (v := 0) dX8_bitsThatHold_35 (by decide) ?_
  refine r_istore (pc := 36) (L' := [some (.ref a0), some (.int x1), some (.int x2), some (.int (jrem (x1 / 10) 10)), some (.int (jrem x1 10)), some (.int r1), some (.int r2), some (.int 0), some (.int 0)]) dX8_bitsThatHold_36 rfl (by decide) rfl ?_
  refine n_L (L' := [some (.ref a0), some (.int x1), none, none, some (.int (jrem x1 10)), some (.int r1), some (.int r2), some (.int 0), some (.int 0)]) (le_s (le_s (le_n (le_n (le_s (le_s (le_s (le_s (le_s (le_e)))))))))) ?_
  obtain ⟨n, h⟩ := h
  exact pX8_bitsThatHold_38 ha0 n _ _ _ _ _ _ h 
def wpX8_size (a0 : Nat) (x1 : Int32) (s : gS) (Q : Int32 → gS → Prop) : Prop := (x1 < 0 → Q 0 s) ∧ (¬ (x1 < 0) → (6 ≤ x1 → Q 0 s) ∧ (¬ (6 ≤ x1) → vp_in (14 + x1) 170 ∧ (Q (gi s (a0 + 1) (ix (14 + x1))) s)))
set_option maxRecDepth 20000 in
theorem spX8_size {l : Launch} {a0 : Nat} {x1 : Int32} (ha0 : isSt a0) {s : gS} {Q : Int32 → gS → Prop} (h : wpX8_size a0 x1 s Q) : Ct l mX8_size 1 0 0 [.ref a0, .int x1] (nrm s) (q_i Q) := by
  refine Ct.of (by decide) (Nat.le_of_ble_eq_true rfl) (fun X => ?_)
  refine n_L (L' := [some (.ref a0), some (.int x1)]) (le_s (le_s (le_e))) ?_
  refine r_iload_n (pc := 0) (x := x1) dX8_size_0 rfl ?_
  refine r_if_lt (pc := 1) (tgt := 22) dX8_size_1 (by decide) (fun c => ?_) (fun c => ?_)
  · replace h := h.1 c
    refine r_iconst (pc := 22) (v := 0) dX8_size_22 (by decide) ?_
    exact n_iret (pc := 23) dX8_size_23 rfl (Nat.le_refl _) (Nat.le_refl _) h
  · replace h := h.2 c
    refine r_iload_n (pc := 4) (x := x1) dX8_size_4 rfl ?_
    refine r_bipush (pc := 5) (v := 6) dX8_size_5 (by decide) ?_
    refine r_icmp_ge (pc := 7) (tgt := 22) dX8_size_7 (by decide) (fun c => ?_) (fun c => ?_)
    · replace h := h.1 c
      refine r_iconst (pc := 22) (v := 0) dX8_size_22 (by decide) ?_
      exact n_iret (pc := 23) dX8_size_23 rfl (Nat.le_refl _) (Nat.le_refl _) h
    · replace h := h.2 c
      refine r_aload_n (pc := 10) (x := a0) dX8_size_10 rfl ?_
      refine n_getR (pc := 11) (j := 0) (q := (a0 + 1)) dX8_size_11 fl_RX8_11 (lt_St ha0) (sh_St ha0) rfl rfl (rf_St_0 ha0) ?_
      refine r_bipush (pc := 14) (v := 14) dX8_size_14 (by decide) ?_
      refine r_iload_n (pc := 16) (x := x1) dX8_size_16 rfl ?_
      refine r_iadd (pc := 17) dX8_size_17 ?_
      obtain ⟨b1, h⟩ := h
      refine n_iald (pc := 18) (j := (ix (14 + x1))) dX8_size_18 (lt_St_1 ha0) (sh_St_1 ha0) b1 rfl ?_
      refine r_goto (pc := 19) (tgt := 23) dX8_size_19 (by decide) ?_
      exact n_iret (pc := 23) dX8_size_23 rfl (Nat.le_refl _) (Nat.le_refl _) h
def wpX8_has (a0 : Nat) (x1 : Int32) (x2 : Int32) (s : gS) (Q : Int32 → gS → Prop) : Prop := (x2 < 0 → Q 0 s) ∧ (¬ (x2 < 0) → wpX8_size a0 x1 s (fun r1 s1 => (r1 ≤ x2 → Q 0 s1) ∧ (¬ (r1 ≤ x2) → Q 1 s1)))
set_option maxRecDepth 20000 in
theorem spX8_has {l : Launch} {a0 : Nat} {x1 : Int32} {x2 : Int32} (ha0 : isSt a0) {s : gS} {Q : Int32 → gS → Prop} (h : wpX8_has a0 x1 x2 s Q) : Ct l mX8_has 2 0 0 [.ref a0, .int x1, .int x2] (nrm s) (q_i Q) := by
  refine Ct.of (by decide) (Nat.le_of_ble_eq_true rfl) (fun X => ?_)
  refine n_L (L' := [some (.ref a0), some (.int x1), some (.int x2)]) (le_s (le_s (le_s (le_e)))) ?_
  refine r_iload_n (pc := 0) (x := x2) dX8_has_0 rfl ?_
  refine r_if_lt (pc := 1) (tgt := 17) dX8_has_1 (by decide) (fun c => ?_) (fun c => ?_)
  · replace h := h.1 c
    refine r_iconst (pc := 17) (v := 0) dX8_has_17 (by decide) ?_
    exact n_zret (pc := 18) dX8_has_18 rfl (by decide) (Nat.le_refl _) (Nat.le_refl _) h
  · replace h := h.2 c
    refine r_iload_n (pc := 4) (x := x2) dX8_has_4 rfl ?_
    refine r_aload_n (pc := 5) (x := a0) dX8_has_5 rfl ?_
    refine r_iload_n (pc := 6) (x := x1) dX8_has_6 rfl ?_
    refine n_Vi0 (pc := 7) (S0 := [.int x2]) (spX8_size ha0 h) gmX8_size selX8_size lk_RX8_21 dX8_has_7 rfl (lt_St ha0) (sh_St ha0) ⟨rfl, by decide⟩ rfl ⟨Nat.le_of_ble_eq_true rfl, Nat.le_of_ble_eq_true rfl⟩ (Nat.le_of_ble_eq_true rfl) ⟨Nat.zero_le _, Nat.zero_le _⟩ (fun r1 s1 h => ?_)
    refine r_icmp_ge (pc := 10) (tgt := 17) dX8_has_10 (by decide) (fun c => ?_) (fun c => ?_)
    · replace h := h.1 c
      refine r_iconst (pc := 17) (v := 0) dX8_has_17 (by decide) ?_
      exact n_zret (pc := 18) dX8_has_18 rfl (by decide) (Nat.le_refl _) (Nat.le_refl _) h
    · replace h := h.2 c
      refine r_iconst (pc := 13) (v := 1) dX8_has_13 (by decide) ?_
      refine r_goto (pc := 14) (tgt := 18) dX8_has_14 (by decide) ?_
      exact n_zret (pc := 18) dX8_has_18 rfl (by decide) (Nat.le_refl _) (Nat.le_refl _) h
def wpX8_inBits (a0 : Nat) (x1 : Int32) (s : gS) (Q : Int32 → gS → Prop) : Prop := (x1 < 0 → Q 0 s) ∧ (¬ (x1 < 0) → (6 ≤ x1 → Q 0 s) ∧ (¬ (6 ≤ x1) → vp_in (20 + x1) 170 ∧ (Q (gi s (a0 + 1) (ix (20 + x1))) s)))
set_option maxRecDepth 20000 in
theorem spX8_inBits {l : Launch} {a0 : Nat} {x1 : Int32} (ha0 : isSt a0) {s : gS} {Q : Int32 → gS → Prop} (h : wpX8_inBits a0 x1 s Q) : Ct l mX8_inBits 1 0 0 [.ref a0, .int x1] (nrm s) (q_i Q) := by
  refine Ct.of (by decide) (Nat.le_of_ble_eq_true rfl) (fun X => ?_)
  refine n_L (L' := [some (.ref a0), some (.int x1)]) (le_s (le_s (le_e))) ?_
  refine r_iload_n (pc := 0) (x := x1) dX8_inBits_0 rfl ?_
  refine r_if_lt (pc := 1) (tgt := 22) dX8_inBits_1 (by decide) (fun c => ?_) (fun c => ?_)
  · replace h := h.1 c
    refine r_iconst (pc := 22) (v := 0) dX8_inBits_22 (by decide) ?_
    exact n_iret (pc := 23) dX8_inBits_23 rfl (Nat.le_refl _) (Nat.le_refl _) h
  · replace h := h.2 c
    refine r_iload_n (pc := 4) (x := x1) dX8_inBits_4 rfl ?_
    refine r_bipush (pc := 5) (v := 6) dX8_inBits_5 (by decide) ?_
    refine r_icmp_ge (pc := 7) (tgt := 22) dX8_inBits_7 (by decide) (fun c => ?_) (fun c => ?_)
    · replace h := h.1 c
      refine r_iconst (pc := 22) (v := 0) dX8_inBits_22 (by decide) ?_
      exact n_iret (pc := 23) dX8_inBits_23 rfl (Nat.le_refl _) (Nat.le_refl _) h
    · replace h := h.2 c
      refine r_aload_n (pc := 10) (x := a0) dX8_inBits_10 rfl ?_
      refine n_getR (pc := 11) (j := 0) (q := (a0 + 1)) dX8_inBits_11 fl_RX8_11 (lt_St ha0) (sh_St ha0) rfl rfl (rf_St_0 ha0) ?_
      refine r_bipush (pc := 14) (v := 20) dX8_inBits_14 (by decide) ?_
      refine r_iload_n (pc := 16) (x := x1) dX8_inBits_16 rfl ?_
      refine r_iadd (pc := 17) dX8_inBits_17 ?_
      obtain ⟨b1, h⟩ := h
      refine n_iald (pc := 18) (j := (ix (20 + x1))) dX8_inBits_18 (lt_St_1 ha0) (sh_St_1 ha0) b1 rfl ?_
      refine r_goto (pc := 19) (tgt := 23) dX8_inBits_19 (by decide) ?_
      exact n_iret (pc := 23) dX8_inBits_23 rfl (Nat.le_refl _) (Nat.le_refl _) h
def wpX8_isIn (a0 : Nat) (x1 : Int32) (x2 : Int32) (s : gS) (Q : Int32 → gS → Prop) : Prop := wpX8_has a0 x1 x2 s (fun r1 s1 => (r1 = 0 → Q 0 s1) ∧ (¬ (r1 = 0) → wpX8_inBits a0 x1 s1 (fun r2 s2 => (¬ ((jshr r2 x2) &&& 1) = 1 → Q 0 s2) ∧ (((jshr r2 x2) &&& 1) = 1 → Q 1 s2))))
set_option maxRecDepth 20000 in
theorem spX8_isIn {l : Launch} {a0 : Nat} {x1 : Int32} {x2 : Int32} (ha0 : isSt a0) {s : gS} {Q : Int32 → gS → Prop} (h : wpX8_isIn a0 x1 x2 s Q) : Ct l mX8_isIn 3 0 0 [.ref a0, .int x1, .int x2] (nrm s) (q_i Q) := by
  refine Ct.of (by decide) (Nat.le_of_ble_eq_true rfl) (fun X => ?_)
  refine n_L (L' := [some (.ref a0), some (.int x1), some (.int x2)]) (le_s (le_s (le_s (le_e)))) ?_
  refine r_aload_n (pc := 0) (x := a0) dX8_isIn_0 rfl ?_
  refine r_iload_n (pc := 1) (x := x1) dX8_isIn_1 rfl ?_
  refine r_iload_n (pc := 2) (x := x2) dX8_isIn_2 rfl ?_
  refine n_Vi0 (pc := 3) (S0 := []) (spX8_has ha0 h) gmX8_has selX8_has lk_RX8_25 dX8_isIn_3 rfl (lt_St ha0) (sh_St ha0) ⟨rfl, by decide⟩ rfl ⟨Nat.le_of_ble_eq_true rfl, Nat.le_of_ble_eq_true rfl⟩ (Nat.le_of_ble_eq_true rfl) ⟨Nat.zero_le _, Nat.zero_le _⟩ (fun r1 s1 h => ?_)
  refine r_if_eq (pc := 6) (tgt := 26) dX8_isIn_6 (by decide) (fun c => ?_) (fun c => ?_)
  · replace h := h.1 c
    refine r_iconst (pc := 26) (v := 0) dX8_isIn_26 (by decide) ?_
    exact n_zret (pc := 27) dX8_isIn_27 rfl (by decide) (Nat.le_refl _) (Nat.le_refl _) h
  · replace h := h.2 c
    refine r_aload_n (pc := 9) (x := a0) dX8_isIn_9 rfl ?_
    refine r_iload_n (pc := 10) (x := x1) dX8_isIn_10 rfl ?_
    refine n_Vi0 (pc := 11) (S0 := []) (spX8_inBits ha0 h) gmX8_inBits selX8_inBits lk_RX8_29 dX8_isIn_11 rfl (lt_St ha0) (sh_St ha0) ⟨rfl, by decide⟩ rfl ⟨Nat.le_of_ble_eq_true rfl, Nat.le_of_ble_eq_true rfl⟩ (Nat.le_of_ble_eq_true rfl) ⟨Nat.zero_le _, Nat.zero_le _⟩ (fun r2 s2 h => ?_)
    refine r_iload_n (pc := 14) (x := x2) dX8_isIn_14 rfl ?_
    refine n_ishr (pc := 15) dX8_isIn_15 ?_
    refine r_iconst (pc := 16) (v := 1) dX8_isIn_16 (by decide) ?_
    refine r_iand (pc := 17) dX8_isIn_17 ?_
    refine r_iconst (pc := 18) (v := 1) dX8_isIn_18 (by decide) ?_
    refine r_icmp_ne (pc := 19) (tgt := 26) dX8_isIn_19 (by decide) (fun c => ?_) (fun c => ?_)
    · replace h := h.1 c
      refine r_iconst (pc := 26) (v := 0) dX8_isIn_26 (by decide) ?_
      exact n_zret (pc := 27) dX8_isIn_27 rfl (by decide) (Nat.le_refl _) (Nat.le_refl _) h
    · replace h := h.2 c
      refine r_iconst (pc := 22) (v := 1) dX8_isIn_22 (by decide) ?_
      refine r_goto (pc := 23) (tgt := 27) dX8_isIn_23 (by decide) ?_
      exact n_zret (pc := 27) dX8_isIn_27 rfl (by decide) (Nat.le_refl _) (Nat.le_refl _) h
def wpX8_save (a0 : Nat) (a1 : Nat) (s : gS) (Q : gS → Prop) : Prop := (¬ (170 : Int32) = 170 → Q s) ∧ ((170 : Int32) = 170 → Q (cpI s (a0 + 1) (ix 0) a1 (ix 0) (ix 170)))
set_option maxRecDepth 20000 in
theorem spX8_save {l : Launch} {a0 : Nat} {a1 : Nat} (ha0 : isSt a0) (ha1 : isA170 a1) {s : gS} {Q : gS → Prop} (h : wpX8_save a0 a1 s Q) : Ct l mX8_save 2 0 0 [.ref a0, .ref a1] (nrm s) (q_v Q) := by
  refine Ct.of (by decide) (Nat.le_of_ble_eq_true rfl) (fun X => ?_)
  refine n_L (L' := [some (.ref a0), some (.ref a1)]) (le_s (le_s (le_e))) ?_
  refine r_aload_n (pc := 0) (x := a1) dX8_save_0 rfl ?_
  refine r_ifnull (pc := 1) dX8_save_1 ?_
  refine r_aload_n (pc := 4) (x := a1) dX8_save_4 rfl ?_
  refine n_alen (pc := 5) (v := 170) dX8_save_5 (lt_A170 ha1) (sh_A170 ha1) (by decide) (by decide) ?_
  refine r_sipush (pc := 6) (v := 170) dX8_save_6 (by decide) ?_
  refine r_icmp_ne (pc := 9) (tgt := 25) dX8_save_9 (by decide) (fun c => ?_) (fun c => ?_)
  · replace h := h.1 c
    exact n_vret (pc := 25) dX8_save_25 rfl (Nat.le_refl _) (Nat.le_refl _) h
  · replace h := h.2 c
    refine r_aload_n (pc := 12) (x := a0) dX8_save_12 rfl ?_
    refine n_getR (pc := 13) (j := 0) (q := (a0 + 1)) dX8_save_13 fl_RX8_11 (lt_St ha0) (sh_St ha0) rfl rfl (rf_St_0 ha0) ?_
    refine r_iconst (pc := 16) (v := 0) dX8_save_16 (by decide) ?_
    refine r_aload_n (pc := 17) (x := a1) dX8_save_17 rfl ?_
    refine r_iconst (pc := 18) (v := 0) dX8_save_18 (by decide) ?_
    refine r_sipush (pc := 19) (v := 170) dX8_save_19 (by decide) ?_
    refine n_copy (pc := 22) dX8_save_22 lk_RX8_15 ⟨Nat.le_of_ble_eq_true rfl, Nat.le_of_ble_eq_true rfl⟩ (lt_St_1 ha0) (sh_St_1 ha0) (lt_A170 ha1) (sh_A170 ha1) (by decide) (by decide) (by decide) (by decide) (by decide) ?_
    exact n_vret (pc := 25) dX8_save_25 rfl (Nat.le_refl _) (Nat.le_refl _) h
def wpX8_load (a0 : Nat) (a1 : Nat) (s : gS) (Q : gS → Prop) : Prop := (¬ (170 : Int32) = 170 → Q s) ∧ ((170 : Int32) = 170 → Q (cpI s a1 (ix 0) (a0 + 1) (ix 0) (ix 170)))
set_option maxRecDepth 20000 in
theorem spX8_load {l : Launch} {a0 : Nat} {a1 : Nat} (ha0 : isSt a0) (ha1 : isA170 a1) {s : gS} {Q : gS → Prop} (h : wpX8_load a0 a1 s Q) : Ct l mX8_load 2 0 0 [.ref a0, .ref a1] (nrm s) (q_v Q) := by
  refine Ct.of (by decide) (Nat.le_of_ble_eq_true rfl) (fun X => ?_)
  refine n_L (L' := [some (.ref a0), some (.ref a1)]) (le_s (le_s (le_e))) ?_
  refine r_aload_n (pc := 0) (x := a1) dX8_load_0 rfl ?_
  refine r_ifnull (pc := 1) dX8_load_1 ?_
  refine r_aload_n (pc := 4) (x := a1) dX8_load_4 rfl ?_
  refine n_alen (pc := 5) (v := 170) dX8_load_5 (lt_A170 ha1) (sh_A170 ha1) (by decide) (by decide) ?_
  refine r_sipush (pc := 6) (v := 170) dX8_load_6 (by decide) ?_
  refine r_icmp_ne (pc := 9) (tgt := 25) dX8_load_9 (by decide) (fun c => ?_) (fun c => ?_)
  · replace h := h.1 c
    exact n_vret (pc := 25) dX8_load_25 rfl (Nat.le_refl _) (Nat.le_refl _) h
  · replace h := h.2 c
    refine r_aload_n (pc := 12) (x := a1) dX8_load_12 rfl ?_
    refine r_iconst (pc := 13) (v := 0) dX8_load_13 (by decide) ?_
    refine r_aload_n (pc := 14) (x := a0) dX8_load_14 rfl ?_
    refine n_getR (pc := 15) (j := 0) (q := (a0 + 1)) dX8_load_15 fl_RX8_11 (lt_St ha0) (sh_St ha0) rfl rfl (rf_St_0 ha0) ?_
    refine r_iconst (pc := 18) (v := 0) dX8_load_18 (by decide) ?_
    refine r_sipush (pc := 19) (v := 170) dX8_load_19 (by decide) ?_
    refine n_copy (pc := 22) dX8_load_22 lk_RX8_15 ⟨Nat.le_of_ble_eq_true rfl, Nat.le_of_ble_eq_true rfl⟩ (lt_A170 ha1) (sh_A170 ha1) (lt_St_1 ha0) (sh_St_1 ha0) (by decide) (by decide) (by decide) (by decide) (by decide) ?_
    exact n_vret (pc := 25) dX8_load_25 rfl (Nat.le_refl _) (Nat.le_refl _) h
def wpX8_refDay (a0 : Nat) (s : gS) (Q : Int32 → gS → Prop) : Prop := Q (gi s (a0 + 1) 0) s
set_option maxRecDepth 20000 in
theorem spX8_refDay {l : Launch} {a0 : Nat} (ha0 : isSt a0) {s : gS} {Q : Int32 → gS → Prop} (h : wpX8_refDay a0 s Q) : Ct l mX8_refDay 1 0 0 [.ref a0] (nrm s) (q_i Q) := by
  refine Ct.of (by decide) (Nat.le_of_ble_eq_true rfl) (fun X => ?_)
  refine n_L (L' := [some (.ref a0)]) (le_s (le_e)) ?_
  refine r_aload_n (pc := 0) (x := a0) dX8_refDay_0 rfl ?_
  refine n_getR (pc := 1) (j := 0) (q := (a0 + 1)) dX8_refDay_1 fl_RX8_11 (lt_St ha0) (sh_St ha0) rfl rfl (rf_St_0 ha0) ?_
  refine r_iconst (pc := 4) (v := 0) dX8_refDay_4 (by decide) ?_
  refine n_iald (pc := 5) (j := 0) dX8_refDay_5 (lt_St_1 ha0) (sh_St_1 ha0) (vp_inc (by decide)) (by decide) ?_
  exact n_iret (pc := 6) dX8_refDay_6 rfl (Nat.le_refl _) (Nat.le_refl _) h
def wpX8_toldBits (a0 : Nat) (s : gS) (Q : Int32 → gS → Prop) : Prop := Q (gi s (a0 + 1) 1) s
set_option maxRecDepth 20000 in
theorem spX8_toldBits {l : Launch} {a0 : Nat} (ha0 : isSt a0) {s : gS} {Q : Int32 → gS → Prop} (h : wpX8_toldBits a0 s Q) : Ct l mX8_toldBits 1 0 0 [.ref a0] (nrm s) (q_i Q) := by
  refine Ct.of (by decide) (Nat.le_of_ble_eq_true rfl) (fun X => ?_)
  refine n_L (L' := [some (.ref a0)]) (le_s (le_e)) ?_
  refine r_aload_n (pc := 0) (x := a0) dX8_toldBits_0 rfl ?_
  refine n_getR (pc := 1) (j := 0) (q := (a0 + 1)) dX8_toldBits_1 fl_RX8_11 (lt_St ha0) (sh_St ha0) rfl rfl (rf_St_0 ha0) ?_
  refine r_iconst (pc := 4) (v := 1) dX8_toldBits_4 (by decide) ?_
  refine n_iald (pc := 5) (j := 1) dX8_toldBits_5 (lt_St_1 ha0) (sh_St_1 ha0) (vp_inc (by decide)) (by decide) ?_
  exact n_iret (pc := 6) dX8_toldBits_6 rfl (Nat.le_refl _) (Nat.le_refl _) h
def wX8_readingsOfAll_4 (a0 : Nat) (Q : Int32 → gS → Prop)  : Nat → Int32 → Int32 → gS → Prop
  | 0, _, _, _ => False
  | n + 1, y1, y2, s => (6 ≤ y2 → Q y1 s) ∧ (¬ (6 ≤ y2) → wpX8_size a0 y2 s (fun r1 s1 => wX8_readingsOfAll_4 a0 Q n (y1 + r1) (y2 + 1) s1))
set_option maxRecDepth 20000 in
theorem pX8_readingsOfAll_4 {l : Launch} {X : gX} {a0 : Nat} (ha0 : isSt a0) {Q : Int32 → gS → Prop}  : ∀ (n : Nat) (y1 : Int32) (y2 : Int32) (s : gS) (h : wX8_readingsOfAll_4 a0 Q n y1 y2 s) , Gw l mX8_readingsOfAll (g_rm 2 0 0) X 4 [some (.ref a0), some (.int y1), some (.int y2)] [] (nrm s) 0 0 (g_Z X (q_i Q) 0 0) := by
  intro n
  induction n with
  | zero => intro y1 y2 s h; exact h.elim
  | succ n ih0 =>
    intro y1 y2 s h 
    have ih : ∀ (y1 : Int32) (y2 : Int32) (s : gS), wX8_readingsOfAll_4 a0 Q n y1 y2 s → Gw l mX8_readingsOfAll (g_rm 2 0 0) X 4 [some (.ref a0), some (.int y1), some (.int y2)] [] (nrm s) 0 0 (g_Z X (q_i Q) 0 0) := fun y1 y2 s h => ih0 y1 y2 s h 
    refine r_iload_n (pc := 4) (x := y2) dX8_readingsOfAll_4 rfl ?_
    refine r_bipush (pc := 5) (v := 6) dX8_readingsOfAll_5 (by decide) ?_
    refine r_icmp_ge (pc := 7) (tgt := 24) dX8_readingsOfAll_7 (by decide) (fun c => ?_) (fun c => ?_)
    · replace h := h.1 c
      refine r_iload_n (pc := 24) (x := y1) dX8_readingsOfAll_24 rfl ?_
      exact n_iret (pc := 25) dX8_readingsOfAll_25 rfl (Nat.le_refl _) (Nat.le_refl _) h
    · replace h := h.2 c
      refine r_iload_n (pc := 10) (x := y1) dX8_readingsOfAll_10 rfl ?_
      refine r_aload_n (pc := 11) (x := a0) dX8_readingsOfAll_11 rfl ?_
      refine r_iload_n (pc := 12) (x := y2) dX8_readingsOfAll_12 rfl ?_
      refine n_Vi0 (pc := 13) (S0 := [.int y1]) (spX8_size ha0 h) gmX8_size selX8_size lk_RX8_21 dX8_readingsOfAll_13 rfl (lt_St ha0) (sh_St ha0) ⟨rfl, by decide⟩ rfl ⟨Nat.le_of_ble_eq_true rfl, Nat.le_of_ble_eq_true rfl⟩ (Nat.le_of_ble_eq_true rfl) ⟨Nat.zero_le _, Nat.zero_le _⟩ (fun r1 s1 h => ?_)
      refine r_iadd (pc := 16) dX8_readingsOfAll_16 ?_
      refine r_istore_n (pc := 17) (L' := [some (.ref a0), some (.int (y1 + r1)), some (.int y2)]) dX8_readingsOfAll_17 rfl (by decide) rfl ?_
      refine n_iinc (pc := 18) (x := y2) (w := 1) (L' := [some (.ref a0), some (.int (y1 + r1)), some (.int (y2 + 1))]) dX8_readingsOfAll_18 rfl (by decide) rfl (by decide) rfl ?_
      refine r_goto (pc := 21) (tgt := 4) dX8_readingsOfAll_21 (by decide) ?_
      refine n_L (L' := [some (.ref a0), some (.int (y1 + r1)), some (.int (y2 + 1))]) (le_s (le_s (le_s (le_e)))) ?_
      exact ih _ _ _ h
def wpX8_readingsOfAll (a0 : Nat) (s : gS) (Q : Int32 → gS → Prop) : Prop := ∃ n4, wX8_readingsOfAll_4 a0 Q n4 0 0 s
set_option maxRecDepth 20000 in
theorem spX8_readingsOfAll {l : Launch} {a0 : Nat} (ha0 : isSt a0) {s : gS} {Q : Int32 → gS → Prop} (h : wpX8_readingsOfAll a0 s Q) : Ct l mX8_readingsOfAll 2 0 0 [.ref a0] (nrm s) (q_i Q) := by
  refine Ct.of (by decide) (Nat.le_of_ble_eq_true rfl) (fun X => ?_)
  refine n_L (L' := [some (.ref a0), none, none]) (le_s (le_p (le_p (le_e)))) ?_
  refine r_iconst (pc := 0) (v := 0) dX8_readingsOfAll_0 (by decide) ?_
  refine r_istore_n (pc := 1) (L' := [some (.ref a0), some (.int 0), none]) dX8_readingsOfAll_1 rfl (by decide) rfl ?_
  refine r_iconst (pc := 2) (v := 0) dX8_readingsOfAll_2 (by decide) ?_
  refine r_istore_n (pc := 3) (L' := [some (.ref a0), some (.int 0), some (.int 0)]) dX8_readingsOfAll_3 rfl (by decide) rfl ?_
  refine n_L (L' := [some (.ref a0), some (.int 0), some (.int 0)]) (le_s (le_s (le_s (le_e)))) ?_
  obtain ⟨n, h⟩ := h
  exact pX8_readingsOfAll_4 ha0 n _ _ _ h 
def wX8_inOfAll_4 (a0 : Nat) (Q : Int32 → gS → Prop)  : Nat → Int32 → Int32 → gS → Prop
  | 0, _, _, _ => False
  | n + 1, y1, y2, s => (6 ≤ y2 → Q y1 s) ∧ (¬ (6 ≤ y2) → wpX8_inBits a0 y2 s (fun r1 s1 => wpJ6_bitCount_0f7a4 r1 s1 (fun r2 s2 => wX8_inOfAll_4 a0 Q n (y1 + r2) (y2 + 1) s2)))
set_option maxRecDepth 20000 in
theorem pX8_inOfAll_4 {l : Launch} {X : gX} {a0 : Nat} (ha0 : isSt a0) {Q : Int32 → gS → Prop}  : ∀ (n : Nat) (y1 : Int32) (y2 : Int32) (s : gS) (h : wX8_inOfAll_4 a0 Q n y1 y2 s) , Gw l mX8_inOfAll (g_rm 2 0 0) X 4 [some (.ref a0), some (.int y1), some (.int y2)] [] (nrm s) 0 0 (g_Z X (q_i Q) 0 0) := by
  intro n
  induction n with
  | zero => intro y1 y2 s h; exact h.elim
  | succ n ih0 =>
    intro y1 y2 s h 
    have ih : ∀ (y1 : Int32) (y2 : Int32) (s : gS), wX8_inOfAll_4 a0 Q n y1 y2 s → Gw l mX8_inOfAll (g_rm 2 0 0) X 4 [some (.ref a0), some (.int y1), some (.int y2)] [] (nrm s) 0 0 (g_Z X (q_i Q) 0 0) := fun y1 y2 s h => ih0 y1 y2 s h 
    refine r_iload_n (pc := 4) (x := y2) dX8_inOfAll_4 rfl ?_
    refine r_bipush (pc := 5) (v := 6) dX8_inOfAll_5 (by decide) ?_
    refine r_icmp_ge (pc := 7) (tgt := 27) dX8_inOfAll_7 (by decide) (fun c => ?_) (fun c => ?_)
    · replace h := h.1 c
      refine r_iload_n (pc := 27) (x := y1) dX8_inOfAll_27 rfl ?_
      exact n_iret (pc := 28) dX8_inOfAll_28 rfl (Nat.le_refl _) (Nat.le_refl _) h
    · replace h := h.2 c
      refine r_iload_n (pc := 10) (x := y1) dX8_inOfAll_10 rfl ?_
      refine r_aload_n (pc := 11) (x := a0) dX8_inOfAll_11 rfl ?_
      refine r_iload_n (pc := 12) (x := y2) dX8_inOfAll_12 rfl ?_
      refine n_Vi0 (pc := 13) (S0 := [.int y1]) (spX8_inBits ha0 h) gmX8_inBits selX8_inBits lk_RX8_29 dX8_inOfAll_13 rfl (lt_St ha0) (sh_St ha0) ⟨rfl, by decide⟩ rfl ⟨Nat.le_of_ble_eq_true rfl, Nat.le_of_ble_eq_true rfl⟩ (Nat.le_of_ble_eq_true rfl) ⟨Nat.zero_le _, Nat.zero_le _⟩ (fun r1 s1 h => ?_)
      refine n_Si0 (pc := 16) (S0 := [.int y1]) (spJ6_bitCount_0f7a4 h) gmJ6_bitCount_0f7a4 lk_RX8_32 dX8_inOfAll_16 rfl rfl ⟨Nat.le_of_ble_eq_true rfl, Nat.le_of_ble_eq_true rfl⟩ (Nat.le_of_ble_eq_true rfl) ⟨Nat.zero_le _, Nat.zero_le _⟩ (fun r2 s2 h => ?_)
      refine r_iadd (pc := 19) dX8_inOfAll_19 ?_
      refine r_istore_n (pc := 20) (L' := [some (.ref a0), some (.int (y1 + r2)), some (.int y2)]) dX8_inOfAll_20 rfl (by decide) rfl ?_
      refine n_iinc (pc := 21) (x := y2) (w := 1) (L' := [some (.ref a0), some (.int (y1 + r2)), some (.int (y2 + 1))]) dX8_inOfAll_21 rfl (by decide) rfl (by decide) rfl ?_
      refine r_goto (pc := 24) (tgt := 4) dX8_inOfAll_24 (by decide) ?_
      refine n_L (L' := [some (.ref a0), some (.int (y1 + r2)), some (.int (y2 + 1))]) (le_s (le_s (le_s (le_e)))) ?_
      exact ih _ _ _ h
def wpX8_inOfAll (a0 : Nat) (s : gS) (Q : Int32 → gS → Prop) : Prop := ∃ n4, wX8_inOfAll_4 a0 Q n4 0 0 s
set_option maxRecDepth 20000 in
theorem spX8_inOfAll {l : Launch} {a0 : Nat} (ha0 : isSt a0) {s : gS} {Q : Int32 → gS → Prop} (h : wpX8_inOfAll a0 s Q) : Ct l mX8_inOfAll 2 0 0 [.ref a0] (nrm s) (q_i Q) := by
  refine Ct.of (by decide) (Nat.le_of_ble_eq_true rfl) (fun X => ?_)
  refine n_L (L' := [some (.ref a0), none, none]) (le_s (le_p (le_p (le_e)))) ?_
  refine r_iconst (pc := 0) (v := 0) dX8_inOfAll_0 (by decide) ?_
  refine r_istore_n (pc := 1) (L' := [some (.ref a0), some (.int 0), none]) dX8_inOfAll_1 rfl (by decide) rfl ?_
  refine r_iconst (pc := 2) (v := 0) dX8_inOfAll_2 (by decide) ?_
  refine r_istore_n (pc := 3) (L' := [some (.ref a0), some (.int 0), some (.int 0)]) dX8_inOfAll_3 rfl (by decide) rfl ?_
  refine n_L (L' := [some (.ref a0), some (.int 0), some (.int 0)]) (le_s (le_s (le_s (le_e)))) ?_
  obtain ⟨n, h⟩ := h
  exact pX8_inOfAll_4 ha0 n _ _ _ h 
def wX8_choicesWithoutOrders_15 (a0 : Nat) (Q : Int32 → gS → Prop)  : Nat → Int32 → Int32 → gS → Prop
  | 0, _, _, _ => False
  | n + 1, y1, y2, s => (6 ≤ y2 → Q y1 s) ∧ (¬ (6 ≤ y2) → wpX8_isTold a0 y2 s (fun r2 s2 => (r2 = 0 → wX8_choicesWithoutOrders_15 a0 Q n y1 (y2 + 1) s2) ∧ (¬ (r2 = 0) → wpX8_inBits a0 y2 s2 (fun r3 s3 => wpJ6_bitCount_0f7a4 r3 s3 (fun r4 s4 => wX8_choicesWithoutOrders_15 a0 Q n (y1 * r4) (y2 + 1) s4)))))
set_option maxRecDepth 20000 in
theorem pX8_choicesWithoutOrders_15 {l : Launch} {X : gX} {a0 : Nat} (ha0 : isSt a0) {Q : Int32 → gS → Prop}  : ∀ (n : Nat) (y1 : Int32) (y2 : Int32) (s : gS) (h : wX8_choicesWithoutOrders_15 a0 Q n y1 y2 s) , Gw l mX8_choicesWithoutOrders (g_rm 2 0 0) X 15 [some (.ref a0), some (.int y1), some (.int y2)] [] (nrm s) 0 0 (g_Z X (q_i Q) 0 0) := by
  intro n
  induction n with
  | zero => intro y1 y2 s h; exact h.elim
  | succ n ih0 =>
    intro y1 y2 s h 
    have ih : ∀ (y1 : Int32) (y2 : Int32) (s : gS), wX8_choicesWithoutOrders_15 a0 Q n y1 y2 s → Gw l mX8_choicesWithoutOrders (g_rm 2 0 0) X 15 [some (.ref a0), some (.int y1), some (.int y2)] [] (nrm s) 0 0 (g_Z X (q_i Q) 0 0) := fun y1 y2 s h => ih0 y1 y2 s h 
    refine r_iload_n (pc := 15) (x := y2) dX8_choicesWithoutOrders_15 rfl ?_
    refine r_bipush (pc := 16) (v := 6) dX8_choicesWithoutOrders_16 (by decide) ?_
    refine r_icmp_ge (pc := 18) (tgt := 46) dX8_choicesWithoutOrders_18 (by decide) (fun c => ?_) (fun c => ?_)
    · replace h := h.1 c
      refine r_iload_n (pc := 46) (x := y1) dX8_choicesWithoutOrders_46 rfl ?_
      exact n_iret (pc := 47) dX8_choicesWithoutOrders_47 rfl (Nat.le_refl _) (Nat.le_refl _) h
    · replace h := h.2 c
      refine r_aload_n (pc := 21) (x := a0) dX8_choicesWithoutOrders_21 rfl ?_
      refine r_iload_n (pc := 22) (x := y2) dX8_choicesWithoutOrders_22 rfl ?_
      refine n_Vi0 (pc := 23) (S0 := []) (spX8_isTold ha0 h) gmX8_isTold selX8_isTold lk_RX8_41 dX8_choicesWithoutOrders_23 rfl (lt_St ha0) (sh_St ha0) ⟨rfl, by decide⟩ rfl ⟨Nat.le_of_ble_eq_true rfl, Nat.le_of_ble_eq_true rfl⟩ (Nat.le_of_ble_eq_true rfl) ⟨Nat.zero_le _, Nat.zero_le _⟩ (fun r2 s2 h => ?_)
      refine r_if_eq (pc := 26) (tgt := 40) dX8_choicesWithoutOrders_26 (by decide) (fun c => ?_) (fun c => ?_)
      · replace h := h.1 c
        refine n_iinc (pc := 40) (x := y2) (w := 1) (L' := [some (.ref a0), some (.int y1), some (.int (y2 + 1))]) dX8_choicesWithoutOrders_40 rfl (by decide) rfl (by decide) rfl ?_
        refine r_goto (pc := 43) (tgt := 15) dX8_choicesWithoutOrders_43 (by decide) ?_
        refine n_L (L' := [some (.ref a0), some (.int y1), some (.int (y2 + 1))]) (le_s (le_s (le_s (le_e)))) ?_
        exact ih _ _ _ h
      · replace h := h.2 c
        refine r_iload_n (pc := 29) (x := y1) dX8_choicesWithoutOrders_29 rfl ?_
        refine r_aload_n (pc := 30) (x := a0) dX8_choicesWithoutOrders_30 rfl ?_
        refine r_iload_n (pc := 31) (x := y2) dX8_choicesWithoutOrders_31 rfl ?_
        refine n_Vi0 (pc := 32) (S0 := [.int y1]) (spX8_inBits ha0 h) gmX8_inBits selX8_inBits lk_RX8_29 dX8_choicesWithoutOrders_32 rfl (lt_St ha0) (sh_St ha0) ⟨rfl, by decide⟩ rfl ⟨Nat.le_of_ble_eq_true rfl, Nat.le_of_ble_eq_true rfl⟩ (Nat.le_of_ble_eq_true rfl) ⟨Nat.zero_le _, Nat.zero_le _⟩ (fun r3 s3 h => ?_)
        refine n_Si0 (pc := 35) (S0 := [.int y1]) (spJ6_bitCount_0f7a4 h) gmJ6_bitCount_0f7a4 lk_RX8_32 dX8_choicesWithoutOrders_35 rfl rfl ⟨Nat.le_of_ble_eq_true rfl, Nat.le_of_ble_eq_true rfl⟩ (Nat.le_of_ble_eq_true rfl) ⟨Nat.zero_le _, Nat.zero_le _⟩ (fun r4 s4 h => ?_)
        refine r_imul (pc := 38) dX8_choicesWithoutOrders_38 ?_
        refine r_istore_n (pc := 39) (L' := [some (.ref a0), some (.int (y1 * r4)), some (.int y2)]) dX8_choicesWithoutOrders_39 rfl (by decide) rfl ?_
        refine n_iinc (pc := 40) (x := y2) (w := 1) (L' := [some (.ref a0), some (.int (y1 * r4)), some (.int (y2 + 1))]) dX8_choicesWithoutOrders_40 rfl (by decide) rfl (by decide) rfl ?_
        refine r_goto (pc := 43) (tgt := 15) dX8_choicesWithoutOrders_43 (by decide) ?_
        refine n_L (L' := [some (.ref a0), some (.int (y1 * r4)), some (.int (y2 + 1))]) (le_s (le_s (le_s (le_e)))) ?_
        exact ih _ _ _ h
def wpX8_choicesWithoutOrders (a0 : Nat) (s : gS) (Q : Int32 → gS → Prop) : Prop := wpX8_toldBits a0 s (fun r1 s1 => (¬ r1 = 0 → ∃ n15, wX8_choicesWithoutOrders_15 a0 Q n15 1 0 s1) ∧ (r1 = 0 → ∃ n15, wX8_choicesWithoutOrders_15 a0 Q n15 0 0 s1))
set_option maxRecDepth 20000 in
theorem spX8_choicesWithoutOrders {l : Launch} {a0 : Nat} (ha0 : isSt a0) {s : gS} {Q : Int32 → gS → Prop} (h : wpX8_choicesWithoutOrders a0 s Q) : Ct l mX8_choicesWithoutOrders 2 0 0 [.ref a0] (nrm s) (q_i Q) := by
  refine Ct.of (by decide) (Nat.le_of_ble_eq_true rfl) (fun X => ?_)
  refine n_L (L' := [some (.ref a0), none, none]) (le_s (le_p (le_p (le_e)))) ?_
  refine r_aload_n (pc := 0) (x := a0) dX8_choicesWithoutOrders_0 rfl ?_
  refine n_Vi0 (pc := 1) (S0 := []) (spX8_toldBits ha0 h) gmX8_toldBits selX8_toldBits lk_RX8_37 dX8_choicesWithoutOrders_1 rfl (lt_St ha0) (sh_St ha0) ⟨rfl, by decide⟩ rfl ⟨Nat.le_of_ble_eq_true rfl, Nat.le_of_ble_eq_true rfl⟩ (Nat.le_of_ble_eq_true rfl) ⟨Nat.zero_le _, Nat.zero_le _⟩ (fun r1 s1 h => ?_)
  refine r_if_ne (pc := 4) (tgt := 11) dX8_choicesWithoutOrders_4 (by decide) (fun c => ?_) (fun c => ?_)
  · replace h := h.1 c
    refine r_iconst (pc := 11) (v := 1) dX8_choicesWithoutOrders_11 (by decide) ?_
    refine r_istore_n (pc := 12) (L' := [some (.ref a0), some (.int 1), none]) dX8_choicesWithoutOrders_12 rfl (by decide) rfl ?_
    refine r_iconst (pc := 13) (v := 0) dX8_choicesWithoutOrders_13 (by decide) ?_
    refine r_istore_n (pc := 14) (L' := [some (.ref a0), some (.int 1), some (.int 0)]) dX8_choicesWithoutOrders_14 rfl (by decide) rfl ?_
    refine n_L (L' := [some (.ref a0), some (.int 1), some (.int 0)]) (le_s (le_s (le_s (le_e)))) ?_
    obtain ⟨n, h⟩ := h
    exact pX8_choicesWithoutOrders_15 ha0 n _ _ _ h 
  · replace h := h.2 c
    refine r_iconst (pc := 7) (v := 0) dX8_choicesWithoutOrders_7 (by decide) ?_
    refine r_goto (pc := 8) (tgt := 12) dX8_choicesWithoutOrders_8 (by decide) ?_
    refine r_istore_n (pc := 12) (L' := [some (.ref a0), some (.int 0), none]) dX8_choicesWithoutOrders_12 rfl (by decide) rfl ?_
    refine r_iconst (pc := 13) (v := 0) dX8_choicesWithoutOrders_13 (by decide) ?_
    refine r_istore_n (pc := 14) (L' := [some (.ref a0), some (.int 0), some (.int 0)]) dX8_choicesWithoutOrders_14 rfl (by decide) rfl ?_
    refine n_L (L' := [some (.ref a0), some (.int 0), some (.int 0)]) (le_s (le_s (le_s (le_e)))) ?_
    obtain ⟨n, h⟩ := h
    exact pX8_choicesWithoutOrders_15 ha0 n _ _ _ h 
def wX8_bitsThatMeet_6 (a0 : Nat) (x1 : Int32) (x2 : Int32) (x3 : Int32) (x4 : Int32) (Q : Int32 → gS → Prop)  : Nat → Int32 → Int32 → gS → Prop
  | 0, _, _, _ => False
  | n + 1, y5, y6, s => (6 ≤ y6 → Q y5 s) ∧ (¬ (6 ≤ y6) → wpX11_hasBit x2 y6 s (fun r1 s1 => (r1 = 0 → wX8_bitsThatMeet_6 a0 x1 x2 x3 x4 Q n y5 (y6 + 1) s1) ∧ (¬ (r1 = 0) → wpX8_value a0 x1 y6 0 s1 (fun r2 s2 => (x4 < r2 → wX8_bitsThatMeet_6 a0 x1 x2 x3 x4 Q n y5 (y6 + 1) s2) ∧ (¬ (x4 < r2) → wpX8_value a0 x1 y6 1 s2 (fun r3 s3 => (r3 < x3 → wX8_bitsThatMeet_6 a0 x1 x2 x3 x4 Q n y5 (y6 + 1) s3) ∧ (¬ (r3 < x3) → wX8_bitsThatMeet_6 a0 x1 x2 x3 x4 Q n (y5 ||| (jshl 1 y6)) (y6 + 1) s3)))))))
set_option maxRecDepth 20000 in
theorem pX8_bitsThatMeet_6 {l : Launch} {X : gX} {a0 : Nat} {x1 : Int32} {x2 : Int32} {x3 : Int32} {x4 : Int32} (ha0 : isSt a0) {Q : Int32 → gS → Prop}  : ∀ (n : Nat) (y5 : Int32) (y6 : Int32) (s : gS) (h : wX8_bitsThatMeet_6 a0 x1 x2 x3 x4 Q n y5 y6 s) , Gw l mX8_bitsThatMeet (g_rm 2 0 0) X 6 [some (.ref a0), some (.int x1), some (.int x2), some (.int x3), some (.int x4), some (.int y5), some (.int y6)] [] (nrm s) 0 0 (g_Z X (q_i Q) 0 0) := by
  intro n
  induction n with
  | zero => intro y5 y6 s h; exact h.elim
  | succ n ih0 =>
    intro y5 y6 s h 
    have ih : ∀ (y5 : Int32) (y6 : Int32) (s : gS), wX8_bitsThatMeet_6 a0 x1 x2 x3 x4 Q n y5 y6 s → Gw l mX8_bitsThatMeet (g_rm 2 0 0) X 6 [some (.ref a0), some (.int x1), some (.int x2), some (.int x3), some (.int x4), some (.int y5), some (.int y6)] [] (nrm s) 0 0 (g_Z X (q_i Q) 0 0) := fun y5 y6 s h => ih0 y5 y6 s h 
    refine r_iload (pc := 6) (x := y6) dX8_bitsThatMeet_6 rfl ?_
    refine r_bipush (pc := 8) (v := 6) dX8_bitsThatMeet_8 (by decide) ?_
    refine r_icmp_ge (pc := 10) (tgt := 62) dX8_bitsThatMeet_10 (by decide) (fun c => ?_) (fun c => ?_)
    · replace h := h.1 c
      refine r_iload (pc := 62) (x := y5) dX8_bitsThatMeet_62 rfl ?_
      exact n_iret (pc := 64) dX8_bitsThatMeet_64 rfl (Nat.le_refl _) (Nat.le_refl _) h
    · replace h := h.2 c
      refine r_iload_n (pc := 13) (x := x2) dX8_bitsThatMeet_13 rfl ?_
      refine r_iload (pc := 14) (x := y6) dX8_bitsThatMeet_14 rfl ?_
      refine n_Ni0 (pc := 16) (S0 := []) (spX11_hasBit h) gmX11_hasBit lk_RX8_45 dX8_bitsThatMeet_16 rfl rfl ⟨Nat.le_of_ble_eq_true rfl, Nat.le_of_ble_eq_true rfl⟩ (Nat.le_of_ble_eq_true rfl) ⟨Nat.zero_le _, Nat.zero_le _⟩ (fun r1 s1 h => ?_)
      refine r_if_eq (pc := 19) (tgt := 56) dX8_bitsThatMeet_19 (by decide) (fun c => ?_) (fun c => ?_)
      · replace h := h.1 c
        refine n_iinc (pc := 56) (x := y6) (w := 1) (L' := [some (.ref a0), some (.int x1), some (.int x2), some (.int x3), some (.int x4), some (.int y5), some (.int (y6 + 1))]) dX8_bitsThatMeet_56 rfl (by decide) rfl (by decide) rfl ?_
        refine r_goto (pc := 59) (tgt := 6) dX8_bitsThatMeet_59 (by decide) ?_
        refine n_L (L' := [some (.ref a0), some (.int x1), some (.int x2), some (.int x3), some (.int x4), some (.int y5), some (.int (y6 + 1))]) (le_s (le_s (le_s (le_s (le_s (le_s (le_s (le_e)))))))) ?_
        exact ih _ _ _ h
      · replace h := h.2 c
        refine r_aload_n (pc := 22) (x := a0) dX8_bitsThatMeet_22 rfl ?_
        refine r_iload_n (pc := 23) (x := x1) dX8_bitsThatMeet_23 rfl ?_
        refine r_iload (pc := 24) (x := y6) dX8_bitsThatMeet_24 rfl ?_
        refine r_iconst (pc := 26) (v := 0) dX8_bitsThatMeet_26 (by decide) ?_
        refine n_Vi0 (pc := 27) (S0 := []) (spX8_value ha0 h) gmX8_value selX8_value lk_RX8_48 dX8_bitsThatMeet_27 rfl (lt_St ha0) (sh_St ha0) ⟨rfl, by decide⟩ rfl ⟨Nat.le_of_ble_eq_true rfl, Nat.le_of_ble_eq_true rfl⟩ (Nat.le_of_ble_eq_true rfl) ⟨Nat.zero_le _, Nat.zero_le _⟩ (fun r2 s2 h => ?_)
        refine r_iload (pc := 30) (x := x4) dX8_bitsThatMeet_30 rfl ?_
        refine r_icmp_gt (pc := 32) (tgt := 56) dX8_bitsThatMeet_32 (by decide) (fun c => ?_) (fun c => ?_)
        · replace h := h.1 c
          refine n_iinc (pc := 56) (x := y6) (w := 1) (L' := [some (.ref a0), some (.int x1), some (.int x2), some (.int x3), some (.int x4), some (.int y5), some (.int (y6 + 1))]) dX8_bitsThatMeet_56 rfl (by decide) rfl (by decide) rfl ?_
          refine r_goto (pc := 59) (tgt := 6) dX8_bitsThatMeet_59 (by decide) ?_
          refine n_L (L' := [some (.ref a0), some (.int x1), some (.int x2), some (.int x3), some (.int x4), some (.int y5), some (.int (y6 + 1))]) (le_s (le_s (le_s (le_s (le_s (le_s (le_s (le_e)))))))) ?_
          exact ih _ _ _ h
        · replace h := h.2 c
          refine r_aload_n (pc := 35) (x := a0) dX8_bitsThatMeet_35 rfl ?_
          refine r_iload_n (pc := 36) (x := x1) dX8_bitsThatMeet_36 rfl ?_
          refine r_iload (pc := 37) (x := y6) dX8_bitsThatMeet_37 rfl ?_
          refine r_iconst (pc := 39) (v := 1) dX8_bitsThatMeet_39 (by decide) ?_
          refine n_Vi0 (pc := 40) (S0 := []) (spX8_value ha0 h) gmX8_value selX8_value lk_RX8_48 dX8_bitsThatMeet_40 rfl (lt_St ha0) (sh_St ha0) ⟨rfl, by decide⟩ rfl ⟨Nat.le_of_ble_eq_true rfl, Nat.le_of_ble_eq_true rfl⟩ (Nat.le_of_ble_eq_true rfl) ⟨Nat.zero_le _, Nat.zero_le _⟩ (fun r3 s3 h => ?_)
          refine r_iload_n (pc := 43) (x := x3) dX8_bitsThatMeet_43 rfl ?_
          refine r_icmp_lt (pc := 44) (tgt := 56) dX8_bitsThatMeet_44 (by decide) (fun c => ?_) (fun c => ?_)
          · replace h := h.1 c
            refine n_iinc (pc := 56) (x := y6) (w := 1) (L' := [some (.ref a0), some (.int x1), some (.int x2), some (.int x3), some (.int x4), some (.int y5), some (.int (y6 + 1))]) dX8_bitsThatMeet_56 rfl (by decide) rfl (by decide) rfl ?_
            refine r_goto (pc := 59) (tgt := 6) dX8_bitsThatMeet_59 (by decide) ?_
            refine n_L (L' := [some (.ref a0), some (.int x1), some (.int x2), some (.int x3), some (.int x4), some (.int y5), some (.int (y6 + 1))]) (le_s (le_s (le_s (le_s (le_s (le_s (le_s (le_e)))))))) ?_
            exact ih _ _ _ h
          · replace h := h.2 c
            refine r_iload (pc := 47) (x := y5) dX8_bitsThatMeet_47 rfl ?_
            refine r_iconst (pc := 49) (v := 1) dX8_bitsThatMeet_49 (by decide) ?_
            refine r_iload (pc := 50) (x := y6) dX8_bitsThatMeet_50 rfl ?_
            refine n_ishl (pc := 52) dX8_bitsThatMeet_52 ?_
            refine r_ior (pc := 53) dX8_bitsThatMeet_53 ?_
            refine r_istore (pc := 54) (L' := [some (.ref a0), some (.int x1), some (.int x2), some (.int x3), some (.int x4), some (.int (y5 ||| (jshl 1 y6))), some (.int y6)]) dX8_bitsThatMeet_54 rfl (by decide) rfl ?_
            refine n_iinc (pc := 56) (x := y6) (w := 1) (L' := [some (.ref a0), some (.int x1), some (.int x2), some (.int x3), some (.int x4), some (.int (y5 ||| (jshl 1 y6))), some (.int (y6 + 1))]) dX8_bitsThatMeet_56 rfl (by decide) rfl (by decide) rfl ?_
            refine r_goto (pc := 59) (tgt := 6) dX8_bitsThatMeet_59 (by decide) ?_
            refine n_L (L' := [some (.ref a0), some (.int x1), some (.int x2), some (.int x3), some (.int x4), some (.int (y5 ||| (jshl 1 y6))), some (.int (y6 + 1))]) (le_s (le_s (le_s (le_s (le_s (le_s (le_s (le_e)))))))) ?_
            exact ih _ _ _ h
def wpX8_bitsThatMeet (a0 : Nat) (x1 : Int32) (x2 : Int32) (x3 : Int32) (x4 : Int32) (s : gS) (Q : Int32 → gS → Prop) : Prop := ∃ n6, wX8_bitsThatMeet_6 a0 x1 x2 x3 x4 Q n6 0 0 s
set_option maxRecDepth 20000 in
theorem spX8_bitsThatMeet {l : Launch} {a0 : Nat} {x1 : Int32} {x2 : Int32} {x3 : Int32} {x4 : Int32} (ha0 : isSt a0) {s : gS} {Q : Int32 → gS → Prop} (h : wpX8_bitsThatMeet a0 x1 x2 x3 x4 s Q) : Ct l mX8_bitsThatMeet 2 0 0 [.ref a0, .int x1, .int x2, .int x3, .int x4] (nrm s) (q_i Q) := by
  refine Ct.of (by decide) (Nat.le_of_ble_eq_true rfl) (fun X => ?_)
  refine n_L (L' := [some (.ref a0), some (.int x1), some (.int x2), some (.int x3), some (.int x4), none, none]) (le_s (le_s (le_s (le_s (le_s (le_p (le_p (le_e)))))))) ?_
  refine r_iconst (pc := 0) (v := 0) dX8_bitsThatMeet_0 (by decide) ?_
  refine r_istore (pc := 1) (L' := [some (.ref a0), some (.int x1), some (.int x2), some (.int x3), some (.int x4), some (.int 0), none]) dX8_bitsThatMeet_1 rfl (by decide) rfl ?_
  refine r_iconst (pc := 3) (v := 0) dX8_bitsThatMeet_3 (by decide) ?_
  refine r_istore (pc := 4) (L' := [some (.ref a0), some (.int x1), some (.int x2), some (.int x3), some (.int x4), some (.int 0), some (.int 0)]) dX8_bitsThatMeet_4 rfl (by decide) rfl ?_
  refine n_L (L' := [some (.ref a0), some (.int x1), some (.int x2), some (.int x3), some (.int x4), some (.int 0), some (.int 0)]) (le_s (le_s (le_s (le_s (le_s (le_s (le_s (le_e)))))))) ?_
  obtain ⟨n, h⟩ := h
  exact pX8_bitsThatMeet_6 ha0 n _ _ _ h 
def wpX8_hasOrder (a0 : Nat) (x1 : Int32) (s : gS) (Q : Int32 → gS → Prop) : Prop := (x1 < 0 → Q 0 s) ∧ (¬ (x1 < 0) → wpX8_orders a0 s (fun r1 s1 => (r1 ≤ x1 → Q 0 s1) ∧ (¬ (r1 ≤ x1) → Q 1 s1)))
set_option maxRecDepth 20000 in
theorem spX8_hasOrder {l : Launch} {a0 : Nat} {x1 : Int32} (ha0 : isSt a0) {s : gS} {Q : Int32 → gS → Prop} (h : wpX8_hasOrder a0 x1 s Q) : Ct l mX8_hasOrder 2 0 0 [.ref a0, .int x1] (nrm s) (q_i Q) := by
  refine Ct.of (by decide) (Nat.le_of_ble_eq_true rfl) (fun X => ?_)
  refine n_L (L' := [some (.ref a0), some (.int x1)]) (le_s (le_s (le_e))) ?_
  refine r_iload_n (pc := 0) (x := x1) dX8_hasOrder_0 rfl ?_
  refine r_if_lt (pc := 1) (tgt := 16) dX8_hasOrder_1 (by decide) (fun c => ?_) (fun c => ?_)
  · replace h := h.1 c
    refine r_iconst (pc := 16) (v := 0) dX8_hasOrder_16 (by decide) ?_
    exact n_zret (pc := 17) dX8_hasOrder_17 rfl (by decide) (Nat.le_refl _) (Nat.le_refl _) h
  · replace h := h.2 c
    refine r_iload_n (pc := 4) (x := x1) dX8_hasOrder_4 rfl ?_
    refine r_aload_n (pc := 5) (x := a0) dX8_hasOrder_5 rfl ?_
    refine n_Vi0 (pc := 6) (S0 := [.int x1]) (spX8_orders ha0 h) gmX8_orders selX8_orders lk_RX8_52 dX8_hasOrder_6 rfl (lt_St ha0) (sh_St ha0) ⟨rfl, by decide⟩ rfl ⟨Nat.le_of_ble_eq_true rfl, Nat.le_of_ble_eq_true rfl⟩ (Nat.le_of_ble_eq_true rfl) ⟨Nat.zero_le _, Nat.zero_le _⟩ (fun r1 s1 h => ?_)
    refine r_icmp_ge (pc := 9) (tgt := 16) dX8_hasOrder_9 (by decide) (fun c => ?_) (fun c => ?_)
    · replace h := h.1 c
      refine r_iconst (pc := 16) (v := 0) dX8_hasOrder_16 (by decide) ?_
      exact n_zret (pc := 17) dX8_hasOrder_17 rfl (by decide) (Nat.le_refl _) (Nat.le_refl _) h
    · replace h := h.2 c
      refine r_iconst (pc := 12) (v := 1) dX8_hasOrder_12 (by decide) ?_
      refine r_goto (pc := 13) (tgt := 17) dX8_hasOrder_13 (by decide) ?_
      exact n_zret (pc := 17) dX8_hasOrder_17 rfl (by decide) (Nat.le_refl _) (Nat.le_refl _) h
def wX8_pairsThatHold_11 (a0 : Nat) (x1 : Int32) (Q : Int32 → gS → Prop)  : Nat → Int32 → Int32 → Int32 → gS → Prop
  | 0, _, _, _, _ => False
  | n + 1, y2, y3, y4, s => (6 ≤ y4 → Q y3 s) ∧ (¬ (6 ≤ y4) → wpX8_isIn a0 (jrem (y2 / 10) 10) y4 s (fun r2 s2 => (r2 = 0 → wX8_pairsThatHold_11 a0 x1 Q n y2 y3 (y4 + 1) s2) ∧ (¬ (r2 = 0) → wpX8_bitsThatHold a0 y2 y4 s2 (fun r3 s3 => wpX8_inBits a0 (jrem y2 10) s3 (fun r4 s4 => wpJ6_bitCount_0f7a4 (r3 &&& r4) s4 (fun r5 s5 => wX8_pairsThatHold_11 a0 x1 Q n y2 (y3 + r5) (y4 + 1) s5))))))
set_option maxRecDepth 20000 in
theorem pX8_pairsThatHold_11 {l : Launch} {X : gX} {a0 : Nat} {x1 : Int32} (ha0 : isSt a0) {Q : Int32 → gS → Prop}  : ∀ (n : Nat) (y2 : Int32) (y3 : Int32) (y4 : Int32) (s : gS) (h : wX8_pairsThatHold_11 a0 x1 Q n y2 y3 y4 s) , Gw l mX8_pairsThatHold (g_rm 4 0 0) X 11 [some (.ref a0), none, some (.int y2), some (.int y3), some (.int y4)] [] (nrm s) 0 0 (g_Z X (q_i Q) 0 0) := by
  intro n
  induction n with
  | zero => intro y2 y3 y4 s h; exact h.elim
  | succ n ih0 =>
    intro y2 y3 y4 s h 
    have ih : ∀ (y2 : Int32) (y3 : Int32) (y4 : Int32) (s : gS), wX8_pairsThatHold_11 a0 x1 Q n y2 y3 y4 s → Gw l mX8_pairsThatHold (g_rm 4 0 0) X 11 [some (.ref a0), none, some (.int y2), some (.int y3), some (.int y4)] [] (nrm s) 0 0 (g_Z X (q_i Q) 0 0) := fun y2 y3 y4 s h => ih0 y2 y3 y4 s h 
    refine r_iload (pc := 11) (x := y4) dX8_pairsThatHold_11 rfl ?_
    refine r_bipush (pc := 13) (v := 6) dX8_pairsThatHold_13 (by decide) ?_
    refine r_icmp_ge (pc := 15) (tgt := 62) dX8_pairsThatHold_15 (by decide) (fun c => ?_) (fun c => ?_)
    · replace h := h.1 c
      refine r_iload_n (pc := 62) (x := y3) dX8_pairsThatHold_62 rfl ?_
      exact n_iret (pc := 63) dX8_pairsThatHold_63 rfl (Nat.le_refl _) (Nat.le_refl _) h
    · replace h := h.2 c
      refine r_aload_n (pc := 18) (x := a0) dX8_pairsThatHold_18 rfl ?_
      refine r_iload_n (pc := 19) (x := y2) dX8_pairsThatHold_19 rfl ?_
      refine r_bipush (pc := 20) (v := 10) dX8_pairsThatHold_20 (by decide) ?_
      refine r_idiv (pc := 22) dX8_pairsThatHold_22 (by decide) ?_
      refine r_bipush (pc := 23) (v := 10) dX8_pairsThatHold_23 (by decide) ?_
      refine n_irem (pc := 25) dX8_pairsThatHold_25 (by decide) ?_
      refine r_iload (pc := 26) (x := y4) dX8_pairsThatHold_26 rfl ?_
      refine n_Vi0 (pc := 28) (S0 := []) (spX8_isIn ha0 h) gmX8_isIn selX8_isIn lk_RX8_62 dX8_pairsThatHold_28 rfl (lt_St ha0) (sh_St ha0) ⟨rfl, by decide⟩ rfl ⟨Nat.le_of_ble_eq_true rfl, Nat.le_of_ble_eq_true rfl⟩ (Nat.le_of_ble_eq_true rfl) ⟨Nat.zero_le _, Nat.zero_le _⟩ (fun r2 s2 h => ?_)
      refine r_if_eq (pc := 31) (tgt := 56) dX8_pairsThatHold_31 (by decide) (fun c => ?_) (fun c => ?_)
      · replace h := h.1 c
        refine n_iinc (pc := 56) (x := y4) (w := 1) (L' := [some (.ref a0), none, some (.int y2), some (.int y3), some (.int (y4 + 1))]) dX8_pairsThatHold_56 rfl (by decide) rfl (by decide) rfl ?_
        refine r_goto (pc := 59) (tgt := 11) dX8_pairsThatHold_59 (by decide) ?_
        refine n_L (L' := [some (.ref a0), none, some (.int y2), some (.int y3), some (.int (y4 + 1))]) (le_s (le_n (le_s (le_s (le_s (le_e)))))) ?_
        exact ih _ _ _ _ h
      · replace h := h.2 c
        refine r_iload_n (pc := 34) (x := y3) dX8_pairsThatHold_34 rfl ?_
        refine r_aload_n (pc := 35) (x := a0) dX8_pairsThatHold_35 rfl ?_
        refine r_iload_n (pc := 36) (x := y2) dX8_pairsThatHold_36 rfl ?_
        refine r_iload (pc := 37) (x := y4) dX8_pairsThatHold_37 rfl ?_
        refine n_Vi0 (pc := 39) (S0 := [.int y3]) (spX8_bitsThatHold ha0 h) gmX8_bitsThatHold selX8_bitsThatHold lk_RX8_65 dX8_pairsThatHold_39 rfl (lt_St ha0) (sh_St ha0) ⟨rfl, by decide⟩ rfl ⟨Nat.le_of_ble_eq_true rfl, Nat.le_of_ble_eq_true rfl⟩ (Nat.le_of_ble_eq_true rfl) ⟨Nat.zero_le _, Nat.zero_le _⟩ (fun r3 s3 h => ?_)
        refine r_aload_n (pc := 42) (x := a0) dX8_pairsThatHold_42 rfl ?_
        refine r_iload_n (pc := 43) (x := y2) dX8_pairsThatHold_43 rfl ?_
        refine r_bipush (pc := 44) (v := 10) dX8_pairsThatHold_44 (by decide) ?_
        refine n_irem (pc := 46) dX8_pairsThatHold_46 (by decide) ?_
        refine n_Vi0 (pc := 47) (S0 := [.int r3, .int y3]) (spX8_inBits ha0 h) gmX8_inBits selX8_inBits lk_RX8_29 dX8_pairsThatHold_47 rfl (lt_St ha0) (sh_St ha0) ⟨rfl, by decide⟩ rfl ⟨Nat.le_of_ble_eq_true rfl, Nat.le_of_ble_eq_true rfl⟩ (Nat.le_of_ble_eq_true rfl) ⟨Nat.zero_le _, Nat.zero_le _⟩ (fun r4 s4 h => ?_)
        refine r_iand (pc := 50) dX8_pairsThatHold_50 ?_
        refine n_Si0 (pc := 51) (S0 := [.int y3]) (spJ6_bitCount_0f7a4 h) gmJ6_bitCount_0f7a4 lk_RX8_32 dX8_pairsThatHold_51 rfl rfl ⟨Nat.le_of_ble_eq_true rfl, Nat.le_of_ble_eq_true rfl⟩ (Nat.le_of_ble_eq_true rfl) ⟨Nat.zero_le _, Nat.zero_le _⟩ (fun r5 s5 h => ?_)
        refine r_iadd (pc := 54) dX8_pairsThatHold_54 ?_
        refine r_istore_n (pc := 55) (L' := [some (.ref a0), none, some (.int y2), some (.int (y3 + r5)), some (.int y4)]) dX8_pairsThatHold_55 rfl (by decide) rfl ?_
        refine n_iinc (pc := 56) (x := y4) (w := 1) (L' := [some (.ref a0), none, some (.int y2), some (.int (y3 + r5)), some (.int (y4 + 1))]) dX8_pairsThatHold_56 rfl (by decide) rfl (by decide) rfl ?_
        refine r_goto (pc := 59) (tgt := 11) dX8_pairsThatHold_59 (by decide) ?_
        refine n_L (L' := [some (.ref a0), none, some (.int y2), some (.int (y3 + r5)), some (.int (y4 + 1))]) (le_s (le_n (le_s (le_s (le_s (le_e)))))) ?_
        exact ih _ _ _ _ h
def wpX8_pairsThatHold (a0 : Nat) (x1 : Int32) (s : gS) (Q : Int32 → gS → Prop) : Prop := wpX8_code a0 x1 s (fun r1 s1 => ∃ n11, wX8_pairsThatHold_11 a0 x1 Q n11 r1 0 0 s1)
set_option maxRecDepth 20000 in
theorem spX8_pairsThatHold {l : Launch} {a0 : Nat} {x1 : Int32} (ha0 : isSt a0) {s : gS} {Q : Int32 → gS → Prop} (h : wpX8_pairsThatHold a0 x1 s Q) : Ct l mX8_pairsThatHold 4 0 0 [.ref a0, .int x1] (nrm s) (q_i Q) := by
  refine Ct.of (by decide) (Nat.le_of_ble_eq_true rfl) (fun X => ?_)
  refine n_L (L' := [some (.ref a0), some (.int x1), none, none, none]) (le_s (le_s (le_p (le_p (le_p (le_e)))))) ?_
  refine r_aload_n (pc := 0) (x := a0) dX8_pairsThatHold_0 rfl ?_
  refine r_iload_n (pc := 1) (x := x1) dX8_pairsThatHold_1 rfl ?_
  refine n_Vi0 (pc := 2) (S0 := []) (spX8_code ha0 h) gmX8_code selX8_code lk_RX8_59 dX8_pairsThatHold_2 rfl (lt_St ha0) (sh_St ha0) ⟨rfl, by decide⟩ rfl ⟨Nat.le_of_ble_eq_true rfl, Nat.le_of_ble_eq_true rfl⟩ (Nat.le_of_ble_eq_true rfl) ⟨Nat.zero_le _, Nat.zero_le _⟩ (fun r1 s1 h => ?_)
  refine r_istore_n (pc := 5) (L' := [some (.ref a0), some (.int x1), some (.int r1), none, none]) dX8_pairsThatHold_5 rfl (by decide) rfl ?_
  refine r_iconst (pc := 6) (v := 0) dX8_pairsThatHold_6 (by decide) ?_
  refine r_istore_n (pc := 7) (L' := [some (.ref a0), some (.int x1), some (.int r1), some (.int 0), none]) dX8_pairsThatHold_7 rfl (by decide) rfl ?_
  refine r_iconst (pc := 8) (v := 0) dX8_pairsThatHold_8 (by decide) ?_
  refine r_istore (pc := 9) (L' := [some (.ref a0), some (.int x1), some (.int r1), some (.int 0), some (.int 0)]) dX8_pairsThatHold_9 rfl (by decide) rfl ?_
  refine n_L (L' := [some (.ref a0), none, some (.int r1), some (.int 0), some (.int 0)]) (le_s (le_n (le_s (le_s (le_s (le_e)))))) ?_
  obtain ⟨n, h⟩ := h
  exact pX8_pairsThatHold_11 ha0 n _ _ _ _ h 
def wpX8_tell (a0 : Nat) (x1 : Int32) (a2 : Nat) (s : gS) (Q : gS → Prop) : Prop := (x1 < 0 → Q s) ∧ (¬ (x1 < 0) → (6 ≤ x1 → Q s) ∧ (¬ (6 ≤ x1) → vp_in (14 + x1) 170 ∧ (vp_in (20 + x1) 170 ∧ (¬ (26 + (x1 * 24)) < 0 ∧ (ix (26 + (x1 * 24)) + ix 24 ≤ 170 ∧ (Q (cpI (wi (wi (wi s (a0 + 1) 1 ((gi s (a0 + 1) 1) ||| (jshl 1 x1))) (a0 + 1) (ix (14 + x1)) (gi (wi s (a0 + 1) 1 ((gi s (a0 + 1) 1) ||| (jshl 1 x1))) a2 1)) (a0 + 1) (ix (20 + x1)) ((jshl 1 (gi (wi (wi s (a0 + 1) 1 ((gi s (a0 + 1) 1) ||| (jshl 1 x1))) (a0 + 1) (ix (14 + x1)) (gi (wi s (a0 + 1) 1 ((gi s (a0 + 1) 1) ||| (jshl 1 x1))) a2 1)) a2 1)) - 1)) (a2 + 1) (ix 0) (a0 + 1) (ix (26 + (x1 * 24))) (ix 24))))))))
set_option maxRecDepth 20000 in
theorem spX8_tell {l : Launch} {a0 : Nat} {x1 : Int32} {a2 : Nat} (ha0 : isSt a0) (ha2 : isRd a2) {s : gS} {Q : gS → Prop} (h : wpX8_tell a0 x1 a2 s Q) : Ct l mX8_tell 2 0 0 [.ref a0, .int x1, .ref a2] (nrm s) (q_v Q) := by
  refine Ct.of (by decide) (Nat.le_of_ble_eq_true rfl) (fun X => ?_)
  refine n_L (L' := [some (.ref a0), some (.int x1), some (.ref a2)]) (le_s (le_s (le_s (le_e)))) ?_
  refine r_iload_n (pc := 0) (x := x1) dX8_tell_0 rfl ?_
  refine r_if_lt (pc := 1) (tgt := 14) dX8_tell_1 (by decide) (fun c => ?_) (fun c => ?_)
  · replace h := h.1 c
    exact n_vret (pc := 14) dX8_tell_14 rfl (Nat.le_refl _) (Nat.le_refl _) h
  · replace h := h.2 c
    refine r_iload_n (pc := 4) (x := x1) dX8_tell_4 rfl ?_
    refine r_bipush (pc := 5) (v := 6) dX8_tell_5 (by decide) ?_
    refine r_icmp_ge (pc := 7) (tgt := 14) dX8_tell_7 (by decide) (fun c => ?_) (fun c => ?_)
    · replace h := h.1 c
      exact n_vret (pc := 14) dX8_tell_14 rfl (Nat.le_refl _) (Nat.le_refl _) h
    · replace h := h.2 c
      refine r_aload_n (pc := 10) (x := a2) dX8_tell_10 rfl ?_
      refine r_ifnonnull (pc := 11) (tgt := 15) dX8_tell_11 (by decide) ?_
      refine r_aload_n (pc := 15) (x := a0) dX8_tell_15 rfl ?_
      refine n_getR (pc := 16) (j := 0) (q := (a0 + 1)) dX8_tell_16 fl_RX8_11 (lt_St ha0) (sh_St ha0) rfl rfl (rf_St_0 ha0) ?_
      refine r_iconst (pc := 19) (v := 1) dX8_tell_19 (by decide) ?_
      refine r_dup2 (pc := 20) dX8_tell_20 rfl rfl ?_
      refine n_iald (pc := 21) (j := 1) dX8_tell_21 (lt_St_1 ha0) (sh_St_1 ha0) (vp_inc (by decide)) (by decide) ?_
      refine r_iconst (pc := 22) (v := 1) dX8_tell_22 (by decide) ?_
      refine r_iload_n (pc := 23) (x := x1) dX8_tell_23 rfl ?_
      refine n_ishl (pc := 24) dX8_tell_24 ?_
      refine r_ior (pc := 25) dX8_tell_25 ?_
      refine n_iast (pc := 26) (j := 1) dX8_tell_26 (lt_St_1 ha0) (sh_St_1 ha0) (vp_inc (by decide)) (by decide) ?_
      refine r_aload_n (pc := 27) (x := a0) dX8_tell_27 rfl ?_
      refine n_getR (pc := 28) (j := 0) (q := (a0 + 1)) dX8_tell_28 fl_RX8_11 (lt_St ha0) (sh_St ha0) rfl rfl (rf_St_0 ha0) ?_
      refine r_bipush (pc := 31) (v := 14) dX8_tell_31 (by decide) ?_
      refine r_iload_n (pc := 33) (x := x1) dX8_tell_33 rfl ?_
      refine r_iadd (pc := 34) dX8_tell_34 ?_
      refine r_aload_n (pc := 35) (x := a2) dX8_tell_35 rfl ?_
      refine n_getI (pc := 36) (j := 1) dX8_tell_36 fl_RX8_69 (lt_Rd ha2) (sh_Rd ha2) rfl rfl ?_
      obtain ⟨b1, h⟩ := h
      refine n_iast (pc := 39) (j := (ix (14 + x1))) dX8_tell_39 (lt_St_1 ha0) (sh_St_1 ha0) b1 rfl ?_
      refine r_aload_n (pc := 40) (x := a0) dX8_tell_40 rfl ?_
      refine n_getR (pc := 41) (j := 0) (q := (a0 + 1)) dX8_tell_41 fl_RX8_11 (lt_St ha0) (sh_St ha0) rfl rfl (rf_St_0 ha0) ?_
      refine r_bipush (pc := 44) (v := 20) dX8_tell_44 (by decide) ?_
      refine r_iload_n (pc := 46) (x := x1) dX8_tell_46 rfl ?_
      refine r_iadd (pc := 47) dX8_tell_47 ?_
      refine r_iconst (pc := 48) (v := 1) dX8_tell_48 (by decide) ?_
      refine r_aload_n (pc := 49) (x := a2) dX8_tell_49 rfl ?_
      refine n_getI (pc := 50) (j := 1) dX8_tell_50 fl_RX8_69 (lt_Rd ha2) (sh_Rd ha2) rfl rfl ?_
      refine n_ishl (pc := 53) dX8_tell_53 ?_
      refine r_iconst (pc := 54) (v := 1) dX8_tell_54 (by decide) ?_
      refine r_isub (pc := 55) dX8_tell_55 ?_
      obtain ⟨b2, h⟩ := h
      refine n_iast (pc := 56) (j := (ix (20 + x1))) dX8_tell_56 (lt_St_1 ha0) (sh_St_1 ha0) b2 rfl ?_
      refine r_aload_n (pc := 57) (x := a2) dX8_tell_57 rfl ?_
      refine n_getR (pc := 58) (j := 0) (q := (a2 + 1)) dX8_tell_58 fl_RX8_74 (lt_Rd ha2) (sh_Rd ha2) rfl rfl (rf_Rd_0 ha2) ?_
      refine r_iconst (pc := 61) (v := 0) dX8_tell_61 (by decide) ?_
      refine r_aload_n (pc := 62) (x := a0) dX8_tell_62 rfl ?_
      refine n_getR (pc := 63) (j := 0) (q := (a0 + 1)) dX8_tell_63 fl_RX8_11 (lt_St ha0) (sh_St ha0) rfl rfl (rf_St_0 ha0) ?_
      refine r_bipush (pc := 66) (v := 26) dX8_tell_66 (by decide) ?_
      refine r_iload_n (pc := 68) (x := x1) dX8_tell_68 rfl ?_
      refine r_bipush (pc := 69) (v := 24) dX8_tell_69 (by decide) ?_
      refine r_imul (pc := 71) dX8_tell_71 ?_
      refine r_iadd (pc := 72) dX8_tell_72 ?_
      refine r_bipush (pc := 73) (v := 24) dX8_tell_73 (by decide) ?_
      obtain ⟨b3, h⟩ := h
      obtain ⟨b4, h⟩ := h
      refine n_copy (pc := 75) dX8_tell_75 lk_RX8_15 ⟨Nat.le_of_ble_eq_true rfl, Nat.le_of_ble_eq_true rfl⟩ (lt_Rd_1 ha2) (sh_Rd_1 ha2) (lt_St_1 ha0) (sh_St_1 ha0) (by decide) b3 (by decide) (by decide) b4 ?_
      exact n_vret (pc := 78) dX8_tell_78 rfl (Nat.le_refl _) (Nat.le_refl _) h
def wpX8_drop (a0 : Nat) (x1 : Int32) (s : gS) (Q : Int32 → gS → Prop) : Prop := (x1 < 0 → Q (-1) s) ∧ (¬ (x1 < 0) → (x1 < 6 → wpX8_isTold a0 x1 s (fun r1 s1 => (¬ r1 = 0 → vp_in (14 + x1) 170 ∧ (vp_in (20 + x1) 170 ∧ (wpJ6_bitCount_0f7a4 (gi (wi (wi (wi s1 (a0 + 1) 1 ((gi s1 (a0 + 1) 1) &&& ((jshl 1 x1) ^^^ (-1)))) (a0 + 1) (ix (14 + x1)) 0) (a0 + 1) (ix (20 + x1)) 0) (a0 + 1) 1) (wi (wi (wi s1 (a0 + 1) 1 ((gi s1 (a0 + 1) 1) &&& ((jshl 1 x1) ^^^ (-1)))) (a0 + 1) (ix (14 + x1)) 0) (a0 + 1) (ix (20 + x1)) 0) (fun r4 s4 => Q r4 s4)))) ∧ (r1 = 0 → Q (-2) s1))) ∧ (¬ (x1 < 6) → Q (-1) s))
set_option maxRecDepth 20000 in
theorem spX8_drop {l : Launch} {a0 : Nat} {x1 : Int32} (ha0 : isSt a0) {s : gS} {Q : Int32 → gS → Prop} (h : wpX8_drop a0 x1 s Q) : Ct l mX8_drop 2 0 0 [.ref a0, .int x1] (nrm s) (q_i Q) := by
  refine Ct.of (by decide) (Nat.le_of_ble_eq_true rfl) (fun X => ?_)
  refine n_L (L' := [some (.ref a0), some (.int x1)]) (le_s (le_s (le_e))) ?_
  refine r_iload_n (pc := 0) (x := x1) dX8_drop_0 rfl ?_
  refine r_if_lt (pc := 1) (tgt := 10) dX8_drop_1 (by decide) (fun c => ?_) (fun c => ?_)
  · replace h := h.1 c
    refine r_iconst (pc := 10) (v := (-1)) dX8_drop_10 (by decide) ?_
    exact n_iret (pc := 11) dX8_drop_11 rfl (Nat.le_refl _) (Nat.le_refl _) h
  · replace h := h.2 c
    refine r_iload_n (pc := 4) (x := x1) dX8_drop_4 rfl ?_
    refine r_bipush (pc := 5) (v := 6) dX8_drop_5 (by decide) ?_
    refine r_icmp_lt (pc := 7) (tgt := 12) dX8_drop_7 (by decide) (fun c => ?_) (fun c => ?_)
    · replace h := h.1 c
      refine r_aload_n (pc := 12) (x := a0) dX8_drop_12 rfl ?_
      refine r_iload_n (pc := 13) (x := x1) dX8_drop_13 rfl ?_
      refine n_Vi0 (pc := 14) (S0 := []) (spX8_isTold ha0 h) gmX8_isTold selX8_isTold lk_RX8_41 dX8_drop_14 rfl (lt_St ha0) (sh_St ha0) ⟨rfl, by decide⟩ rfl ⟨Nat.le_of_ble_eq_true rfl, Nat.le_of_ble_eq_true rfl⟩ (Nat.le_of_ble_eq_true rfl) ⟨Nat.zero_le _, Nat.zero_le _⟩ (fun r1 s1 h => ?_)
      refine r_if_ne (pc := 17) (tgt := 23) dX8_drop_17 (by decide) (fun c => ?_) (fun c => ?_)
      · replace h := h.1 c
        refine r_aload_n (pc := 23) (x := a0) dX8_drop_23 rfl ?_
        refine n_getR (pc := 24) (j := 0) (q := (a0 + 1)) dX8_drop_24 fl_RX8_11 (lt_St ha0) (sh_St ha0) rfl rfl (rf_St_0 ha0) ?_
        refine r_iconst (pc := 27) (v := 1) dX8_drop_27 (by decide) ?_
        refine r_dup2 (pc := 28) dX8_drop_28 rfl rfl ?_
        refine n_iald (pc := 29) (j := 1) dX8_drop_29 (lt_St_1 ha0) (sh_St_1 ha0) (vp_inc (by decide)) (by decide) ?_
        refine r_iconst (pc := 30) (v := 1) dX8_drop_30 (by decide) ?_
        refine r_iload_n (pc := 31) (x := x1) dX8_drop_31 rfl ?_
        refine n_ishl (pc := 32) dX8_drop_32 ?_
        refine r_iconst (pc := 33) (v := (-1)) dX8_drop_33 (by decide) ?_
        refine r_ixor (pc := 34) dX8_drop_34 ?_
        refine r_iand (pc := 35) dX8_drop_35 ?_
        refine n_iast (pc := 36) (j := 1) dX8_drop_36 (lt_St_1 ha0) (sh_St_1 ha0) (vp_inc (by decide)) (by decide) ?_
        refine r_aload_n (pc := 37) (x := a0) dX8_drop_37 rfl ?_
        refine n_getR (pc := 38) (j := 0) (q := (a0 + 1)) dX8_drop_38 fl_RX8_11 (lt_St ha0) (sh_St ha0) rfl rfl (rf_St_0 ha0) ?_
        refine r_bipush (pc := 41) (v := 14) dX8_drop_41 (by decide) ?_
        refine r_iload_n (pc := 43) (x := x1) dX8_drop_43 rfl ?_
        refine r_iadd (pc := 44) dX8_drop_44 ?_
        refine r_iconst (pc := 45) (v := 0) dX8_drop_45 (by decide) ?_
        obtain ⟨b2, h⟩ := h
        refine n_iast (pc := 46) (j := (ix (14 + x1))) dX8_drop_46 (lt_St_1 ha0) (sh_St_1 ha0) b2 rfl ?_
        refine r_aload_n (pc := 47) (x := a0) dX8_drop_47 rfl ?_
        refine n_getR (pc := 48) (j := 0) (q := (a0 + 1)) dX8_drop_48 fl_RX8_11 (lt_St ha0) (sh_St ha0) rfl rfl (rf_St_0 ha0) ?_
        refine r_bipush (pc := 51) (v := 20) dX8_drop_51 (by decide) ?_
        refine r_iload_n (pc := 53) (x := x1) dX8_drop_53 rfl ?_
        refine r_iadd (pc := 54) dX8_drop_54 ?_
        refine r_iconst (pc := 55) (v := 0) dX8_drop_55 (by decide) ?_
        obtain ⟨b3, h⟩ := h
        refine n_iast (pc := 56) (j := (ix (20 + x1))) dX8_drop_56 (lt_St_1 ha0) (sh_St_1 ha0) b3 rfl ?_
        refine r_aload_n (pc := 57) (x := a0) dX8_drop_57 rfl ?_
        refine n_getR (pc := 58) (j := 0) (q := (a0 + 1)) dX8_drop_58 fl_RX8_11 (lt_St ha0) (sh_St ha0) rfl rfl (rf_St_0 ha0) ?_
        refine r_iconst (pc := 61) (v := 1) dX8_drop_61 (by decide) ?_
        refine n_iald (pc := 62) (j := 1) dX8_drop_62 (lt_St_1 ha0) (sh_St_1 ha0) (vp_inc (by decide)) (by decide) ?_
        refine n_Si0 (pc := 63) (S0 := []) (spJ6_bitCount_0f7a4 h) gmJ6_bitCount_0f7a4 lk_RX8_32 dX8_drop_63 rfl rfl ⟨Nat.le_of_ble_eq_true rfl, Nat.le_of_ble_eq_true rfl⟩ (Nat.le_of_ble_eq_true rfl) ⟨Nat.zero_le _, Nat.zero_le _⟩ (fun r4 s4 h => ?_)
        exact n_iret (pc := 66) dX8_drop_66 rfl (Nat.le_refl _) (Nat.le_refl _) h
      · replace h := h.2 c
        refine r_bipush (pc := 20) (v := (-2)) dX8_drop_20 (by decide) ?_
        exact n_iret (pc := 22) dX8_drop_22 rfl (Nat.le_refl _) (Nat.le_refl _) h
    · replace h := h.2 c
      refine r_iconst (pc := 10) (v := (-1)) dX8_drop_10 (by decide) ?_
      exact n_iret (pc := 11) dX8_drop_11 rfl (Nat.le_refl _) (Nat.le_refl _) h
def wpX8_changeRef (a0 : Nat) (x1 : Int32) (s : gS) (Q : Int32 → gS → Prop) : Prop := wpX11_isDay x1 s (fun r1 s1 => (¬ r1 = 0 → (¬ (gi s1 (a0 + 1) 0) = x1 → Q (gi s1 (a0 + 1) 0) (wi s1 (a0 + 1) 0 x1)) ∧ ((gi s1 (a0 + 1) 0) = x1 → Q (-2) s1)) ∧ (r1 = 0 → Q (-1) s1))
set_option maxRecDepth 20000 in
theorem spX8_changeRef {l : Launch} {a0 : Nat} {x1 : Int32} (ha0 : isSt a0) {s : gS} {Q : Int32 → gS → Prop} (h : wpX8_changeRef a0 x1 s Q) : Ct l mX8_changeRef 2 0 0 [.ref a0, .int x1] (nrm s) (q_i Q) := by
  refine Ct.of (by decide) (Nat.le_of_ble_eq_true rfl) (fun X => ?_)
  refine n_L (L' := [some (.ref a0), some (.int x1), none]) (le_s (le_s (le_p (le_e)))) ?_
  refine r_iload_n (pc := 0) (x := x1) dX8_changeRef_0 rfl ?_
  refine n_Ni0 (pc := 1) (S0 := []) (spX11_isDay h) gmX11_isDay lk_RX8_75 dX8_changeRef_1 rfl rfl ⟨Nat.le_of_ble_eq_true rfl, Nat.le_of_ble_eq_true rfl⟩ (Nat.le_of_ble_eq_true rfl) ⟨Nat.zero_le _, Nat.zero_le _⟩ (fun r1 s1 h => ?_)
  refine r_if_ne (pc := 4) (tgt := 9) dX8_changeRef_4 (by decide) (fun c => ?_) (fun c => ?_)
  · replace h := h.1 c
    refine r_aload_n (pc := 9) (x := a0) dX8_changeRef_9 rfl ?_
    refine n_getR (pc := 10) (j := 0) (q := (a0 + 1)) dX8_changeRef_10 fl_RX8_11 (lt_St ha0) (sh_St ha0) rfl rfl (rf_St_0 ha0) ?_
    refine r_iconst (pc := 13) (v := 0) dX8_changeRef_13 (by decide) ?_
    refine n_iald (pc := 14) (j := 0) dX8_changeRef_14 (lt_St_1 ha0) (sh_St_1 ha0) (vp_inc (by decide)) (by decide) ?_
    refine r_istore_n (pc := 15) (L' := [some (.ref a0), some (.int x1), some (.int (gi s1 (a0 + 1) 0))]) dX8_changeRef_15 rfl (by decide) rfl ?_
    refine r_iload_n (pc := 16) (x := gi s1 (a0 + 1) 0) dX8_changeRef_16 rfl ?_
    refine r_iload_n (pc := 17) (x := x1) dX8_changeRef_17 rfl ?_
    refine r_icmp_ne (pc := 18) (tgt := 24) dX8_changeRef_18 (by decide) (fun c => ?_) (fun c => ?_)
    · replace h := h.1 c
      refine r_aload_n (pc := 24) (x := a0) dX8_changeRef_24 rfl ?_
      refine n_getR (pc := 25) (j := 0) (q := (a0 + 1)) dX8_changeRef_25 fl_RX8_11 (lt_St ha0) (sh_St ha0) rfl rfl (rf_St_0 ha0) ?_
      refine r_iconst (pc := 28) (v := 0) dX8_changeRef_28 (by decide) ?_
      refine r_iload_n (pc := 29) (x := x1) dX8_changeRef_29 rfl ?_
      refine n_iast (pc := 30) (j := 0) dX8_changeRef_30 (lt_St_1 ha0) (sh_St_1 ha0) (vp_inc (by decide)) (by decide) ?_
      refine r_iload_n (pc := 31) (x := gi s1 (a0 + 1) 0) dX8_changeRef_31 rfl ?_
      exact n_iret (pc := 32) dX8_changeRef_32 rfl (Nat.le_refl _) (Nat.le_refl _) h
    · replace h := h.2 c
      refine r_bipush (pc := 21) (v := (-2)) dX8_changeRef_21 (by decide) ?_
      exact n_iret (pc := 23) dX8_changeRef_23 rfl (Nat.le_refl _) (Nat.le_refl _) h
  · replace h := h.2 c
    refine r_iconst (pc := 7) (v := (-1)) dX8_changeRef_7 (by decide) ?_
    exact n_iret (pc := 8) dX8_changeRef_8 rfl (Nat.le_refl _) (Nat.le_refl _) h
def wpX8_ruleOut (a0 : Nat) (x1 : Int32) (x2 : Int32) (x3 : Int32) (s : gS) (Q : Int32 → gS → Prop) : Prop := (x1 < 0 → Q (-1) s) ∧ (¬ (x1 < 0) → (6 ≤ x1 → Q (-1) s) ∧ (¬ (6 ≤ x1) → wpX8_has a0 x1 x2 s (fun r1 s1 => (¬ r1 = 0 → wpX8_isIn a0 x1 x2 s1 (fun r2 s2 => (r2 = x3 → vp_in (20 + x1) 170 ∧ (vp_in (20 + x1) 170 ∧ (vp_in (20 + x1) 170 ∧ (wpJ6_bitCount_0f7a4 (gi (wi s2 (a0 + 1) (ix (20 + x1)) ((gi s2 (a0 + 1) (ix (20 + x1))) ^^^ (jshl 1 x2))) (a0 + 1) (ix (20 + x1))) (wi s2 (a0 + 1) (ix (20 + x1)) ((gi s2 (a0 + 1) (ix (20 + x1))) ^^^ (jshl 1 x2))) (fun r6 s6 => Q r6 s6))))) ∧ (¬ (r2 = x3) → Q (-2) s2))) ∧ (r1 = 0 → Q (-1) s1))))
set_option maxRecDepth 20000 in
theorem spX8_ruleOut {l : Launch} {a0 : Nat} {x1 : Int32} {x2 : Int32} {x3 : Int32} (ha0 : isSt a0) {s : gS} {Q : Int32 → gS → Prop} (h : wpX8_ruleOut a0 x1 x2 x3 s Q) : Ct l mX8_ruleOut 4 0 0 [.ref a0, .int x1, .int x2, .int x3] (nrm s) (q_i Q) := by
  refine Ct.of (by decide) (Nat.le_of_ble_eq_true rfl) (fun X => ?_)
  refine n_L (L' := [some (.ref a0), some (.int x1), some (.int x2), some (.int x3)]) (le_s (le_s (le_s (le_s (le_e))))) ?_
  refine r_iload_n (pc := 0) (x := x1) dX8_ruleOut_0 rfl ?_
  refine r_if_lt (pc := 1) (tgt := 19) dX8_ruleOut_1 (by decide) (fun c => ?_) (fun c => ?_)
  · replace h := h.1 c
    refine r_iconst (pc := 19) (v := (-1)) dX8_ruleOut_19 (by decide) ?_
    exact n_iret (pc := 20) dX8_ruleOut_20 rfl (Nat.le_refl _) (Nat.le_refl _) h
  · replace h := h.2 c
    refine r_iload_n (pc := 4) (x := x1) dX8_ruleOut_4 rfl ?_
    refine r_bipush (pc := 5) (v := 6) dX8_ruleOut_5 (by decide) ?_
    refine r_icmp_ge (pc := 7) (tgt := 19) dX8_ruleOut_7 (by decide) (fun c => ?_) (fun c => ?_)
    · replace h := h.1 c
      refine r_iconst (pc := 19) (v := (-1)) dX8_ruleOut_19 (by decide) ?_
      exact n_iret (pc := 20) dX8_ruleOut_20 rfl (Nat.le_refl _) (Nat.le_refl _) h
    · replace h := h.2 c
      refine r_aload_n (pc := 10) (x := a0) dX8_ruleOut_10 rfl ?_
      refine r_iload_n (pc := 11) (x := x1) dX8_ruleOut_11 rfl ?_
      refine r_iload_n (pc := 12) (x := x2) dX8_ruleOut_12 rfl ?_
      refine n_Vi0 (pc := 13) (S0 := []) (spX8_has ha0 h) gmX8_has selX8_has lk_RX8_25 dX8_ruleOut_13 rfl (lt_St ha0) (sh_St ha0) ⟨rfl, by decide⟩ rfl ⟨Nat.le_of_ble_eq_true rfl, Nat.le_of_ble_eq_true rfl⟩ (Nat.le_of_ble_eq_true rfl) ⟨Nat.zero_le _, Nat.zero_le _⟩ (fun r1 s1 h => ?_)
      refine r_if_ne (pc := 16) (tgt := 21) dX8_ruleOut_16 (by decide) (fun c => ?_) (fun c => ?_)
      · replace h := h.1 c
        refine r_aload_n (pc := 21) (x := a0) dX8_ruleOut_21 rfl ?_
        refine r_iload_n (pc := 22) (x := x1) dX8_ruleOut_22 rfl ?_
        refine r_iload_n (pc := 23) (x := x2) dX8_ruleOut_23 rfl ?_
        refine n_Vi0 (pc := 24) (S0 := []) (spX8_isIn ha0 h) gmX8_isIn selX8_isIn lk_RX8_62 dX8_ruleOut_24 rfl (lt_St ha0) (sh_St ha0) ⟨rfl, by decide⟩ rfl ⟨Nat.le_of_ble_eq_true rfl, Nat.le_of_ble_eq_true rfl⟩ (Nat.le_of_ble_eq_true rfl) ⟨Nat.zero_le _, Nat.zero_le _⟩ (fun r2 s2 h => ?_)
        refine r_iload_n (pc := 27) (x := x3) dX8_ruleOut_27 rfl ?_
        refine r_icmp_eq (pc := 28) (tgt := 34) dX8_ruleOut_28 (by decide) (fun c => ?_) (fun c => ?_)
        · replace h := h.1 c
          refine r_aload_n (pc := 34) (x := a0) dX8_ruleOut_34 rfl ?_
          refine n_getR (pc := 35) (j := 0) (q := (a0 + 1)) dX8_ruleOut_35 fl_RX8_11 (lt_St ha0) (sh_St ha0) rfl rfl (rf_St_0 ha0) ?_
          refine r_bipush (pc := 38) (v := 20) dX8_ruleOut_38 (by decide) ?_
          refine r_iload_n (pc := 40) (x := x1) dX8_ruleOut_40 rfl ?_
          refine r_iadd (pc := 41) dX8_ruleOut_41 ?_
          refine r_dup2 (pc := 42) dX8_ruleOut_42 rfl rfl ?_
          obtain ⟨b3, h⟩ := h
          refine n_iald (pc := 43) (j := (ix (20 + x1))) dX8_ruleOut_43 (lt_St_1 ha0) (sh_St_1 ha0) b3 rfl ?_
          refine r_iconst (pc := 44) (v := 1) dX8_ruleOut_44 (by decide) ?_
          refine r_iload_n (pc := 45) (x := x2) dX8_ruleOut_45 rfl ?_
          refine n_ishl (pc := 46) dX8_ruleOut_46 ?_
          refine r_ixor (pc := 47) dX8_ruleOut_47 ?_
          obtain ⟨b4, h⟩ := h
          refine n_iast (pc := 48) (j := (ix (20 + x1))) dX8_ruleOut_48 (lt_St_1 ha0) (sh_St_1 ha0) b4 rfl ?_
          refine r_aload_n (pc := 49) (x := a0) dX8_ruleOut_49 rfl ?_
          refine n_getR (pc := 50) (j := 0) (q := (a0 + 1)) dX8_ruleOut_50 fl_RX8_11 (lt_St ha0) (sh_St ha0) rfl rfl (rf_St_0 ha0) ?_
          refine r_bipush (pc := 53) (v := 20) dX8_ruleOut_53 (by decide) ?_
          refine r_iload_n (pc := 55) (x := x1) dX8_ruleOut_55 rfl ?_
          refine r_iadd (pc := 56) dX8_ruleOut_56 ?_
          obtain ⟨b5, h⟩ := h
          refine n_iald (pc := 57) (j := (ix (20 + x1))) dX8_ruleOut_57 (lt_St_1 ha0) (sh_St_1 ha0) b5 rfl ?_
          refine n_Si0 (pc := 58) (S0 := []) (spJ6_bitCount_0f7a4 h) gmJ6_bitCount_0f7a4 lk_RX8_32 dX8_ruleOut_58 rfl rfl ⟨Nat.le_of_ble_eq_true rfl, Nat.le_of_ble_eq_true rfl⟩ (Nat.le_of_ble_eq_true rfl) ⟨Nat.zero_le _, Nat.zero_le _⟩ (fun r6 s6 h => ?_)
          exact n_iret (pc := 61) dX8_ruleOut_61 rfl (Nat.le_refl _) (Nat.le_refl _) h
        · replace h := h.2 c
          refine r_bipush (pc := 31) (v := (-2)) dX8_ruleOut_31 (by decide) ?_
          exact n_iret (pc := 33) dX8_ruleOut_33 rfl (Nat.le_refl _) (Nat.le_refl _) h
      · replace h := h.2 c
        refine r_iconst (pc := 19) (v := (-1)) dX8_ruleOut_19 (by decide) ?_
        exact n_iret (pc := 20) dX8_ruleOut_20 rfl (Nat.le_refl _) (Nat.le_refl _) h
def wX8_addOrder_52 (a0 : Nat) (x1 : Int32) (x2 : Int32) (x3 : Int32) (x4 : Int32) (Q : Int32 → gS → Prop)  : Nat → Int32 → Int32 → Int32 → gS → Prop
  | 0, _, _, _, _ => False
  | n + 1, y5, y6, y7, s => (y6 ≤ y7 → (y6 < 0 → Q (-3) s) ∧ (¬ (y6 < 0) → (x4 ≤ y6 → Q (-3) s) ∧ (¬ (x4 ≤ y6) → (y6 < 11 → vp_in (3 + y6) 170 ∧ (Q y6 (wi (wi s (a0 + 1) (ix (3 + y6)) y5) (a0 + 1) 2 (y6 + 1)))) ∧ (¬ (y6 < 11) → Q (-3) s)))) ∧ (¬ (y6 ≤ y7) → wpX8_code a0 y7 s (fun r5 s5 => (¬ r5 = y5 → wX8_addOrder_52 a0 x1 x2 x3 x4 Q n y5 y6 (y7 + 1) s5) ∧ (r5 = y5 → Q (-2) s5)))
set_option maxRecDepth 20000 in
theorem pX8_addOrder_52 {l : Launch} {X : gX} {a0 : Nat} {x1 : Int32} {x2 : Int32} {x3 : Int32} {x4 : Int32} (ha0 : isSt a0) {Q : Int32 → gS → Prop}  : ∀ (n : Nat) (y5 : Int32) (y6 : Int32) (y7 : Int32) (s : gS) (h : wX8_addOrder_52 a0 x1 x2 x3 x4 Q n y5 y6 y7 s) , Gw l mX8_addOrder (g_rm 2 0 0) X 52 [some (.ref a0), none, none, none, some (.int x4), some (.int y5), some (.int y6), some (.int y7)] [] (nrm s) 0 0 (g_Z X (q_i Q) 0 0) := by
  intro n
  induction n with
  | zero => intro y5 y6 y7 s h; exact h.elim
  | succ n ih0 =>
    intro y5 y6 y7 s h 
    have ih : ∀ (y5 : Int32) (y6 : Int32) (y7 : Int32) (s : gS), wX8_addOrder_52 a0 x1 x2 x3 x4 Q n y5 y6 y7 s → Gw l mX8_addOrder (g_rm 2 0 0) X 52 [some (.ref a0), none, none, none, some (.int x4), some (.int y5), some (.int y6), some (.int y7)] [] (nrm s) 0 0 (g_Z X (q_i Q) 0 0) := fun y5 y6 y7 s h => ih0 y5 y6 y7 s h 
    refine r_iload (pc := 52) (x := y7) dX8_addOrder_52 rfl ?_
    refine r_iload (pc := 54) (x := y6) dX8_addOrder_54 rfl ?_
    refine r_icmp_ge (pc := 56) (tgt := 79) dX8_addOrder_56 (by decide) (fun c => ?_) (fun c => ?_)
    · replace h := h.1 c
      refine r_iload (pc := 79) (x := y6) dX8_addOrder_79 rfl ?_
      refine r_if_lt (pc := 81) (tgt := 98) dX8_addOrder_81 (by decide) (fun c => ?_) (fun c => ?_)
      · replace h := h.1 c
        refine r_bipush (pc := 98) (v := (-3)) dX8_addOrder_98 (by decide) ?_
        exact n_iret (pc := 100) dX8_addOrder_100 rfl (Nat.le_refl _) (Nat.le_refl _) h
      · replace h := h.2 c
        refine r_iload (pc := 84) (x := y6) dX8_addOrder_84 rfl ?_
        refine r_iload (pc := 86) (x := x4) dX8_addOrder_86 rfl ?_
        refine r_icmp_ge (pc := 88) (tgt := 98) dX8_addOrder_88 (by decide) (fun c => ?_) (fun c => ?_)
        · replace h := h.1 c
          refine r_bipush (pc := 98) (v := (-3)) dX8_addOrder_98 (by decide) ?_
          exact n_iret (pc := 100) dX8_addOrder_100 rfl (Nat.le_refl _) (Nat.le_refl _) h
        · replace h := h.2 c
          refine r_iload (pc := 91) (x := y6) dX8_addOrder_91 rfl ?_
          refine r_bipush (pc := 93) (v := 11) dX8_addOrder_93 (by decide) ?_
          refine r_icmp_lt (pc := 95) (tgt := 101) dX8_addOrder_95 (by decide) (fun c => ?_) (fun c => ?_)
          · replace h := h.1 c
            refine r_aload_n (pc := 101) (x := a0) dX8_addOrder_101 rfl ?_
            refine n_getR (pc := 102) (j := 0) (q := (a0 + 1)) dX8_addOrder_102 fl_RX8_11 (lt_St ha0) (sh_St ha0) rfl rfl (rf_St_0 ha0) ?_
            refine r_iconst (pc := 105) (v := 3) dX8_addOrder_105 (by decide) ?_
            refine r_iload (pc := 106) (x := y6) dX8_addOrder_106 rfl ?_
            refine r_iadd (pc := 108) dX8_addOrder_108 ?_
            refine r_iload (pc := 109) (x := y5) dX8_addOrder_109 rfl ?_
            obtain ⟨b4, h⟩ := h
            refine n_iast (pc := 111) (j := (ix (3 + y6))) dX8_addOrder_111 (lt_St_1 ha0) (sh_St_1 ha0) b4 rfl ?_
            refine r_aload_n (pc := 112) (x := a0) dX8_addOrder_112 rfl ?_
            refine n_getR (pc := 113) (j := 0) (q := (a0 + 1)) dX8_addOrder_113 fl_RX8_11 (lt_St ha0) (sh_St ha0) rfl rfl (rf_St_0 ha0) ?_
            refine r_iconst (pc := 116) (v := 2) dX8_addOrder_116 (by decide) ?_
            refine r_iload (pc := 117) (x := y6) dX8_addOrder_117 rfl ?_
            refine r_iconst (pc := 119) (v := 1) dX8_addOrder_119 (by decide) ?_
            refine r_iadd (pc := 120) dX8_addOrder_120 ?_
            refine n_iast (pc := 121) (j := 2) dX8_addOrder_121 (lt_St_1 ha0) (sh_St_1 ha0) (vp_inc (by decide)) (by decide) ?_
            refine r_iload (pc := 122) (x := y6) dX8_addOrder_122 rfl ?_
            exact n_iret (pc := 124) dX8_addOrder_124 rfl (Nat.le_refl _) (Nat.le_refl _) h
          · replace h := h.2 c
            refine r_bipush (pc := 98) (v := (-3)) dX8_addOrder_98 (by decide) ?_
            exact n_iret (pc := 100) dX8_addOrder_100 rfl (Nat.le_refl _) (Nat.le_refl _) h
    · replace h := h.2 c
      refine r_aload_n (pc := 59) (x := a0) dX8_addOrder_59 rfl ?_
      refine r_iload (pc := 60) (x := y7) dX8_addOrder_60 rfl ?_
      refine n_Vi0 (pc := 62) (S0 := []) (spX8_code ha0 h) gmX8_code selX8_code lk_RX8_59 dX8_addOrder_62 rfl (lt_St ha0) (sh_St ha0) ⟨rfl, by decide⟩ rfl ⟨Nat.le_of_ble_eq_true rfl, Nat.le_of_ble_eq_true rfl⟩ (Nat.le_of_ble_eq_true rfl) ⟨Nat.zero_le _, Nat.zero_le _⟩ (fun r5 s5 h => ?_)
      refine r_iload (pc := 65) (x := y5) dX8_addOrder_65 rfl ?_
      refine r_icmp_ne (pc := 67) (tgt := 73) dX8_addOrder_67 (by decide) (fun c => ?_) (fun c => ?_)
      · replace h := h.1 c
        refine n_iinc (pc := 73) (x := y7) (w := 1) (L' := [some (.ref a0), none, none, none, some (.int x4), some (.int y5), some (.int y6), some (.int (y7 + 1))]) dX8_addOrder_73 rfl (by decide) rfl (by decide) rfl ?_
        refine r_goto (pc := 76) (tgt := 52) dX8_addOrder_76 (by decide) ?_
        refine n_L (L' := [some (.ref a0), none, none, none, some (.int x4), some (.int y5), some (.int y6), some (.int (y7 + 1))]) (le_s (le_n (le_n (le_n (le_s (le_s (le_s (le_s (le_e))))))))) ?_
        exact ih _ _ _ _ h
      · replace h := h.2 c
        refine r_bipush (pc := 70) (v := (-2)) dX8_addOrder_70 (by decide) ?_
        exact n_iret (pc := 72) dX8_addOrder_72 rfl (Nat.le_refl _) (Nat.le_refl _) h
def wpX8_addOrder (a0 : Nat) (x1 : Int32) (x2 : Int32) (x3 : Int32) (x4 : Int32) (s : gS) (Q : Int32 → gS → Prop) : Prop := (x1 < 0 → Q (-1) s) ∧ (¬ (x1 < 0) → (5 ≤ x1 → Q (-1) s) ∧ (¬ (5 ≤ x1) → wpX11_isEvent x2 s (fun r1 s1 => (r1 = 0 → Q (-1) s1) ∧ (¬ (r1 = 0) → wpX11_isEvent x3 s1 (fun r2 s2 => (r2 = 0 → Q (-1) s2) ∧ (¬ (r2 = 0) → (¬ x2 = x3 → wpX8_orders a0 s2 (fun r3 s3 => ∃ n52, wX8_addOrder_52 a0 x1 x2 x3 x4 Q n52 (((100 * x1) + (10 * x2)) + x3) r3 0 s3)) ∧ (x2 = x3 → Q (-1) s2)))))))
set_option maxRecDepth 20000 in
theorem spX8_addOrder {l : Launch} {a0 : Nat} {x1 : Int32} {x2 : Int32} {x3 : Int32} {x4 : Int32} (ha0 : isSt a0) {s : gS} {Q : Int32 → gS → Prop} (h : wpX8_addOrder a0 x1 x2 x3 x4 s Q) : Ct l mX8_addOrder 2 0 0 [.ref a0, .int x1, .int x2, .int x3, .int x4] (nrm s) (q_i Q) := by
  refine Ct.of (by decide) (Nat.le_of_ble_eq_true rfl) (fun X => ?_)
  refine n_L (L' := [some (.ref a0), some (.int x1), some (.int x2), some (.int x3), some (.int x4), none, none, none]) (le_s (le_s (le_s (le_s (le_s (le_p (le_p (le_p (le_e))))))))) ?_
  refine r_iload_n (pc := 0) (x := x1) dX8_addOrder_0 rfl ?_
  refine r_if_lt (pc := 1) (tgt := 28) dX8_addOrder_1 (by decide) (fun c => ?_) (fun c => ?_)
  · replace h := h.1 c
    refine r_iconst (pc := 28) (v := (-1)) dX8_addOrder_28 (by decide) ?_
    exact n_iret (pc := 29) dX8_addOrder_29 rfl (Nat.le_refl _) (Nat.le_refl _) h
  · replace h := h.2 c
    refine r_iload_n (pc := 4) (x := x1) dX8_addOrder_4 rfl ?_
    refine r_iconst (pc := 5) (v := 5) dX8_addOrder_5 (by decide) ?_
    refine r_icmp_ge (pc := 6) (tgt := 28) dX8_addOrder_6 (by decide) (fun c => ?_) (fun c => ?_)
    · replace h := h.1 c
      refine r_iconst (pc := 28) (v := (-1)) dX8_addOrder_28 (by decide) ?_
      exact n_iret (pc := 29) dX8_addOrder_29 rfl (Nat.le_refl _) (Nat.le_refl _) h
    · replace h := h.2 c
      refine r_iload_n (pc := 9) (x := x2) dX8_addOrder_9 rfl ?_
      refine n_Ni0 (pc := 10) (S0 := []) (spX11_isEvent h) gmX11_isEvent lk_RX8_86 dX8_addOrder_10 rfl rfl ⟨Nat.le_of_ble_eq_true rfl, Nat.le_of_ble_eq_true rfl⟩ (Nat.le_of_ble_eq_true rfl) ⟨Nat.zero_le _, Nat.zero_le _⟩ (fun r1 s1 h => ?_)
      refine r_if_eq (pc := 13) (tgt := 28) dX8_addOrder_13 (by decide) (fun c => ?_) (fun c => ?_)
      · replace h := h.1 c
        refine r_iconst (pc := 28) (v := (-1)) dX8_addOrder_28 (by decide) ?_
        exact n_iret (pc := 29) dX8_addOrder_29 rfl (Nat.le_refl _) (Nat.le_refl _) h
      · replace h := h.2 c
        refine r_iload_n (pc := 16) (x := x3) dX8_addOrder_16 rfl ?_
        refine n_Ni0 (pc := 17) (S0 := []) (spX11_isEvent h) gmX11_isEvent lk_RX8_86 dX8_addOrder_17 rfl rfl ⟨Nat.le_of_ble_eq_true rfl, Nat.le_of_ble_eq_true rfl⟩ (Nat.le_of_ble_eq_true rfl) ⟨Nat.zero_le _, Nat.zero_le _⟩ (fun r2 s2 h => ?_)
        refine r_if_eq (pc := 20) (tgt := 28) dX8_addOrder_20 (by decide) (fun c => ?_) (fun c => ?_)
        · replace h := h.1 c
          refine r_iconst (pc := 28) (v := (-1)) dX8_addOrder_28 (by decide) ?_
          exact n_iret (pc := 29) dX8_addOrder_29 rfl (Nat.le_refl _) (Nat.le_refl _) h
        · replace h := h.2 c
          refine r_iload_n (pc := 23) (x := x2) dX8_addOrder_23 rfl ?_
          refine r_iload_n (pc := 24) (x := x3) dX8_addOrder_24 rfl ?_
          refine r_icmp_ne (pc := 25) (tgt := 30) dX8_addOrder_25 (by decide) (fun c => ?_) (fun c => ?_)
          · replace h := h.1 c
            refine r_bipush (pc := 30) (v := 100) dX8_addOrder_30 (by decide) ?_
            refine r_iload_n (pc := 32) (x := x1) dX8_addOrder_32 rfl ?_
            refine r_imul (pc := 33) dX8_addOrder_33 ?_
            refine r_bipush (pc := 34) (v := 10) dX8_addOrder_34 (by decide) ?_
            refine r_iload_n (pc := 36) (x := x2) dX8_addOrder_36 rfl ?_
            refine r_imul (pc := 37) dX8_addOrder_37 ?_
            refine r_iadd (pc := 38) dX8_addOrder_38 ?_
            refine r_iload_n (pc := 39) (x := x3) dX8_addOrder_39 rfl ?_
            refine r_iadd (pc := 40) dX8_addOrder_40 ?_
            refine r_istore (pc := 41) (L' := [some (.ref a0), some (.int x1), some (.int x2), some (.int x3), some (.int x4), some (.int (((100 * x1) + (10 * x2)) + x3)), none, none]) dX8_addOrder_41 rfl (by decide) rfl ?_
            refine r_aload_n (pc := 43) (x := a0) dX8_addOrder_43 rfl ?_
            refine n_Vi0 (pc := 44) (S0 := []) (spX8_orders ha0 h) gmX8_orders selX8_orders lk_RX8_52 dX8_addOrder_44 rfl (lt_St ha0) (sh_St ha0) ⟨rfl, by decide⟩ rfl ⟨Nat.le_of_ble_eq_true rfl, Nat.le_of_ble_eq_true rfl⟩ (Nat.le_of_ble_eq_true rfl) ⟨Nat.zero_le _, Nat.zero_le _⟩ (fun r3 s3 h => ?_)
            refine r_istore (pc := 47) (L' := [some (.ref a0), some (.int x1), some (.int x2), some (.int x3), some (.int x4), some (.int (((100 * x1) + (10 * x2)) + x3)), some (.int r3), none]) dX8_addOrder_47 rfl (by decide) rfl ?_
            refine r_iconst (pc := 49) (v := 0) dX8_addOrder_49 (by decide) ?_
            refine r_istore (pc := 50) (L' := [some (.ref a0), some (.int x1), some (.int x2), some (.int x3), some (.int x4), some (.int (((100 * x1) + (10 * x2)) + x3)), some (.int r3), some (.int 0)]) dX8_addOrder_50 rfl (by decide) rfl ?_
            refine n_L (L' := [some (.ref a0), none, none, none, some (.int x4), some (.int (((100 * x1) + (10 * x2)) + x3)), some (.int r3), some (.int 0)]) (le_s (le_n (le_n (le_n (le_s (le_s (le_s (le_s (le_e))))))))) ?_
            obtain ⟨n, h⟩ := h
            exact pX8_addOrder_52 ha0 n _ _ _ _ h 
          · replace h := h.2 c
            refine r_iconst (pc := 28) (v := (-1)) dX8_addOrder_28 (by decide) ?_
            exact n_iret (pc := 29) dX8_addOrder_29 rfl (Nat.le_refl _) (Nat.le_refl _) h
def wX8_removeOrder_12 (a0 : Nat) (x1 : Int32) (Q : Int32 → gS → Prop)  : Nat → Int32 → gS → Prop
  | 0, _, _ => False
  | n + 1, y2, s => (11 ≤ (y2 + 1) → Q (gi (wi s (a0 + 1) 2 ((gi s (a0 + 1) 2) - 1)) (a0 + 1) 2) (wi s (a0 + 1) 2 ((gi s (a0 + 1) 2) - 1))) ∧ (¬ (11 ≤ (y2 + 1)) → vp_in ((3 + y2) + 1) 170 ∧ (vp_in (3 + y2) 170 ∧ (wX8_removeOrder_12 a0 x1 Q n (y2 + 1) (wi s (a0 + 1) (ix (3 + y2)) (gi s (a0 + 1) (ix ((3 + y2) + 1)))))))
set_option maxRecDepth 20000 in
theorem pX8_removeOrder_12 {l : Launch} {X : gX} {a0 : Nat} {x1 : Int32} (ha0 : isSt a0) {Q : Int32 → gS → Prop}  : ∀ (n : Nat) (y2 : Int32) (s : gS) (h : wX8_removeOrder_12 a0 x1 Q n y2 s) , Gw l mX8_removeOrder (g_rm 3 0 0) X 12 [some (.ref a0), none, some (.int y2)] [] (nrm s) 0 0 (g_Z X (q_i Q) 0 0) := by
  intro n
  induction n with
  | zero => intro y2 s h; exact h.elim
  | succ n ih0 =>
    intro y2 s h 
    have ih : ∀ (y2 : Int32) (s : gS), wX8_removeOrder_12 a0 x1 Q n y2 s → Gw l mX8_removeOrder (g_rm 3 0 0) X 12 [some (.ref a0), none, some (.int y2)] [] (nrm s) 0 0 (g_Z X (q_i Q) 0 0) := fun y2 s h => ih0 y2 s h 
    refine r_iload_n (pc := 12) (x := y2) dX8_removeOrder_12 rfl ?_
    refine r_iconst (pc := 13) (v := 1) dX8_removeOrder_13 (by decide) ?_
    refine r_iadd (pc := 14) dX8_removeOrder_14 ?_
    refine r_bipush (pc := 15) (v := 11) dX8_removeOrder_15 (by decide) ?_
    refine r_icmp_ge (pc := 17) (tgt := 44) dX8_removeOrder_17 (by decide) (fun c => ?_) (fun c => ?_)
    · replace h := h.1 c
      refine r_aload_n (pc := 44) (x := a0) dX8_removeOrder_44 rfl ?_
      refine n_getR (pc := 45) (j := 0) (q := (a0 + 1)) dX8_removeOrder_45 fl_RX8_11 (lt_St ha0) (sh_St ha0) rfl rfl (rf_St_0 ha0) ?_
      refine r_iconst (pc := 48) (v := 2) dX8_removeOrder_48 (by decide) ?_
      refine r_dup2 (pc := 49) dX8_removeOrder_49 rfl rfl ?_
      refine n_iald (pc := 50) (j := 2) dX8_removeOrder_50 (lt_St_1 ha0) (sh_St_1 ha0) (vp_inc (by decide)) (by decide) ?_
      refine r_iconst (pc := 51) (v := 1) dX8_removeOrder_51 (by decide) ?_
      refine r_isub (pc := 52) dX8_removeOrder_52 ?_
      refine n_iast (pc := 53) (j := 2) dX8_removeOrder_53 (lt_St_1 ha0) (sh_St_1 ha0) (vp_inc (by decide)) (by decide) ?_
      refine r_aload_n (pc := 54) (x := a0) dX8_removeOrder_54 rfl ?_
      refine n_getR (pc := 55) (j := 0) (q := (a0 + 1)) dX8_removeOrder_55 fl_RX8_11 (lt_St ha0) (sh_St ha0) rfl rfl (rf_St_0 ha0) ?_
      refine r_iconst (pc := 58) (v := 2) dX8_removeOrder_58 (by decide) ?_
      refine n_iald (pc := 59) (j := 2) dX8_removeOrder_59 (lt_St_1 ha0) (sh_St_1 ha0) (vp_inc (by decide)) (by decide) ?_
      exact n_iret (pc := 60) dX8_removeOrder_60 rfl (Nat.le_refl _) (Nat.le_refl _) h
    · replace h := h.2 c
      refine r_aload_n (pc := 20) (x := a0) dX8_removeOrder_20 rfl ?_
      refine n_getR (pc := 21) (j := 0) (q := (a0 + 1)) dX8_removeOrder_21 fl_RX8_11 (lt_St ha0) (sh_St ha0) rfl rfl (rf_St_0 ha0) ?_
      refine r_iconst (pc := 24) (v := 3) dX8_removeOrder_24 (by decide) ?_
      refine r_iload_n (pc := 25) (x := y2) dX8_removeOrder_25 rfl ?_
      refine r_iadd (pc := 26) dX8_removeOrder_26 ?_
      refine r_aload_n (pc := 27) (x := a0) dX8_removeOrder_27 rfl ?_
      refine n_getR (pc := 28) (j := 0) (q := (a0 + 1)) dX8_removeOrder_28 fl_RX8_11 (lt_St ha0) (sh_St ha0) rfl rfl (rf_St_0 ha0) ?_
      refine r_iconst (pc := 31) (v := 3) dX8_removeOrder_31 (by decide) ?_
      refine r_iload_n (pc := 32) (x := y2) dX8_removeOrder_32 rfl ?_
      refine r_iadd (pc := 33) dX8_removeOrder_33 ?_
      refine r_iconst (pc := 34) (v := 1) dX8_removeOrder_34 (by decide) ?_
      refine r_iadd (pc := 35) dX8_removeOrder_35 ?_
      obtain ⟨b2, h⟩ := h
      refine n_iald (pc := 36) (j := (ix ((3 + y2) + 1))) dX8_removeOrder_36 (lt_St_1 ha0) (sh_St_1 ha0) b2 rfl ?_
      obtain ⟨b3, h⟩ := h
      refine n_iast (pc := 37) (j := (ix (3 + y2))) dX8_removeOrder_37 (lt_St_1 ha0) (sh_St_1 ha0) b3 rfl ?_
      refine n_iinc (pc := 38) (x := y2) (w := 1) (L' := [some (.ref a0), none, some (.int (y2 + 1))]) dX8_removeOrder_38 rfl (by decide) rfl (by decide) rfl ?_
      refine r_goto (pc := 41) (tgt := 12) dX8_removeOrder_41 (by decide) ?_
      refine n_L (L' := [some (.ref a0), none, some (.int (y2 + 1))]) (le_s (le_n (le_s (le_e)))) ?_
      exact ih _ _ h
def wpX8_removeOrder (a0 : Nat) (x1 : Int32) (s : gS) (Q : Int32 → gS → Prop) : Prop := wpX8_hasOrder a0 x1 s (fun r1 s1 => (¬ r1 = 0 → ∃ n12, wX8_removeOrder_12 a0 x1 Q n12 x1 s1) ∧ (r1 = 0 → Q (-1) s1))
set_option maxRecDepth 20000 in
theorem spX8_removeOrder {l : Launch} {a0 : Nat} {x1 : Int32} (ha0 : isSt a0) {s : gS} {Q : Int32 → gS → Prop} (h : wpX8_removeOrder a0 x1 s Q) : Ct l mX8_removeOrder 3 0 0 [.ref a0, .int x1] (nrm s) (q_i Q) := by
  refine Ct.of (by decide) (Nat.le_of_ble_eq_true rfl) (fun X => ?_)
  refine n_L (L' := [some (.ref a0), some (.int x1), none]) (le_s (le_s (le_p (le_e)))) ?_
  refine r_aload_n (pc := 0) (x := a0) dX8_removeOrder_0 rfl ?_
  refine r_iload_n (pc := 1) (x := x1) dX8_removeOrder_1 rfl ?_
  refine n_Vi0 (pc := 2) (S0 := []) (spX8_hasOrder ha0 h) gmX8_hasOrder selX8_hasOrder lk_RX8_89 dX8_removeOrder_2 rfl (lt_St ha0) (sh_St ha0) ⟨rfl, by decide⟩ rfl ⟨Nat.le_of_ble_eq_true rfl, Nat.le_of_ble_eq_true rfl⟩ (Nat.le_of_ble_eq_true rfl) ⟨Nat.zero_le _, Nat.zero_le _⟩ (fun r1 s1 h => ?_)
  refine r_if_ne (pc := 5) (tgt := 10) dX8_removeOrder_5 (by decide) (fun c => ?_) (fun c => ?_)
  · replace h := h.1 c
    refine r_iload_n (pc := 10) (x := x1) dX8_removeOrder_10 rfl ?_
    refine r_istore_n (pc := 11) (L' := [some (.ref a0), some (.int x1), some (.int x1)]) dX8_removeOrder_11 rfl (by decide) rfl ?_
    refine n_L (L' := [some (.ref a0), none, some (.int x1)]) (le_s (le_n (le_s (le_e)))) ?_
    obtain ⟨n, h⟩ := h
    exact pX8_removeOrder_12 ha0 n _ _ h 
  · replace h := h.2 c
    refine r_iconst (pc := 8) (v := (-1)) dX8_removeOrder_8 (by decide) ?_
    exact n_iret (pc := 9) dX8_removeOrder_9 rfl (Nat.le_refl _) (Nat.le_refl _) h
