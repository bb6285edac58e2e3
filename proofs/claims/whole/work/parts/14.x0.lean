def wpX11_isDay (x0 : Int32) (s : gS) (Q : Int32 → gS → Prop) : Prop := (x0 < 0 → Q 0 s) ∧ (¬ (x0 < 0) → (9999 < x0 → Q 0 s) ∧ (¬ (9999 < x0) → Q 1 s))
set_option maxRecDepth 20000 in
theorem spX11_isDay {l : Launch} {x0 : Int32}  {s : gS} {Q : Int32 → gS → Prop} (h : wpX11_isDay x0 s Q) : Ct l mX11_isDay 1 0 0 [.int x0] (nrm s) (q_i Q) := by
  refine Ct.of (by decide) (Nat.le_of_ble_eq_true rfl) (fun X => ?_)
  refine n_L (L' := [some (.int x0)]) (le_s (le_e)) ?_
  refine r_iload_n (pc := 0) (x := x0) dX11_isDay_0 rfl ?_
  refine r_if_lt (pc := 1) (tgt := 15) dX11_isDay_1 (by decide) (fun c => ?_) (fun c => ?_)
  · replace h := h.1 c
    refine r_iconst (pc := 15) (v := 0) dX11_isDay_15 (by decide) ?_
    exact n_zret (pc := 16) dX11_isDay_16 rfl (by decide) (Nat.le_refl _) (Nat.le_refl _) h
  · replace h := h.2 c
    refine r_iload_n (pc := 4) (x := x0) dX11_isDay_4 rfl ?_
    refine r_sipush (pc := 5) (v := 9999) dX11_isDay_5 (by decide) ?_
    refine r_icmp_gt (pc := 8) (tgt := 15) dX11_isDay_8 (by decide) (fun c => ?_) (fun c => ?_)
    · replace h := h.1 c
      refine r_iconst (pc := 15) (v := 0) dX11_isDay_15 (by decide) ?_
      exact n_zret (pc := 16) dX11_isDay_16 rfl (by decide) (Nat.le_refl _) (Nat.le_refl _) h
    · replace h := h.2 c
      refine r_iconst (pc := 11) (v := 1) dX11_isDay_11 (by decide) ?_
      refine r_goto (pc := 12) (tgt := 16) dX11_isDay_12 (by decide) ?_
      exact n_zret (pc := 16) dX11_isDay_16 rfl (by decide) (Nat.le_refl _) (Nat.le_refl _) h
def wpX11_hasBit (x0 : Int32) (x1 : Int32) (s : gS) (Q : Int32 → gS → Prop) : Prop := (¬ ((jshr x0 x1) &&& 1) = 1 → Q 0 s) ∧ (((jshr x0 x1) &&& 1) = 1 → Q 1 s)
set_option maxRecDepth 20000 in
theorem spX11_hasBit {l : Launch} {x0 : Int32} {x1 : Int32}  {s : gS} {Q : Int32 → gS → Prop} (h : wpX11_hasBit x0 x1 s Q) : Ct l mX11_hasBit 1 0 0 [.int x0, .int x1] (nrm s) (q_i Q) := by
  refine Ct.of (by decide) (Nat.le_of_ble_eq_true rfl) (fun X => ?_)
  refine n_L (L' := [some (.int x0), some (.int x1)]) (le_s (le_s (le_e))) ?_
  refine r_iload_n (pc := 0) (x := x0) dX11_hasBit_0 rfl ?_
  refine r_iload_n (pc := 1) (x := x1) dX11_hasBit_1 rfl ?_
  refine n_ishr (pc := 2) dX11_hasBit_2 ?_
  refine r_iconst (pc := 3) (v := 1) dX11_hasBit_3 (by decide) ?_
  refine r_iand (pc := 4) dX11_hasBit_4 ?_
  refine r_iconst (pc := 5) (v := 1) dX11_hasBit_5 (by decide) ?_
  refine r_icmp_ne (pc := 6) (tgt := 13) dX11_hasBit_6 (by decide) (fun c => ?_) (fun c => ?_)
  · replace h := h.1 c
    refine r_iconst (pc := 13) (v := 0) dX11_hasBit_13 (by decide) ?_
    exact n_zret (pc := 14) dX11_hasBit_14 rfl (by decide) (Nat.le_refl _) (Nat.le_refl _) h
  · replace h := h.2 c
    refine r_iconst (pc := 9) (v := 1) dX11_hasBit_9 (by decide) ?_
    refine r_goto (pc := 10) (tgt := 14) dX11_hasBit_10 (by decide) ?_
    exact n_zret (pc := 14) dX11_hasBit_14 rfl (by decide) (Nat.le_refl _) (Nat.le_refl _) h
def wpX11_isEvent (x0 : Int32) (s : gS) (Q : Int32 → gS → Prop) : Prop := (x0 < 0 → Q 0 s) ∧ (¬ (x0 < 0) → (6 ≤ x0 → Q 0 s) ∧ (¬ (6 ≤ x0) → Q 1 s))
set_option maxRecDepth 20000 in
theorem spX11_isEvent {l : Launch} {x0 : Int32}  {s : gS} {Q : Int32 → gS → Prop} (h : wpX11_isEvent x0 s Q) : Ct l mX11_isEvent 1 0 0 [.int x0] (nrm s) (q_i Q) := by
  refine Ct.of (by decide) (Nat.le_of_ble_eq_true rfl) (fun X => ?_)
  refine n_L (L' := [some (.int x0)]) (le_s (le_e)) ?_
  refine r_iload_n (pc := 0) (x := x0) dX11_isEvent_0 rfl ?_
  refine r_if_lt (pc := 1) (tgt := 14) dX11_isEvent_1 (by decide) (fun c => ?_) (fun c => ?_)
  · replace h := h.1 c
    refine r_iconst (pc := 14) (v := 0) dX11_isEvent_14 (by decide) ?_
    exact n_zret (pc := 15) dX11_isEvent_15 rfl (by decide) (Nat.le_refl _) (Nat.le_refl _) h
  · replace h := h.2 c
    refine r_iload_n (pc := 4) (x := x0) dX11_isEvent_4 rfl ?_
    refine r_bipush (pc := 5) (v := 6) dX11_isEvent_5 (by decide) ?_
    refine r_icmp_ge (pc := 7) (tgt := 14) dX11_isEvent_7 (by decide) (fun c => ?_) (fun c => ?_)
    · replace h := h.1 c
      refine r_iconst (pc := 14) (v := 0) dX11_isEvent_14 (by decide) ?_
      exact n_zret (pc := 15) dX11_isEvent_15 rfl (by decide) (Nat.le_refl _) (Nat.le_refl _) h
    · replace h := h.2 c
      refine r_iconst (pc := 10) (v := 1) dX11_isEvent_10 (by decide) ?_
      refine r_goto (pc := 11) (tgt := 15) dX11_isEvent_11 (by decide) ?_
      exact n_zret (pc := 15) dX11_isEvent_15 rfl (by decide) (Nat.le_refl _) (Nat.le_refl _) h
def wpJ6_bitCount_0f7a4 (x0 : Int32) (s : gS) (Q : Int32 → gS → Prop) : Prop := Q ((((((((x0 - ((jushr x0 1) &&& 1431655765)) &&& 858993459) + ((jushr (x0 - ((jushr x0 1) &&& 1431655765)) 2) &&& 858993459)) + (jushr (((x0 - ((jushr x0 1) &&& 1431655765)) &&& 858993459) + ((jushr (x0 - ((jushr x0 1) &&& 1431655765)) 2) &&& 858993459)) 4)) &&& 252645135) + (jushr (((((x0 - ((jushr x0 1) &&& 1431655765)) &&& 858993459) + ((jushr (x0 - ((jushr x0 1) &&& 1431655765)) 2) &&& 858993459)) + (jushr (((x0 - ((jushr x0 1) &&& 1431655765)) &&& 858993459) + ((jushr (x0 - ((jushr x0 1) &&& 1431655765)) 2) &&& 858993459)) 4)) &&& 252645135) 8)) + (jushr ((((((x0 - ((jushr x0 1) &&& 1431655765)) &&& 858993459) + ((jushr (x0 - ((jushr x0 1) &&& 1431655765)) 2) &&& 858993459)) + (jushr (((x0 - ((jushr x0 1) &&& 1431655765)) &&& 858993459) + ((jushr (x0 - ((jushr x0 1) &&& 1431655765)) 2) &&& 858993459)) 4)) &&& 252645135) + (jushr (((((x0 - ((jushr x0 1) &&& 1431655765)) &&& 858993459) + ((jushr (x0 - ((jushr x0 1) &&& 1431655765)) 2) &&& 858993459)) + (jushr (((x0 - ((jushr x0 1) &&& 1431655765)) &&& 858993459) + ((jushr (x0 - ((jushr x0 1) &&& 1431655765)) 2) &&& 858993459)) 4)) &&& 252645135) 8)) 16)) &&& 63) s
set_option maxRecDepth 20000 in
theorem spJ6_bitCount_0f7a4 {l : Launch} {x0 : Int32}  {s : gS} {Q : Int32 → gS → Prop} (h : wpJ6_bitCount_0f7a4 x0 s Q) : Ct l mJ6_bitCount_0f7a4 1 0 0 [.int x0] (nrm s) (q_i Q) := by
  refine Ct.of (by decide) (Nat.le_of_ble_eq_true rfl) (fun X => ?_)
  refine n_L (L' := [some (.int x0)]) (le_s (le_e)) ?_
  refine r_iload_n (pc := 0) (x := x0) dJ6_bitCount_0f7a4_0 rfl ?_
  refine r_iload_n (pc := 1) (x := x0) dJ6_bitCount_0f7a4_1 rfl ?_
  refine r_iconst (pc := 2) (v := 1) dJ6_bitCount_0f7a4_2 (by decide) ?_
  refine n_iushr (pc := 3) dJ6_bitCount_0f7a4_3 ?_
  refine n_ldc_wi (pc := 4) (v := 1431655765) dJ6_bitCount_0f7a4_4 kc_RJ6_265 ?_
  refine r_iand (pc := 7) dJ6_bitCount_0f7a4_7 ?_
  refine r_isub (pc := 8) dJ6_bitCount_0f7a4_8 ?_
  refine r_istore_n (pc := 9) (L' := [some (.int (x0 - ((jushr x0 1) &&& 1431655765)))]) dJ6_bitCount_0f7a4_9 rfl (by decide) rfl ?_
  refine r_iload_n (pc := 10) (x := x0 - ((jushr x0 1) &&& 1431655765)) dJ6_bitCount_0f7a4_10 rfl ?_
  refine n_ldc_wi (pc := 11) (v := 858993459) dJ6_bitCount_0f7a4_11 kc_RJ6_266 ?_
  refine r_iand (pc := 14) dJ6_bitCount_0f7a4_14 ?_
  refine r_iload_n (pc := 15) (x := x0 - ((jushr x0 1) &&& 1431655765)) dJ6_bitCount_0f7a4_15 rfl ?_
  refine r_iconst (pc := 16) (v := 2) dJ6_bitCount_0f7a4_16 (by decide) ?_
  refine n_iushr (pc := 17) dJ6_bitCount_0f7a4_17 ?_
  refine n_ldc_wi (pc := 18) (v := 858993459) dJ6_bitCount_0f7a4_18 kc_RJ6_266 ?_
  refine r_iand (pc := 21) dJ6_bitCount_0f7a4_21 ?_
  refine r_iadd (pc := 22) dJ6_bitCount_0f7a4_22 ?_
  refine r_istore_n (pc := 23) (L' := [some (.int (((x0 - ((jushr x0 1) &&& 1431655765)) &&& 858993459) + ((jushr (x0 - ((jushr x0 1) &&& 1431655765)) 2) &&& 858993459)))]) dJ6_bitCount_0f7a4_23 rfl (by decide) rfl ?_
  refine r_iload_n (pc := 24) (x := ((x0 - ((jushr x0 1) &&& 1431655765)) &&& 858993459) + ((jushr (x0 - ((jushr x0 1) &&& 1431655765)) 2) &&& 858993459)) dJ6_bitCount_0f7a4_24 rfl ?_
  refine r_iload_n (pc := 25) (x := ((x0 - ((jushr x0 1) &&& 1431655765)) &&& 858993459) + ((jushr (x0 - ((jushr x0 1) &&& 1431655765)) 2) &&& 858993459)) dJ6_bitCount_0f7a4_25 rfl ?_
  refine r_iconst (pc := 26) (v := 4) dJ6_bitCount_0f7a4_26 (by decide) ?_
  refine n_iushr (pc := 27) dJ6_bitCount_0f7a4_27 ?_
  refine r_iadd (pc := 28) dJ6_bitCount_0f7a4_28 ?_
  refine n_ldc_wi (pc := 29) (v := 252645135) dJ6_bitCount_0f7a4_29 kc_RJ6_267 ?_
  refine r_iand (pc := 32) dJ6_bitCount_0f7a4_32 ?_
  refine r_istore_n (pc := 33) (L' := [some (.int (((((x0 - ((jushr x0 1) &&& 1431655765)) &&& 858993459) + ((jushr (x0 - ((jushr x0 1) &&& 1431655765)) 2) &&& 858993459)) + (jushr (((x0 - ((jushr x0 1) &&& 1431655765)) &&& 858993459) + ((jushr (x0 - ((jushr x0 1) &&& 1431655765)) 2) &&& 858993459)) 4)) &&& 252645135))]) dJ6_bitCount_0f7a4_33 rfl (by decide) rfl ?_
  refine r_iload_n (pc := 34) (x := ((((x0 - ((jushr x0 1) &&& 1431655765)) &&& 858993459) + ((jushr (x0 - ((jushr x0 1) &&& 1431655765)) 2) &&& 858993459)) + (jushr (((x0 - ((jushr x0 1) &&& 1431655765)) &&& 858993459) + ((jushr (x0 - ((jushr x0 1) &&& 1431655765)) 2) &&& 858993459)) 4)) &&& 252645135) dJ6_bitCount_0f7a4_34 rfl ?_
  refine r_iload_n (pc := 35) (x := ((((x0 - ((jushr x0 1) &&& 1431655765)) &&& 858993459) + ((jushr (x0 - ((jushr x0 1) &&& 1431655765)) 2) &&& 858993459)) + (jushr (((x0 - ((jushr x0 1) &&& 1431655765)) &&& 858993459) + ((jushr (x0 - ((jushr x0 1) &&& 1431655765)) 2) &&& 858993459)) 4)) &&& 252645135) dJ6_bitCount_0f7a4_35 rfl ?_
  refine r_bipush (pc := 36) (v := 8) dJ6_bitCount_0f7a4_36 (by decide) ?_
  refine n_iushr (pc := 38) dJ6_bitCount_0f7a4_38 ?_
  refine r_iadd (pc := 39) dJ6_bitCount_0f7a4_39 ?_
  refine r_istore_n (pc := 40) (L' := [some (.int ((((((x0 - ((jushr x0 1) &&& 1431655765)) &&& 858993459) + ((jushr (x0 - ((jushr x0 1) &&& 1431655765)) 2) &&& 858993459)) + (jushr (((x0 - ((jushr x0 1) &&& 1431655765)) &&& 858993459) + ((jushr (x0 - ((jushr x0 1) &&& 1431655765)) 2) &&& 858993459)) 4)) &&& 252645135) + (jushr (((((x0 - ((jushr x0 1) &&& 1431655765)) &&& 858993459) + ((jushr (x0 - ((jushr x0 1) &&& 1431655765)) 2) &&& 858993459)) + (jushr (((x0 - ((jushr x0 1) &&& 1431655765)) &&& 858993459) + ((jushr (x0 - ((jushr x0 1) &&& 1431655765)) 2) &&& 858993459)) 4)) &&& 252645135) 8)))]) dJ6_bitCount_0f7a4_40 rfl (by decide) rfl ?_
  refine r_iload_n (pc := 41) (x := (((((x0 - ((jushr x0 1) &&& 1431655765)) &&& 858993459) + ((jushr (x0 - ((jushr x0 1) &&& 1431655765)) 2) &&& 858993459)) + (jushr (((x0 - ((jushr x0 1) &&& 1431655765)) &&& 858993459) + ((jushr (x0 - ((jushr x0 1) &&& 1431655765)) 2) &&& 858993459)) 4)) &&& 252645135) + (jushr (((((x0 - ((jushr x0 1) &&& 1431655765)) &&& 858993459) + ((jushr (x0 - ((jushr x0 1) &&& 1431655765)) 2) &&& 858993459)) + (jushr (((x0 - ((jushr x0 1) &&& 1431655765)) &&& 858993459) + ((jushr (x0 - ((jushr x0 1) &&& 1431655765)) 2) &&& 858993459)) 4)) &&& 252645135) 8)) dJ6_bitCount_0f7a4_41 rfl ?_
  refine r_iload_n (pc := 42) (x := (((((x0 - ((jushr x0 1) &&& 1431655765)) &&& 858993459) + ((jushr (x0 - ((jushr x0 1) &&& 1431655765)) 2) &&& 858993459)) + (jushr (((x0 - ((jushr x0 1) &&& 1431655765)) &&& 858993459) + ((jushr (x0 - ((jushr x0 1) &&& 1431655765)) 2) &&& 858993459)) 4)) &&& 252645135) + (jushr (((((x0 - ((jushr x0 1) &&& 1431655765)) &&& 858993459) + ((jushr (x0 - ((jushr x0 1) &&& 1431655765)) 2) &&& 858993459)) + (jushr (((x0 - ((jushr x0 1) &&& 1431655765)) &&& 858993459) + ((jushr (x0 - ((jushr x0 1) &&& 1431655765)) 2) &&& 858993459)) 4)) &&& 252645135) 8)) dJ6_bitCount_0f7a4_42 rfl ?_
  refine r_bipush (pc := 43) (v := 16) dJ6_bitCount_0f7a4_43 (by decide) ?_
  refine n_iushr (pc := 45) dJ6_bitCount_0f7a4_45 ?_
  refine r_iadd (pc := 46) dJ6_bitCount_0f7a4_46 ?_
  refine r_istore_n (pc := 47) (L' := [some (.int (((((((x0 - ((jushr x0 1) &&& 1431655765)) &&& 858993459) + ((jushr (x0 - ((jushr x0 1) &&& 1431655765)) 2) &&& 858993459)) + (jushr (((x0 - ((jushr x0 1) &&& 1431655765)) &&& 858993459) + ((jushr (x0 - ((jushr x0 1) &&& 1431655765)) 2) &&& 858993459)) 4)) &&& 252645135) + (jushr (((((x0 - ((jushr x0 1) &&& 1431655765)) &&& 858993459) + ((jushr (x0 - ((jushr x0 1) &&& 1431655765)) 2) &&& 858993459)) + (jushr (((x0 - ((jushr x0 1) &&& 1431655765)) &&& 858993459) + ((jushr (x0 - ((jushr x0 1) &&& 1431655765)) 2) &&& 858993459)) 4)) &&& 252645135) 8)) + (jushr ((((((x0 - ((jushr x0 1) &&& 1431655765)) &&& 858993459) + ((jushr (x0 - ((jushr x0 1) &&& 1431655765)) 2) &&& 858993459)) + (jushr (((x0 - ((jushr x0 1) &&& 1431655765)) &&& 858993459) + ((jushr (x0 - ((jushr x0 1) &&& 1431655765)) 2) &&& 858993459)) 4)) &&& 252645135) + (jushr (((((x0 - ((jushr x0 1) &&& 1431655765)) &&& 858993459) + ((jushr (x0 - ((jushr x0 1) &&& 1431655765)) 2) &&& 858993459)) + (jushr (((x0 - ((jushr x0 1) &&& 1431655765)) &&& 858993459) + ((jushr (x0 - ((jushr x0 1) &&& 1431655765)) 2) &&& 858993459)) 4)) &&& 252645135) 8)) 16)))]) dJ6_bitCount_0f7a4_47 rfl (by decide) rfl ?_
  refine r_iload_n (pc := 48) (x := ((((((x0 - ((jushr x0 1) &&& 1431655765)) &&& 858993459) + ((jushr (x0 - ((jushr x0 1) &&& 1431655765)) 2) &&& 858993459)) + (jushr (((x0 - ((jushr x0 1) &&& 1431655765)) &&& 858993459) + ((jushr (x0 - ((jushr x0 1) &&& 1431655765)) 2) &&& 858993459)) 4)) &&& 252645135) + (jushr (((((x0 - ((jushr x0 1) &&& 1431655765)) &&& 858993459) + ((jushr (x0 - ((jushr x0 1) &&& 1431655765)) 2) &&& 858993459)) + (jushr (((x0 - ((jushr x0 1) &&& 1431655765)) &&& 858993459) + ((jushr (x0 - ((jushr x0 1) &&& 1431655765)) 2) &&& 858993459)) 4)) &&& 252645135) 8)) + (jushr ((((((x0 - ((jushr x0 1) &&& 1431655765)) &&& 858993459) + ((jushr (x0 - ((jushr x0 1) &&& 1431655765)) 2) &&& 858993459)) + (jushr (((x0 - ((jushr x0 1) &&& 1431655765)) &&& 858993459) + ((jushr (x0 - ((jushr x0 1) &&& 1431655765)) 2) &&& 858993459)) 4)) &&& 252645135) + (jushr (((((x0 - ((jushr x0 1) &&& 1431655765)) &&& 858993459) + ((jushr (x0 - ((jushr x0 1) &&& 1431655765)) 2) &&& 858993459)) + (jushr (((x0 - ((jushr x0 1) &&& 1431655765)) &&& 858993459) + ((jushr (x0 - ((jushr x0 1) &&& 1431655765)) 2) &&& 858993459)) 4)) &&& 252645135) 8)) 16)) dJ6_bitCount_0f7a4_48 rfl ?_
  refine r_bipush (pc := 49) (v := 63) dJ6_bitCount_0f7a4_49 (by decide) ?_
  refine r_iand (pc := 51) dJ6_bitCount_0f7a4_51 ?_
  exact n_iret (pc := 52) dJ6_bitCount_0f7a4_52 rfl (Nat.le_refl _) (Nat.le_refl _) h
def wX0_monthStart_38 (x0 : Int32) (Q : Int32 → gS → Prop) (k39 : Int32 → Int32 → Int32 → gS → Prop) (y1 : Int32) (y2 : Int32) (s : gS) : Prop := k39 y1 y2 0 s
set_option maxRecDepth 20000 in
theorem pX0_monthStart_38 {l : Launch} {X : gX} {x0 : Int32}  {Q : Int32 → gS → Prop} {k39 : Int32 → Int32 → Int32 → gS → Prop} (y1 : Int32) (y2 : Int32) (s : gS) (h : wX0_monthStart_38 x0 Q k39 y1 y2 s) (hk39 : ∀ (y1 : Int32) (y2 : Int32) (z0 : Int32) (s : gS), k39 y1 y2 z0 s → Gw l mX0_monthStart (g_rm 1 0 0) X 39 [none, some (.int y1), some (.int y2), none] [.int z0] (nrm s) 0 0 (g_Z X (q_i Q) 0 0)) : Gw l mX0_monthStart (g_rm 1 0 0) X 38 [none, some (.int y1), some (.int y2), none] [] (nrm s) 0 0 (g_Z X (q_i Q) 0 0) := by
  refine r_iconst (pc := 38) (v := 0) dX0_monthStart_38 (by decide) ?_
  refine n_L (L' := [none, some (.int y1), some (.int y2), none]) (le_n (le_s (le_s (le_n (le_e))))) ?_
  exact hk39 _ _ _ _ h
def wX0_monthStart_39 (x0 : Int32) (Q : Int32 → gS → Prop)  (y1 : Int32) (y2 : Int32) (z0 : Int32) (s : gS) : Prop := vp_in y2 12 ∧ (Q ((((y1 * 365) + ((y1 + 3) / 4)) + (g_days.getD (ix y2) 0)) + z0) s)
set_option maxRecDepth 20000 in
theorem pX0_monthStart_39 {l : Launch} {X : gX} {x0 : Int32}  {Q : Int32 → gS → Prop}  (y1 : Int32) (y2 : Int32) (z0 : Int32) (s : gS) (h : wX0_monthStart_39 x0 Q y1 y2 z0 s)  : Gw l mX0_monthStart (g_rm 1 0 0) X 39 [none, some (.int y1), some (.int y2), none] [.int z0] (nrm s) 0 0 (g_Z X (q_i Q) 0 0) := by
  refine r_istore_n (pc := 39) (L' := [none, some (.int y1), some (.int y2), some (.int z0)]) dX0_monthStart_39 rfl (by decide) rfl ?_
  refine r_iload_n (pc := 40) (x := y1) dX0_monthStart_40 rfl ?_
  refine r_sipush (pc := 41) (v := 365) dX0_monthStart_41 (by decide) ?_
  refine r_imul (pc := 44) dX0_monthStart_44 ?_
  refine r_iload_n (pc := 45) (x := y1) dX0_monthStart_45 rfl ?_
  refine r_iconst (pc := 46) (v := 3) dX0_monthStart_46 (by decide) ?_
  refine r_iadd (pc := 47) dX0_monthStart_47 ?_
  refine r_iconst (pc := 48) (v := 4) dX0_monthStart_48 (by decide) ?_
  refine r_idiv (pc := 49) dX0_monthStart_49 (by decide) ?_
  refine r_iadd (pc := 50) dX0_monthStart_50 ?_
  refine n_days (pc := 51) dX0_monthStart_51 rfl ?_
  refine r_iload_n (pc := 54) (x := y2) dX0_monthStart_54 rfl ?_
  obtain ⟨b1, h⟩ := h
  refine n_dald (pc := 55) dX0_monthStart_55 b1 ?_
  refine r_iadd (pc := 56) dX0_monthStart_56 ?_
  refine r_iload_n (pc := 57) (x := z0) dX0_monthStart_57 rfl ?_
  refine r_iadd (pc := 58) dX0_monthStart_58 ?_
  exact n_iret (pc := 59) dX0_monthStart_59 rfl (Nat.le_refl _) (Nat.le_refl _) h
def wpX0_monthStart (x0 : Int32) (s : gS) (Q : Int32 → gS → Prop) : Prop := (x0 < 0 → Q (-1) s) ∧ (¬ (x0 < 0) → (x0 ≤ 336 → (¬ (jrem (x0 / 12) 4) = 0 → wX0_monthStart_38 x0 Q (wX0_monthStart_39 x0 Q) (x0 / 12) (jrem x0 12) s) ∧ ((jrem (x0 / 12) 4) = 0 → ((jrem x0 12) ≤ 1 → wX0_monthStart_38 x0 Q (wX0_monthStart_39 x0 Q) (x0 / 12) (jrem x0 12) s) ∧ (¬ ((jrem x0 12) ≤ 1) → wX0_monthStart_39 x0 Q (x0 / 12) (jrem x0 12) 1 s))) ∧ (¬ (x0 ≤ 336) → Q (-1) s))
set_option maxRecDepth 20000 in
theorem spX0_monthStart {l : Launch} {x0 : Int32}  {s : gS} {Q : Int32 → gS → Prop} (h : wpX0_monthStart x0 s Q) : Ct l mX0_monthStart 1 0 0 [.int x0] (nrm s) (q_i Q) := by
  refine Ct.of (by decide) (Nat.le_of_ble_eq_true rfl) (fun X => ?_)
  refine n_L (L' := [some (.int x0), none, none, none]) (le_s (le_p (le_p (le_p (le_e))))) ?_
  refine r_iload_n (pc := 0) (x := x0) dX0_monthStart_0 rfl ?_
  refine r_if_lt (pc := 1) (tgt := 11) dX0_monthStart_1 (by decide) (fun c => ?_) (fun c => ?_)
  · replace h := h.1 c
    refine r_iconst (pc := 11) (v := (-1)) dX0_monthStart_11 (by decide) ?_
    exact n_iret (pc := 12) dX0_monthStart_12 rfl (Nat.le_refl _) (Nat.le_refl _) h
  · replace h := h.2 c
    refine r_iload_n (pc := 4) (x := x0) dX0_monthStart_4 rfl ?_
    refine r_sipush (pc := 5) (v := 336) dX0_monthStart_5 (by decide) ?_
    refine r_icmp_le (pc := 8) (tgt := 13) dX0_monthStart_8 (by decide) (fun c => ?_) (fun c => ?_)
    · replace h := h.1 c
      refine r_iload_n (pc := 13) (x := x0) dX0_monthStart_13 rfl ?_
      refine r_bipush (pc := 14) (v := 12) dX0_monthStart_14 (by decide) ?_
      refine r_idiv (pc := 16) dX0_monthStart_16 (by decide) ?_
      refine r_istore_n (pc := 17) (L' := [some (.int x0), some (.int (x0 / 12)), none, none]) dX0_monthStart_17 rfl (by decide) rfl ?_
      refine r_iload_n (pc := 18) (x := x0) dX0_monthStart_18 rfl ?_
      refine r_bipush (pc := 19) (v := 12) dX0_monthStart_19 (by decide) ?_
      refine n_irem (pc := 21) dX0_monthStart_21 (by decide) ?_
      refine r_istore_n (pc := 22) (L' := [some (.int x0), some (.int (x0 / 12)), some (.int (jrem x0 12)), none]) dX0_monthStart_22 rfl (by decide) rfl ?_
      refine r_iload_n (pc := 23) (x := x0 / 12) dX0_monthStart_23 rfl ?_
      refine r_iconst (pc := 24) (v := 4) dX0_monthStart_24 (by decide) ?_
      refine n_irem (pc := 25) dX0_monthStart_25 (by decide) ?_
      refine r_if_ne (pc := 26) (tgt := 38) dX0_monthStart_26 (by decide) (fun c => ?_) (fun c => ?_)
      · replace h := h.1 c
        refine n_L (L' := [none, some (.int (x0 / 12)), some (.int (jrem x0 12)), none]) (le_n (le_s (le_s (le_n (le_e))))) ?_
        exact pX0_monthStart_38  _ _ _ h (fun _ _ _ _ h => pX0_monthStart_39  _ _ _ _ h )
      · replace h := h.2 c
        refine r_iload_n (pc := 29) (x := jrem x0 12) dX0_monthStart_29 rfl ?_
        refine r_iconst (pc := 30) (v := 1) dX0_monthStart_30 (by decide) ?_
        refine r_icmp_le (pc := 31) (tgt := 38) dX0_monthStart_31 (by decide) (fun c => ?_) (fun c => ?_)
        · replace h := h.1 c
          refine n_L (L' := [none, some (.int (x0 / 12)), some (.int (jrem x0 12)), none]) (le_n (le_s (le_s (le_n (le_e))))) ?_
          exact pX0_monthStart_38  _ _ _ h (fun _ _ _ _ h => pX0_monthStart_39  _ _ _ _ h )
        · replace h := h.2 c
          refine r_iconst (pc := 34) (v := 1) dX0_monthStart_34 (by decide) ?_
          refine r_goto (pc := 35) (tgt := 39) dX0_monthStart_35 (by decide) ?_
          refine n_L (L' := [none, some (.int (x0 / 12)), some (.int (jrem x0 12)), none]) (le_n (le_s (le_s (le_n (le_e))))) ?_
          exact pX0_monthStart_39  _ _ _ _ h 
    · replace h := h.2 c
      refine r_iconst (pc := 11) (v := (-1)) dX0_monthStart_11 (by decide) ?_
      exact n_iret (pc := 12) dX0_monthStart_12 rfl (Nat.le_refl _) (Nat.le_refl _) h
def wpX0_yearOf (x0 : Int32) (s : gS) (Q : Int32 → gS → Prop) : Prop := (366 ≤ (jrem x0 1461) → Q (((x0 / 1461) * 4) + (((jrem x0 1461) - 1) / 365)) s) ∧ (¬ (366 ≤ (jrem x0 1461)) → Q (((x0 / 1461) * 4) + 0) s)
set_option maxRecDepth 20000 in
theorem spX0_yearOf {l : Launch} {x0 : Int32}  {s : gS} {Q : Int32 → gS → Prop} (h : wpX0_yearOf x0 s Q) : Ct l mX0_yearOf 1 0 0 [.int x0] (nrm s) (q_i Q) := by
  refine Ct.of (by decide) (Nat.le_of_ble_eq_true rfl) (fun X => ?_)
  refine n_L (L' := [some (.int x0), none]) (le_s (le_p (le_e))) ?_
  refine r_iload_n (pc := 0) (x := x0) dX0_yearOf_0 rfl ?_
  refine r_sipush (pc := 1) (v := 1461) dX0_yearOf_1 (by decide) ?_
  refine n_irem (pc := 4) dX0_yearOf_4 (by decide) ?_
  refine r_istore_n (pc := 5) (L' := [some (.int x0), some (.int (jrem x0 1461))]) dX0_yearOf_5 rfl (by decide) rfl ?_
  refine r_iload_n (pc := 6) (x := x0) dX0_yearOf_6 rfl ?_
  refine r_sipush (pc := 7) (v := 1461) dX0_yearOf_7 (by decide) ?_
  refine r_idiv (pc := 10) dX0_yearOf_10 (by decide) ?_
  refine r_iconst (pc := 11) (v := 4) dX0_yearOf_11 (by decide) ?_
  refine r_imul (pc := 12) dX0_yearOf_12 ?_
  refine r_iload_n (pc := 13) (x := jrem x0 1461) dX0_yearOf_13 rfl ?_
  refine r_sipush (pc := 14) (v := 366) dX0_yearOf_14 (by decide) ?_
  refine r_icmp_ge (pc := 17) (tgt := 24) dX0_yearOf_17 (by decide) (fun c => ?_) (fun c => ?_)
  · replace h := h.1 c
    refine r_iload_n (pc := 24) (x := jrem x0 1461) dX0_yearOf_24 rfl ?_
    refine r_iconst (pc := 25) (v := 1) dX0_yearOf_25 (by decide) ?_
    refine r_isub (pc := 26) dX0_yearOf_26 ?_
    refine r_sipush (pc := 27) (v := 365) dX0_yearOf_27 (by decide) ?_
    refine r_idiv (pc := 30) dX0_yearOf_30 (by decide) ?_
    refine r_iadd (pc := 31) dX0_yearOf_31 ?_
    exact n_iret (pc := 32) dX0_yearOf_32 rfl (Nat.le_refl _) (Nat.le_refl _) h
  · replace h := h.2 c
    refine r_iconst (pc := 20) (v := 0) dX0_yearOf_20 (by decide) ?_
    refine r_goto (pc := 21) (tgt := 31) dX0_yearOf_21 (by decide) ?_
    refine r_iadd (pc := 31) dX0_yearOf_31 ?_
    exact n_iret (pc := 32) dX0_yearOf_32 rfl (Nat.le_refl _) (Nat.le_refl _) h
def wX0_monthOf_10 (x0 : Int32) (Q : Int32 → gS → Prop)  : Nat → Int32 → Int32 → gS → Prop
  | 0, _, _, _ => False
  | n + 1, y1, y2, s => (12 ≤ y2 → Q y1 s) ∧ (¬ (12 ≤ y2) → wpX0_monthStart (y1 + 1) s (fun r2 s2 => (x0 < r2 → wX0_monthOf_10 x0 Q n y1 (y2 + 1) s2) ∧ (¬ (x0 < r2) → wX0_monthOf_10 x0 Q n (y1 + 1) (y2 + 1) s2)))
set_option maxRecDepth 20000 in
theorem pX0_monthOf_10 {l : Launch} {X : gX} {x0 : Int32}  {Q : Int32 → gS → Prop}  : ∀ (n : Nat) (y1 : Int32) (y2 : Int32) (s : gS) (h : wX0_monthOf_10 x0 Q n y1 y2 s) , Gw l mX0_monthOf (g_rm 2 0 0) X 10 [some (.int x0), some (.int y1), some (.int y2)] [] (nrm s) 0 0 (g_Z X (q_i Q) 0 0) := by
  intro n
  induction n with
  | zero => intro y1 y2 s h; exact h.elim
  | succ n ih0 =>
    intro y1 y2 s h 
    have ih : ∀ (y1 : Int32) (y2 : Int32) (s : gS), wX0_monthOf_10 x0 Q n y1 y2 s → Gw l mX0_monthOf (g_rm 2 0 0) X 10 [some (.int x0), some (.int y1), some (.int y2)] [] (nrm s) 0 0 (g_Z X (q_i Q) 0 0) := fun y1 y2 s h => ih0 y1 y2 s h 
    refine r_iload_n (pc := 10) (x := y2) dX0_monthOf_10 rfl ?_
    refine r_bipush (pc := 11) (v := 12) dX0_monthOf_11 (by decide) ?_
    refine r_icmp_ge (pc := 13) (tgt := 35) dX0_monthOf_13 (by decide) (fun c => ?_) (fun c => ?_)
    · replace h := h.1 c
      refine r_iload_n (pc := 35) (x := y1) dX0_monthOf_35 rfl ?_
      exact n_iret (pc := 36) dX0_monthOf_36 rfl (Nat.le_refl _) (Nat.le_refl _) h
    · replace h := h.2 c
      refine r_iload_n (pc := 16) (x := y1) dX0_monthOf_16 rfl ?_
      refine r_iconst (pc := 17) (v := 1) dX0_monthOf_17 (by decide) ?_
      refine r_iadd (pc := 18) dX0_monthOf_18 ?_
      refine n_Si0 (pc := 19) (S0 := []) (spX0_monthStart h) gmX0_monthStart lk_RX0_19 dX0_monthOf_19 rfl rfl ⟨Nat.le_of_ble_eq_true rfl, Nat.le_of_ble_eq_true rfl⟩ (Nat.le_of_ble_eq_true rfl) ⟨Nat.zero_le _, Nat.zero_le _⟩ (fun r2 s2 h => ?_)
      refine r_iload_n (pc := 22) (x := x0) dX0_monthOf_22 rfl ?_
      refine r_icmp_gt (pc := 23) (tgt := 29) dX0_monthOf_23 (by decide) (fun c => ?_) (fun c => ?_)
      · replace h := h.1 c
        refine n_iinc (pc := 29) (x := y2) (w := 1) (L' := [some (.int x0), some (.int y1), some (.int (y2 + 1))]) dX0_monthOf_29 rfl (by decide) rfl (by decide) rfl ?_
        refine r_goto (pc := 32) (tgt := 10) dX0_monthOf_32 (by decide) ?_
        refine n_L (L' := [some (.int x0), some (.int y1), some (.int (y2 + 1))]) (le_s (le_s (le_s (le_e)))) ?_
        exact ih _ _ _ h
      · replace h := h.2 c
        refine n_iinc (pc := 26) (x := y1) (w := 1) (L' := [some (.int x0), some (.int (y1 + 1)), some (.int y2)]) dX0_monthOf_26 rfl (by decide) rfl (by decide) rfl ?_
        refine n_iinc (pc := 29) (x := y2) (w := 1) (L' := [some (.int x0), some (.int (y1 + 1)), some (.int (y2 + 1))]) dX0_monthOf_29 rfl (by decide) rfl (by decide) rfl ?_
        refine r_goto (pc := 32) (tgt := 10) dX0_monthOf_32 (by decide) ?_
        refine n_L (L' := [some (.int x0), some (.int (y1 + 1)), some (.int (y2 + 1))]) (le_s (le_s (le_s (le_e)))) ?_
        exact ih _ _ _ h
def wpX0_monthOf (x0 : Int32) (s : gS) (Q : Int32 → gS → Prop) : Prop := wpX0_yearOf x0 s (fun r1 s1 => ∃ n10, wX0_monthOf_10 x0 Q n10 (r1 * 12) 1 s1)
set_option maxRecDepth 20000 in
theorem spX0_monthOf {l : Launch} {x0 : Int32}  {s : gS} {Q : Int32 → gS → Prop} (h : wpX0_monthOf x0 s Q) : Ct l mX0_monthOf 2 0 0 [.int x0] (nrm s) (q_i Q) := by
  refine Ct.of (by decide) (Nat.le_of_ble_eq_true rfl) (fun X => ?_)
  refine n_L (L' := [some (.int x0), none, none]) (le_s (le_p (le_p (le_e)))) ?_
  refine r_iload_n (pc := 0) (x := x0) dX0_monthOf_0 rfl ?_
  refine n_Si0 (pc := 1) (S0 := []) (spX0_yearOf h) gmX0_yearOf lk_RX0_15 dX0_monthOf_1 rfl rfl ⟨Nat.le_of_ble_eq_true rfl, Nat.le_of_ble_eq_true rfl⟩ (Nat.le_of_ble_eq_true rfl) ⟨Nat.zero_le _, Nat.zero_le _⟩ (fun r1 s1 h => ?_)
  refine r_bipush (pc := 4) (v := 12) dX0_monthOf_4 (by decide) ?_
  refine r_imul (pc := 6) dX0_monthOf_6 ?_
  refine r_istore_n (pc := 7) (L' := [some (.int x0), some (.int (r1 * 12)), none]) dX0_monthOf_7 rfl (by decide) rfl ?_
  refine r_iconst (pc := 8) (v := 1) dX0_monthOf_8 (by decide) ?_
  refine r_istore_n (pc := 9) (L' := [some (.int x0), some (.int (r1 * 12)), some (.int 1)]) dX0_monthOf_9 rfl (by decide) rfl ?_
  refine n_L (L' := [some (.int x0), some (.int (r1 * 12)), some (.int 1)]) (le_s (le_s (le_s (le_e)))) ?_
  obtain ⟨n, h⟩ := h
  exact pX0_monthOf_10  n _ _ _ h 
def wpX0_weekday (x0 : Int32) (s : gS) (Q : Int32 → gS → Prop) : Prop := Q (jrem (x0 + 5) 7) s
set_option maxRecDepth 20000 in
theorem spX0_weekday {l : Launch} {x0 : Int32}  {s : gS} {Q : Int32 → gS → Prop} (h : wpX0_weekday x0 s Q) : Ct l mX0_weekday 1 0 0 [.int x0] (nrm s) (q_i Q) := by
  refine Ct.of (by decide) (Nat.le_of_ble_eq_true rfl) (fun X => ?_)
  refine n_L (L' := [some (.int x0)]) (le_s (le_e)) ?_
  refine r_iload_n (pc := 0) (x := x0) dX0_weekday_0 rfl ?_
  refine r_iconst (pc := 1) (v := 5) dX0_weekday_1 (by decide) ?_
  refine r_iadd (pc := 2) dX0_weekday_2 ?_
  refine r_bipush (pc := 3) (v := 7) dX0_weekday_3 (by decide) ?_
  refine n_irem (pc := 5) dX0_weekday_5 (by decide) ?_
  exact n_iret (pc := 6) dX0_weekday_6 rfl (Nat.le_refl _) (Nat.le_refl _) h
def wpX0_monday (x0 : Int32) (s : gS) (Q : Int32 → gS → Prop) : Prop := wpX0_weekday x0 s (fun r1 s1 => Q (x0 - r1) s1)
set_option maxRecDepth 20000 in
theorem spX0_monday {l : Launch} {x0 : Int32}  {s : gS} {Q : Int32 → gS → Prop} (h : wpX0_monday x0 s Q) : Ct l mX0_monday 2 0 0 [.int x0] (nrm s) (q_i Q) := by
  refine Ct.of (by decide) (Nat.le_of_ble_eq_true rfl) (fun X => ?_)
  refine n_L (L' := [some (.int x0)]) (le_s (le_e)) ?_
  refine r_iload_n (pc := 0) (x := x0) dX0_monday_0 rfl ?_
  refine r_iload_n (pc := 1) (x := x0) dX0_monday_1 rfl ?_
  refine n_Si0 (pc := 2) (S0 := [.int x0]) (spX0_weekday h) gmX0_weekday lk_RX0_22 dX0_monday_2 rfl rfl ⟨Nat.le_of_ble_eq_true rfl, Nat.le_of_ble_eq_true rfl⟩ (Nat.le_of_ble_eq_true rfl) ⟨Nat.zero_le _, Nat.zero_le _⟩ (fun r1 s1 h => ?_)
  refine r_isub (pc := 5) dX0_monday_5 ?_
  exact n_iret (pc := 6) dX0_monday_6 rfl (Nat.le_refl _) (Nat.le_refl _) h
def wpX0_named (x0 : Int32) (x1 : Int32) (s : gS) (Q : Int32 → gS → Prop) : Prop := wpX0_weekday x1 s (fun r1 s1 => Q (x1 + (jrem ((x0 - r1) + 7) 7)) s1)
set_option maxRecDepth 20000 in
theorem spX0_named {l : Launch} {x0 : Int32} {x1 : Int32}  {s : gS} {Q : Int32 → gS → Prop} (h : wpX0_named x0 x1 s Q) : Ct l mX0_named 2 0 0 [.int x0, .int x1] (nrm s) (q_i Q) := by
  refine Ct.of (by decide) (Nat.le_of_ble_eq_true rfl) (fun X => ?_)
  refine n_L (L' := [some (.int x0), some (.int x1)]) (le_s (le_s (le_e))) ?_
  refine r_iload_n (pc := 0) (x := x1) dX0_named_0 rfl ?_
  refine r_iload_n (pc := 1) (x := x0) dX0_named_1 rfl ?_
  refine r_iload_n (pc := 2) (x := x1) dX0_named_2 rfl ?_
  refine n_Si0 (pc := 3) (S0 := [.int x0, .int x1]) (spX0_weekday h) gmX0_weekday lk_RX0_22 dX0_named_3 rfl rfl ⟨Nat.le_of_ble_eq_true rfl, Nat.le_of_ble_eq_true rfl⟩ (Nat.le_of_ble_eq_true rfl) ⟨Nat.zero_le _, Nat.zero_le _⟩ (fun r1 s1 h => ?_)
  refine r_isub (pc := 6) dX0_named_6 ?_
  refine r_bipush (pc := 7) (v := 7) dX0_named_7 (by decide) ?_
  refine r_iadd (pc := 9) dX0_named_9 ?_
  refine r_bipush (pc := 10) (v := 7) dX0_named_10 (by decide) ?_
  refine n_irem (pc := 12) dX0_named_12 (by decide) ?_
  refine r_iadd (pc := 13) dX0_named_13 ?_
  exact n_iret (pc := 14) dX0_named_14 rfl (Nat.le_refl _) (Nat.le_refl _) h
def wpX0_dayInMonth (x0 : Int32) (x1 : Int32) (s : gS) (Q : Int32 → gS → Prop) : Prop := (x0 < 0 → Q (-1) s) ∧ (¬ (x0 < 0) → (336 ≤ x0 → Q (-1) s) ∧ (¬ (336 ≤ x0) → (x1 < 1 → Q (-1) s) ∧ (¬ (x1 < 1) → (x1 ≤ 31 → wpX0_monthStart x0 s (fun r1 s1 => wpX0_monthStart (x0 + 1) s1 (fun r2 s2 => (r2 ≤ ((r1 + x1) - 1) → Q (-1) s2) ∧ (¬ (r2 ≤ ((r1 + x1) - 1)) → (9999 < ((r1 + x1) - 1) → Q (-1) s2) ∧ (¬ (9999 < ((r1 + x1) - 1)) → Q ((r1 + x1) - 1) s2))))) ∧ (¬ (x1 ≤ 31) → Q (-1) s))))
set_option maxRecDepth 20000 in
theorem spX0_dayInMonth {l : Launch} {x0 : Int32} {x1 : Int32}  {s : gS} {Q : Int32 → gS → Prop} (h : wpX0_dayInMonth x0 x1 s Q) : Ct l mX0_dayInMonth 2 0 0 [.int x0, .int x1] (nrm s) (q_i Q) := by
  refine Ct.of (by decide) (Nat.le_of_ble_eq_true rfl) (fun X => ?_)
  refine n_L (L' := [some (.int x0), some (.int x1), none]) (le_s (le_s (le_p (le_e)))) ?_
  refine r_iload_n (pc := 0) (x := x0) dX0_dayInMonth_0 rfl ?_
  refine r_if_lt (pc := 1) (tgt := 22) dX0_dayInMonth_1 (by decide) (fun c => ?_) (fun c => ?_)
  · replace h := h.1 c
    refine r_iconst (pc := 22) (v := (-1)) dX0_dayInMonth_22 (by decide) ?_
    exact n_iret (pc := 23) dX0_dayInMonth_23 rfl (Nat.le_refl _) (Nat.le_refl _) h
  · replace h := h.2 c
    refine r_iload_n (pc := 4) (x := x0) dX0_dayInMonth_4 rfl ?_
    refine r_sipush (pc := 5) (v := 336) dX0_dayInMonth_5 (by decide) ?_
    refine r_icmp_ge (pc := 8) (tgt := 22) dX0_dayInMonth_8 (by decide) (fun c => ?_) (fun c => ?_)
    · replace h := h.1 c
      refine r_iconst (pc := 22) (v := (-1)) dX0_dayInMonth_22 (by decide) ?_
      exact n_iret (pc := 23) dX0_dayInMonth_23 rfl (Nat.le_refl _) (Nat.le_refl _) h
    · replace h := h.2 c
      refine r_iload_n (pc := 11) (x := x1) dX0_dayInMonth_11 rfl ?_
      refine r_iconst (pc := 12) (v := 1) dX0_dayInMonth_12 (by decide) ?_
      refine r_icmp_lt (pc := 13) (tgt := 22) dX0_dayInMonth_13 (by decide) (fun c => ?_) (fun c => ?_)
      · replace h := h.1 c
        refine r_iconst (pc := 22) (v := (-1)) dX0_dayInMonth_22 (by decide) ?_
        exact n_iret (pc := 23) dX0_dayInMonth_23 rfl (Nat.le_refl _) (Nat.le_refl _) h
      · replace h := h.2 c
        refine r_iload_n (pc := 16) (x := x1) dX0_dayInMonth_16 rfl ?_
        refine r_bipush (pc := 17) (v := 31) dX0_dayInMonth_17 (by decide) ?_
        refine r_icmp_le (pc := 19) (tgt := 24) dX0_dayInMonth_19 (by decide) (fun c => ?_) (fun c => ?_)
        · replace h := h.1 c
          refine r_iload_n (pc := 24) (x := x0) dX0_dayInMonth_24 rfl ?_
          refine n_Si0 (pc := 25) (S0 := []) (spX0_monthStart h) gmX0_monthStart lk_RX0_19 dX0_dayInMonth_25 rfl rfl ⟨Nat.le_of_ble_eq_true rfl, Nat.le_of_ble_eq_true rfl⟩ (Nat.le_of_ble_eq_true rfl) ⟨Nat.zero_le _, Nat.zero_le _⟩ (fun r1 s1 h => ?_)
          refine r_iload_n (pc := 28) (x := x1) dX0_dayInMonth_28 rfl ?_
          refine r_iadd (pc := 29) dX0_dayInMonth_29 ?_
          refine r_iconst (pc := 30) (v := 1) dX0_dayInMonth_30 (by decide) ?_
          refine r_isub (pc := 31) dX0_dayInMonth_31 ?_
          refine r_istore_n (pc := 32) (L' := [some (.int x0), some (.int x1), some (.int ((r1 + x1) - 1))]) dX0_dayInMonth_32 rfl (by decide) rfl ?_
          refine r_iload_n (pc := 33) (x := (r1 + x1) - 1) dX0_dayInMonth_33 rfl ?_
          refine r_iload_n (pc := 34) (x := x0) dX0_dayInMonth_34 rfl ?_
          refine r_iconst (pc := 35) (v := 1) dX0_dayInMonth_35 (by decide) ?_
          refine r_iadd (pc := 36) dX0_dayInMonth_36 ?_
          refine n_Si0 (pc := 37) (S0 := [.int ((r1 + x1) - 1)]) (spX0_monthStart h) gmX0_monthStart lk_RX0_19 dX0_dayInMonth_37 rfl rfl ⟨Nat.le_of_ble_eq_true rfl, Nat.le_of_ble_eq_true rfl⟩ (Nat.le_of_ble_eq_true rfl) ⟨Nat.zero_le _, Nat.zero_le _⟩ (fun r2 s2 h => ?_)
          refine r_icmp_ge (pc := 40) (tgt := 54) dX0_dayInMonth_40 (by decide) (fun c => ?_) (fun c => ?_)
          · replace h := h.1 c
            refine r_iconst (pc := 54) (v := (-1)) dX0_dayInMonth_54 (by decide) ?_
            exact n_iret (pc := 55) dX0_dayInMonth_55 rfl (Nat.le_refl _) (Nat.le_refl _) h
          · replace h := h.2 c
            refine r_iload_n (pc := 43) (x := (r1 + x1) - 1) dX0_dayInMonth_43 rfl ?_
            refine r_sipush (pc := 44) (v := 9999) dX0_dayInMonth_44 (by decide) ?_
            refine r_icmp_gt (pc := 47) (tgt := 54) dX0_dayInMonth_47 (by decide) (fun c => ?_) (fun c => ?_)
            · replace h := h.1 c
              refine r_iconst (pc := 54) (v := (-1)) dX0_dayInMonth_54 (by decide) ?_
              exact n_iret (pc := 55) dX0_dayInMonth_55 rfl (Nat.le_refl _) (Nat.le_refl _) h
            · replace h := h.2 c
              refine r_iload_n (pc := 50) (x := (r1 + x1) - 1) dX0_dayInMonth_50 rfl ?_
              refine r_goto (pc := 51) (tgt := 55) dX0_dayInMonth_51 (by decide) ?_
              exact n_iret (pc := 55) dX0_dayInMonth_55 rfl (Nat.le_refl _) (Nat.le_refl _) h
        · replace h := h.2 c
          refine r_iconst (pc := 22) (v := (-1)) dX0_dayInMonth_22 (by decide) ?_
          exact n_iret (pc := 23) dX0_dayInMonth_23 rfl (Nat.le_refl _) (Nat.le_refl _) h
def wpX0_dayOf (x0 : Int32) (x1 : Int32) (x2 : Int32) (s : gS) (Q : Int32 → gS → Prop) : Prop := (x0 < 2000 → Q (-1) s) ∧ (¬ (x0 < 2000) → (2027 < x0 → Q (-1) s) ∧ (¬ (2027 < x0) → (x1 < 1 → Q (-1) s) ∧ (¬ (x1 < 1) → (x1 ≤ 12 → wpX0_dayInMonth ((((x0 - 2000) * 12) + x1) - 1) x2 s (fun r1 s1 => Q r1 s1)) ∧ (¬ (x1 ≤ 12) → Q (-1) s))))
set_option maxRecDepth 20000 in
theorem spX0_dayOf {l : Launch} {x0 : Int32} {x1 : Int32} {x2 : Int32}  {s : gS} {Q : Int32 → gS → Prop} (h : wpX0_dayOf x0 x1 x2 s Q) : Ct l mX0_dayOf 3 0 0 [.int x0, .int x1, .int x2] (nrm s) (q_i Q) := by
  refine Ct.of (by decide) (Nat.le_of_ble_eq_true rfl) (fun X => ?_)
  refine n_L (L' := [some (.int x0), some (.int x1), some (.int x2)]) (le_s (le_s (le_s (le_e)))) ?_
  refine r_iload_n (pc := 0) (x := x0) dX0_dayOf_0 rfl ?_
  refine r_sipush (pc := 1) (v := 2000) dX0_dayOf_1 (by decide) ?_
  refine r_icmp_lt (pc := 4) (tgt := 25) dX0_dayOf_4 (by decide) (fun c => ?_) (fun c => ?_)
  · replace h := h.1 c
    refine r_iconst (pc := 25) (v := (-1)) dX0_dayOf_25 (by decide) ?_
    exact n_iret (pc := 26) dX0_dayOf_26 rfl (Nat.le_refl _) (Nat.le_refl _) h
  · replace h := h.2 c
    refine r_iload_n (pc := 7) (x := x0) dX0_dayOf_7 rfl ?_
    refine r_sipush (pc := 8) (v := 2027) dX0_dayOf_8 (by decide) ?_
    refine r_icmp_gt (pc := 11) (tgt := 25) dX0_dayOf_11 (by decide) (fun c => ?_) (fun c => ?_)
    · replace h := h.1 c
      refine r_iconst (pc := 25) (v := (-1)) dX0_dayOf_25 (by decide) ?_
      exact n_iret (pc := 26) dX0_dayOf_26 rfl (Nat.le_refl _) (Nat.le_refl _) h
    · replace h := h.2 c
      refine r_iload_n (pc := 14) (x := x1) dX0_dayOf_14 rfl ?_
      refine r_iconst (pc := 15) (v := 1) dX0_dayOf_15 (by decide) ?_
      refine r_icmp_lt (pc := 16) (tgt := 25) dX0_dayOf_16 (by decide) (fun c => ?_) (fun c => ?_)
      · replace h := h.1 c
        refine r_iconst (pc := 25) (v := (-1)) dX0_dayOf_25 (by decide) ?_
        exact n_iret (pc := 26) dX0_dayOf_26 rfl (Nat.le_refl _) (Nat.le_refl _) h
      · replace h := h.2 c
        refine r_iload_n (pc := 19) (x := x1) dX0_dayOf_19 rfl ?_
        refine r_bipush (pc := 20) (v := 12) dX0_dayOf_20 (by decide) ?_
        refine r_icmp_le (pc := 22) (tgt := 27) dX0_dayOf_22 (by decide) (fun c => ?_) (fun c => ?_)
        · replace h := h.1 c
          refine r_iload_n (pc := 27) (x := x0) dX0_dayOf_27 rfl ?_
          refine r_sipush (pc := 28) (v := 2000) dX0_dayOf_28 (by decide) ?_
          refine r_isub (pc := 31) dX0_dayOf_31 ?_
          refine r_bipush (pc := 32) (v := 12) dX0_dayOf_32 (by decide) ?_
          refine r_imul (pc := 34) dX0_dayOf_34 ?_
          refine r_iload_n (pc := 35) (x := x1) dX0_dayOf_35 rfl ?_
          refine r_iadd (pc := 36) dX0_dayOf_36 ?_
          refine r_iconst (pc := 37) (v := 1) dX0_dayOf_37 (by decide) ?_
          refine r_isub (pc := 38) dX0_dayOf_38 ?_
          refine r_iload_n (pc := 39) (x := x2) dX0_dayOf_39 rfl ?_
          refine n_Si0 (pc := 40) (S0 := []) (spX0_dayInMonth h) gmX0_dayInMonth lk_RX0_25 dX0_dayOf_40 rfl rfl ⟨Nat.le_of_ble_eq_true rfl, Nat.le_of_ble_eq_true rfl⟩ (Nat.le_of_ble_eq_true rfl) ⟨Nat.zero_le _, Nat.zero_le _⟩ (fun r1 s1 h => ?_)
          exact n_iret (pc := 43) dX0_dayOf_43 rfl (Nat.le_refl _) (Nat.le_refl _) h
        · replace h := h.2 c
          refine r_iconst (pc := 25) (v := (-1)) dX0_dayOf_25 (by decide) ?_
          exact n_iret (pc := 26) dX0_dayOf_26 rfl (Nat.le_refl _) (Nat.le_refl _) h
def wX0_move_97 (x0 : Int32) (x1 : Int32) (x2 : Int32) (Q : Int32 → gS → Prop)  (y3 : Int32) (s : gS) : Prop := wpX11_isDay y3 s (fun r2 s2 => (r2 = 0 → Q (-1) s2) ∧ (¬ (r2 = 0) → Q y3 s2))
set_option maxRecDepth 20000 in
theorem pX0_move_97 {l : Launch} {X : gX} {x0 : Int32} {x1 : Int32} {x2 : Int32}  {Q : Int32 → gS → Prop}  (y3 : Int32) (s : gS) (h : wX0_move_97 x0 x1 x2 Q y3 s)  : Gw l mX0_move (g_rm 3 0 0) X 97 [none, none, none, some (.int y3), none, none, none] [] (nrm s) 0 0 (g_Z X (q_i Q) 0 0) := by
  refine r_iload_n (pc := 97) (x := y3) dX0_move_97 rfl ?_
  refine n_Ni0 (pc := 98) (S0 := []) (spX11_isDay h) gmX11_isDay lk_RX0_37 dX0_move_98 rfl rfl ⟨Nat.le_of_ble_eq_true rfl, Nat.le_of_ble_eq_true rfl⟩ (Nat.le_of_ble_eq_true rfl) ⟨Nat.zero_le _, Nat.zero_le _⟩ (fun r2 s2 h => ?_)
  refine r_if_eq (pc := 101) (tgt := 108) dX0_move_101 (by decide) (fun c => ?_) (fun c => ?_)
  · replace h := h.1 c
    refine r_iconst (pc := 108) (v := (-1)) dX0_move_108 (by decide) ?_
    exact n_iret (pc := 109) dX0_move_109 rfl (Nat.le_refl _) (Nat.le_refl _) h
  · replace h := h.2 c
    refine r_iload_n (pc := 104) (x := y3) dX0_move_104 rfl ?_
    refine r_goto (pc := 105) (tgt := 109) dX0_move_105 (by decide) ?_
    exact n_iret (pc := 109) dX0_move_109 rfl (Nat.le_refl _) (Nat.le_refl _) h
def wX0_move_49 (x0 : Int32) (x1 : Int32) (x2 : Int32) (Q : Int32 → gS → Prop) (k97 : Int32 → gS → Prop) (y4 : Int32) (z0 : Int32) (z1 : Int32) (s : gS) : Prop := ((z1 + z0) < 0 → Q (-1) s) ∧ (¬ ((z1 + z0) < 0) → ((z1 + z0) < 336 → wpX0_monthStart y4 s (fun r3 s3 => wpX0_monthStart (z1 + z0) s3 (fun r4 s4 => wpX0_monthStart ((z1 + z0) + 1) s4 (fun r5 s5 => k97 (jmin (r4 + (x0 - r3)) (r5 - 1)) s5)))) ∧ (¬ ((z1 + z0) < 336) → Q (-1) s))
set_option maxRecDepth 20000 in
theorem pX0_move_49 {l : Launch} {X : gX} {x0 : Int32} {x1 : Int32} {x2 : Int32}  {Q : Int32 → gS → Prop} {k97 : Int32 → gS → Prop} (y4 : Int32) (z0 : Int32) (z1 : Int32) (s : gS) (h : wX0_move_49 x0 x1 x2 Q k97 y4 z0 z1 s) (hk97 : ∀ (y3 : Int32) (s : gS), k97 y3 s → Gw l mX0_move (g_rm 3 0 0) X 97 [none, none, none, some (.int y3), none, none, none] [] (nrm s) 0 0 (g_Z X (q_i Q) 0 0)) : Gw l mX0_move (g_rm 3 0 0) X 49 [some (.int x0), none, none, none, some (.int y4), none, none] [.int z0, .int z1] (nrm s) 0 0 (g_Z X (q_i Q) 0 0) := by
  refine r_iadd (pc := 49) dX0_move_49 ?_
  refine r_istore (pc := 50) (L' := [some (.int x0), none, none, none, some (.int y4), some (.int (z1 + z0)), none]) dX0_move_50 rfl (by decide) rfl ?_
  refine r_iload (pc := 52) (x := z1 + z0) dX0_move_52 rfl ?_
  refine r_if_lt (pc := 54) (tgt := 65) dX0_move_54 (by decide) (fun c => ?_) (fun c => ?_)
  · replace h := h.1 c
    refine r_iconst (pc := 65) (v := (-1)) dX0_move_65 (by decide) ?_
    exact n_iret (pc := 66) dX0_move_66 rfl (Nat.le_refl _) (Nat.le_refl _) h
  · replace h := h.2 c
    refine r_iload (pc := 57) (x := z1 + z0) dX0_move_57 rfl ?_
    refine r_sipush (pc := 59) (v := 336) dX0_move_59 (by decide) ?_
    refine r_icmp_lt (pc := 62) (tgt := 67) dX0_move_62 (by decide) (fun c => ?_) (fun c => ?_)
    · replace h := h.1 c
      refine r_iload_n (pc := 67) (x := x0) dX0_move_67 rfl ?_
      refine r_iload (pc := 68) (x := y4) dX0_move_68 rfl ?_
      refine n_Si0 (pc := 70) (S0 := [.int x0]) (spX0_monthStart h) gmX0_monthStart lk_RX0_19 dX0_move_70 rfl rfl ⟨Nat.le_of_ble_eq_true rfl, Nat.le_of_ble_eq_true rfl⟩ (Nat.le_of_ble_eq_true rfl) ⟨Nat.zero_le _, Nat.zero_le _⟩ (fun r3 s3 h => ?_)
      refine r_isub (pc := 73) dX0_move_73 ?_
      refine r_istore (pc := 74) (L' := [some (.int x0), none, none, none, some (.int y4), some (.int (z1 + z0)), some (.int (x0 - r3))]) dX0_move_74 rfl (by decide) rfl ?_
      refine r_iload (pc := 76) (x := z1 + z0) dX0_move_76 rfl ?_
      refine n_Si0 (pc := 78) (S0 := []) (spX0_monthStart h) gmX0_monthStart lk_RX0_19 dX0_move_78 rfl rfl ⟨Nat.le_of_ble_eq_true rfl, Nat.le_of_ble_eq_true rfl⟩ (Nat.le_of_ble_eq_true rfl) ⟨Nat.zero_le _, Nat.zero_le _⟩ (fun r4 s4 h => ?_)
      refine r_iload (pc := 81) (x := x0 - r3) dX0_move_81 rfl ?_
      refine r_iadd (pc := 83) dX0_move_83 ?_
      refine r_iload (pc := 84) (x := z1 + z0) dX0_move_84 rfl ?_
      refine r_iconst (pc := 86) (v := 1) dX0_move_86 (by decide) ?_
      refine r_iadd (pc := 87) dX0_move_87 ?_
      refine n_Si0 (pc := 88) (S0 := [.int (r4 + (x0 - r3))]) (spX0_monthStart h) gmX0_monthStart lk_RX0_19 dX0_move_88 rfl rfl ⟨Nat.le_of_ble_eq_true rfl, Nat.le_of_ble_eq_true rfl⟩ (Nat.le_of_ble_eq_true rfl) ⟨Nat.zero_le _, Nat.zero_le _⟩ (fun r5 s5 h => ?_)
      refine r_iconst (pc := 91) (v := 1) dX0_move_91 (by decide) ?_
      refine r_isub (pc := 92) dX0_move_92 ?_
      refine n_min (pc := 93) dX0_move_93 lk_RX0_32 ⟨Nat.le_of_ble_eq_true rfl, Nat.le_of_ble_eq_true rfl⟩ ⟨Nat.zero_le _, Nat.zero_le _⟩ ?_
      refine r_istore_n (pc := 96) (L' := [some (.int x0), none, none, some (.int (jmin (r4 + (x0 - r3)) (r5 - 1))), some (.int y4), some (.int (z1 + z0)), some (.int (x0 - r3))]) dX0_move_96 rfl (by decide) rfl ?_
      refine n_L (L' := [none, none, none, some (.int (jmin (r4 + (x0 - r3)) (r5 - 1))), none, none, none]) (le_n (le_n (le_n (le_s (le_n (le_n (le_n (le_e)))))))) ?_
      exact hk97 _ _ h
    · replace h := h.2 c
      refine r_iconst (pc := 65) (v := (-1)) dX0_move_65 (by decide) ?_
      exact n_iret (pc := 66) dX0_move_66 rfl (Nat.le_refl _) (Nat.le_refl _) h
def wX0_move_28 (x0 : Int32) (x1 : Int32) (x2 : Int32) (Q : Int32 → gS → Prop) (k97 : Int32 → gS → Prop)  (s : gS) : Prop := wpX0_monthOf x0 s (fun r1 s1 => (¬ x1 = 3 → wX0_move_49 x0 x1 x2 Q k97 r1 x2 r1 s1) ∧ (x1 = 3 → wX0_move_49 x0 x1 x2 Q k97 r1 (12 * x2) r1 s1))
set_option maxRecDepth 20000 in
theorem pX0_move_28 {l : Launch} {X : gX} {x0 : Int32} {x1 : Int32} {x2 : Int32}  {Q : Int32 → gS → Prop} {k97 : Int32 → gS → Prop}  (s : gS) (h : wX0_move_28 x0 x1 x2 Q k97  s) (hk97 : ∀ (y3 : Int32) (s : gS), k97 y3 s → Gw l mX0_move (g_rm 3 0 0) X 97 [none, none, none, some (.int y3), none, none, none] [] (nrm s) 0 0 (g_Z X (q_i Q) 0 0)) : Gw l mX0_move (g_rm 3 0 0) X 28 [some (.int x0), some (.int x1), some (.int x2), none, none, none, none] [] (nrm s) 0 0 (g_Z X (q_i Q) 0 0) := by
  refine r_iload_n (pc := 28) (x := x0) dX0_move_28 rfl ?_
  refine n_Si0 (pc := 29) (S0 := []) (spX0_monthOf h) gmX0_monthOf lk_RX0_29 dX0_move_29 rfl rfl ⟨Nat.le_of_ble_eq_true rfl, Nat.le_of_ble_eq_true rfl⟩ (Nat.le_of_ble_eq_true rfl) ⟨Nat.zero_le _, Nat.zero_le _⟩ (fun r1 s1 h => ?_)
  refine r_istore (pc := 32) (L' := [some (.int x0), some (.int x1), some (.int x2), none, some (.int r1), none, none]) dX0_move_32 rfl (by decide) rfl ?_
  refine r_iload (pc := 34) (x := r1) dX0_move_34 rfl ?_
  refine r_iload_n (pc := 36) (x := x1) dX0_move_36 rfl ?_
  refine r_iconst (pc := 37) (v := 3) dX0_move_37 (by decide) ?_
  refine r_icmp_ne (pc := 38) (tgt := 48) dX0_move_38 (by decide) (fun c => ?_) (fun c => ?_)
  · replace h := h.1 c
    refine r_iload_n (pc := 48) (x := x2) dX0_move_48 rfl ?_
    refine n_L (L' := [some (.int x0), none, none, none, some (.int r1), none, none]) (le_s (le_n (le_n (le_n (le_s (le_n (le_n (le_e)))))))) ?_
    exact pX0_move_49  _ _ _ _ h hk97
  · replace h := h.2 c
    refine r_bipush (pc := 41) (v := 12) dX0_move_41 (by decide) ?_
    refine r_iload_n (pc := 43) (x := x2) dX0_move_43 rfl ?_
    refine r_imul (pc := 44) dX0_move_44 ?_
    refine r_goto (pc := 45) (tgt := 49) dX0_move_45 (by decide) ?_
    refine n_L (L' := [some (.int x0), none, none, none, some (.int r1), none, none]) (le_s (le_n (le_n (le_n (le_s (le_n (le_n (le_e)))))))) ?_
    exact pX0_move_49  _ _ _ _ h hk97
def wX0_move_17 (x0 : Int32) (x1 : Int32) (x2 : Int32) (Q : Int32 → gS → Prop)  (z0 : Int32) (s : gS) : Prop := (x1 = 2 → wX0_move_28 x0 x1 x2 Q (wX0_move_97 x0 x1 x2 Q) s) ∧ (¬ (x1 = 2) → (¬ x1 = 3 → wX0_move_97 x0 x1 x2 Q z0 s) ∧ (x1 = 3 → wX0_move_28 x0 x1 x2 Q (wX0_move_97 x0 x1 x2 Q) s))
set_option maxRecDepth 20000 in
theorem pX0_move_17 {l : Launch} {X : gX} {x0 : Int32} {x1 : Int32} {x2 : Int32}  {Q : Int32 → gS → Prop}  (z0 : Int32) (s : gS) (h : wX0_move_17 x0 x1 x2 Q z0 s)  : Gw l mX0_move (g_rm 3 0 0) X 17 [some (.int x0), some (.int x1), some (.int x2), none, none, none, none] [.int z0] (nrm s) 0 0 (g_Z X (q_i Q) 0 0) := by
  refine r_istore_n (pc := 17) (L' := [some (.int x0), some (.int x1), some (.int x2), some (.int z0), none, none, none]) dX0_move_17 rfl (by decide) rfl ?_
  refine r_iload_n (pc := 18) (x := x1) dX0_move_18 rfl ?_
  refine r_iconst (pc := 19) (v := 2) dX0_move_19 (by decide) ?_
  refine r_icmp_eq (pc := 20) (tgt := 28) dX0_move_20 (by decide) (fun c => ?_) (fun c => ?_)
  · replace h := h.1 c
    refine n_L (L' := [some (.int x0), some (.int x1), some (.int x2), none, none, none, none]) (le_s (le_s (le_s (le_n (le_n (le_n (le_n (le_e)))))))) ?_
    exact pX0_move_28   _ h (fun _ _ h => pX0_move_97  _ _ h )
  · replace h := h.2 c
    refine r_iload_n (pc := 23) (x := x1) dX0_move_23 rfl ?_
    refine r_iconst (pc := 24) (v := 3) dX0_move_24 (by decide) ?_
    refine r_icmp_ne (pc := 25) (tgt := 97) dX0_move_25 (by decide) (fun c => ?_) (fun c => ?_)
    · replace h := h.1 c
      refine n_L (L' := [none, none, none, some (.int z0), none, none, none]) (le_n (le_n (le_n (le_s (le_n (le_n (le_n (le_e)))))))) ?_
      exact pX0_move_97  _ _ h 
    · replace h := h.2 c
      refine n_L (L' := [some (.int x0), some (.int x1), some (.int x2), none, none, none, none]) (le_s (le_s (le_s (le_n (le_n (le_n (le_n (le_e)))))))) ?_
      exact pX0_move_28   _ h (fun _ _ h => pX0_move_97  _ _ h )
def wpX0_move (x0 : Int32) (x1 : Int32) (x2 : Int32) (s : gS) (Q : Int32 → gS → Prop) : Prop := (¬ x1 = 1 → wX0_move_17 x0 x1 x2 Q (x0 + x2) s) ∧ (x1 = 1 → wX0_move_17 x0 x1 x2 Q (x0 + (7 * x2)) s)
set_option maxRecDepth 20000 in
theorem spX0_move {l : Launch} {x0 : Int32} {x1 : Int32} {x2 : Int32}  {s : gS} {Q : Int32 → gS → Prop} (h : wpX0_move x0 x1 x2 s Q) : Ct l mX0_move 3 0 0 [.int x0, .int x1, .int x2] (nrm s) (q_i Q) := by
  refine Ct.of (by decide) (Nat.le_of_ble_eq_true rfl) (fun X => ?_)
  refine n_L (L' := [some (.int x0), some (.int x1), some (.int x2), none, none, none, none]) (le_s (le_s (le_s (le_p (le_p (le_p (le_p (le_e)))))))) ?_
  refine r_iload_n (pc := 0) (x := x1) dX0_move_0 rfl ?_
  refine r_iconst (pc := 1) (v := 1) dX0_move_1 (by decide) ?_
  refine r_icmp_ne (pc := 2) (tgt := 14) dX0_move_2 (by decide) (fun c => ?_) (fun c => ?_)
  · replace h := h.1 c
    refine r_iload_n (pc := 14) (x := x0) dX0_move_14 rfl ?_
    refine r_iload_n (pc := 15) (x := x2) dX0_move_15 rfl ?_
    refine r_iadd (pc := 16) dX0_move_16 ?_
    refine n_L (L' := [some (.int x0), some (.int x1), some (.int x2), none, none, none, none]) (le_s (le_s (le_s (le_n (le_n (le_n (le_n (le_e)))))))) ?_
    exact pX0_move_17  _ _ h 
  · replace h := h.2 c
    refine r_iload_n (pc := 5) (x := x0) dX0_move_5 rfl ?_
    refine r_bipush (pc := 6) (v := 7) dX0_move_6 (by decide) ?_
    refine r_iload_n (pc := 8) (x := x2) dX0_move_8 rfl ?_
    refine r_imul (pc := 9) dX0_move_9 ?_
    refine r_iadd (pc := 10) dX0_move_10 ?_
    refine r_goto (pc := 11) (tgt := 17) dX0_move_11 (by decide) ?_
    refine n_L (L' := [some (.int x0), some (.int x1), some (.int x2), none, none, none, none]) (le_s (le_s (le_s (le_n (le_n (le_n (le_n (le_e)))))))) ?_
    exact pX0_move_17  _ _ h 
