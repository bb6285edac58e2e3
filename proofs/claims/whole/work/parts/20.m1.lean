def wpX12_thrown  (s : gS) (Q : Int32 → gS → Prop) : Prop := Q (gi s 177 5) s
set_option maxRecDepth 20000 in
theorem spX12_thrown {l : Launch}   {s : gS} {Q : Int32 → gS → Prop} (h : wpX12_thrown  s Q) : Ct l mX12_thrown 1 0 0 [.ref 177] (nrm s) (q_i Q) := by
  refine Ct.of (by decide) (Nat.le_of_ble_eq_true rfl) (fun X => ?_)
  refine n_L (L' := [some (.ref 177)]) (le_s (le_e)) ?_
  refine r_aload_n (pc := 0) (x := 177) dX12_thrown_0 rfl ?_
  refine n_getI (pc := 1) (j := 5) dX12_thrown_1 fl_RX12_55 (by decide) sh_177 rfl rfl ?_
  exact n_iret (pc := 4) dX12_thrown_4 rfl (Nat.le_refl _) (Nat.le_refl _) h
def wpX12_in (x0 : Int32) (x1 : Int32) (x2 : Int32) (s : gS) (Q : Int32 → gS → Prop) : Prop := (x0 < x1 → Q 0 s) ∧ (¬ (x0 < x1) → (x2 < x0 → Q 0 s) ∧ (¬ (x2 < x0) → Q 1 s))
set_option maxRecDepth 20000 in
theorem spX12_in {l : Launch} {x0 : Int32} {x1 : Int32} {x2 : Int32}  {s : gS} {Q : Int32 → gS → Prop} (h : wpX12_in x0 x1 x2 s Q) : Ct l mX12_in 1 0 0 [.int x0, .int x1, .int x2] (nrm s) (q_i Q) := by
  refine Ct.of (by decide) (Nat.le_of_ble_eq_true rfl) (fun X => ?_)
  refine n_L (L' := [some (.int x0), some (.int x1), some (.int x2)]) (le_s (le_s (le_s (le_e)))) ?_
  refine r_iload_n (pc := 0) (x := x0) dX12_in_0 rfl ?_
  refine r_iload_n (pc := 1) (x := x1) dX12_in_1 rfl ?_
  refine r_icmp_lt (pc := 2) (tgt := 14) dX12_in_2 (by decide) (fun c => ?_) (fun c => ?_)
  · replace h := h.1 c
    refine r_iconst (pc := 14) (v := 0) dX12_in_14 (by decide) ?_
    exact n_zret (pc := 15) dX12_in_15 rfl (by decide) (Nat.le_refl _) (Nat.le_refl _) h
  · replace h := h.2 c
    refine r_iload_n (pc := 5) (x := x0) dX12_in_5 rfl ?_
    refine r_iload_n (pc := 6) (x := x2) dX12_in_6 rfl ?_
    refine r_icmp_gt (pc := 7) (tgt := 14) dX12_in_7 (by decide) (fun c => ?_) (fun c => ?_)
    · replace h := h.1 c
      refine r_iconst (pc := 14) (v := 0) dX12_in_14 (by decide) ?_
      exact n_zret (pc := 15) dX12_in_15 rfl (by decide) (Nat.le_refl _) (Nat.le_refl _) h
    · replace h := h.2 c
      refine r_iconst (pc := 10) (v := 1) dX12_in_10 (by decide) ?_
      refine r_goto (pc := 11) (tgt := 15) dX12_in_11 (by decide) ?_
      exact n_zret (pc := 15) dX12_in_15 rfl (by decide) (Nat.le_refl _) (Nat.le_refl _) h
def wpX12_lost  (s : gS) (Q : Int32 → gS → Prop) : Prop := Q 0 (wi s 177 5 1)
set_option maxRecDepth 20000 in
theorem spX12_lost {l : Launch}   {s : gS} {Q : Int32 → gS → Prop} (h : wpX12_lost  s Q) : Ct l mX12_lost 1 0 0 [.ref 177] (nrm s) (q_i Q) := by
  refine Ct.of (by decide) (Nat.le_of_ble_eq_true rfl) (fun X => ?_)
  refine n_L (L' := [some (.ref 177)]) (le_s (le_e)) ?_
  refine r_aload_n (pc := 0) (x := 177) dX12_lost_0 rfl ?_
  refine r_iconst (pc := 1) (v := 1) dX12_lost_1 (by decide) ?_
  refine n_putI (pc := 2) (j := 5) dX12_lost_2 fl_RX12_55 fw_12_5 (by decide) sh_177 rfl rfl ?_
  refine r_iconst (pc := 5) (v := 0) dX12_lost_5 (by decide) ?_
  exact n_iret (pc := 6) dX12_lost_6 rfl (Nat.le_refl _) (Nat.le_refl _) h
def wpX12_tell (x1 : Int64) (s : gS) (Q : gS → Prop) : Prop := vp_in (gi s 177 4) 64 ∧ (Q (wi (wl s 180 (ix (gi s 177 4)) x1) 177 4 ((gi (wl s 180 (ix (gi s 177 4)) x1) 177 4) + 1)))
set_option maxRecDepth 20000 in
theorem spX12_tell {l : Launch} {x1 : Int64}  {s : gS} {Q : gS → Prop} (h : wpX12_tell x1 s Q) : Ct l mX12_tell 1 0 0 [.ref 177, .long x1] (nrm s) (q_v Q) := by
  refine Ct.of (by decide) (Nat.le_of_ble_eq_true rfl) (fun X => ?_)
  refine n_L (L' := [some (.ref 177), some (.long x1), none]) (le_s (le_s (le_n (le_e)))) ?_
  refine r_aload_n (pc := 0) (x := 177) dX12_tell_0 rfl ?_
  refine n_getR (pc := 1) (j := 3) (q := 180) dX12_tell_1 fl_RX12_17 (by decide) sh_177 rfl rfl rfl ?_
  refine r_aload_n (pc := 4) (x := 177) dX12_tell_4 rfl ?_
  refine n_getI (pc := 5) (j := 4) dX12_tell_5 fl_RX12_59 (by decide) sh_177 rfl rfl ?_
  refine r_lload_n (pc := 8) (x := x1) dX12_tell_8 rfl ?_
  obtain ⟨b1, h⟩ := h
  refine n_last (pc := 9) (j := (ix (gi s 177 4))) dX12_tell_9 (by decide) sh_180 b1 rfl ?_
  refine r_aload_n (pc := 10) (x := 177) dX12_tell_10 rfl ?_
  refine r_dup (pc := 11) dX12_tell_11 rfl ?_
  refine n_getI (pc := 12) (j := 4) dX12_tell_12 fl_RX12_59 (by decide) sh_177 rfl rfl ?_
  refine r_iconst (pc := 15) (v := 1) dX12_tell_15 (by decide) ?_
  refine r_iadd (pc := 16) dX12_tell_16 ?_
  refine n_putI (pc := 17) (j := 4) dX12_tell_17 fl_RX12_59 fw_12_4 (by decide) sh_177 rfl rfl ?_
  exact n_vret (pc := 20) dX12_tell_20 rfl (Nat.le_refl _) (Nat.le_refl _) h
def wX12_countBits_4 (x0 : Int32) (Q : Int32 → gS → Prop)  : Nat → Int32 → Int32 → gS → Prop
  | 0, _, _, _ => False
  | n + 1, y1, y2, s => (y2 = 0 → Q y1 s) ∧ (¬ (y2 = 0) → wX12_countBits_4 x0 Q n (y1 + 1) (y2 &&& (y2 - 1)) s)
set_option maxRecDepth 20000 in
theorem pX12_countBits_4 {l : Launch} {X : gX} {x0 : Int32}  {Q : Int32 → gS → Prop}  : ∀ (n : Nat) (y1 : Int32) (y2 : Int32) (s : gS) (h : wX12_countBits_4 x0 Q n y1 y2 s) , Gw l mX12_countBits (g_rm 1 0 0) X 4 [none, some (.int y1), some (.int y2)] [] (nrm s) 0 0 (g_Z X (q_i Q) 0 0) := by
  intro n
  induction n with
  | zero => intro y1 y2 s h; exact h.elim
  | succ n ih0 =>
    intro y1 y2 s h 
    have ih : ∀ (y1 : Int32) (y2 : Int32) (s : gS), wX12_countBits_4 x0 Q n y1 y2 s → Gw l mX12_countBits (g_rm 1 0 0) X 4 [none, some (.int y1), some (.int y2)] [] (nrm s) 0 0 (g_Z X (q_i Q) 0 0) := fun y1 y2 s h => ih0 y1 y2 s h 
    refine r_iload_n (pc := 4) (x := y2) dX12_countBits_4 rfl ?_
    refine r_if_eq (pc := 5) (tgt := 20) dX12_countBits_5 (by decide) (fun c => ?_) (fun c => ?_)
    · replace h := h.1 c
      refine r_iload_n (pc := 20) (x := y1) dX12_countBits_20 rfl ?_
      exact n_iret (pc := 21) dX12_countBits_21 rfl (Nat.le_refl _) (Nat.le_refl _) h
    · replace h := h.2 c
      refine n_iinc (pc := 8) (x := y1) (w := 1) (L' := [none, some (.int (y1 + 1)), some (.int y2)]) dX12_countBits_8 rfl (by decide) rfl (by decide) rfl ?_
      refine r_iload_n (pc := 11) (x := y2) dX12_countBits_11 rfl ?_
      refine r_iload_n (pc := 12) (x := y2) dX12_countBits_12 rfl ?_
      refine r_iconst (pc := 13) (v := 1) dX12_countBits_13 (by decide) ?_
      refine r_isub (pc := 14) dX12_countBits_14 ?_
      refine r_iand (pc := 15) dX12_countBits_15 ?_
      refine r_istore_n (pc := 16) (L' := [none, some (.int (y1 + 1)), some (.int (y2 &&& (y2 - 1)))]) dX12_countBits_16 rfl (by decide) rfl ?_
      refine r_goto (pc := 17) (tgt := 4) dX12_countBits_17 (by decide) ?_
      refine n_L (L' := [none, some (.int (y1 + 1)), some (.int (y2 &&& (y2 - 1)))]) (le_n (le_s (le_s (le_e)))) ?_
      exact ih _ _ _ h
def wpX12_countBits (x0 : Int32) (s : gS) (Q : Int32 → gS → Prop) : Prop := ∃ n4, wX12_countBits_4 x0 Q n4 0 x0 s
set_option maxRecDepth 20000 in
theorem spX12_countBits {l : Launch} {x0 : Int32}  {s : gS} {Q : Int32 → gS → Prop} (h : wpX12_countBits x0 s Q) : Ct l mX12_countBits 1 0 0 [.int x0] (nrm s) (q_i Q) := by
  refine Ct.of (by decide) (Nat.le_of_ble_eq_true rfl) (fun X => ?_)
  refine n_L (L' := [some (.int x0), none, none]) (le_s (le_p (le_p (le_e)))) ?_
  refine r_iconst (pc := 0) (v := 0) dX12_countBits_0 (by decide) ?_
  refine r_istore_n (pc := 1) (L' := [some (.int x0), some (.int 0), none]) dX12_countBits_1 rfl (by decide) rfl ?_
  refine r_iload_n (pc := 2) (x := x0) dX12_countBits_2 rfl ?_
  refine r_istore_n (pc := 3) (L' := [some (.int x0), some (.int 0), some (.int x0)]) dX12_countBits_3 rfl (by decide) rfl ?_
  refine n_L (L' := [none, some (.int 0), some (.int x0)]) (le_n (le_s (le_s (le_e)))) ?_
  obtain ⟨n, h⟩ := h
  exact pX12_countBits_4  n _ _ _ h 
def wpX12_isDay (x0 : Int32) (s : gS) (Q : Int32 → gS → Prop) : Prop := wpX12_in x0 0 9999 s (fun r1 s1 => (r1 = 0 ∨ r1 = 1) ∧ (Q r1 s1))
set_option maxRecDepth 20000 in
theorem spX12_isDay {l : Launch} {x0 : Int32}  {s : gS} {Q : Int32 → gS → Prop} (h : wpX12_isDay x0 s Q) : Ct l mX12_isDay 2 0 0 [.int x0] (nrm s) (q_i Q) := by
  refine Ct.of (by decide) (Nat.le_of_ble_eq_true rfl) (fun X => ?_)
  refine n_L (L' := [some (.int x0)]) (le_s (le_e)) ?_
  refine r_iload_n (pc := 0) (x := x0) dX12_isDay_0 rfl ?_
  refine r_iconst (pc := 1) (v := 0) dX12_isDay_1 (by decide) ?_
  refine r_sipush (pc := 2) (v := 9999) dX12_isDay_2 (by decide) ?_
  refine n_Si0 (pc := 5) (S0 := []) (spX12_in h) gmX12_in lk_RX12_62 dX12_isDay_5 rfl rfl ⟨Nat.le_of_ble_eq_true rfl, Nat.le_of_ble_eq_true rfl⟩ (Nat.le_of_ble_eq_true rfl) ⟨Nat.zero_le _, Nat.zero_le _⟩ (fun r1 s1 h => ?_)
  obtain ⟨b2, h⟩ := h
  exact n_zret (pc := 8) dX12_isDay_8 rfl b2 (Nat.le_refl _) (Nat.le_refl _) h
def wpX12_monthLength (x0 : Int32) (x1 : Int32) (s : gS) (Q : Int32 → gS → Prop) : Prop := (¬ x1 = 2 → (x1 = 4 → Q 30 s) ∧ (¬ (x1 = 4) → (x1 = 6 → Q 30 s) ∧ (¬ (x1 = 6) → (x1 = 9 → Q 30 s) ∧ (¬ (x1 = 9) → (¬ x1 = 11 → Q 31 s) ∧ (x1 = 11 → Q 30 s))))) ∧ (x1 = 2 → (¬ (jrem x0 4) = 0 → Q 28 s) ∧ ((jrem x0 4) = 0 → Q 29 s))
set_option maxRecDepth 20000 in
theorem spX12_monthLength {l : Launch} {x0 : Int32} {x1 : Int32}  {s : gS} {Q : Int32 → gS → Prop} (h : wpX12_monthLength x0 x1 s Q) : Ct l mX12_monthLength 1 0 0 [.int x0, .int x1] (nrm s) (q_i Q) := by
  refine Ct.of (by decide) (Nat.le_of_ble_eq_true rfl) (fun X => ?_)
  refine n_L (L' := [some (.int x0), some (.int x1)]) (le_s (le_s (le_e))) ?_
  refine r_iload_n (pc := 0) (x := x1) dX12_monthLength_0 rfl ?_
  refine r_iconst (pc := 1) (v := 2) dX12_monthLength_1 (by decide) ?_
  refine r_icmp_ne (pc := 2) (tgt := 19) dX12_monthLength_2 (by decide) (fun c => ?_) (fun c => ?_)
  · replace h := h.1 c
    refine r_iload_n (pc := 19) (x := x1) dX12_monthLength_19 rfl ?_
    refine r_iconst (pc := 20) (v := 4) dX12_monthLength_20 (by decide) ?_
    refine r_icmp_eq (pc := 21) (tgt := 42) dX12_monthLength_21 (by decide) (fun c => ?_) (fun c => ?_)
    · replace h := h.1 c
      refine r_bipush (pc := 42) (v := 30) dX12_monthLength_42 (by decide) ?_
      refine r_goto (pc := 44) (tgt := 49) dX12_monthLength_44 (by decide) ?_
      exact n_iret (pc := 49) dX12_monthLength_49 rfl (Nat.le_refl _) (Nat.le_refl _) h
    · replace h := h.2 c
      refine r_iload_n (pc := 24) (x := x1) dX12_monthLength_24 rfl ?_
      refine r_bipush (pc := 25) (v := 6) dX12_monthLength_25 (by decide) ?_
      refine r_icmp_eq (pc := 27) (tgt := 42) dX12_monthLength_27 (by decide) (fun c => ?_) (fun c => ?_)
      · replace h := h.1 c
        refine r_bipush (pc := 42) (v := 30) dX12_monthLength_42 (by decide) ?_
        refine r_goto (pc := 44) (tgt := 49) dX12_monthLength_44 (by decide) ?_
        exact n_iret (pc := 49) dX12_monthLength_49 rfl (Nat.le_refl _) (Nat.le_refl _) h
      · replace h := h.2 c
        refine r_iload_n (pc := 30) (x := x1) dX12_monthLength_30 rfl ?_
        refine r_bipush (pc := 31) (v := 9) dX12_monthLength_31 (by decide) ?_
        refine r_icmp_eq (pc := 33) (tgt := 42) dX12_monthLength_33 (by decide) (fun c => ?_) (fun c => ?_)
        · replace h := h.1 c
          refine r_bipush (pc := 42) (v := 30) dX12_monthLength_42 (by decide) ?_
          refine r_goto (pc := 44) (tgt := 49) dX12_monthLength_44 (by decide) ?_
          exact n_iret (pc := 49) dX12_monthLength_49 rfl (Nat.le_refl _) (Nat.le_refl _) h
        · replace h := h.2 c
          refine r_iload_n (pc := 36) (x := x1) dX12_monthLength_36 rfl ?_
          refine r_bipush (pc := 37) (v := 11) dX12_monthLength_37 (by decide) ?_
          refine r_icmp_ne (pc := 39) (tgt := 47) dX12_monthLength_39 (by decide) (fun c => ?_) (fun c => ?_)
          · replace h := h.1 c
            refine r_bipush (pc := 47) (v := 31) dX12_monthLength_47 (by decide) ?_
            exact n_iret (pc := 49) dX12_monthLength_49 rfl (Nat.le_refl _) (Nat.le_refl _) h
          · replace h := h.2 c
            refine r_bipush (pc := 42) (v := 30) dX12_monthLength_42 (by decide) ?_
            refine r_goto (pc := 44) (tgt := 49) dX12_monthLength_44 (by decide) ?_
            exact n_iret (pc := 49) dX12_monthLength_49 rfl (Nat.le_refl _) (Nat.le_refl _) h
  · replace h := h.2 c
    refine r_iload_n (pc := 5) (x := x0) dX12_monthLength_5 rfl ?_
    refine r_iconst (pc := 6) (v := 4) dX12_monthLength_6 (by decide) ?_
    refine n_irem (pc := 7) dX12_monthLength_7 (by decide) ?_
    refine r_if_ne (pc := 8) (tgt := 16) dX12_monthLength_8 (by decide) (fun c => ?_) (fun c => ?_)
    · replace h := h.1 c
      refine r_bipush (pc := 16) (v := 28) dX12_monthLength_16 (by decide) ?_
      exact n_iret (pc := 18) dX12_monthLength_18 rfl (Nat.le_refl _) (Nat.le_refl _) h
    · replace h := h.2 c
      refine r_bipush (pc := 11) (v := 29) dX12_monthLength_11 (by decide) ?_
      refine r_goto (pc := 13) (tgt := 18) dX12_monthLength_13 (by decide) ?_
      exact n_iret (pc := 18) dX12_monthLength_18 rfl (Nat.le_refl _) (Nat.le_refl _) h
def wpX12_aheadOf (x0 : Int32) (s : gS) (Q : Int32 → gS → Prop) : Prop := Q ((365 * (x0 - 2000)) + (((x0 - 2000) + 3) / 4)) s
set_option maxRecDepth 20000 in
theorem spX12_aheadOf {l : Launch} {x0 : Int32}  {s : gS} {Q : Int32 → gS → Prop} (h : wpX12_aheadOf x0 s Q) : Ct l mX12_aheadOf 1 0 0 [.int x0] (nrm s) (q_i Q) := by
  refine Ct.of (by decide) (Nat.le_of_ble_eq_true rfl) (fun X => ?_)
  refine n_L (L' := [some (.int x0), none]) (le_s (le_p (le_e))) ?_
  refine r_iload_n (pc := 0) (x := x0) dX12_aheadOf_0 rfl ?_
  refine r_sipush (pc := 1) (v := 2000) dX12_aheadOf_1 (by decide) ?_
  refine r_isub (pc := 4) dX12_aheadOf_4 ?_
  refine r_istore_n (pc := 5) (L' := [some (.int x0), some (.int (x0 - 2000))]) dX12_aheadOf_5 rfl (by decide) rfl ?_
  refine r_sipush (pc := 6) (v := 365) dX12_aheadOf_6 (by decide) ?_
  refine r_iload_n (pc := 9) (x := x0 - 2000) dX12_aheadOf_9 rfl ?_
  refine r_imul (pc := 10) dX12_aheadOf_10 ?_
  refine r_iload_n (pc := 11) (x := x0 - 2000) dX12_aheadOf_11 rfl ?_
  refine r_iconst (pc := 12) (v := 3) dX12_aheadOf_12 (by decide) ?_
  refine r_iadd (pc := 13) dX12_aheadOf_13 ?_
  refine r_iconst (pc := 14) (v := 4) dX12_aheadOf_14 (by decide) ?_
  refine r_idiv (pc := 15) dX12_aheadOf_15 (by decide) ?_
  refine r_iadd (pc := 16) dX12_aheadOf_16 ?_
  exact n_iret (pc := 17) dX12_aheadOf_17 rfl (Nat.le_refl _) (Nat.le_refl _) h
def wX12_monthDay_7 (x0 : Int32) (x1 : Int32) (Q : Int32 → gS → Prop)  : Nat → Int32 → Int32 → gS → Prop
  | 0, _, _, _ => False
  | n + 1, y2, y3, s => (x1 ≤ y3 → Q y2 s) ∧ (¬ (x1 ≤ y3) → wpX12_monthLength x0 y3 s (fun r2 s2 => wX12_monthDay_7 x0 x1 Q n (y2 + r2) (y3 + 1) s2))
set_option maxRecDepth 20000 in
theorem pX12_monthDay_7 {l : Launch} {X : gX} {x0 : Int32} {x1 : Int32}  {Q : Int32 → gS → Prop}  : ∀ (n : Nat) (y2 : Int32) (y3 : Int32) (s : gS) (h : wX12_monthDay_7 x0 x1 Q n y2 y3 s) , Gw l mX12_monthDay (g_rm 2 0 0) X 7 [some (.int x0), some (.int x1), some (.int y2), some (.int y3)] [] (nrm s) 0 0 (g_Z X (q_i Q) 0 0) := by
  intro n
  induction n with
  | zero => intro y2 y3 s h; exact h.elim
  | succ n ih0 =>
    intro y2 y3 s h 
    have ih : ∀ (y2 : Int32) (y3 : Int32) (s : gS), wX12_monthDay_7 x0 x1 Q n y2 y3 s → Gw l mX12_monthDay (g_rm 2 0 0) X 7 [some (.int x0), some (.int x1), some (.int y2), some (.int y3)] [] (nrm s) 0 0 (g_Z X (q_i Q) 0 0) := fun y2 y3 s h => ih0 y2 y3 s h 
    refine r_iload_n (pc := 7) (x := y3) dX12_monthDay_7 rfl ?_
    refine r_iload_n (pc := 8) (x := x1) dX12_monthDay_8 rfl ?_
    refine r_icmp_ge (pc := 9) (tgt := 26) dX12_monthDay_9 (by decide) (fun c => ?_) (fun c => ?_)
    · replace h := h.1 c
      refine r_iload_n (pc := 26) (x := y2) dX12_monthDay_26 rfl ?_
      exact n_iret (pc := 27) dX12_monthDay_27 rfl (Nat.le_refl _) (Nat.le_refl _) h
    · replace h := h.2 c
      refine r_iload_n (pc := 12) (x := y2) dX12_monthDay_12 rfl ?_
      refine r_iload_n (pc := 13) (x := x0) dX12_monthDay_13 rfl ?_
      refine r_iload_n (pc := 14) (x := y3) dX12_monthDay_14 rfl ?_
      refine n_Si0 (pc := 15) (S0 := [.int y2]) (spX12_monthLength h) gmX12_monthLength lk_RX12_70 dX12_monthDay_15 rfl rfl ⟨Nat.le_of_ble_eq_true rfl, Nat.le_of_ble_eq_true rfl⟩ (Nat.le_of_ble_eq_true rfl) ⟨Nat.zero_le _, Nat.zero_le _⟩ (fun r2 s2 h => ?_)
      refine r_iadd (pc := 18) dX12_monthDay_18 ?_
      refine r_istore_n (pc := 19) (L' := [some (.int x0), some (.int x1), some (.int (y2 + r2)), some (.int y3)]) dX12_monthDay_19 rfl (by decide) rfl ?_
      refine n_iinc (pc := 20) (x := y3) (w := 1) (L' := [some (.int x0), some (.int x1), some (.int (y2 + r2)), some (.int (y3 + 1))]) dX12_monthDay_20 rfl (by decide) rfl (by decide) rfl ?_
      refine r_goto (pc := 23) (tgt := 7) dX12_monthDay_23 (by decide) ?_
      refine n_L (L' := [some (.int x0), some (.int x1), some (.int (y2 + r2)), some (.int (y3 + 1))]) (le_s (le_s (le_s (le_s (le_e))))) ?_
      exact ih _ _ _ h
def wpX12_monthDay (x0 : Int32) (x1 : Int32) (s : gS) (Q : Int32 → gS → Prop) : Prop := wpX12_aheadOf x0 s (fun r1 s1 => ∃ n7, wX12_monthDay_7 x0 x1 Q n7 r1 1 s1)
set_option maxRecDepth 20000 in
theorem spX12_monthDay {l : Launch} {x0 : Int32} {x1 : Int32}  {s : gS} {Q : Int32 → gS → Prop} (h : wpX12_monthDay x0 x1 s Q) : Ct l mX12_monthDay 2 0 0 [.int x0, .int x1] (nrm s) (q_i Q) := by
  refine Ct.of (by decide) (Nat.le_of_ble_eq_true rfl) (fun X => ?_)
  refine n_L (L' := [some (.int x0), some (.int x1), none, none]) (le_s (le_s (le_p (le_p (le_e))))) ?_
  refine r_iload_n (pc := 0) (x := x0) dX12_monthDay_0 rfl ?_
  refine n_Si0 (pc := 1) (S0 := []) (spX12_aheadOf h) gmX12_aheadOf lk_RX12_66 dX12_monthDay_1 rfl rfl ⟨Nat.le_of_ble_eq_true rfl, Nat.le_of_ble_eq_true rfl⟩ (Nat.le_of_ble_eq_true rfl) ⟨Nat.zero_le _, Nat.zero_le _⟩ (fun r1 s1 h => ?_)
  refine r_istore_n (pc := 4) (L' := [some (.int x0), some (.int x1), some (.int r1), none]) dX12_monthDay_4 rfl (by decide) rfl ?_
  refine r_iconst (pc := 5) (v := 1) dX12_monthDay_5 (by decide) ?_
  refine r_istore_n (pc := 6) (L' := [some (.int x0), some (.int x1), some (.int r1), some (.int 1)]) dX12_monthDay_6 rfl (by decide) rfl ?_
  refine n_L (L' := [some (.int x0), some (.int x1), some (.int r1), some (.int 1)]) (le_s (le_s (le_s (le_s (le_e))))) ?_
  obtain ⟨n, h⟩ := h
  exact pX12_monthDay_7  n _ _ _ h 
def wX12_yearOf_4 (x0 : Int32) (Q : Int32 → gS → Prop)  : Nat → Int32 → gS → Prop
  | 0, _, _ => False
  | n + 1, y1, s => wpX12_aheadOf (y1 + 1) s (fun r1 s1 => (x0 < r1 → Q y1 s1) ∧ (¬ (x0 < r1) → wX12_yearOf_4 x0 Q n (y1 + 1) s1))
set_option maxRecDepth 20000 in
theorem pX12_yearOf_4 {l : Launch} {X : gX} {x0 : Int32}  {Q : Int32 → gS → Prop}  : ∀ (n : Nat) (y1 : Int32) (s : gS) (h : wX12_yearOf_4 x0 Q n y1 s) , Gw l mX12_yearOf (g_rm 2 0 0) X 4 [some (.int x0), some (.int y1)] [] (nrm s) 0 0 (g_Z X (q_i Q) 0 0) := by
  intro n
  induction n with
  | zero => intro y1 s h; exact h.elim
  | succ n ih0 =>
    intro y1 s h 
    have ih : ∀ (y1 : Int32) (s : gS), wX12_yearOf_4 x0 Q n y1 s → Gw l mX12_yearOf (g_rm 2 0 0) X 4 [some (.int x0), some (.int y1)] [] (nrm s) 0 0 (g_Z X (q_i Q) 0 0) := fun y1 s h => ih0 y1 s h 
    refine r_iload_n (pc := 4) (x := y1) dX12_yearOf_4 rfl ?_
    refine r_iconst (pc := 5) (v := 1) dX12_yearOf_5 (by decide) ?_
    refine r_iadd (pc := 6) dX12_yearOf_6 ?_
    refine n_Si0 (pc := 7) (S0 := []) (spX12_aheadOf h) gmX12_aheadOf lk_RX12_66 dX12_yearOf_7 rfl rfl ⟨Nat.le_of_ble_eq_true rfl, Nat.le_of_ble_eq_true rfl⟩ (Nat.le_of_ble_eq_true rfl) ⟨Nat.zero_le _, Nat.zero_le _⟩ (fun r1 s1 h => ?_)
    refine r_iload_n (pc := 10) (x := x0) dX12_yearOf_10 rfl ?_
    refine r_icmp_gt (pc := 11) (tgt := 20) dX12_yearOf_11 (by decide) (fun c => ?_) (fun c => ?_)
    · replace h := h.1 c
      refine r_iload_n (pc := 20) (x := y1) dX12_yearOf_20 rfl ?_
      exact n_iret (pc := 21) dX12_yearOf_21 rfl (Nat.le_refl _) (Nat.le_refl _) h
    · replace h := h.2 c
      refine n_iinc (pc := 14) (x := y1) (w := 1) (L' := [some (.int x0), some (.int (y1 + 1))]) dX12_yearOf_14 rfl (by decide) rfl (by decide) rfl ?_
      refine r_goto (pc := 17) (tgt := 4) dX12_yearOf_17 (by decide) ?_
      refine n_L (L' := [some (.int x0), some (.int (y1 + 1))]) (le_s (le_s (le_e))) ?_
      exact ih _ _ h
def wpX12_yearOf (x0 : Int32) (s : gS) (Q : Int32 → gS → Prop) : Prop := ∃ n4, wX12_yearOf_4 x0 Q n4 2000 s
set_option maxRecDepth 20000 in
theorem spX12_yearOf {l : Launch} {x0 : Int32}  {s : gS} {Q : Int32 → gS → Prop} (h : wpX12_yearOf x0 s Q) : Ct l mX12_yearOf 2 0 0 [.int x0] (nrm s) (q_i Q) := by
  refine Ct.of (by decide) (Nat.le_of_ble_eq_true rfl) (fun X => ?_)
  refine n_L (L' := [some (.int x0), none]) (le_s (le_p (le_e))) ?_
  refine r_sipush (pc := 0) (v := 2000) dX12_yearOf_0 (by decide) ?_
  refine r_istore_n (pc := 3) (L' := [some (.int x0), some (.int 2000)]) dX12_yearOf_3 rfl (by decide) rfl ?_
  refine n_L (L' := [some (.int x0), some (.int 2000)]) (le_s (le_s (le_e))) ?_
  obtain ⟨n, h⟩ := h
  exact pX12_yearOf_4  n _ _ h 
def wX12_monthOf_7 (x0 : Int32) (Q : Int32 → gS → Prop)  : Nat → Int32 → Int32 → gS → Prop
  | 0, _, _, _ => False
  | n + 1, y1, y2, s => (12 ≤ y2 → Q y2 s) ∧ (¬ (12 ≤ y2) → wpX12_monthDay y1 (y2 + 1) s (fun r2 s2 => (x0 < r2 → Q y2 s2) ∧ (¬ (x0 < r2) → wX12_monthOf_7 x0 Q n y1 (y2 + 1) s2)))
set_option maxRecDepth 20000 in
theorem pX12_monthOf_7 {l : Launch} {X : gX} {x0 : Int32}  {Q : Int32 → gS → Prop}  : ∀ (n : Nat) (y1 : Int32) (y2 : Int32) (s : gS) (h : wX12_monthOf_7 x0 Q n y1 y2 s) , Gw l mX12_monthOf (g_rm 3 0 0) X 7 [some (.int x0), some (.int y1), some (.int y2)] [] (nrm s) 0 0 (g_Z X (q_i Q) 0 0) := by
  intro n
  induction n with
  | zero => intro y1 y2 s h; exact h.elim
  | succ n ih0 =>
    intro y1 y2 s h 
    have ih : ∀ (y1 : Int32) (y2 : Int32) (s : gS), wX12_monthOf_7 x0 Q n y1 y2 s → Gw l mX12_monthOf (g_rm 3 0 0) X 7 [some (.int x0), some (.int y1), some (.int y2)] [] (nrm s) 0 0 (g_Z X (q_i Q) 0 0) := fun y1 y2 s h => ih0 y1 y2 s h 
    refine r_iload_n (pc := 7) (x := y2) dX12_monthOf_7 rfl ?_
    refine r_bipush (pc := 8) (v := 12) dX12_monthOf_8 (by decide) ?_
    refine r_icmp_ge (pc := 10) (tgt := 30) dX12_monthOf_10 (by decide) (fun c => ?_) (fun c => ?_)
    · replace h := h.1 c
      refine r_iload_n (pc := 30) (x := y2) dX12_monthOf_30 rfl ?_
      exact n_iret (pc := 31) dX12_monthOf_31 rfl (Nat.le_refl _) (Nat.le_refl _) h
    · replace h := h.2 c
      refine r_iload_n (pc := 13) (x := y1) dX12_monthOf_13 rfl ?_
      refine r_iload_n (pc := 14) (x := y2) dX12_monthOf_14 rfl ?_
      refine r_iconst (pc := 15) (v := 1) dX12_monthOf_15 (by decide) ?_
      refine r_iadd (pc := 16) dX12_monthOf_16 ?_
      refine n_Si0 (pc := 17) (S0 := []) (spX12_monthDay h) gmX12_monthDay lk_RX12_77 dX12_monthOf_17 rfl rfl ⟨Nat.le_of_ble_eq_true rfl, Nat.le_of_ble_eq_true rfl⟩ (Nat.le_of_ble_eq_true rfl) ⟨Nat.zero_le _, Nat.zero_le _⟩ (fun r2 s2 h => ?_)
      refine r_iload_n (pc := 20) (x := x0) dX12_monthOf_20 rfl ?_
      refine r_icmp_gt (pc := 21) (tgt := 30) dX12_monthOf_21 (by decide) (fun c => ?_) (fun c => ?_)
      · replace h := h.1 c
        refine r_iload_n (pc := 30) (x := y2) dX12_monthOf_30 rfl ?_
        exact n_iret (pc := 31) dX12_monthOf_31 rfl (Nat.le_refl _) (Nat.le_refl _) h
      · replace h := h.2 c
        refine n_iinc (pc := 24) (x := y2) (w := 1) (L' := [some (.int x0), some (.int y1), some (.int (y2 + 1))]) dX12_monthOf_24 rfl (by decide) rfl (by decide) rfl ?_
        refine r_goto (pc := 27) (tgt := 7) dX12_monthOf_27 (by decide) ?_
        refine n_L (L' := [some (.int x0), some (.int y1), some (.int (y2 + 1))]) (le_s (le_s (le_s (le_e)))) ?_
        exact ih _ _ _ h
def wpX12_monthOf (x0 : Int32) (s : gS) (Q : Int32 → gS → Prop) : Prop := wpX12_yearOf x0 s (fun r1 s1 => ∃ n7, wX12_monthOf_7 x0 Q n7 r1 1 s1)
set_option maxRecDepth 20000 in
theorem spX12_monthOf {l : Launch} {x0 : Int32}  {s : gS} {Q : Int32 → gS → Prop} (h : wpX12_monthOf x0 s Q) : Ct l mX12_monthOf 3 0 0 [.int x0] (nrm s) (q_i Q) := by
  refine Ct.of (by decide) (Nat.le_of_ble_eq_true rfl) (fun X => ?_)
  refine n_L (L' := [some (.int x0), none, none]) (le_s (le_p (le_p (le_e)))) ?_
  refine r_iload_n (pc := 0) (x := x0) dX12_monthOf_0 rfl ?_
  refine n_Si0 (pc := 1) (S0 := []) (spX12_yearOf h) gmX12_yearOf lk_RX12_74 dX12_monthOf_1 rfl rfl ⟨Nat.le_of_ble_eq_true rfl, Nat.le_of_ble_eq_true rfl⟩ (Nat.le_of_ble_eq_true rfl) ⟨Nat.zero_le _, Nat.zero_le _⟩ (fun r1 s1 h => ?_)
  refine r_istore_n (pc := 4) (L' := [some (.int x0), some (.int r1), none]) dX12_monthOf_4 rfl (by decide) rfl ?_
  refine r_iconst (pc := 5) (v := 1) dX12_monthOf_5 (by decide) ?_
  refine r_istore_n (pc := 6) (L' := [some (.int x0), some (.int r1), some (.int 1)]) dX12_monthOf_6 rfl (by decide) rfl ?_
  refine n_L (L' := [some (.int x0), some (.int r1), some (.int 1)]) (le_s (le_s (le_s (le_e)))) ?_
  obtain ⟨n, h⟩ := h
  exact pX12_monthOf_7  n _ _ _ h 
def wpX12_numberOf (x0 : Int32) (s : gS) (Q : Int32 → gS → Prop) : Prop := wpX12_yearOf x0 s (fun r1 s1 => wpX12_monthOf x0 s1 (fun r2 s2 => wpX12_monthDay r1 r2 s2 (fun r3 s3 => Q ((x0 - r3) + 1) s3)))
set_option maxRecDepth 20000 in
theorem spX12_numberOf {l : Launch} {x0 : Int32}  {s : gS} {Q : Int32 → gS → Prop} (h : wpX12_numberOf x0 s Q) : Ct l mX12_numberOf 4 0 0 [.int x0] (nrm s) (q_i Q) := by
  refine Ct.of (by decide) (Nat.le_of_ble_eq_true rfl) (fun X => ?_)
  refine n_L (L' := [some (.int x0)]) (le_s (le_e)) ?_
  refine r_iload_n (pc := 0) (x := x0) dX12_numberOf_0 rfl ?_
  refine r_iload_n (pc := 1) (x := x0) dX12_numberOf_1 rfl ?_
  refine n_Si0 (pc := 2) (S0 := [.int x0]) (spX12_yearOf h) gmX12_yearOf lk_RX12_74 dX12_numberOf_2 rfl rfl ⟨Nat.le_of_ble_eq_true rfl, Nat.le_of_ble_eq_true rfl⟩ (Nat.le_of_ble_eq_true rfl) ⟨Nat.zero_le _, Nat.zero_le _⟩ (fun r1 s1 h => ?_)
  refine r_iload_n (pc := 5) (x := x0) dX12_numberOf_5 rfl ?_
  refine n_Si0 (pc := 6) (S0 := [.int r1, .int x0]) (spX12_monthOf h) gmX12_monthOf lk_RX12_80 dX12_numberOf_6 rfl rfl ⟨Nat.le_of_ble_eq_true rfl, Nat.le_of_ble_eq_true rfl⟩ (Nat.le_of_ble_eq_true rfl) ⟨Nat.zero_le _, Nat.zero_le _⟩ (fun r2 s2 h => ?_)
  refine n_Si0 (pc := 9) (S0 := [.int x0]) (spX12_monthDay h) gmX12_monthDay lk_RX12_77 dX12_numberOf_9 rfl rfl ⟨Nat.le_of_ble_eq_true rfl, Nat.le_of_ble_eq_true rfl⟩ (Nat.le_of_ble_eq_true rfl) ⟨Nat.zero_le _, Nat.zero_le _⟩ (fun r3 s3 h => ?_)
  refine r_isub (pc := 12) dX12_numberOf_12 ?_
  refine r_iconst (pc := 13) (v := 1) dX12_numberOf_13 (by decide) ?_
  refine r_iadd (pc := 14) dX12_numberOf_14 ?_
  exact n_iret (pc := 15) dX12_numberOf_15 rfl (Nat.le_refl _) (Nat.le_refl _) h
def wpX12_weekday (x0 : Int32) (s : gS) (Q : Int32 → gS → Prop) : Prop := Q (jrem (x0 + 5) 7) s
set_option maxRecDepth 20000 in
theorem spX12_weekday {l : Launch} {x0 : Int32}  {s : gS} {Q : Int32 → gS → Prop} (h : wpX12_weekday x0 s Q) : Ct l mX12_weekday 1 0 0 [.int x0] (nrm s) (q_i Q) := by
  refine Ct.of (by decide) (Nat.le_of_ble_eq_true rfl) (fun X => ?_)
  refine n_L (L' := [some (.int x0)]) (le_s (le_e)) ?_
  refine r_iload_n (pc := 0) (x := x0) dX12_weekday_0 rfl ?_
  refine r_iconst (pc := 1) (v := 5) dX12_weekday_1 (by decide) ?_
  refine r_iadd (pc := 2) dX12_weekday_2 ?_
  refine r_bipush (pc := 3) (v := 7) dX12_weekday_3 (by decide) ?_
  refine n_irem (pc := 5) dX12_weekday_5 (by decide) ?_
  exact n_iret (pc := 6) dX12_weekday_6 rfl (Nat.le_refl _) (Nat.le_refl _) h
def wpX12_dayOf (x0 : Int32) (x1 : Int32) (x2 : Int32) (s : gS) (Q : Int32 → gS → Prop) : Prop := wpX12_in x0 2000 2027 s (fun r1 s1 => (r1 = 0 → Q (-1) s1) ∧ (¬ (r1 = 0) → wpX12_in x1 1 12 s1 (fun r2 s2 => (r2 = 0 → Q (-1) s2) ∧ (¬ (r2 = 0) → wpX12_monthLength x0 x1 s2 (fun r3 s3 => wpX12_in x2 1 r3 s3 (fun r4 s4 => (¬ r4 = 0 → wpX12_monthDay x0 x1 s4 (fun r5 s5 => wpX12_isDay ((r5 + x2) - 1) s5 (fun r6 s6 => (r6 = 0 → Q (-1) s6) ∧ (¬ (r6 = 0) → Q ((r5 + x2) - 1) s6)))) ∧ (r4 = 0 → Q (-1) s4)))))))
set_option maxRecDepth 20000 in
theorem spX12_dayOf {l : Launch} {x0 : Int32} {x1 : Int32} {x2 : Int32}  {s : gS} {Q : Int32 → gS → Prop} (h : wpX12_dayOf x0 x1 x2 s Q) : Ct l mX12_dayOf 3 0 0 [.int x0, .int x1, .int x2] (nrm s) (q_i Q) := by
  refine Ct.of (by decide) (Nat.le_of_ble_eq_true rfl) (fun X => ?_)
  refine n_L (L' := [some (.int x0), some (.int x1), some (.int x2), none]) (le_s (le_s (le_s (le_p (le_e))))) ?_
  refine r_iload_n (pc := 0) (x := x0) dX12_dayOf_0 rfl ?_
  refine r_sipush (pc := 1) (v := 2000) dX12_dayOf_1 (by decide) ?_
  refine r_sipush (pc := 4) (v := 2027) dX12_dayOf_4 (by decide) ?_
  refine n_Si0 (pc := 7) (S0 := []) (spX12_in h) gmX12_in lk_RX12_62 dX12_dayOf_7 rfl rfl ⟨Nat.le_of_ble_eq_true rfl, Nat.le_of_ble_eq_true rfl⟩ (Nat.le_of_ble_eq_true rfl) ⟨Nat.zero_le _, Nat.zero_le _⟩ (fun r1 s1 h => ?_)
  refine r_if_eq (pc := 10) (tgt := 36) dX12_dayOf_10 (by decide) (fun c => ?_) (fun c => ?_)
  · replace h := h.1 c
    refine r_iconst (pc := 36) (v := (-1)) dX12_dayOf_36 (by decide) ?_
    exact n_iret (pc := 37) dX12_dayOf_37 rfl (Nat.le_refl _) (Nat.le_refl _) h
  · replace h := h.2 c
    refine r_iload_n (pc := 13) (x := x1) dX12_dayOf_13 rfl ?_
    refine r_iconst (pc := 14) (v := 1) dX12_dayOf_14 (by decide) ?_
    refine r_bipush (pc := 15) (v := 12) dX12_dayOf_15 (by decide) ?_
    refine n_Si0 (pc := 17) (S0 := []) (spX12_in h) gmX12_in lk_RX12_62 dX12_dayOf_17 rfl rfl ⟨Nat.le_of_ble_eq_true rfl, Nat.le_of_ble_eq_true rfl⟩ (Nat.le_of_ble_eq_true rfl) ⟨Nat.zero_le _, Nat.zero_le _⟩ (fun r2 s2 h => ?_)
    refine r_if_eq (pc := 20) (tgt := 36) dX12_dayOf_20 (by decide) (fun c => ?_) (fun c => ?_)
    · replace h := h.1 c
      refine r_iconst (pc := 36) (v := (-1)) dX12_dayOf_36 (by decide) ?_
      exact n_iret (pc := 37) dX12_dayOf_37 rfl (Nat.le_refl _) (Nat.le_refl _) h
    · replace h := h.2 c
      refine r_iload_n (pc := 23) (x := x2) dX12_dayOf_23 rfl ?_
      refine r_iconst (pc := 24) (v := 1) dX12_dayOf_24 (by decide) ?_
      refine r_iload_n (pc := 25) (x := x0) dX12_dayOf_25 rfl ?_
      refine r_iload_n (pc := 26) (x := x1) dX12_dayOf_26 rfl ?_
      refine n_Si0 (pc := 27) (S0 := [.int 1, .int x2]) (spX12_monthLength h) gmX12_monthLength lk_RX12_70 dX12_dayOf_27 rfl rfl ⟨Nat.le_of_ble_eq_true rfl, Nat.le_of_ble_eq_true rfl⟩ (Nat.le_of_ble_eq_true rfl) ⟨Nat.zero_le _, Nat.zero_le _⟩ (fun r3 s3 h => ?_)
      refine n_Si0 (pc := 30) (S0 := []) (spX12_in h) gmX12_in lk_RX12_62 dX12_dayOf_30 rfl rfl ⟨Nat.le_of_ble_eq_true rfl, Nat.le_of_ble_eq_true rfl⟩ (Nat.le_of_ble_eq_true rfl) ⟨Nat.zero_le _, Nat.zero_le _⟩ (fun r4 s4 h => ?_)
      refine r_if_ne (pc := 33) (tgt := 38) dX12_dayOf_33 (by decide) (fun c => ?_) (fun c => ?_)
      · replace h := h.1 c
        refine r_iload_n (pc := 38) (x := x0) dX12_dayOf_38 rfl ?_
        refine r_iload_n (pc := 39) (x := x1) dX12_dayOf_39 rfl ?_
        refine n_Si0 (pc := 40) (S0 := []) (spX12_monthDay h) gmX12_monthDay lk_RX12_77 dX12_dayOf_40 rfl rfl ⟨Nat.le_of_ble_eq_true rfl, Nat.le_of_ble_eq_true rfl⟩ (Nat.le_of_ble_eq_true rfl) ⟨Nat.zero_le _, Nat.zero_le _⟩ (fun r5 s5 h => ?_)
        refine r_iload_n (pc := 43) (x := x2) dX12_dayOf_43 rfl ?_
        refine r_iadd (pc := 44) dX12_dayOf_44 ?_
        refine r_iconst (pc := 45) (v := 1) dX12_dayOf_45 (by decide) ?_
        refine r_isub (pc := 46) dX12_dayOf_46 ?_
        refine r_istore_n (pc := 47) (L' := [some (.int x0), some (.int x1), some (.int x2), some (.int ((r5 + x2) - 1))]) dX12_dayOf_47 rfl (by decide) rfl ?_
        refine r_iload_n (pc := 48) (x := (r5 + x2) - 1) dX12_dayOf_48 rfl ?_
        refine n_Si0 (pc := 49) (S0 := []) (spX12_isDay h) gmX12_isDay lk_RX12_83 dX12_dayOf_49 rfl rfl ⟨Nat.le_of_ble_eq_true rfl, Nat.le_of_ble_eq_true rfl⟩ (Nat.le_of_ble_eq_true rfl) ⟨Nat.zero_le _, Nat.zero_le _⟩ (fun r6 s6 h => ?_)
        refine r_if_eq (pc := 52) (tgt := 59) dX12_dayOf_52 (by decide) (fun c => ?_) (fun c => ?_)
        · replace h := h.1 c
          refine r_iconst (pc := 59) (v := (-1)) dX12_dayOf_59 (by decide) ?_
          exact n_iret (pc := 60) dX12_dayOf_60 rfl (Nat.le_refl _) (Nat.le_refl _) h
        · replace h := h.2 c
          refine r_iload_n (pc := 55) (x := (r5 + x2) - 1) dX12_dayOf_55 rfl ?_
          refine r_goto (pc := 56) (tgt := 60) dX12_dayOf_56 (by decide) ?_
          exact n_iret (pc := 60) dX12_dayOf_60 rfl (Nat.le_refl _) (Nat.le_refl _) h
      · replace h := h.2 c
        refine r_iconst (pc := 36) (v := (-1)) dX12_dayOf_36 (by decide) ?_
        exact n_iret (pc := 37) dX12_dayOf_37 rfl (Nat.le_refl _) (Nat.le_refl _) h
def wpX12_day (x1 : Int32) (x2 : Int32) (x3 : Int32) (s : gS) (Q : Int32 → gS → Prop) : Prop := wpX12_dayOf x1 x2 x3 (wi s 177 5 0) (fun r1 s1 => Q r1 s1)
set_option maxRecDepth 20000 in
theorem spX12_day {l : Launch} {x1 : Int32} {x2 : Int32} {x3 : Int32}  {s : gS} {Q : Int32 → gS → Prop} (h : wpX12_day x1 x2 x3 s Q) : Ct l mX12_day 4 0 0 [.ref 177, .int x1, .int x2, .int x3] (nrm s) (q_i Q) := by
  refine Ct.of (by decide) (Nat.le_of_ble_eq_true rfl) (fun X => ?_)
  refine n_L (L' := [some (.ref 177), some (.int x1), some (.int x2), some (.int x3)]) (le_s (le_s (le_s (le_s (le_e))))) ?_
  refine r_aload_n (pc := 0) (x := 177) dX12_day_0 rfl ?_
  refine r_iconst (pc := 1) (v := 0) dX12_day_1 (by decide) ?_
  refine n_putI (pc := 2) (j := 5) dX12_day_2 fl_RX12_55 fw_12_5 (by decide) sh_177 rfl rfl ?_
  refine r_iload_n (pc := 5) (x := x1) dX12_day_5 rfl ?_
  refine r_iload_n (pc := 6) (x := x2) dX12_day_6 rfl ?_
  refine r_iload_n (pc := 7) (x := x3) dX12_day_7 rfl ?_
  refine n_Si0 (pc := 8) (S0 := []) (spX12_dayOf h) gmX12_dayOf lk_RX12_87 dX12_day_8 rfl rfl ⟨Nat.le_of_ble_eq_true rfl, Nat.le_of_ble_eq_true rfl⟩ (Nat.le_of_ble_eq_true rfl) ⟨Nat.zero_le _, Nat.zero_le _⟩ (fun r1 s1 h => ?_)
  exact n_iret (pc := 11) dX12_day_11 rfl (Nat.le_refl _) (Nat.le_refl _) h
def wpX12_date (x1 : Int32) (s : gS) (Q : Int32 → gS → Prop) : Prop := wpX12_isDay x1 (wi s 177 5 0) (fun r1 s1 => (¬ r1 = 0 → wpX12_monthOf x1 (wi s1 177 4 0) (fun r2 s2 => wpX12_tell r2.toInt64 s2 (fun s3 => wpX12_numberOf x1 s3 (fun r4 s4 => wpX12_tell r4.toInt64 s4 (fun s5 => wpX12_weekday x1 s5 (fun r6 s6 => wpX12_tell r6.toInt64 s6 (fun s7 => wpX12_yearOf x1 s7 (fun r8 s8 => Q r8 s8)))))))) ∧ (r1 = 0 → Q (-1) s1))
set_option maxRecDepth 20000 in
theorem spX12_date {l : Launch} {x1 : Int32}  {s : gS} {Q : Int32 → gS → Prop} (h : wpX12_date x1 s Q) : Ct l mX12_date 5 0 0 [.ref 177, .int x1] (nrm s) (q_i Q) := by
  refine Ct.of (by decide) (Nat.le_of_ble_eq_true rfl) (fun X => ?_)
  refine n_L (L' := [some (.ref 177), some (.int x1)]) (le_s (le_s (le_e))) ?_
  refine r_aload_n (pc := 0) (x := 177) dX12_date_0 rfl ?_
  refine r_iconst (pc := 1) (v := 0) dX12_date_1 (by decide) ?_
  refine n_putI (pc := 2) (j := 5) dX12_date_2 fl_RX12_55 fw_12_5 (by decide) sh_177 rfl rfl ?_
  refine r_iload_n (pc := 5) (x := x1) dX12_date_5 rfl ?_
  refine n_Si0 (pc := 6) (S0 := []) (spX12_isDay h) gmX12_isDay lk_RX12_83 dX12_date_6 rfl rfl ⟨Nat.le_of_ble_eq_true rfl, Nat.le_of_ble_eq_true rfl⟩ (Nat.le_of_ble_eq_true rfl) ⟨Nat.zero_le _, Nat.zero_le _⟩ (fun r1 s1 h => ?_)
  refine r_if_ne (pc := 9) (tgt := 14) dX12_date_9 (by decide) (fun c => ?_) (fun c => ?_)
  · replace h := h.1 c
    refine r_aload_n (pc := 14) (x := 177) dX12_date_14 rfl ?_
    refine r_iconst (pc := 15) (v := 0) dX12_date_15 (by decide) ?_
    refine n_putI (pc := 16) (j := 4) dX12_date_16 fl_RX12_59 fw_12_4 (by decide) sh_177 rfl rfl ?_
    refine r_aload_n (pc := 19) (x := 177) dX12_date_19 rfl ?_
    refine r_iload_n (pc := 20) (x := x1) dX12_date_20 rfl ?_
    refine n_Si0 (pc := 21) (S0 := [.ref 177]) (spX12_monthOf h) gmX12_monthOf lk_RX12_80 dX12_date_21 rfl rfl ⟨Nat.le_of_ble_eq_true rfl, Nat.le_of_ble_eq_true rfl⟩ (Nat.le_of_ble_eq_true rfl) ⟨Nat.zero_le _, Nat.zero_le _⟩ (fun r2 s2 h => ?_)
    refine r_i2l (pc := 24) dX12_date_24 ?_
    refine n_Vv0 (pc := 25) (S0 := []) (spX12_tell h) gmX12_tell selX12_tell lk_RX12_91 dX12_date_25 rfl (by decide) sh_177 ⟨rfl, by decide⟩ rfl ⟨Nat.le_of_ble_eq_true rfl, Nat.le_of_ble_eq_true rfl⟩ (Nat.le_of_ble_eq_true rfl) ⟨Nat.zero_le _, Nat.zero_le _⟩ (fun s3 h => ?_)
    refine r_aload_n (pc := 28) (x := 177) dX12_date_28 rfl ?_
    refine r_iload_n (pc := 29) (x := x1) dX12_date_29 rfl ?_
    refine n_Si0 (pc := 30) (S0 := [.ref 177]) (spX12_numberOf h) gmX12_numberOf lk_RX12_95 dX12_date_30 rfl rfl ⟨Nat.le_of_ble_eq_true rfl, Nat.le_of_ble_eq_true rfl⟩ (Nat.le_of_ble_eq_true rfl) ⟨Nat.zero_le _, Nat.zero_le _⟩ (fun r4 s4 h => ?_)
    refine r_i2l (pc := 33) dX12_date_33 ?_
    refine n_Vv0 (pc := 34) (S0 := []) (spX12_tell h) gmX12_tell selX12_tell lk_RX12_91 dX12_date_34 rfl (by decide) sh_177 ⟨rfl, by decide⟩ rfl ⟨Nat.le_of_ble_eq_true rfl, Nat.le_of_ble_eq_true rfl⟩ (Nat.le_of_ble_eq_true rfl) ⟨Nat.zero_le _, Nat.zero_le _⟩ (fun s5 h => ?_)
    refine r_aload_n (pc := 37) (x := 177) dX12_date_37 rfl ?_
    refine r_iload_n (pc := 38) (x := x1) dX12_date_38 rfl ?_
    refine n_Si0 (pc := 39) (S0 := [.ref 177]) (spX12_weekday h) gmX12_weekday lk_RX12_98 dX12_date_39 rfl rfl ⟨Nat.le_of_ble_eq_true rfl, Nat.le_of_ble_eq_true rfl⟩ (Nat.le_of_ble_eq_true rfl) ⟨Nat.zero_le _, Nat.zero_le _⟩ (fun r6 s6 h => ?_)
    refine r_i2l (pc := 42) dX12_date_42 ?_
    refine n_Vv0 (pc := 43) (S0 := []) (spX12_tell h) gmX12_tell selX12_tell lk_RX12_91 dX12_date_43 rfl (by decide) sh_177 ⟨rfl, by decide⟩ rfl ⟨Nat.le_of_ble_eq_true rfl, Nat.le_of_ble_eq_true rfl⟩ (Nat.le_of_ble_eq_true rfl) ⟨Nat.zero_le _, Nat.zero_le _⟩ (fun s7 h => ?_)
    refine r_iload_n (pc := 46) (x := x1) dX12_date_46 rfl ?_
    refine n_Si0 (pc := 47) (S0 := []) (spX12_yearOf h) gmX12_yearOf lk_RX12_74 dX12_date_47 rfl rfl ⟨Nat.le_of_ble_eq_true rfl, Nat.le_of_ble_eq_true rfl⟩ (Nat.le_of_ble_eq_true rfl) ⟨Nat.zero_le _, Nat.zero_le _⟩ (fun r8 s8 h => ?_)
    exact n_iret (pc := 50) dX12_date_50 rfl (Nat.le_refl _) (Nat.le_refl _) h
  · replace h := h.2 c
    refine r_iconst (pc := 12) (v := (-1)) dX12_date_12 (by decide) ?_
    exact n_iret (pc := 13) dX12_date_13 rfl (Nat.le_refl _) (Nat.le_refl _) h
def wX12_move_18 (x0 : Int32) (x1 : Int32) (x2 : Int32) (Q : Int32 → gS → Prop)  (z0 : Int32) (z1 : Int32) (s : gS) : Prop := wpX12_isDay (z1 + z0) s (fun r7 s7 => (r7 = 0 → Q (-1) s7) ∧ (¬ (r7 = 0) → Q (z1 + z0) s7))
set_option maxRecDepth 20000 in
theorem pX12_move_18 {l : Launch} {X : gX} {x0 : Int32} {x1 : Int32} {x2 : Int32}  {Q : Int32 → gS → Prop}  (z0 : Int32) (z1 : Int32) (s : gS) (h : wX12_move_18 x0 x1 x2 Q z0 z1 s)  : Gw l mX12_move (g_rm 5 0 0) X 18 [none, none, none, none, none, none] [.int z0, .int z1] (nrm s) 0 0 (g_Z X (q_i Q) 0 0) := by
  refine r_iadd (pc := 18) dX12_move_18 ?_
  refine r_istore_n (pc := 19) (L' := [none, none, none, some (.int (z1 + z0)), none, none]) dX12_move_19 rfl (by decide) rfl ?_
  refine r_iload_n (pc := 20) (x := z1 + z0) dX12_move_20 rfl ?_
  refine n_Si0 (pc := 21) (S0 := []) (spX12_isDay h) gmX12_isDay lk_RX12_83 dX12_move_21 rfl rfl ⟨Nat.le_of_ble_eq_true rfl, Nat.le_of_ble_eq_true rfl⟩ (Nat.le_of_ble_eq_true rfl) ⟨Nat.zero_le _, Nat.zero_le _⟩ (fun r7 s7 h => ?_)
  refine r_if_eq (pc := 24) (tgt := 31) dX12_move_24 (by decide) (fun c => ?_) (fun c => ?_)
  · replace h := h.1 c
    refine r_iconst (pc := 31) (v := (-1)) dX12_move_31 (by decide) ?_
    exact n_iret (pc := 32) dX12_move_32 rfl (Nat.le_refl _) (Nat.le_refl _) h
  · replace h := h.2 c
    refine r_iload_n (pc := 27) (x := z1 + z0) dX12_move_27 rfl ?_
    refine r_goto (pc := 28) (tgt := 32) dX12_move_28 (by decide) ?_
    exact n_iret (pc := 32) dX12_move_32 rfl (Nat.le_refl _) (Nat.le_refl _) h
def wX12_move_64 (x0 : Int32) (x1 : Int32) (x2 : Int32) (Q : Int32 → gS → Prop)  (z0 : Int32) (z1 : Int32) (s : gS) : Prop := wpX12_in (z1 + z0) 0 335 s (fun r3 s3 => (¬ r3 = 0 → wpX12_numberOf x0 s3 (fun r4 s4 => wpX12_monthLength (2000 + ((z1 + z0) / 12)) ((jrem (z1 + z0) 12) + 1) s4 (fun r5 s5 => wpX12_dayOf (2000 + ((z1 + z0) / 12)) ((jrem (z1 + z0) 12) + 1) (jmin r4 r5) s5 (fun r6 s6 => Q r6 s6)))) ∧ (r3 = 0 → Q (-1) s3))
set_option maxRecDepth 20000 in
theorem pX12_move_64 {l : Launch} {X : gX} {x0 : Int32} {x1 : Int32} {x2 : Int32}  {Q : Int32 → gS → Prop}  (z0 : Int32) (z1 : Int32) (s : gS) (h : wX12_move_64 x0 x1 x2 Q z0 z1 s)  : Gw l mX12_move (g_rm 5 0 0) X 64 [some (.int x0), none, none, none, none, none] [.int z0, .int z1] (nrm s) 0 0 (g_Z X (q_i Q) 0 0) := by
  refine r_iadd (pc := 64) dX12_move_64 ?_
  refine r_istore_n (pc := 65) (L' := [some (.int x0), none, none, some (.int (z1 + z0)), none, none]) dX12_move_65 rfl (by decide) rfl ?_
  refine r_iload_n (pc := 66) (x := z1 + z0) dX12_move_66 rfl ?_
  refine r_iconst (pc := 67) (v := 0) dX12_move_67 (by decide) ?_
  refine r_sipush (pc := 68) (v := 335) dX12_move_68 (by decide) ?_
  refine n_Si0 (pc := 71) (S0 := []) (spX12_in h) gmX12_in lk_RX12_62 dX12_move_71 rfl rfl ⟨Nat.le_of_ble_eq_true rfl, Nat.le_of_ble_eq_true rfl⟩ (Nat.le_of_ble_eq_true rfl) ⟨Nat.zero_le _, Nat.zero_le _⟩ (fun r3 s3 h => ?_)
  refine r_if_ne (pc := 74) (tgt := 79) dX12_move_74 (by decide) (fun c => ?_) (fun c => ?_)
  · replace h := h.1 c
    refine r_sipush (pc := 79) (v := 2000) dX12_move_79 (by decide) ?_
    refine r_iload_n (pc := 82) (x := z1 + z0) dX12_move_82 rfl ?_
    refine r_bipush (pc := 83) (v := 12) dX12_move_83 (by decide) ?_
    refine r_idiv (pc := 85) dX12_move_85 (by decide) ?_
    refine r_iadd (pc := 86) dX12_move_86 ?_
    refine r_istore (pc := 87) (L' := [some (.int x0), none, none, some (.int (z1 + z0)), some (.int (2000 + ((z1 + z0) / 12))), none]) dX12_move_87 rfl (by decide) rfl ?_
    refine r_iload_n (pc := 89) (x := z1 + z0) dX12_move_89 rfl ?_
    refine r_bipush (pc := 90) (v := 12) dX12_move_90 (by decide) ?_
    refine n_irem (pc := 92) dX12_move_92 (by decide) ?_
    refine r_iconst (pc := 93) (v := 1) dX12_move_93 (by decide) ?_
    refine r_iadd (pc := 94) dX12_move_94 ?_
    refine r_istore (pc := 95) (L' := [some (.int x0), none, none, some (.int (z1 + z0)), some (.int (2000 + ((z1 + z0) / 12))), some (.int ((jrem (z1 + z0) 12) + 1))]) dX12_move_95 rfl (by decide) rfl ?_
    refine r_iload (pc := 97) (x := 2000 + ((z1 + z0) / 12)) dX12_move_97 rfl ?_
    refine r_iload (pc := 99) (x := (jrem (z1 + z0) 12) + 1) dX12_move_99 rfl ?_
    refine r_iload_n (pc := 101) (x := x0) dX12_move_101 rfl ?_
    refine n_Si0 (pc := 102) (S0 := [.int ((jrem (z1 + z0) 12) + 1), .int (2000 + ((z1 + z0) / 12))]) (spX12_numberOf h) gmX12_numberOf lk_RX12_95 dX12_move_102 rfl rfl ⟨Nat.le_of_ble_eq_true rfl, Nat.le_of_ble_eq_true rfl⟩ (Nat.le_of_ble_eq_true rfl) ⟨Nat.zero_le _, Nat.zero_le _⟩ (fun r4 s4 h => ?_)
    refine r_iload (pc := 105) (x := 2000 + ((z1 + z0) / 12)) dX12_move_105 rfl ?_
    refine r_iload (pc := 107) (x := (jrem (z1 + z0) 12) + 1) dX12_move_107 rfl ?_
    refine n_Si0 (pc := 109) (S0 := [.int r4, .int ((jrem (z1 + z0) 12) + 1), .int (2000 + ((z1 + z0) / 12))]) (spX12_monthLength h) gmX12_monthLength lk_RX12_70 dX12_move_109 rfl rfl ⟨Nat.le_of_ble_eq_true rfl, Nat.le_of_ble_eq_true rfl⟩ (Nat.le_of_ble_eq_true rfl) ⟨Nat.zero_le _, Nat.zero_le _⟩ (fun r5 s5 h => ?_)
    refine n_min (pc := 112) dX12_move_112 lk_RX12_101 ⟨Nat.le_of_ble_eq_true rfl, Nat.le_of_ble_eq_true rfl⟩ ⟨Nat.zero_le _, Nat.zero_le _⟩ ?_
    refine n_Si0 (pc := 115) (S0 := []) (spX12_dayOf h) gmX12_dayOf lk_RX12_87 dX12_move_115 rfl rfl ⟨Nat.le_of_ble_eq_true rfl, Nat.le_of_ble_eq_true rfl⟩ (Nat.le_of_ble_eq_true rfl) ⟨Nat.zero_le _, Nat.zero_le _⟩ (fun r6 s6 h => ?_)
    exact n_iret (pc := 118) dX12_move_118 rfl (Nat.le_refl _) (Nat.le_refl _) h
  · replace h := h.2 c
    refine r_iconst (pc := 77) (v := (-1)) dX12_move_77 (by decide) ?_
    exact n_iret (pc := 78) dX12_move_78 rfl (Nat.le_refl _) (Nat.le_refl _) h
def wpX12_move (x0 : Int32) (x1 : Int32) (x2 : Int32) (s : gS) (Q : Int32 → gS → Prop) : Prop := (2 ≤ x1 → wpX12_yearOf x0 s (fun r1 s1 => wpX12_monthOf x0 s1 (fun r2 s2 => (¬ x1 = 2 → wX12_move_64 x0 x1 x2 Q (12 * x2) (((12 * (r1 - 2000)) + r2) - 1) s2) ∧ (x1 = 2 → wX12_move_64 x0 x1 x2 Q x2 (((12 * (r1 - 2000)) + r2) - 1) s2)))) ∧ (¬ (2 ≤ x1) → (¬ x1 = 0 → wX12_move_18 x0 x1 x2 Q (7 * x2) x0 s) ∧ (x1 = 0 → wX12_move_18 x0 x1 x2 Q x2 x0 s))
set_option maxRecDepth 20000 in
theorem spX12_move {l : Launch} {x0 : Int32} {x1 : Int32} {x2 : Int32}  {s : gS} {Q : Int32 → gS → Prop} (h : wpX12_move x0 x1 x2 s Q) : Ct l mX12_move 5 0 0 [.int x0, .int x1, .int x2] (nrm s) (q_i Q) := by
  refine Ct.of (by decide) (Nat.le_of_ble_eq_true rfl) (fun X => ?_)
  refine n_L (L' := [some (.int x0), some (.int x1), some (.int x2), none, none, none]) (le_s (le_s (le_s (le_p (le_p (le_p (le_e))))))) ?_
  refine r_iload_n (pc := 0) (x := x1) dX12_move_0 rfl ?_
  refine r_iconst (pc := 1) (v := 2) dX12_move_1 (by decide) ?_
  refine r_icmp_ge (pc := 2) (tgt := 33) dX12_move_2 (by decide) (fun c => ?_) (fun c => ?_)
  · replace h := h.1 c
    refine r_bipush (pc := 33) (v := 12) dX12_move_33 (by decide) ?_
    refine r_iload_n (pc := 35) (x := x0) dX12_move_35 rfl ?_
    refine n_Si0 (pc := 36) (S0 := [.int 12]) (spX12_yearOf h) gmX12_yearOf lk_RX12_74 dX12_move_36 rfl rfl ⟨Nat.le_of_ble_eq_true rfl, Nat.le_of_ble_eq_true rfl⟩ (Nat.le_of_ble_eq_true rfl) ⟨Nat.zero_le _, Nat.zero_le _⟩ (fun r1 s1 h => ?_)
    refine r_sipush (pc := 39) (v := 2000) dX12_move_39 (by decide) ?_
    refine r_isub (pc := 42) dX12_move_42 ?_
    refine r_imul (pc := 43) dX12_move_43 ?_
    refine r_iload_n (pc := 44) (x := x0) dX12_move_44 rfl ?_
    refine n_Si0 (pc := 45) (S0 := [.int (12 * (r1 - 2000))]) (spX12_monthOf h) gmX12_monthOf lk_RX12_80 dX12_move_45 rfl rfl ⟨Nat.le_of_ble_eq_true rfl, Nat.le_of_ble_eq_true rfl⟩ (Nat.le_of_ble_eq_true rfl) ⟨Nat.zero_le _, Nat.zero_le _⟩ (fun r2 s2 h => ?_)
    refine r_iadd (pc := 48) dX12_move_48 ?_
    refine r_iconst (pc := 49) (v := 1) dX12_move_49 (by decide) ?_
    refine r_isub (pc := 50) dX12_move_50 ?_
    refine r_iload_n (pc := 51) (x := x1) dX12_move_51 rfl ?_
    refine r_iconst (pc := 52) (v := 2) dX12_move_52 (by decide) ?_
    refine r_icmp_ne (pc := 53) (tgt := 60) dX12_move_53 (by decide) (fun c => ?_) (fun c => ?_)
    · replace h := h.1 c
      refine r_bipush (pc := 60) (v := 12) dX12_move_60 (by decide) ?_
      refine r_iload_n (pc := 62) (x := x2) dX12_move_62 rfl ?_
      refine r_imul (pc := 63) dX12_move_63 ?_
      refine n_L (L' := [some (.int x0), none, none, none, none, none]) (le_s (le_n (le_n (le_n (le_n (le_n (le_e))))))) ?_
      exact pX12_move_64  _ _ _ h 
    · replace h := h.2 c
      refine r_iload_n (pc := 56) (x := x2) dX12_move_56 rfl ?_
      refine r_goto (pc := 57) (tgt := 64) dX12_move_57 (by decide) ?_
      refine n_L (L' := [some (.int x0), none, none, none, none, none]) (le_s (le_n (le_n (le_n (le_n (le_n (le_e))))))) ?_
      exact pX12_move_64  _ _ _ h 
  · replace h := h.2 c
    refine r_iload_n (pc := 5) (x := x0) dX12_move_5 rfl ?_
    refine r_iload_n (pc := 6) (x := x1) dX12_move_6 rfl ?_
    refine r_if_ne (pc := 7) (tgt := 14) dX12_move_7 (by decide) (fun c => ?_) (fun c => ?_)
    · replace h := h.1 c
      refine r_bipush (pc := 14) (v := 7) dX12_move_14 (by decide) ?_
      refine r_iload_n (pc := 16) (x := x2) dX12_move_16 rfl ?_
      refine r_imul (pc := 17) dX12_move_17 ?_
      refine n_L (L' := [none, none, none, none, none, none]) (le_n (le_n (le_n (le_n (le_n (le_n (le_e))))))) ?_
      exact pX12_move_18  _ _ _ h 
    · replace h := h.2 c
      refine r_iload_n (pc := 10) (x := x2) dX12_move_10 rfl ?_
      refine r_goto (pc := 11) (tgt := 18) dX12_move_11 (by decide) ?_
      refine n_L (L' := [none, none, none, none, none, none]) (le_n (le_n (le_n (le_n (le_n (le_n (le_e))))))) ?_
      exact pX12_move_18  _ _ _ h 
def wpX12_moved (x1 : Int32) (x2 : Int32) (x3 : Int32) (s : gS) (Q : Int32 → gS → Prop) : Prop := wpX12_isDay x1 (wi s 177 5 0) (fun r1 s1 => (r1 = 0 → Q (-1) s1) ∧ (¬ (r1 = 0) → wpX12_in x2 0 3 s1 (fun r2 s2 => (r2 = 0 → Q (-1) s2) ∧ (¬ (r2 = 0) → wpX12_in x3 (-9999) 9999 s2 (fun r3 s3 => (¬ r3 = 0 → wpX12_move x1 x2 x3 s3 (fun r4 s4 => (¬ r4 = (-1) → Q r4 s4) ∧ (r4 = (-1) → Q (-2) s4))) ∧ (r3 = 0 → Q (-1) s3))))))
set_option maxRecDepth 20000 in
theorem spX12_moved {l : Launch} {x1 : Int32} {x2 : Int32} {x3 : Int32}  {s : gS} {Q : Int32 → gS → Prop} (h : wpX12_moved x1 x2 x3 s Q) : Ct l mX12_moved 6 0 0 [.ref 177, .int x1, .int x2, .int x3] (nrm s) (q_i Q) := by
  refine Ct.of (by decide) (Nat.le_of_ble_eq_true rfl) (fun X => ?_)
  refine n_L (L' := [some (.ref 177), some (.int x1), some (.int x2), some (.int x3), none]) (le_s (le_s (le_s (le_s (le_p (le_e)))))) ?_
  refine r_aload_n (pc := 0) (x := 177) dX12_moved_0 rfl ?_
  refine r_iconst (pc := 1) (v := 0) dX12_moved_1 (by decide) ?_
  refine n_putI (pc := 2) (j := 5) dX12_moved_2 fl_RX12_55 fw_12_5 (by decide) sh_177 rfl rfl ?_
  refine r_iload_n (pc := 5) (x := x1) dX12_moved_5 rfl ?_
  refine n_Si0 (pc := 6) (S0 := []) (spX12_isDay h) gmX12_isDay lk_RX12_83 dX12_moved_6 rfl rfl ⟨Nat.le_of_ble_eq_true rfl, Nat.le_of_ble_eq_true rfl⟩ (Nat.le_of_ble_eq_true rfl) ⟨Nat.zero_le _, Nat.zero_le _⟩ (fun r1 s1 h => ?_)
  refine r_if_eq (pc := 9) (tgt := 34) dX12_moved_9 (by decide) (fun c => ?_) (fun c => ?_)
  · replace h := h.1 c
    refine r_iconst (pc := 34) (v := (-1)) dX12_moved_34 (by decide) ?_
    exact n_iret (pc := 35) dX12_moved_35 rfl (Nat.le_refl _) (Nat.le_refl _) h
  · replace h := h.2 c
    refine r_iload_n (pc := 12) (x := x2) dX12_moved_12 rfl ?_
    refine r_iconst (pc := 13) (v := 0) dX12_moved_13 (by decide) ?_
    refine r_iconst (pc := 14) (v := 3) dX12_moved_14 (by decide) ?_
    refine n_Si0 (pc := 15) (S0 := []) (spX12_in h) gmX12_in lk_RX12_62 dX12_moved_15 rfl rfl ⟨Nat.le_of_ble_eq_true rfl, Nat.le_of_ble_eq_true rfl⟩ (Nat.le_of_ble_eq_true rfl) ⟨Nat.zero_le _, Nat.zero_le _⟩ (fun r2 s2 h => ?_)
    refine r_if_eq (pc := 18) (tgt := 34) dX12_moved_18 (by decide) (fun c => ?_) (fun c => ?_)
    · replace h := h.1 c
      refine r_iconst (pc := 34) (v := (-1)) dX12_moved_34 (by decide) ?_
      exact n_iret (pc := 35) dX12_moved_35 rfl (Nat.le_refl _) (Nat.le_refl _) h
    · replace h := h.2 c
      refine r_iload_n (pc := 21) (x := x3) dX12_moved_21 rfl ?_
      refine r_sipush (pc := 22) (v := (-9999)) dX12_moved_22 (by decide) ?_
      refine r_sipush (pc := 25) (v := 9999) dX12_moved_25 (by decide) ?_
      refine n_Si0 (pc := 28) (S0 := []) (spX12_in h) gmX12_in lk_RX12_62 dX12_moved_28 rfl rfl ⟨Nat.le_of_ble_eq_true rfl, Nat.le_of_ble_eq_true rfl⟩ (Nat.le_of_ble_eq_true rfl) ⟨Nat.zero_le _, Nat.zero_le _⟩ (fun r3 s3 h => ?_)
      refine r_if_ne (pc := 31) (tgt := 36) dX12_moved_31 (by decide) (fun c => ?_) (fun c => ?_)
      · replace h := h.1 c
        refine r_iload_n (pc := 36) (x := x1) dX12_moved_36 rfl ?_
        refine r_iload_n (pc := 37) (x := x2) dX12_moved_37 rfl ?_
        refine r_iload_n (pc := 38) (x := x3) dX12_moved_38 rfl ?_
        refine n_Si0 (pc := 39) (S0 := []) (spX12_move h) gmX12_move lk_RX12_106 dX12_moved_39 rfl rfl ⟨Nat.le_of_ble_eq_true rfl, Nat.le_of_ble_eq_true rfl⟩ (Nat.le_of_ble_eq_true rfl) ⟨Nat.zero_le _, Nat.zero_le _⟩ (fun r4 s4 h => ?_)
        refine r_istore (pc := 42) (L' := [some (.ref 177), some (.int x1), some (.int x2), some (.int x3), some (.int r4)]) dX12_moved_42 rfl (by decide) rfl ?_
        refine r_iload (pc := 44) (x := r4) dX12_moved_44 rfl ?_
        refine r_iconst (pc := 46) (v := (-1)) dX12_moved_46 (by decide) ?_
        refine r_icmp_ne (pc := 47) (tgt := 55) dX12_moved_47 (by decide) (fun c => ?_) (fun c => ?_)
        · replace h := h.1 c
          refine r_iload (pc := 55) (x := r4) dX12_moved_55 rfl ?_
          exact n_iret (pc := 57) dX12_moved_57 rfl (Nat.le_refl _) (Nat.le_refl _) h
        · replace h := h.2 c
          refine r_bipush (pc := 50) (v := (-2)) dX12_moved_50 (by decide) ?_
          refine r_goto (pc := 52) (tgt := 57) dX12_moved_52 (by decide) ?_
          exact n_iret (pc := 57) dX12_moved_57 rfl (Nat.le_refl _) (Nat.le_refl _) h
      · replace h := h.2 c
        refine r_iconst (pc := 34) (v := (-1)) dX12_moved_34 (by decide) ?_
        exact n_iret (pc := 35) dX12_moved_35 rfl (Nat.le_refl _) (Nat.le_refl _) h
def wX12_sign_20 (x1 : Int32) (Q : Int32 → gS → Prop)  : Nat → Int32 → gS → Prop
  | 0, _, _ => False
  | n + 1, y2, s => (y2 < 0 → Q (gi s 177 2) s) ∧ (¬ (y2 < 0) → vp_in (gi s 177 2) 80 ∧ (wX12_sign_20 x1 Q n (y2 + (-1)) (wi (wi s 177 2 ((gi s 177 2) + 1)) 179 (ix (gi s 177 2)) (vp_nar .byte (jbyte (jshr x1 (8 * y2)))))))
set_option maxRecDepth 20000 in
theorem pX12_sign_20 {l : Launch} {X : gX} {x1 : Int32}  {Q : Int32 → gS → Prop}  : ∀ (n : Nat) (y2 : Int32) (s : gS) (h : wX12_sign_20 x1 Q n y2 s) , Gw l mX12_sign (g_rm 1 0 0) X 20 [some (.ref 177), some (.int x1), some (.int y2)] [] (nrm s) 0 0 (g_Z X (q_i Q) 0 0) := by
  intro n
  induction n with
  | zero => intro y2 s h; exact h.elim
  | succ n ih0 =>
    intro y2 s h 
    have ih : ∀ (y2 : Int32) (s : gS), wX12_sign_20 x1 Q n y2 s → Gw l mX12_sign (g_rm 1 0 0) X 20 [some (.ref 177), some (.int x1), some (.int y2)] [] (nrm s) 0 0 (g_Z X (q_i Q) 0 0) := fun y2 s h => ih0 y2 s h 
    refine r_iload_n (pc := 20) (x := y2) dX12_sign_20 rfl ?_
    refine r_if_lt (pc := 21) (tgt := 53) dX12_sign_21 (by decide) (fun c => ?_) (fun c => ?_)
    · replace h := h.1 c
      refine r_aload_n (pc := 53) (x := 177) dX12_sign_53 rfl ?_
      refine n_getI (pc := 54) (j := 2) dX12_sign_54 fl_RX12_109 (by decide) sh_177 rfl rfl ?_
      exact n_iret (pc := 57) dX12_sign_57 rfl (Nat.le_refl _) (Nat.le_refl _) h
    · replace h := h.2 c
      refine r_aload_n (pc := 24) (x := 177) dX12_sign_24 rfl ?_
      refine n_getR (pc := 25) (j := 1) (q := 179) dX12_sign_25 fl_RX12_13 (by decide) sh_177 rfl rfl rfl ?_
      refine r_aload_n (pc := 28) (x := 177) dX12_sign_28 rfl ?_
      refine r_dup (pc := 29) dX12_sign_29 rfl ?_
      refine n_getI (pc := 30) (j := 2) dX12_sign_30 fl_RX12_109 (by decide) sh_177 rfl rfl ?_
      refine r_dup_x1 (pc := 33) dX12_sign_33 rfl rfl ?_
      refine r_iconst (pc := 34) (v := 1) dX12_sign_34 (by decide) ?_
      refine r_iadd (pc := 35) dX12_sign_35 ?_
      refine n_putI (pc := 36) (j := 2) dX12_sign_36 fl_RX12_109 fw_12_2 (by decide) sh_177 rfl rfl ?_
      refine r_iload_n (pc := 39) (x := x1) dX12_sign_39 rfl ?_
      refine r_bipush (pc := 40) (v := 8) dX12_sign_40 (by decide) ?_
      refine r_iload_n (pc := 42) (x := y2) dX12_sign_42 rfl ?_
      refine r_imul (pc := 43) dX12_sign_43 ?_
      refine n_ishr (pc := 44) dX12_sign_44 ?_
      refine n_i2b (pc := 45) dX12_sign_45 ?_
      obtain ⟨b1, h⟩ := h
      refine n_bast (pc := 46) (j := (ix (gi s 177 2))) dX12_sign_46 (by decide) sh_179 b1 rfl ?_
      refine n_iinc (pc := 47) (x := y2) (w := (-1)) (L' := [some (.ref 177), some (.int x1), some (.int (y2 + (-1)))]) dX12_sign_47 rfl (by decide) rfl (by decide) rfl ?_
      refine r_goto (pc := 50) (tgt := 20) dX12_sign_50 (by decide) ?_
      refine n_L (L' := [some (.ref 177), some (.int x1), some (.int (y2 + (-1)))]) (le_s (le_s (le_s (le_e)))) ?_
      exact ih _ _ h
def wpX12_sign (x1 : Int32) (s : gS) (Q : Int32 → gS → Prop) : Prop := (((gi (wi s 177 5 0) 177 2) + 4) ≤ 80 → ∃ n20, wX12_sign_20 x1 Q n20 3 (wi s 177 5 0)) ∧ (¬ (((gi (wi s 177 5 0) 177 2) + 4) ≤ 80) → Q (-1) (wi s 177 5 0))
set_option maxRecDepth 20000 in
theorem spX12_sign {l : Launch} {x1 : Int32}  {s : gS} {Q : Int32 → gS → Prop} (h : wpX12_sign x1 s Q) : Ct l mX12_sign 1 0 0 [.ref 177, .int x1] (nrm s) (q_i Q) := by
  refine Ct.of (by decide) (Nat.le_of_ble_eq_true rfl) (fun X => ?_)
  refine n_L (L' := [some (.ref 177), some (.int x1), none]) (le_s (le_s (le_p (le_e)))) ?_
  refine r_aload_n (pc := 0) (x := 177) dX12_sign_0 rfl ?_
  refine r_iconst (pc := 1) (v := 0) dX12_sign_1 (by decide) ?_
  refine n_putI (pc := 2) (j := 5) dX12_sign_2 fl_RX12_55 fw_12_5 (by decide) sh_177 rfl rfl ?_
  refine r_aload_n (pc := 5) (x := 177) dX12_sign_5 rfl ?_
  refine n_getI (pc := 6) (j := 2) dX12_sign_6 fl_RX12_109 (by decide) sh_177 rfl rfl ?_
  refine r_iconst (pc := 9) (v := 4) dX12_sign_9 (by decide) ?_
  refine r_iadd (pc := 10) dX12_sign_10 ?_
  refine r_bipush (pc := 11) (v := 80) dX12_sign_11 (by decide) ?_
  refine r_icmp_le (pc := 13) (tgt := 18) dX12_sign_13 (by decide) (fun c => ?_) (fun c => ?_)
  · replace h := h.1 c
    refine r_iconst (pc := 18) (v := 3) dX12_sign_18 (by decide) ?_
    refine r_istore_n (pc := 19) (L' := [some (.ref 177), some (.int x1), some (.int 3)]) dX12_sign_19 rfl (by decide) rfl ?_
    refine n_L (L' := [some (.ref 177), some (.int x1), some (.int 3)]) (le_s (le_s (le_s (le_e)))) ?_
    obtain ⟨n, h⟩ := h
    exact pX12_sign_20  n _ _ h 
  · replace h := h.2 c
    refine r_iconst (pc := 16) (v := (-1)) dX12_sign_16 (by decide) ?_
    exact n_iret (pc := 17) dX12_sign_17 rfl (Nat.le_refl _) (Nat.le_refl _) h
def wpX12_end (x1 : Int32) (s : gS) (Q : Int32 → gS → Prop) : Prop := wpX12_in x1 0 (gi (wi s 177 5 0) 177 2) (wi s 177 5 0) (fun r1 s1 => (¬ r1 = 0 → Q 1 (wi s1 177 2 x1)) ∧ (r1 = 0 → Q 0 s1))
set_option maxRecDepth 20000 in
theorem spX12_end {l : Launch} {x1 : Int32}  {s : gS} {Q : Int32 → gS → Prop} (h : wpX12_end x1 s Q) : Ct l mX12_end 2 0 0 [.ref 177, .int x1] (nrm s) (q_i Q) := by
  refine Ct.of (by decide) (Nat.le_of_ble_eq_true rfl) (fun X => ?_)
  refine n_L (L' := [some (.ref 177), some (.int x1)]) (le_s (le_s (le_e))) ?_
  refine r_aload_n (pc := 0) (x := 177) dX12_end_0 rfl ?_
  refine r_iconst (pc := 1) (v := 0) dX12_end_1 (by decide) ?_
  refine n_putI (pc := 2) (j := 5) dX12_end_2 fl_RX12_55 fw_12_5 (by decide) sh_177 rfl rfl ?_
  refine r_iload_n (pc := 5) (x := x1) dX12_end_5 rfl ?_
  refine r_iconst (pc := 6) (v := 0) dX12_end_6 (by decide) ?_
  refine r_aload_n (pc := 7) (x := 177) dX12_end_7 rfl ?_
  refine n_getI (pc := 8) (j := 2) dX12_end_8 fl_RX12_109 (by decide) sh_177 rfl rfl ?_
  refine n_Si0 (pc := 11) (S0 := []) (spX12_in h) gmX12_in lk_RX12_62 dX12_end_11 rfl rfl ⟨Nat.le_of_ble_eq_true rfl, Nat.le_of_ble_eq_true rfl⟩ (Nat.le_of_ble_eq_true rfl) ⟨Nat.zero_le _, Nat.zero_le _⟩ (fun r1 s1 h => ?_)
  refine r_if_ne (pc := 14) (tgt := 19) dX12_end_14 (by decide) (fun c => ?_) (fun c => ?_)
  · replace h := h.1 c
    refine r_aload_n (pc := 19) (x := 177) dX12_end_19 rfl ?_
    refine r_iload_n (pc := 20) (x := x1) dX12_end_20 rfl ?_
    refine n_putI (pc := 21) (j := 2) dX12_end_21 fl_RX12_109 fw_12_2 (by decide) sh_177 rfl rfl ?_
    refine r_iconst (pc := 24) (v := 1) dX12_end_24 (by decide) ?_
    exact n_zret (pc := 25) dX12_end_25 rfl (by decide) (Nat.le_refl _) (Nat.le_refl _) h
  · replace h := h.2 c
    refine r_iconst (pc := 17) (v := 0) dX12_end_17 (by decide) ?_
    exact n_zret (pc := 18) dX12_end_18 rfl (by decide) (Nat.le_refl _) (Nat.le_refl _) h
def wpX12_begin  (s : gS) (Q : gS → Prop) : Prop := Q (wi (wi (wi (wi s 177 6 (gi s 177 2)) 177 7 0) 177 8 (-1)) 177 2 0)
set_option maxRecDepth 20000 in
theorem spX12_begin {l : Launch}   {s : gS} {Q : gS → Prop} (h : wpX12_begin  s Q) : Ct l mX12_begin 1 0 0 [.ref 177] (nrm s) (q_v Q) := by
  refine Ct.of (by decide) (Nat.le_of_ble_eq_true rfl) (fun X => ?_)
  refine n_L (L' := [some (.ref 177)]) (le_s (le_e)) ?_
  refine r_aload_n (pc := 0) (x := 177) dX12_begin_0 rfl ?_
  refine r_aload_n (pc := 1) (x := 177) dX12_begin_1 rfl ?_
  refine n_getI (pc := 2) (j := 2) dX12_begin_2 fl_RX12_109 (by decide) sh_177 rfl rfl ?_
  refine n_putI (pc := 5) (j := 6) dX12_begin_5 fl_RX12_112 fw_12_6 (by decide) sh_177 rfl rfl ?_
  refine r_aload_n (pc := 8) (x := 177) dX12_begin_8 rfl ?_
  refine r_iconst (pc := 9) (v := 0) dX12_begin_9 (by decide) ?_
  refine n_putI (pc := 10) (j := 7) dX12_begin_10 fl_RX12_115 fw_12_7 (by decide) sh_177 rfl rfl ?_
  refine r_aload_n (pc := 13) (x := 177) dX12_begin_13 rfl ?_
  refine r_iconst (pc := 14) (v := (-1)) dX12_begin_14 (by decide) ?_
  refine n_putI (pc := 15) (j := 8) dX12_begin_15 fl_RX12_118 fw_12_8 (by decide) sh_177 rfl rfl ?_
  refine r_aload_n (pc := 18) (x := 177) dX12_begin_18 rfl ?_
  refine r_iconst (pc := 19) (v := 0) dX12_begin_19 (by decide) ?_
  refine n_putI (pc := 20) (j := 2) dX12_begin_20 fl_RX12_109 fw_12_2 (by decide) sh_177 rfl rfl ?_
  exact n_vret (pc := 23) dX12_begin_23 rfl (Nat.le_refl _) (Nat.le_refl _) h
def wpX12_here  (s : gS) (Q : Int32 → gS → Prop) : Prop := ((gi s 177 6) ≤ (gi s 177 7) → Q (-1) s) ∧ (¬ ((gi s 177 6) ≤ (gi s 177 7)) → vp_in (gi s 177 7) 80 ∧ (Q ((gi s 179 (ix (gi s 177 7))) &&& 255) s))
set_option maxRecDepth 20000 in
theorem spX12_here {l : Launch}   {s : gS} {Q : Int32 → gS → Prop} (h : wpX12_here  s Q) : Ct l mX12_here 1 0 0 [.ref 177] (nrm s) (q_i Q) := by
  refine Ct.of (by decide) (Nat.le_of_ble_eq_true rfl) (fun X => ?_)
  refine n_L (L' := [some (.ref 177)]) (le_s (le_e)) ?_
  refine r_aload_n (pc := 0) (x := 177) dX12_here_0 rfl ?_
  refine n_getI (pc := 1) (j := 7) dX12_here_1 fl_RX12_115 (by decide) sh_177 rfl rfl ?_
  refine r_aload_n (pc := 4) (x := 177) dX12_here_4 rfl ?_
  refine n_getI (pc := 5) (j := 6) dX12_here_5 fl_RX12_112 (by decide) sh_177 rfl rfl ?_
  refine r_icmp_ge (pc := 8) (tgt := 27) dX12_here_8 (by decide) (fun c => ?_) (fun c => ?_)
  · replace h := h.1 c
    refine r_iconst (pc := 27) (v := (-1)) dX12_here_27 (by decide) ?_
    exact n_iret (pc := 28) dX12_here_28 rfl (Nat.le_refl _) (Nat.le_refl _) h
  · replace h := h.2 c
    refine r_aload_n (pc := 11) (x := 177) dX12_here_11 rfl ?_
    refine n_getR (pc := 12) (j := 1) (q := 179) dX12_here_12 fl_RX12_13 (by decide) sh_177 rfl rfl rfl ?_
    refine r_aload_n (pc := 15) (x := 177) dX12_here_15 rfl ?_
    refine n_getI (pc := 16) (j := 7) dX12_here_16 fl_RX12_115 (by decide) sh_177 rfl rfl ?_
    obtain ⟨b1, h⟩ := h
    refine n_bald (pc := 19) (j := (ix (gi s 177 7))) dX12_here_19 (by decide) sh_179 b1 rfl ?_
    refine r_sipush (pc := 20) (v := 255) dX12_here_20 (by decide) ?_
    refine r_iand (pc := 23) dX12_here_23 ?_
    refine r_goto (pc := 24) (tgt := 28) dX12_here_24 (by decide) ?_
    exact n_iret (pc := 28) dX12_here_28 rfl (Nat.le_refl _) (Nat.le_refl _) h
def wpX12_fine  (s : gS) (Q : Int32 → gS → Prop) : Prop := (¬ (gi s 177 8) = (-1) → Q 0 s) ∧ ((gi s 177 8) = (-1) → Q 1 s)
set_option maxRecDepth 20000 in
theorem spX12_fine {l : Launch}   {s : gS} {Q : Int32 → gS → Prop} (h : wpX12_fine  s Q) : Ct l mX12_fine 1 0 0 [.ref 177] (nrm s) (q_i Q) := by
  refine Ct.of (by decide) (Nat.le_of_ble_eq_true rfl) (fun X => ?_)
  refine n_L (L' := [some (.ref 177)]) (le_s (le_e)) ?_
  refine r_aload_n (pc := 0) (x := 177) dX12_fine_0 rfl ?_
  refine n_getI (pc := 1) (j := 8) dX12_fine_1 fl_RX12_118 (by decide) sh_177 rfl rfl ?_
  refine r_iconst (pc := 4) (v := (-1)) dX12_fine_4 (by decide) ?_
  refine r_icmp_ne (pc := 5) (tgt := 12) dX12_fine_5 (by decide) (fun c => ?_) (fun c => ?_)
  · replace h := h.1 c
    refine r_iconst (pc := 12) (v := 0) dX12_fine_12 (by decide) ?_
    exact n_zret (pc := 13) dX12_fine_13 rfl (by decide) (Nat.le_refl _) (Nat.le_refl _) h
  · replace h := h.2 c
    refine r_iconst (pc := 8) (v := 1) dX12_fine_8 (by decide) ?_
    refine r_goto (pc := 9) (tgt := 13) dX12_fine_9 (by decide) ?_
    exact n_zret (pc := 13) dX12_fine_13 rfl (by decide) (Nat.le_refl _) (Nat.le_refl _) h
def wpX12_fault (x1 : Int32) (s : gS) (Q : gS → Prop) : Prop := wpX12_fine s (fun r1 s1 => (r1 = 0 → Q s1) ∧ (¬ (r1 = 0) → Q (wi s1 177 8 x1)))
set_option maxRecDepth 20000 in
theorem spX12_fault {l : Launch} {x1 : Int32}  {s : gS} {Q : gS → Prop} (h : wpX12_fault x1 s Q) : Ct l mX12_fault 2 0 0 [.ref 177, .int x1] (nrm s) (q_v Q) := by
  refine Ct.of (by decide) (Nat.le_of_ble_eq_true rfl) (fun X => ?_)
  refine n_L (L' := [some (.ref 177), some (.int x1)]) (le_s (le_s (le_e))) ?_
  refine r_aload_n (pc := 0) (x := 177) dX12_fault_0 rfl ?_
  refine n_Vi0 (pc := 1) (S0 := []) (spX12_fine h) gmX12_fine selX12_fine lk_RX12_121 dX12_fault_1 rfl (by decide) sh_177 ⟨rfl, by decide⟩ rfl ⟨Nat.le_of_ble_eq_true rfl, Nat.le_of_ble_eq_true rfl⟩ (Nat.le_of_ble_eq_true rfl) ⟨Nat.zero_le _, Nat.zero_le _⟩ (fun r1 s1 h => ?_)
  refine r_if_eq (pc := 4) (tgt := 12) dX12_fault_4 (by decide) (fun c => ?_) (fun c => ?_)
  · replace h := h.1 c
    exact n_vret (pc := 12) dX12_fault_12 rfl (Nat.le_refl _) (Nat.le_refl _) h
  · replace h := h.2 c
    refine r_aload_n (pc := 7) (x := 177) dX12_fault_7 rfl ?_
    refine r_iload_n (pc := 8) (x := x1) dX12_fault_8 rfl ?_
    refine n_putI (pc := 9) (j := 8) dX12_fault_9 fl_RX12_118 fw_12_8 (by decide) sh_177 rfl rfl ?_
    exact n_vret (pc := 12) dX12_fault_12 rfl (Nat.le_refl _) (Nat.le_refl _) h
def wX12_wasRight_19  (Q : Int32 → gS → Prop)   (s : gS) : Prop := wpX12_fine s (fun r2 s2 => (r2 = 0 ∨ r2 = 1) ∧ (Q r2 s2))
set_option maxRecDepth 20000 in
theorem pX12_wasRight_19 {l : Launch} {X : gX}   {Q : Int32 → gS → Prop}   (s : gS) (h : wX12_wasRight_19  Q  s)  : Gw l mX12_wasRight (g_rm 3 0 0) X 19 [some (.ref 177)] [] (nrm s) 0 0 (g_Z X (q_i Q) 0 0) := by
  refine r_aload_n (pc := 19) (x := 177) dX12_wasRight_19 rfl ?_
  refine n_Vi0 (pc := 20) (S0 := []) (spX12_fine h) gmX12_fine selX12_fine lk_RX12_121 dX12_wasRight_20 rfl (by decide) sh_177 ⟨rfl, by decide⟩ rfl ⟨Nat.le_of_ble_eq_true rfl, Nat.le_of_ble_eq_true rfl⟩ (Nat.le_of_ble_eq_true rfl) ⟨Nat.zero_le _, Nat.zero_le _⟩ (fun r2 s2 h => ?_)
  obtain ⟨b3, h⟩ := h
  exact n_zret (pc := 23) dX12_wasRight_23 rfl b3 (Nat.le_refl _) (Nat.le_refl _) h
def wpX12_wasRight  (s : gS) (Q : Int32 → gS → Prop) : Prop := ((gi s 177 6) ≤ (gi s 177 7) → wX12_wasRight_19  Q s) ∧ (¬ ((gi s 177 6) ≤ (gi s 177 7)) → wpX12_fault (gi s 177 7) s (fun s1 => wX12_wasRight_19  Q s1))
set_option maxRecDepth 20000 in
theorem spX12_wasRight {l : Launch}   {s : gS} {Q : Int32 → gS → Prop} (h : wpX12_wasRight  s Q) : Ct l mX12_wasRight 3 0 0 [.ref 177] (nrm s) (q_i Q) := by
  refine Ct.of (by decide) (Nat.le_of_ble_eq_true rfl) (fun X => ?_)
  refine n_L (L' := [some (.ref 177)]) (le_s (le_e)) ?_
  refine r_aload_n (pc := 0) (x := 177) dX12_wasRight_0 rfl ?_
  refine n_getI (pc := 1) (j := 7) dX12_wasRight_1 fl_RX12_115 (by decide) sh_177 rfl rfl ?_
  refine r_aload_n (pc := 4) (x := 177) dX12_wasRight_4 rfl ?_
  refine n_getI (pc := 5) (j := 6) dX12_wasRight_5 fl_RX12_112 (by decide) sh_177 rfl rfl ?_
  refine r_icmp_ge (pc := 8) (tgt := 19) dX12_wasRight_8 (by decide) (fun c => ?_) (fun c => ?_)
  · replace h := h.1 c
    refine n_L (L' := [some (.ref 177)]) (le_s (le_e)) ?_
    exact pX12_wasRight_19   _ h 
  · replace h := h.2 c
    refine r_aload_n (pc := 11) (x := 177) dX12_wasRight_11 rfl ?_
    refine r_aload_n (pc := 12) (x := 177) dX12_wasRight_12 rfl ?_
    refine n_getI (pc := 13) (j := 7) dX12_wasRight_13 fl_RX12_115 (by decide) sh_177 rfl rfl ?_
    refine n_Vv0 (pc := 16) (S0 := []) (spX12_fault h) gmX12_fault selX12_fault lk_RX12_125 dX12_wasRight_16 rfl (by decide) sh_177 ⟨rfl, by decide⟩ rfl ⟨Nat.le_of_ble_eq_true rfl, Nat.le_of_ble_eq_true rfl⟩ (Nat.le_of_ble_eq_true rfl) ⟨Nat.zero_le _, Nat.zero_le _⟩ (fun s1 h => ?_)
    refine n_L (L' := [some (.ref 177)]) (le_s (le_e)) ?_
    exact pX12_wasRight_19   _ h 
def wX12_goWord_151  (Q : gS → Prop) (k80 : gS → Prop) (z0 : Int32) (s : gS) : Prop := k80 (wi (wi s 177 10 z0) 177 7 ((gi (wi s 177 10 z0) 177 7) + 1))
set_option maxRecDepth 20000 in
theorem pX12_goWord_151 {l : Launch} {X : gX}   {Q : gS → Prop} {k80 : gS → Prop} (z0 : Int32) (s : gS) (h : wX12_goWord_151  Q k80 z0 s) (hk80 : ∀ (s : gS), k80  s → Gw l mX12_goWord (g_rm 3 0 0) X 80 [some (.ref 177)] [] (nrm s) 0 0 (g_Z X (q_v Q) 0 0)) : Gw l mX12_goWord (g_rm 3 0 0) X 151 [some (.ref 177)] [.int z0, .ref 177] (nrm s) 0 0 (g_Z X (q_v Q) 0 0) := by
  refine n_putI (pc := 151) (j := 10) dX12_goWord_151 fl_RX12_143 fw_12_10 (by decide) sh_177 rfl rfl ?_
  refine r_aload_n (pc := 154) (x := 177) dX12_goWord_154 rfl ?_
  refine r_dup (pc := 155) dX12_goWord_155 rfl ?_
  refine n_getI (pc := 156) (j := 7) dX12_goWord_156 fl_RX12_115 (by decide) sh_177 rfl rfl ?_
  refine r_iconst (pc := 159) (v := 1) dX12_goWord_159 (by decide) ?_
  refine r_iadd (pc := 160) dX12_goWord_160 ?_
  refine n_putI (pc := 161) (j := 7) dX12_goWord_161 fl_RX12_115 fw_12_7 (by decide) sh_177 rfl rfl ?_
  refine r_goto (pc := 164) (tgt := 80) dX12_goWord_164 (by decide) ?_
  refine n_L (L' := [some (.ref 177)]) (le_s (le_e)) ?_
  exact hk80  _ h
def wX12_goWord_174  (Q : gS → Prop)  : Nat → gS → Prop
  | 0, _ => False
  | n + 1, s => wpX12_here s (fun r10 s10 => wpX12_in r10 97 122 s10 (fun r11 s11 => (r11 = 0 → Q s11) ∧ (¬ (r11 = 0) → wX12_goWord_174  Q n (wi s11 177 7 ((gi s11 177 7) + 1)))))
set_option maxRecDepth 20000 in
theorem pX12_goWord_174 {l : Launch} {X : gX}   {Q : gS → Prop}  : ∀ (n : Nat)  (s : gS) (h : wX12_goWord_174  Q n  s) , Gw l mX12_goWord (g_rm 3 0 0) X 174 [some (.ref 177)] [] (nrm s) 0 0 (g_Z X (q_v Q) 0 0) := by
  intro n
  induction n with
  | zero => intro  s h; exact h.elim
  | succ n ih0 =>
    intro  s h 
    have ih : ∀  (s : gS), wX12_goWord_174  Q n  s → Gw l mX12_goWord (g_rm 3 0 0) X 174 [some (.ref 177)] [] (nrm s) 0 0 (g_Z X (q_v Q) 0 0) := fun  s h => ih0  s h 
    refine r_aload_n (pc := 174) (x := 177) dX12_goWord_174 rfl ?_
    refine n_Vi0 (pc := 175) (S0 := []) (spX12_here h) gmX12_here selX12_here lk_RX12_129 dX12_goWord_175 rfl (by decide) sh_177 ⟨rfl, by decide⟩ rfl ⟨Nat.le_of_ble_eq_true rfl, Nat.le_of_ble_eq_true rfl⟩ (Nat.le_of_ble_eq_true rfl) ⟨Nat.zero_le _, Nat.zero_le _⟩ (fun r10 s10 h => ?_)
    refine r_bipush (pc := 178) (v := 97) dX12_goWord_178 (by decide) ?_
    refine r_bipush (pc := 180) (v := 122) dX12_goWord_180 (by decide) ?_
    refine n_Si0 (pc := 182) (S0 := []) (spX12_in h) gmX12_in lk_RX12_62 dX12_goWord_182 rfl rfl ⟨Nat.le_of_ble_eq_true rfl, Nat.le_of_ble_eq_true rfl⟩ (Nat.le_of_ble_eq_true rfl) ⟨Nat.zero_le _, Nat.zero_le _⟩ (fun r11 s11 h => ?_)
    refine r_if_eq (pc := 185) (tgt := 220) dX12_goWord_185 (by decide) (fun c => ?_) (fun c => ?_)
    · replace h := h.1 c
      exact n_vret (pc := 220) dX12_goWord_220 rfl (Nat.le_refl _) (Nat.le_refl _) h
    · replace h := h.2 c
      refine r_aload_n (pc := 188) (x := 177) dX12_goWord_188 rfl ?_
      refine r_dup (pc := 189) dX12_goWord_189 rfl ?_
      refine n_getI (pc := 190) (j := 7) dX12_goWord_190 fl_RX12_115 (by decide) sh_177 rfl rfl ?_
      refine r_iconst (pc := 193) (v := 1) dX12_goWord_193 (by decide) ?_
      refine r_iadd (pc := 194) dX12_goWord_194 ?_
      refine n_putI (pc := 195) (j := 7) dX12_goWord_195 fl_RX12_115 fw_12_7 (by decide) sh_177 rfl rfl ?_
      refine r_goto (pc := 198) (tgt := 174) dX12_goWord_198 (by decide) ?_
      refine n_L (L' := [some (.ref 177)]) (le_s (le_e)) ?_
      exact ih  _ h
def wX12_goWord_115  (Q : gS → Prop) (k80 : gS → Prop)  (s : gS) : Prop := (4 ≤ ((gi s 177 7) - (gi s 177 9)) → wX12_goWord_151  Q k80 (gi s 177 10) s) ∧ (¬ (4 ≤ ((gi s 177 7) - (gi s 177 9))) → wpX12_here s (fun r15 s15 => wX12_goWord_151  Q k80 (((10 * (gi s 177 10)) + r15) - 48) s15))
set_option maxRecDepth 20000 in
theorem pX12_goWord_115 {l : Launch} {X : gX}   {Q : gS → Prop} {k80 : gS → Prop}  (s : gS) (h : wX12_goWord_115  Q k80  s) (hk80 : ∀ (s : gS), k80  s → Gw l mX12_goWord (g_rm 3 0 0) X 80 [some (.ref 177)] [] (nrm s) 0 0 (g_Z X (q_v Q) 0 0)) : Gw l mX12_goWord (g_rm 3 0 0) X 115 [some (.ref 177)] [] (nrm s) 0 0 (g_Z X (q_v Q) 0 0) := by
  refine r_aload_n (pc := 115) (x := 177) dX12_goWord_115 rfl ?_
  refine r_aload_n (pc := 116) (x := 177) dX12_goWord_116 rfl ?_
  refine n_getI (pc := 117) (j := 7) dX12_goWord_117 fl_RX12_115 (by decide) sh_177 rfl rfl ?_
  refine r_aload_n (pc := 120) (x := 177) dX12_goWord_120 rfl ?_
  refine n_getI (pc := 121) (j := 9) dX12_goWord_121 fl_RX12_133 (by decide) sh_177 rfl rfl ?_
  refine r_isub (pc := 124) dX12_goWord_124 ?_
  refine r_iconst (pc := 125) (v := 4) dX12_goWord_125 (by decide) ?_
  refine r_icmp_ge (pc := 126) (tgt := 147) dX12_goWord_126 (by decide) (fun c => ?_) (fun c => ?_)
  · replace h := h.1 c
    refine r_aload_n (pc := 147) (x := 177) dX12_goWord_147 rfl ?_
    refine n_getI (pc := 148) (j := 10) dX12_goWord_148 fl_RX12_143 (by decide) sh_177 rfl rfl ?_
    refine n_L (L' := [some (.ref 177)]) (le_s (le_e)) ?_
    exact pX12_goWord_151  _ _ h hk80
  · replace h := h.2 c
    refine r_bipush (pc := 129) (v := 10) dX12_goWord_129 (by decide) ?_
    refine r_aload_n (pc := 131) (x := 177) dX12_goWord_131 rfl ?_
    refine n_getI (pc := 132) (j := 10) dX12_goWord_132 fl_RX12_143 (by decide) sh_177 rfl rfl ?_
    refine r_imul (pc := 135) dX12_goWord_135 ?_
    refine r_aload_n (pc := 136) (x := 177) dX12_goWord_136 rfl ?_
    refine n_Vi0 (pc := 137) (S0 := [.int (10 * (gi s 177 10)), .ref 177]) (spX12_here h) gmX12_here selX12_here lk_RX12_129 dX12_goWord_137 rfl (by decide) sh_177 ⟨rfl, by decide⟩ rfl ⟨Nat.le_of_ble_eq_true rfl, Nat.le_of_ble_eq_true rfl⟩ (Nat.le_of_ble_eq_true rfl) ⟨Nat.zero_le _, Nat.zero_le _⟩ (fun r15 s15 h => ?_)
    refine r_iadd (pc := 140) dX12_goWord_140 ?_
    refine r_bipush (pc := 141) (v := 48) dX12_goWord_141 (by decide) ?_
    refine r_isub (pc := 143) dX12_goWord_143 ?_
    refine r_goto (pc := 144) (tgt := 151) dX12_goWord_144 (by decide) ?_
    refine n_L (L' := [some (.ref 177)]) (le_s (le_e)) ?_
    exact pX12_goWord_151  _ _ h hk80
def wX12_goWord_80  (Q : gS → Prop)  : Nat → gS → Prop
  | 0, _ => False
  | n + 1, s => wpX12_here s (fun r12 s12 => wpX12_in r12 48 57 s12 (fun r13 s13 => (r13 = 0 → Q s13) ∧ (¬ (r13 = 0) → (¬ ((gi s13 177 7) - (gi s13 177 9)) = 4 → wX12_goWord_115  Q (fun s => wX12_goWord_80  Q n s) s13) ∧ (((gi s13 177 7) - (gi s13 177 9)) = 4 → wpX12_fault (gi s13 177 7) s13 (fun s14 => wX12_goWord_115  Q (fun s => wX12_goWord_80  Q n s) s14)))))
set_option maxRecDepth 20000 in
theorem pX12_goWord_80 {l : Launch} {X : gX}   {Q : gS → Prop}  : ∀ (n : Nat)  (s : gS) (h : wX12_goWord_80  Q n  s) , Gw l mX12_goWord (g_rm 3 0 0) X 80 [some (.ref 177)] [] (nrm s) 0 0 (g_Z X (q_v Q) 0 0) := by
  intro n
  induction n with
  | zero => intro  s h; exact h.elim
  | succ n ih0 =>
    intro  s h 
    have ih : ∀  (s : gS), wX12_goWord_80  Q n  s → Gw l mX12_goWord (g_rm 3 0 0) X 80 [some (.ref 177)] [] (nrm s) 0 0 (g_Z X (q_v Q) 0 0) := fun  s h => ih0  s h 
    refine r_aload_n (pc := 80) (x := 177) dX12_goWord_80 rfl ?_
    refine n_Vi0 (pc := 81) (S0 := []) (spX12_here h) gmX12_here selX12_here lk_RX12_129 dX12_goWord_81 rfl (by decide) sh_177 ⟨rfl, by decide⟩ rfl ⟨Nat.le_of_ble_eq_true rfl, Nat.le_of_ble_eq_true rfl⟩ (Nat.le_of_ble_eq_true rfl) ⟨Nat.zero_le _, Nat.zero_le _⟩ (fun r12 s12 h => ?_)
    refine r_bipush (pc := 84) (v := 48) dX12_goWord_84 (by decide) ?_
    refine r_bipush (pc := 86) (v := 57) dX12_goWord_86 (by decide) ?_
    refine n_Si0 (pc := 88) (S0 := []) (spX12_in h) gmX12_in lk_RX12_62 dX12_goWord_88 rfl rfl ⟨Nat.le_of_ble_eq_true rfl, Nat.le_of_ble_eq_true rfl⟩ (Nat.le_of_ble_eq_true rfl) ⟨Nat.zero_le _, Nat.zero_le _⟩ (fun r13 s13 h => ?_)
    refine r_if_eq (pc := 91) (tgt := 220) dX12_goWord_91 (by decide) (fun c => ?_) (fun c => ?_)
    · replace h := h.1 c
      exact n_vret (pc := 220) dX12_goWord_220 rfl (Nat.le_refl _) (Nat.le_refl _) h
    · replace h := h.2 c
      refine r_aload_n (pc := 94) (x := 177) dX12_goWord_94 rfl ?_
      refine n_getI (pc := 95) (j := 7) dX12_goWord_95 fl_RX12_115 (by decide) sh_177 rfl rfl ?_
      refine r_aload_n (pc := 98) (x := 177) dX12_goWord_98 rfl ?_
      refine n_getI (pc := 99) (j := 9) dX12_goWord_99 fl_RX12_133 (by decide) sh_177 rfl rfl ?_
      refine r_isub (pc := 102) dX12_goWord_102 ?_
      refine r_iconst (pc := 103) (v := 4) dX12_goWord_103 (by decide) ?_
      refine r_icmp_ne (pc := 104) (tgt := 115) dX12_goWord_104 (by decide) (fun c => ?_) (fun c => ?_)
      · replace h := h.1 c
        refine n_L (L' := [some (.ref 177)]) (le_s (le_e)) ?_
        exact pX12_goWord_115   _ h ih
      · replace h := h.2 c
        refine r_aload_n (pc := 107) (x := 177) dX12_goWord_107 rfl ?_
        refine r_aload_n (pc := 108) (x := 177) dX12_goWord_108 rfl ?_
        refine n_getI (pc := 109) (j := 7) dX12_goWord_109 fl_RX12_115 (by decide) sh_177 rfl rfl ?_
        refine n_Vv0 (pc := 112) (S0 := []) (spX12_fault h) gmX12_fault selX12_fault lk_RX12_125 dX12_goWord_112 rfl (by decide) sh_177 ⟨rfl, by decide⟩ rfl ⟨Nat.le_of_ble_eq_true rfl, Nat.le_of_ble_eq_true rfl⟩ (Nat.le_of_ble_eq_true rfl) ⟨Nat.zero_le _, Nat.zero_le _⟩ (fun s14 h => ?_)
        refine n_L (L' := [some (.ref 177)]) (le_s (le_e)) ?_
        exact pX12_goWord_115   _ h ih
def wX12_goWord_8  (Q : gS → Prop)  : Nat → gS → Prop
  | 0, _ => False
  | n + 1, s => wpX12_here s (fun r2 s2 => (¬ r2 = 32 → wpX12_here (wi s2 177 9 (gi s2 177 7)) (fun r3 s3 => wpX12_in r3 48 57 s3 (fun r4 s4 => (r4 = 0 ∨ r4 = 1) ∧ (wpX12_here (wi s4 177 11 r4) (fun r6 s6 => wpX12_in r6 97 122 s6 (fun r7 s7 => (r7 = 0 ∨ r7 = 1) ∧ (((gi (wi (wi s7 177 12 r7) 177 10 0) 177 11) = 0 → ((gi (wi (wi s7 177 12 r7) 177 10 0) 177 12) = 0 → ((gi (wi (wi s7 177 12 r7) 177 10 0) 177 6) ≤ (gi (wi (wi s7 177 12 r7) 177 10 0) 177 7) → Q (wi (wi s7 177 12 r7) 177 10 0)) ∧ (¬ ((gi (wi (wi s7 177 12 r7) 177 10 0) 177 6) ≤ (gi (wi (wi s7 177 12 r7) 177 10 0) 177 7)) → wpX12_fault (gi (wi (wi s7 177 12 r7) 177 10 0) 177 7) (wi (wi s7 177 12 r7) 177 10 0) (fun s9 => Q s9))) ∧ (¬ ((gi (wi (wi s7 177 12 r7) 177 10 0) 177 12) = 0) → ∃ n174, wX12_goWord_174  Q n174 (wi (wi s7 177 12 r7) 177 10 0))) ∧ (¬ ((gi (wi (wi s7 177 12 r7) 177 10 0) 177 11) = 0) → ∃ n80, wX12_goWord_80  Q n80 (wi (wi s7 177 12 r7) 177 10 0))))))))) ∧ (r2 = 32 → wX12_goWord_8  Q n (wi s2 177 7 ((gi s2 177 7) + 1))))
set_option maxRecDepth 20000 in
theorem pX12_goWord_8 {l : Launch} {X : gX}   {Q : gS → Prop}  : ∀ (n : Nat)  (s : gS) (h : wX12_goWord_8  Q n  s) , Gw l mX12_goWord (g_rm 3 0 0) X 8 [some (.ref 177)] [] (nrm s) 0 0 (g_Z X (q_v Q) 0 0) := by
  intro n
  induction n with
  | zero => intro  s h; exact h.elim
  | succ n ih0 =>
    intro  s h 
    have ih : ∀  (s : gS), wX12_goWord_8  Q n  s → Gw l mX12_goWord (g_rm 3 0 0) X 8 [some (.ref 177)] [] (nrm s) 0 0 (g_Z X (q_v Q) 0 0) := fun  s h => ih0  s h 
    refine r_aload_n (pc := 8) (x := 177) dX12_goWord_8 rfl ?_
    refine n_Vi0 (pc := 9) (S0 := []) (spX12_here h) gmX12_here selX12_here lk_RX12_129 dX12_goWord_9 rfl (by decide) sh_177 ⟨rfl, by decide⟩ rfl ⟨Nat.le_of_ble_eq_true rfl, Nat.le_of_ble_eq_true rfl⟩ (Nat.le_of_ble_eq_true rfl) ⟨Nat.zero_le _, Nat.zero_le _⟩ (fun r2 s2 h => ?_)
    refine r_bipush (pc := 12) (v := 32) dX12_goWord_12 (by decide) ?_
    refine r_icmp_ne (pc := 14) (tgt := 30) dX12_goWord_14 (by decide) (fun c => ?_) (fun c => ?_)
    · replace h := h.1 c
      refine r_aload_n (pc := 30) (x := 177) dX12_goWord_30 rfl ?_
      refine r_aload_n (pc := 31) (x := 177) dX12_goWord_31 rfl ?_
      refine n_getI (pc := 32) (j := 7) dX12_goWord_32 fl_RX12_115 (by decide) sh_177 rfl rfl ?_
      refine n_putI (pc := 35) (j := 9) dX12_goWord_35 fl_RX12_133 fw_12_9 (by decide) sh_177 rfl rfl ?_
      refine r_aload_n (pc := 38) (x := 177) dX12_goWord_38 rfl ?_
      refine r_aload_n (pc := 39) (x := 177) dX12_goWord_39 rfl ?_
      refine n_Vi0 (pc := 40) (S0 := [.ref 177]) (spX12_here h) gmX12_here selX12_here lk_RX12_129 dX12_goWord_40 rfl (by decide) sh_177 ⟨rfl, by decide⟩ rfl ⟨Nat.le_of_ble_eq_true rfl, Nat.le_of_ble_eq_true rfl⟩ (Nat.le_of_ble_eq_true rfl) ⟨Nat.zero_le _, Nat.zero_le _⟩ (fun r3 s3 h => ?_)
      refine r_bipush (pc := 43) (v := 48) dX12_goWord_43 (by decide) ?_
      refine r_bipush (pc := 45) (v := 57) dX12_goWord_45 (by decide) ?_
      refine n_Si0 (pc := 47) (S0 := [.ref 177]) (spX12_in h) gmX12_in lk_RX12_62 dX12_goWord_47 rfl rfl ⟨Nat.le_of_ble_eq_true rfl, Nat.le_of_ble_eq_true rfl⟩ (Nat.le_of_ble_eq_true rfl) ⟨Nat.zero_le _, Nat.zero_le _⟩ (fun r4 s4 h => ?_)
      obtain ⟨b5, h⟩ := h
      refine n_putZ (pc := 50) (j := 11) dX12_goWord_50 fl_RX12_136 fw_12_11 (by decide) sh_177 rfl rfl b5 ?_
      refine r_aload_n (pc := 53) (x := 177) dX12_goWord_53 rfl ?_
      refine r_aload_n (pc := 54) (x := 177) dX12_goWord_54 rfl ?_
      refine n_Vi0 (pc := 55) (S0 := [.ref 177]) (spX12_here h) gmX12_here selX12_here lk_RX12_129 dX12_goWord_55 rfl (by decide) sh_177 ⟨rfl, by decide⟩ rfl ⟨Nat.le_of_ble_eq_true rfl, Nat.le_of_ble_eq_true rfl⟩ (Nat.le_of_ble_eq_true rfl) ⟨Nat.zero_le _, Nat.zero_le _⟩ (fun r6 s6 h => ?_)
      refine r_bipush (pc := 58) (v := 97) dX12_goWord_58 (by decide) ?_
      refine r_bipush (pc := 60) (v := 122) dX12_goWord_60 (by decide) ?_
      refine n_Si0 (pc := 62) (S0 := [.ref 177]) (spX12_in h) gmX12_in lk_RX12_62 dX12_goWord_62 rfl rfl ⟨Nat.le_of_ble_eq_true rfl, Nat.le_of_ble_eq_true rfl⟩ (Nat.le_of_ble_eq_true rfl) ⟨Nat.zero_le _, Nat.zero_le _⟩ (fun r7 s7 h => ?_)
      obtain ⟨b8, h⟩ := h
      refine n_putZ (pc := 65) (j := 12) dX12_goWord_65 fl_RX12_140 fw_12_12 (by decide) sh_177 rfl rfl b8 ?_
      refine r_aload_n (pc := 68) (x := 177) dX12_goWord_68 rfl ?_
      refine r_iconst (pc := 69) (v := 0) dX12_goWord_69 (by decide) ?_
      refine n_putI (pc := 70) (j := 10) dX12_goWord_70 fl_RX12_143 fw_12_10 (by decide) sh_177 rfl rfl ?_
      refine r_aload_n (pc := 73) (x := 177) dX12_goWord_73 rfl ?_
      refine n_getI (pc := 74) (j := 11) dX12_goWord_74 fl_RX12_136 (by decide) sh_177 rfl rfl ?_
      refine r_if_eq (pc := 77) (tgt := 167) dX12_goWord_77 (by decide) (fun c => ?_) (fun c => ?_)
      · replace h := h.1 c
        refine r_aload_n (pc := 167) (x := 177) dX12_goWord_167 rfl ?_
        refine n_getI (pc := 168) (j := 12) dX12_goWord_168 fl_RX12_140 (by decide) sh_177 rfl rfl ?_
        refine r_if_eq (pc := 171) (tgt := 201) dX12_goWord_171 (by decide) (fun c => ?_) (fun c => ?_)
        · replace h := h.1 c
          refine r_aload_n (pc := 201) (x := 177) dX12_goWord_201 rfl ?_
          refine n_getI (pc := 202) (j := 7) dX12_goWord_202 fl_RX12_115 (by decide) sh_177 rfl rfl ?_
          refine r_aload_n (pc := 205) (x := 177) dX12_goWord_205 rfl ?_
          refine n_getI (pc := 206) (j := 6) dX12_goWord_206 fl_RX12_112 (by decide) sh_177 rfl rfl ?_
          refine r_icmp_ge (pc := 209) (tgt := 220) dX12_goWord_209 (by decide) (fun c => ?_) (fun c => ?_)
          · replace h := h.1 c
            exact n_vret (pc := 220) dX12_goWord_220 rfl (Nat.le_refl _) (Nat.le_refl _) h
          · replace h := h.2 c
            refine r_aload_n (pc := 212) (x := 177) dX12_goWord_212 rfl ?_
            refine r_aload_n (pc := 213) (x := 177) dX12_goWord_213 rfl ?_
            refine n_getI (pc := 214) (j := 7) dX12_goWord_214 fl_RX12_115 (by decide) sh_177 rfl rfl ?_
            refine n_Vv0 (pc := 217) (S0 := []) (spX12_fault h) gmX12_fault selX12_fault lk_RX12_125 dX12_goWord_217 rfl (by decide) sh_177 ⟨rfl, by decide⟩ rfl ⟨Nat.le_of_ble_eq_true rfl, Nat.le_of_ble_eq_true rfl⟩ (Nat.le_of_ble_eq_true rfl) ⟨Nat.zero_le _, Nat.zero_le _⟩ (fun s9 h => ?_)
            exact n_vret (pc := 220) dX12_goWord_220 rfl (Nat.le_refl _) (Nat.le_refl _) h
        · replace h := h.2 c
          refine n_L (L' := [some (.ref 177)]) (le_s (le_e)) ?_
          obtain ⟨n, h⟩ := h
          exact pX12_goWord_174  n  _ h 
      · replace h := h.2 c
        refine n_L (L' := [some (.ref 177)]) (le_s (le_e)) ?_
        obtain ⟨n, h⟩ := h
        exact pX12_goWord_80  n  _ h 
    · replace h := h.2 c
      refine r_aload_n (pc := 17) (x := 177) dX12_goWord_17 rfl ?_
      refine r_dup (pc := 18) dX12_goWord_18 rfl ?_
      refine n_getI (pc := 19) (j := 7) dX12_goWord_19 fl_RX12_115 (by decide) sh_177 rfl rfl ?_
      refine r_iconst (pc := 22) (v := 1) dX12_goWord_22 (by decide) ?_
      refine r_iadd (pc := 23) dX12_goWord_23 ?_
      refine n_putI (pc := 24) (j := 7) dX12_goWord_24 fl_RX12_115 fw_12_7 (by decide) sh_177 rfl rfl ?_
      refine r_goto (pc := 27) (tgt := 8) dX12_goWord_27 (by decide) ?_
      refine n_L (L' := [some (.ref 177)]) (le_s (le_e)) ?_
      exact ih  _ h
def wpX12_goWord  (s : gS) (Q : gS → Prop) : Prop := wpX12_fine s (fun r1 s1 => (¬ r1 = 0 → ∃ n8, wX12_goWord_8  Q n8 s1) ∧ (r1 = 0 → Q s1))
set_option maxRecDepth 20000 in
theorem spX12_goWord {l : Launch}   {s : gS} {Q : gS → Prop} (h : wpX12_goWord  s Q) : Ct l mX12_goWord 3 0 0 [.ref 177] (nrm s) (q_v Q) := by
  refine Ct.of (by decide) (Nat.le_of_ble_eq_true rfl) (fun X => ?_)
  refine n_L (L' := [some (.ref 177)]) (le_s (le_e)) ?_
  refine r_aload_n (pc := 0) (x := 177) dX12_goWord_0 rfl ?_
  refine n_Vi0 (pc := 1) (S0 := []) (spX12_fine h) gmX12_fine selX12_fine lk_RX12_121 dX12_goWord_1 rfl (by decide) sh_177 ⟨rfl, by decide⟩ rfl ⟨Nat.le_of_ble_eq_true rfl, Nat.le_of_ble_eq_true rfl⟩ (Nat.le_of_ble_eq_true rfl) ⟨Nat.zero_le _, Nat.zero_le _⟩ (fun r1 s1 h => ?_)
  refine r_if_ne (pc := 4) (tgt := 8) dX12_goWord_4 (by decide) (fun c => ?_) (fun c => ?_)
  · replace h := h.1 c
    refine n_L (L' := [some (.ref 177)]) (le_s (le_e)) ?_
    obtain ⟨n, h⟩ := h
    exact pX12_goWord_8  n  _ h 
  · replace h := h.2 c
    exact n_vret (pc := 7) dX12_goWord_7 rfl (Nat.le_refl _) (Nat.le_refl _) h
def wX12_is_34 (a1 : Nat) (Q : Int32 → gS → Prop)  : Nat → Int32 → gS → Prop
  | 0, _, _ => False
  | n + 1, y2, s => ((sl a1) ≤ y2 → Q 1 s) ∧ (¬ ((sl a1) ≤ y2) → vp_in ((gi s 177 9) + y2) 80 ∧ (vp_in y2 (g_sb a1).length ∧ (((gi s 179 (ix ((gi s 177 9) + y2))) = (sch a1 (ix y2)) → wX12_is_34 a1 Q n (y2 + 1) s) ∧ (¬ ((gi s 179 (ix ((gi s 177 9) + y2))) = (sch a1 (ix y2))) → Q 0 s))))
set_option maxRecDepth 20000 in
theorem pX12_is_34 {l : Launch} {X : gX} {a1 : Nat} (ha1 : a1 ∈ (g_E X).2.2.2.2.1) {Q : Int32 → gS → Prop}  : ∀ (n : Nat) (y2 : Int32) (s : gS) (h : wX12_is_34 a1 Q n y2 s) , Gw l mX12_is (g_rm 5 0 0) X 34 [some (.ref 177), some (.ref a1), some (.int y2)] [] (nrm s) 0 0 (g_Z X (q_i Q) 0 0) := by
  intro n
  induction n with
  | zero => intro y2 s h; exact h.elim
  | succ n ih0 =>
    intro y2 s h 
    have ih : ∀ (y2 : Int32) (s : gS), wX12_is_34 a1 Q n y2 s → Gw l mX12_is (g_rm 5 0 0) X 34 [some (.ref 177), some (.ref a1), some (.int y2)] [] (nrm s) 0 0 (g_Z X (q_i Q) 0 0) := fun y2 s h => ih0 y2 s h 
    refine r_iload_n (pc := 34) (x := y2) dX12_is_34 rfl ?_
    refine r_aload_n (pc := 35) (x := a1) dX12_is_35 rfl ?_
    refine n_slen (pc := 36) dX12_is_36 lk_RX12_146 ⟨Nat.le_of_ble_eq_true rfl, Nat.le_of_ble_eq_true rfl⟩ (Nat.le_of_ble_eq_true rfl) ⟨Nat.zero_le _, Nat.zero_le _⟩ (Or.inr ha1) ?_
    refine r_icmp_ge (pc := 39) (tgt := 69) dX12_is_39 (by decide) (fun c => ?_) (fun c => ?_)
    · replace h := h.1 c
      refine r_iconst (pc := 69) (v := 1) dX12_is_69 (by decide) ?_
      exact n_zret (pc := 70) dX12_is_70 rfl (by decide) (Nat.le_refl _) (Nat.le_refl _) h
    · replace h := h.2 c
      refine r_aload_n (pc := 42) (x := 177) dX12_is_42 rfl ?_
      refine n_getR (pc := 43) (j := 1) (q := 179) dX12_is_43 fl_RX12_13 (by decide) sh_177 rfl rfl rfl ?_
      refine r_aload_n (pc := 46) (x := 177) dX12_is_46 rfl ?_
      refine n_getI (pc := 47) (j := 9) dX12_is_47 fl_RX12_133 (by decide) sh_177 rfl rfl ?_
      refine r_iload_n (pc := 50) (x := y2) dX12_is_50 rfl ?_
      refine r_iadd (pc := 51) dX12_is_51 ?_
      obtain ⟨b2, h⟩ := h
      refine n_bald (pc := 52) (j := (ix ((gi s 177 9) + y2))) dX12_is_52 (by decide) sh_179 b2 rfl ?_
      refine r_aload_n (pc := 53) (x := a1) dX12_is_53 rfl ?_
      refine r_iload_n (pc := 54) (x := y2) dX12_is_54 rfl ?_
      obtain ⟨b3, h⟩ := h
      refine n_schar (pc := 55) dX12_is_55 lk_RX12_150 ⟨Nat.le_of_ble_eq_true rfl, Nat.le_of_ble_eq_true rfl⟩ (Nat.le_of_ble_eq_true rfl) ⟨Nat.zero_le _, Nat.zero_le _⟩ (Or.inr ha1) b3 ?_
      refine r_icmp_eq (pc := 58) (tgt := 63) dX12_is_58 (by decide) (fun c => ?_) (fun c => ?_)
      · replace h := h.1 c
        refine n_iinc (pc := 63) (x := y2) (w := 1) (L' := [some (.ref 177), some (.ref a1), some (.int (y2 + 1))]) dX12_is_63 rfl (by decide) rfl (by decide) rfl ?_
        refine r_goto (pc := 66) (tgt := 34) dX12_is_66 (by decide) ?_
        refine n_L (L' := [some (.ref 177), some (.ref a1), some (.int (y2 + 1))]) (le_s (le_s (le_s (le_e)))) ?_
        exact ih _ _ h
      · replace h := h.2 c
        refine r_iconst (pc := 61) (v := 0) dX12_is_61 (by decide) ?_
        exact n_zret (pc := 62) dX12_is_62 rfl (by decide) (Nat.le_refl _) (Nat.le_refl _) h
def wpX12_is (a1 : Nat) (s : gS) (Q : Int32 → gS → Prop) : Prop := wpX12_fine s (fun r1 s1 => (r1 = 0 → Q 0 s1) ∧ (¬ (r1 = 0) → ((gi s1 177 12) = 0 → Q 0 s1) ∧ (¬ ((gi s1 177 12) = 0) → (((gi s1 177 7) - (gi s1 177 9)) = (sl a1) → ∃ n34, wX12_is_34 a1 Q n34 0 s1) ∧ (¬ (((gi s1 177 7) - (gi s1 177 9)) = (sl a1)) → Q 0 s1))))
set_option maxRecDepth 20000 in
theorem spX12_is {l : Launch} {a1 : Nat}  {s : gS} {Q : Int32 → gS → Prop} (h : wpX12_is a1 s Q) : CtS l mX12_is 5 0 0 a1 [.ref 177, .ref a1] (nrm s) (q_i Q) := by
  refine CtS.of (by decide) (Nat.le_of_ble_eq_true rfl) (fun X ha1 => ?_)
  refine n_L (L' := [some (.ref 177), some (.ref a1), none]) (le_s (le_s (le_p (le_e)))) ?_
  refine r_aload_n (pc := 0) (x := 177) dX12_is_0 rfl ?_
  refine n_Vi0 (pc := 1) (S0 := []) (spX12_fine h) gmX12_fine selX12_fine lk_RX12_121 dX12_is_1 rfl (by decide) sh_177 ⟨rfl, by decide⟩ rfl ⟨Nat.le_of_ble_eq_true rfl, Nat.le_of_ble_eq_true rfl⟩ (Nat.le_of_ble_eq_true rfl) ⟨Nat.zero_le _, Nat.zero_le _⟩ (fun r1 s1 h => ?_)
  refine r_if_eq (pc := 4) (tgt := 30) dX12_is_4 (by decide) (fun c => ?_) (fun c => ?_)
  · replace h := h.1 c
    refine r_iconst (pc := 30) (v := 0) dX12_is_30 (by decide) ?_
    exact n_zret (pc := 31) dX12_is_31 rfl (by decide) (Nat.le_refl _) (Nat.le_refl _) h
  · replace h := h.2 c
    refine r_aload_n (pc := 7) (x := 177) dX12_is_7 rfl ?_
    refine n_getI (pc := 8) (j := 12) dX12_is_8 fl_RX12_140 (by decide) sh_177 rfl rfl ?_
    refine r_if_eq (pc := 11) (tgt := 30) dX12_is_11 (by decide) (fun c => ?_) (fun c => ?_)
    · replace h := h.1 c
      refine r_iconst (pc := 30) (v := 0) dX12_is_30 (by decide) ?_
      exact n_zret (pc := 31) dX12_is_31 rfl (by decide) (Nat.le_refl _) (Nat.le_refl _) h
    · replace h := h.2 c
      refine r_aload_n (pc := 14) (x := 177) dX12_is_14 rfl ?_
      refine n_getI (pc := 15) (j := 7) dX12_is_15 fl_RX12_115 (by decide) sh_177 rfl rfl ?_
      refine r_aload_n (pc := 18) (x := 177) dX12_is_18 rfl ?_
      refine n_getI (pc := 19) (j := 9) dX12_is_19 fl_RX12_133 (by decide) sh_177 rfl rfl ?_
      refine r_isub (pc := 22) dX12_is_22 ?_
      refine r_aload_n (pc := 23) (x := a1) dX12_is_23 rfl ?_
      refine n_slen (pc := 24) dX12_is_24 lk_RX12_146 ⟨Nat.le_of_ble_eq_true rfl, Nat.le_of_ble_eq_true rfl⟩ (Nat.le_of_ble_eq_true rfl) ⟨Nat.zero_le _, Nat.zero_le _⟩ (Or.inr ha1) ?_
      refine r_icmp_eq (pc := 27) (tgt := 32) dX12_is_27 (by decide) (fun c => ?_) (fun c => ?_)
      · replace h := h.1 c
        refine r_iconst (pc := 32) (v := 0) dX12_is_32 (by decide) ?_
        refine r_istore_n (pc := 33) (L' := [some (.ref 177), some (.ref a1), some (.int 0)]) dX12_is_33 rfl (by decide) rfl ?_
        refine n_L (L' := [some (.ref 177), some (.ref a1), some (.int 0)]) (le_s (le_s (le_s (le_e)))) ?_
        obtain ⟨n, h⟩ := h
        exact pX12_is_34 ha1 n _ _ h 
      · replace h := h.2 c
        refine r_iconst (pc := 30) (v := 0) dX12_is_30 (by decide) ?_
        exact n_zret (pc := 31) dX12_is_31 rfl (by decide) (Nat.le_refl _) (Nat.le_refl _) h
def wpX12_takes (a1 : Nat) (s : gS) (Q : Int32 → gS → Prop) : Prop := wpX12_is a1 s (fun r1 s1 => (¬ r1 = 0 → wpX12_goWord s1 (fun s2 => Q 1 s2)) ∧ (r1 = 0 → Q 0 s1))
set_option maxRecDepth 20000 in
theorem spX12_takes {l : Launch} {a1 : Nat}  {s : gS} {Q : Int32 → gS → Prop} (h : wpX12_takes a1 s Q) : CtS l mX12_takes 6 0 0 a1 [.ref 177, .ref a1] (nrm s) (q_i Q) := by
  refine CtS.of (by decide) (Nat.le_of_ble_eq_true rfl) (fun X ha1 => ?_)
  refine n_L (L' := [some (.ref 177), some (.ref a1)]) (le_s (le_s (le_e))) ?_
  refine r_aload_n (pc := 0) (x := 177) dX12_takes_0 rfl ?_
  refine r_aload_n (pc := 1) (x := a1) dX12_takes_1 rfl ?_
  refine n_Vi0S (pc := 2) (S0 := []) (spX12_is h) (Or.inr ha1) gmX12_is selX12_is lk_RX12_154 dX12_takes_2 rfl (by decide) sh_177 ⟨rfl, by decide⟩ rfl ⟨Nat.le_of_ble_eq_true rfl, Nat.le_of_ble_eq_true rfl⟩ (Nat.le_of_ble_eq_true rfl) ⟨Nat.zero_le _, Nat.zero_le _⟩ (fun r1 s1 h => ?_)
  refine r_if_ne (pc := 5) (tgt := 10) dX12_takes_5 (by decide) (fun c => ?_) (fun c => ?_)
  · replace h := h.1 c
    refine r_aload_n (pc := 10) (x := 177) dX12_takes_10 rfl ?_
    refine n_Vv0 (pc := 11) (S0 := []) (spX12_goWord h) gmX12_goWord selX12_goWord lk_RX12_158 dX12_takes_11 rfl (by decide) sh_177 ⟨rfl, by decide⟩ rfl ⟨Nat.le_of_ble_eq_true rfl, Nat.le_of_ble_eq_true rfl⟩ (Nat.le_of_ble_eq_true rfl) ⟨Nat.zero_le _, Nat.zero_le _⟩ (fun s2 h => ?_)
    refine r_iconst (pc := 14) (v := 1) dX12_takes_14 (by decide) ?_
    exact n_zret (pc := 15) dX12_takes_15 rfl (by decide) (Nat.le_refl _) (Nat.le_refl _) h
  · replace h := h.2 c
    refine r_iconst (pc := 8) (v := 0) dX12_takes_8 (by decide) ?_
    exact n_zret (pc := 9) dX12_takes_9 rfl (by decide) (Nat.le_refl _) (Nat.le_refl _) h
def wpX12_needs (a1 : Nat) (s : gS) (Q : gS → Prop) : Prop := wpX12_takes a1 s (fun r1 s1 => (¬ r1 = 0 → Q s1) ∧ (r1 = 0 → wpX12_fault (gi s1 177 9) s1 (fun s2 => Q s2)))
set_option maxRecDepth 20000 in
theorem spX12_needs {l : Launch} {a1 : Nat}  {s : gS} {Q : gS → Prop} (h : wpX12_needs a1 s Q) : CtS l mX12_needs 7 0 0 a1 [.ref 177, .ref a1] (nrm s) (q_v Q) := by
  refine CtS.of (by decide) (Nat.le_of_ble_eq_true rfl) (fun X ha1 => ?_)
  refine n_L (L' := [some (.ref 177), some (.ref a1)]) (le_s (le_s (le_e))) ?_
  refine r_aload_n (pc := 0) (x := 177) dX12_needs_0 rfl ?_
  refine r_aload_n (pc := 1) (x := a1) dX12_needs_1 rfl ?_
  refine n_Vi0S (pc := 2) (S0 := []) (spX12_takes h) (Or.inr ha1) gmX12_takes selX12_takes lk_RX12_161 dX12_needs_2 rfl (by decide) sh_177 ⟨rfl, by decide⟩ rfl ⟨Nat.le_of_ble_eq_true rfl, Nat.le_of_ble_eq_true rfl⟩ (Nat.le_of_ble_eq_true rfl) ⟨Nat.zero_le _, Nat.zero_le _⟩ (fun r1 s1 h => ?_)
  refine r_if_ne (pc := 5) (tgt := 16) dX12_needs_5 (by decide) (fun c => ?_) (fun c => ?_)
  · replace h := h.1 c
    exact n_vret (pc := 16) dX12_needs_16 rfl (Nat.le_refl _) (Nat.le_refl _) h
  · replace h := h.2 c
    refine r_aload_n (pc := 8) (x := 177) dX12_needs_8 rfl ?_
    refine r_aload_n (pc := 9) (x := 177) dX12_needs_9 rfl ?_
    refine n_getI (pc := 10) (j := 9) dX12_needs_10 fl_RX12_133 (by decide) sh_177 rfl rfl ?_
    refine n_Vv0 (pc := 13) (S0 := []) (spX12_fault h) gmX12_fault selX12_fault lk_RX12_125 dX12_needs_13 rfl (by decide) sh_177 ⟨rfl, by decide⟩ rfl ⟨Nat.le_of_ble_eq_true rfl, Nat.le_of_ble_eq_true rfl⟩ (Nat.le_of_ble_eq_true rfl) ⟨Nat.zero_le _, Nat.zero_le _⟩ (fun s2 h => ?_)
    exact n_vret (pc := 16) dX12_needs_16 rfl (Nat.le_refl _) (Nat.le_refl _) h
def wpX12_unitOf  (s : gS) (Q : Int32 → gS → Prop) : Prop := wpX12_is 1003 s (fun r1 s1 => (r1 = 0 → wpX12_is 1004 s1 (fun r2 s2 => (r2 = 0 → wpX12_is 1005 s2 (fun r3 s3 => (r3 = 0 → wpX12_is 1006 s3 (fun r4 s4 => (r4 = 0 → Q (-1) s4) ∧ (¬ (r4 = 0) → Q 3 s4))) ∧ (¬ (r3 = 0) → Q 2 s3))) ∧ (¬ (r2 = 0) → Q 1 s2))) ∧ (¬ (r1 = 0) → Q 0 s1))
set_option maxRecDepth 20000 in
theorem spX12_unitOf {l : Launch}   {s : gS} {Q : Int32 → gS → Prop} (h : wpX12_unitOf  s Q) : Ct l mX12_unitOf 6 0 0 [.ref 177] (nrm s) (q_i Q) := by
  refine Ct.of (by decide) (Nat.le_of_ble_eq_true rfl) (fun X => ?_)
  refine n_L (L' := [some (.ref 177)]) (le_s (le_e)) ?_
  refine r_aload_n (pc := 0) (x := 177) dX12_unitOf_0 rfl ?_
  refine n_ldcS (pc := 1) (i := 3) dX12_unitOf_1 sr_RX12_168 ?_
  refine n_Vi0S (pc := 3) (S0 := []) (spX12_is h) (Or.inl (by decide)) gmX12_is selX12_is lk_RX12_154 dX12_unitOf_3 rfl (by decide) sh_177 ⟨rfl, by decide⟩ rfl ⟨Nat.le_of_ble_eq_true rfl, Nat.le_of_ble_eq_true rfl⟩ (Nat.le_of_ble_eq_true rfl) ⟨Nat.zero_le _, Nat.zero_le _⟩ (fun r1 s1 h => ?_)
  refine r_if_eq (pc := 6) (tgt := 13) dX12_unitOf_6 (by decide) (fun c => ?_) (fun c => ?_)
  · replace h := h.1 c
    refine r_aload_n (pc := 13) (x := 177) dX12_unitOf_13 rfl ?_
    refine n_ldcS (pc := 14) (i := 4) dX12_unitOf_14 sr_RX12_170 ?_
    refine n_Vi0S (pc := 16) (S0 := []) (spX12_is h) (Or.inl (by decide)) gmX12_is selX12_is lk_RX12_154 dX12_unitOf_16 rfl (by decide) sh_177 ⟨rfl, by decide⟩ rfl ⟨Nat.le_of_ble_eq_true rfl, Nat.le_of_ble_eq_true rfl⟩ (Nat.le_of_ble_eq_true rfl) ⟨Nat.zero_le _, Nat.zero_le _⟩ (fun r2 s2 h => ?_)
    refine r_if_eq (pc := 19) (tgt := 26) dX12_unitOf_19 (by decide) (fun c => ?_) (fun c => ?_)
    · replace h := h.1 c
      refine r_aload_n (pc := 26) (x := 177) dX12_unitOf_26 rfl ?_
      refine n_ldcS (pc := 27) (i := 5) dX12_unitOf_27 sr_RX12_172 ?_
      refine n_Vi0S (pc := 29) (S0 := []) (spX12_is h) (Or.inl (by decide)) gmX12_is selX12_is lk_RX12_154 dX12_unitOf_29 rfl (by decide) sh_177 ⟨rfl, by decide⟩ rfl ⟨Nat.le_of_ble_eq_true rfl, Nat.le_of_ble_eq_true rfl⟩ (Nat.le_of_ble_eq_true rfl) ⟨Nat.zero_le _, Nat.zero_le _⟩ (fun r3 s3 h => ?_)
      refine r_if_eq (pc := 32) (tgt := 39) dX12_unitOf_32 (by decide) (fun c => ?_) (fun c => ?_)
      · replace h := h.1 c
        refine r_aload_n (pc := 39) (x := 177) dX12_unitOf_39 rfl ?_
        refine n_ldcS (pc := 40) (i := 6) dX12_unitOf_40 sr_RX12_174 ?_
        refine n_Vi0S (pc := 42) (S0 := []) (spX12_is h) (Or.inl (by decide)) gmX12_is selX12_is lk_RX12_154 dX12_unitOf_42 rfl (by decide) sh_177 ⟨rfl, by decide⟩ rfl ⟨Nat.le_of_ble_eq_true rfl, Nat.le_of_ble_eq_true rfl⟩ (Nat.le_of_ble_eq_true rfl) ⟨Nat.zero_le _, Nat.zero_le _⟩ (fun r4 s4 h => ?_)
        refine r_if_eq (pc := 45) (tgt := 52) dX12_unitOf_45 (by decide) (fun c => ?_) (fun c => ?_)
        · replace h := h.1 c
          refine r_iconst (pc := 52) (v := (-1)) dX12_unitOf_52 (by decide) ?_
          exact n_iret (pc := 53) dX12_unitOf_53 rfl (Nat.le_refl _) (Nat.le_refl _) h
        · replace h := h.2 c
          refine r_iconst (pc := 48) (v := 3) dX12_unitOf_48 (by decide) ?_
          refine r_goto (pc := 49) (tgt := 53) dX12_unitOf_49 (by decide) ?_
          exact n_iret (pc := 53) dX12_unitOf_53 rfl (Nat.le_refl _) (Nat.le_refl _) h
      · replace h := h.2 c
        refine r_iconst (pc := 35) (v := 2) dX12_unitOf_35 (by decide) ?_
        refine r_goto (pc := 36) (tgt := 53) dX12_unitOf_36 (by decide) ?_
        exact n_iret (pc := 53) dX12_unitOf_53 rfl (Nat.le_refl _) (Nat.le_refl _) h
    · replace h := h.2 c
      refine r_iconst (pc := 22) (v := 1) dX12_unitOf_22 (by decide) ?_
      refine r_goto (pc := 23) (tgt := 53) dX12_unitOf_23 (by decide) ?_
      exact n_iret (pc := 53) dX12_unitOf_53 rfl (Nat.le_refl _) (Nat.le_refl _) h
  · replace h := h.2 c
    refine r_iconst (pc := 9) (v := 0) dX12_unitOf_9 (by decide) ?_
    refine r_goto (pc := 10) (tgt := 53) dX12_unitOf_10 (by decide) ?_
    exact n_iret (pc := 53) dX12_unitOf_53 rfl (Nat.le_refl _) (Nat.le_refl _) h
def wX12_needUnit_18  (Q : Int32 → gS → Prop)  (y1 : Int32) (s : gS) : Prop := wpX12_goWord s (fun s3 => Q (jmax 0 y1) s3)
set_option maxRecDepth 20000 in
theorem pX12_needUnit_18 {l : Launch} {X : gX}   {Q : Int32 → gS → Prop}  (y1 : Int32) (s : gS) (h : wX12_needUnit_18  Q y1 s)  : Gw l mX12_needUnit (g_rm 7 0 0) X 18 [some (.ref 177), some (.int y1)] [] (nrm s) 0 0 (g_Z X (q_i Q) 0 0) := by
  refine r_aload_n (pc := 18) (x := 177) dX12_needUnit_18 rfl ?_
  refine n_Vv0 (pc := 19) (S0 := []) (spX12_goWord h) gmX12_goWord selX12_goWord lk_RX12_158 dX12_needUnit_19 rfl (by decide) sh_177 ⟨rfl, by decide⟩ rfl ⟨Nat.le_of_ble_eq_true rfl, Nat.le_of_ble_eq_true rfl⟩ (Nat.le_of_ble_eq_true rfl) ⟨Nat.zero_le _, Nat.zero_le _⟩ (fun s3 h => ?_)
  refine r_iconst (pc := 22) (v := 0) dX12_needUnit_22 (by decide) ?_
  refine r_iload_n (pc := 23) (x := y1) dX12_needUnit_23 rfl ?_
  refine n_max (pc := 24) dX12_needUnit_24 lk_RX12_179 ⟨Nat.le_of_ble_eq_true rfl, Nat.le_of_ble_eq_true rfl⟩ ⟨Nat.zero_le _, Nat.zero_le _⟩ ?_
  exact n_iret (pc := 27) dX12_needUnit_27 rfl (Nat.le_refl _) (Nat.le_refl _) h
def wpX12_needUnit  (s : gS) (Q : Int32 → gS → Prop) : Prop := wpX12_unitOf s (fun r1 s1 => (¬ r1 = (-1) → wX12_needUnit_18  Q r1 s1) ∧ (r1 = (-1) → wpX12_fault (gi s1 177 9) s1 (fun s2 => wX12_needUnit_18  Q r1 s2)))
set_option maxRecDepth 20000 in
theorem spX12_needUnit {l : Launch}   {s : gS} {Q : Int32 → gS → Prop} (h : wpX12_needUnit  s Q) : Ct l mX12_needUnit 7 0 0 [.ref 177] (nrm s) (q_i Q) := by
  refine Ct.of (by decide) (Nat.le_of_ble_eq_true rfl) (fun X => ?_)
  refine n_L (L' := [some (.ref 177), none]) (le_s (le_p (le_e))) ?_
  refine r_aload_n (pc := 0) (x := 177) dX12_needUnit_0 rfl ?_
  refine n_Vi0 (pc := 1) (S0 := []) (spX12_unitOf h) gmX12_unitOf selX12_unitOf lk_RX12_176 dX12_needUnit_1 rfl (by decide) sh_177 ⟨rfl, by decide⟩ rfl ⟨Nat.le_of_ble_eq_true rfl, Nat.le_of_ble_eq_true rfl⟩ (Nat.le_of_ble_eq_true rfl) ⟨Nat.zero_le _, Nat.zero_le _⟩ (fun r1 s1 h => ?_)
  refine r_istore_n (pc := 4) (L' := [some (.ref 177), some (.int r1)]) dX12_needUnit_4 rfl (by decide) rfl ?_
  refine r_iload_n (pc := 5) (x := r1) dX12_needUnit_5 rfl ?_
  refine r_iconst (pc := 6) (v := (-1)) dX12_needUnit_6 (by decide) ?_
  refine r_icmp_ne (pc := 7) (tgt := 18) dX12_needUnit_7 (by decide) (fun c => ?_) (fun c => ?_)
  · replace h := h.1 c
    refine n_L (L' := [some (.ref 177), some (.int r1)]) (le_s (le_s (le_e))) ?_
    exact pX12_needUnit_18  _ _ h 
  · replace h := h.2 c
    refine r_aload_n (pc := 10) (x := 177) dX12_needUnit_10 rfl ?_
    refine r_aload_n (pc := 11) (x := 177) dX12_needUnit_11 rfl ?_
    refine n_getI (pc := 12) (j := 9) dX12_needUnit_12 fl_RX12_133 (by decide) sh_177 rfl rfl ?_
    refine n_Vv0 (pc := 15) (S0 := []) (spX12_fault h) gmX12_fault selX12_fault lk_RX12_125 dX12_needUnit_15 rfl (by decide) sh_177 ⟨rfl, by decide⟩ rfl ⟨Nat.le_of_ble_eq_true rfl, Nat.le_of_ble_eq_true rfl⟩ (Nat.le_of_ble_eq_true rfl) ⟨Nat.zero_le _, Nat.zero_le _⟩ (fun s2 h => ?_)
    refine n_L (L' := [some (.ref 177), some (.int r1)]) (le_s (le_s (le_e))) ?_
    exact pX12_needUnit_18  _ _ h 
def wX12_needNumber_19 (x1 : Int32) (x2 : Int32) (Q : Int32 → gS → Prop) (k27 : gS → Prop)  (s : gS) : Prop := wpX12_fault (gi s 177 9) s (fun s3 => k27 s3)
set_option maxRecDepth 20000 in
theorem pX12_needNumber_19 {l : Launch} {X : gX} {x1 : Int32} {x2 : Int32}  {Q : Int32 → gS → Prop} {k27 : gS → Prop}  (s : gS) (h : wX12_needNumber_19 x1 x2 Q k27  s) (hk27 : ∀ (s : gS), k27  s → Gw l mX12_needNumber (g_rm 4 0 0) X 27 [some (.ref 177), none, none, none] [] (nrm s) 0 0 (g_Z X (q_i Q) 0 0)) : Gw l mX12_needNumber (g_rm 4 0 0) X 19 [some (.ref 177), none, none, none] [] (nrm s) 0 0 (g_Z X (q_i Q) 0 0) := by
  refine r_aload_n (pc := 19) (x := 177) dX12_needNumber_19 rfl ?_
  refine r_aload_n (pc := 20) (x := 177) dX12_needNumber_20 rfl ?_
  refine n_getI (pc := 21) (j := 9) dX12_needNumber_21 fl_RX12_133 (by decide) sh_177 rfl rfl ?_
  refine n_Vv0 (pc := 24) (S0 := []) (spX12_fault h) gmX12_fault selX12_fault lk_RX12_125 dX12_needNumber_24 rfl (by decide) sh_177 ⟨rfl, by decide⟩ rfl ⟨Nat.le_of_ble_eq_true rfl, Nat.le_of_ble_eq_true rfl⟩ (Nat.le_of_ble_eq_true rfl) ⟨Nat.zero_le _, Nat.zero_le _⟩ (fun s3 h => ?_)
  refine n_L (L' := [some (.ref 177), none, none, none]) (le_s (le_n (le_n (le_n (le_e))))) ?_
  exact hk27  _ h
def wX12_needNumber_27 (x1 : Int32) (x2 : Int32) (Q : Int32 → gS → Prop)   (s : gS) : Prop := wpX12_goWord s (fun s2 => Q (gi s 177 10) s2)
set_option maxRecDepth 20000 in
theorem pX12_needNumber_27 {l : Launch} {X : gX} {x1 : Int32} {x2 : Int32}  {Q : Int32 → gS → Prop}   (s : gS) (h : wX12_needNumber_27 x1 x2 Q  s)  : Gw l mX12_needNumber (g_rm 4 0 0) X 27 [some (.ref 177), none, none, none] [] (nrm s) 0 0 (g_Z X (q_i Q) 0 0) := by
  refine r_aload_n (pc := 27) (x := 177) dX12_needNumber_27 rfl ?_
  refine n_getI (pc := 28) (j := 10) dX12_needNumber_28 fl_RX12_143 (by decide) sh_177 rfl rfl ?_
  refine r_istore_n (pc := 31) (L' := [some (.ref 177), none, none, some (.int (gi s 177 10))]) dX12_needNumber_31 rfl (by decide) rfl ?_
  refine r_aload_n (pc := 32) (x := 177) dX12_needNumber_32 rfl ?_
  refine n_Vv0 (pc := 33) (S0 := []) (spX12_goWord h) gmX12_goWord selX12_goWord lk_RX12_158 dX12_needNumber_33 rfl (by decide) sh_177 ⟨rfl, by decide⟩ rfl ⟨Nat.le_of_ble_eq_true rfl, Nat.le_of_ble_eq_true rfl⟩ (Nat.le_of_ble_eq_true rfl) ⟨Nat.zero_le _, Nat.zero_le _⟩ (fun s2 h => ?_)
  refine r_iload_n (pc := 36) (x := gi s 177 10) dX12_needNumber_36 rfl ?_
  exact n_iret (pc := 37) dX12_needNumber_37 rfl (Nat.le_refl _) (Nat.le_refl _) h
def wpX12_needNumber (x1 : Int32) (x2 : Int32) (s : gS) (Q : Int32 → gS → Prop) : Prop := ((gi s 177 11) = 0 → wX12_needNumber_19 x1 x2 Q (wX12_needNumber_27 x1 x2 Q) s) ∧ (¬ ((gi s 177 11) = 0) → wpX12_in (gi s 177 10) x1 x2 s (fun r1 s1 => (¬ r1 = 0 → wX12_needNumber_27 x1 x2 Q s1) ∧ (r1 = 0 → wX12_needNumber_19 x1 x2 Q (wX12_needNumber_27 x1 x2 Q) s1)))
set_option maxRecDepth 20000 in
theorem spX12_needNumber {l : Launch} {x1 : Int32} {x2 : Int32}  {s : gS} {Q : Int32 → gS → Prop} (h : wpX12_needNumber x1 x2 s Q) : Ct l mX12_needNumber 4 0 0 [.ref 177, .int x1, .int x2] (nrm s) (q_i Q) := by
  refine Ct.of (by decide) (Nat.le_of_ble_eq_true rfl) (fun X => ?_)
  refine n_L (L' := [some (.ref 177), some (.int x1), some (.int x2), none]) (le_s (le_s (le_s (le_p (le_e))))) ?_
  refine r_aload_n (pc := 0) (x := 177) dX12_needNumber_0 rfl ?_
  refine n_getI (pc := 1) (j := 11) dX12_needNumber_1 fl_RX12_136 (by decide) sh_177 rfl rfl ?_
  refine r_if_eq (pc := 4) (tgt := 19) dX12_needNumber_4 (by decide) (fun c => ?_) (fun c => ?_)
  · replace h := h.1 c
    refine n_L (L' := [some (.ref 177), none, none, none]) (le_s (le_n (le_n (le_n (le_e))))) ?_
    exact pX12_needNumber_19   _ h (fun  _ h => pX12_needNumber_27   _ h )
  · replace h := h.2 c
    refine r_aload_n (pc := 7) (x := 177) dX12_needNumber_7 rfl ?_
    refine n_getI (pc := 8) (j := 10) dX12_needNumber_8 fl_RX12_143 (by decide) sh_177 rfl rfl ?_
    refine r_iload_n (pc := 11) (x := x1) dX12_needNumber_11 rfl ?_
    refine r_iload_n (pc := 12) (x := x2) dX12_needNumber_12 rfl ?_
    refine n_Si0 (pc := 13) (S0 := []) (spX12_in h) gmX12_in lk_RX12_62 dX12_needNumber_13 rfl rfl ⟨Nat.le_of_ble_eq_true rfl, Nat.le_of_ble_eq_true rfl⟩ (Nat.le_of_ble_eq_true rfl) ⟨Nat.zero_le _, Nat.zero_le _⟩ (fun r1 s1 h => ?_)
    refine r_if_ne (pc := 16) (tgt := 27) dX12_needNumber_16 (by decide) (fun c => ?_) (fun c => ?_)
    · replace h := h.1 c
      refine n_L (L' := [some (.ref 177), none, none, none]) (le_s (le_n (le_n (le_n (le_e))))) ?_
      exact pX12_needNumber_27   _ h 
    · replace h := h.2 c
      refine n_L (L' := [some (.ref 177), none, none, none]) (le_s (le_n (le_n (le_n (le_e))))) ?_
      exact pX12_needNumber_19   _ h (fun  _ h => pX12_needNumber_27   _ h )
def wpX12_push (x1 : Int32) (x2 : Int32) (x3 : Int32) (x4 : Int32) (s : gS) (Q : gS → Prop) : Prop := wpX12_isDay x1 s (fun r1 s1 => (r1 = 0 → Q s1) ∧ (¬ (r1 = 0) → wpX12_isDay x2 s1 (fun r2 s2 => (¬ r2 = 0 → vp_in (4 * (gi s2 177 14)) 4096 ∧ (vp_in ((4 * (gi (wi s2 181 (ix (4 * (gi s2 177 14))) x1) 177 14)) + 1) 4096 ∧ (vp_in ((4 * (gi (wi (wi s2 181 (ix (4 * (gi s2 177 14))) x1) 181 (ix ((4 * (gi (wi s2 181 (ix (4 * (gi s2 177 14))) x1) 177 14)) + 1)) x2) 177 14)) + 2) 4096 ∧ (vp_in ((4 * (gi (wi (wi (wi s2 181 (ix (4 * (gi s2 177 14))) x1) 181 (ix ((4 * (gi (wi s2 181 (ix (4 * (gi s2 177 14))) x1) 177 14)) + 1)) x2) 181 (ix ((4 * (gi (wi (wi s2 181 (ix (4 * (gi s2 177 14))) x1) 181 (ix ((4 * (gi (wi s2 181 (ix (4 * (gi s2 177 14))) x1) 177 14)) + 1)) x2) 177 14)) + 2)) x3) 177 14)) + 3) 4096 ∧ (Q (wi (wi (wi (wi (wi s2 181 (ix (4 * (gi s2 177 14))) x1) 181 (ix ((4 * (gi (wi s2 181 (ix (4 * (gi s2 177 14))) x1) 177 14)) + 1)) x2) 181 (ix ((4 * (gi (wi (wi s2 181 (ix (4 * (gi s2 177 14))) x1) 181 (ix ((4 * (gi (wi s2 181 (ix (4 * (gi s2 177 14))) x1) 177 14)) + 1)) x2) 177 14)) + 2)) x3) 181 (ix ((4 * (gi (wi (wi (wi s2 181 (ix (4 * (gi s2 177 14))) x1) 181 (ix ((4 * (gi (wi s2 181 (ix (4 * (gi s2 177 14))) x1) 177 14)) + 1)) x2) 181 (ix ((4 * (gi (wi (wi s2 181 (ix (4 * (gi s2 177 14))) x1) 181 (ix ((4 * (gi (wi s2 181 (ix (4 * (gi s2 177 14))) x1) 177 14)) + 1)) x2) 177 14)) + 2)) x3) 177 14)) + 3)) x4) 177 14 ((gi (wi (wi (wi (wi s2 181 (ix (4 * (gi s2 177 14))) x1) 181 (ix ((4 * (gi (wi s2 181 (ix (4 * (gi s2 177 14))) x1) 177 14)) + 1)) x2) 181 (ix ((4 * (gi (wi (wi s2 181 (ix (4 * (gi s2 177 14))) x1) 181 (ix ((4 * (gi (wi s2 181 (ix (4 * (gi s2 177 14))) x1) 177 14)) + 1)) x2) 177 14)) + 2)) x3) 181 (ix ((4 * (gi (wi (wi (wi s2 181 (ix (4 * (gi s2 177 14))) x1) 181 (ix ((4 * (gi (wi s2 181 (ix (4 * (gi s2 177 14))) x1) 177 14)) + 1)) x2) 181 (ix ((4 * (gi (wi (wi s2 181 (ix (4 * (gi s2 177 14))) x1) 181 (ix ((4 * (gi (wi s2 181 (ix (4 * (gi s2 177 14))) x1) 177 14)) + 1)) x2) 177 14)) + 2)) x3) 177 14)) + 3)) x4) 177 14) + 1))))))) ∧ (r2 = 0 → Q s2))))
set_option maxRecDepth 20000 in
theorem spX12_push {l : Launch} {x1 : Int32} {x2 : Int32} {x3 : Int32} {x4 : Int32}  {s : gS} {Q : gS → Prop} (h : wpX12_push x1 x2 x3 x4 s Q) : Ct l mX12_push 3 0 0 [.ref 177, .int x1, .int x2, .int x3, .int x4] (nrm s) (q_v Q) := by
  refine Ct.of (by decide) (Nat.le_of_ble_eq_true rfl) (fun X => ?_)
  refine n_L (L' := [some (.ref 177), some (.int x1), some (.int x2), some (.int x3), some (.int x4)]) (le_s (le_s (le_s (le_s (le_s (le_e)))))) ?_
  refine r_iload_n (pc := 0) (x := x1) dX12_push_0 rfl ?_
  refine n_Si0 (pc := 1) (S0 := []) (spX12_isDay h) gmX12_isDay lk_RX12_83 dX12_push_1 rfl rfl ⟨Nat.le_of_ble_eq_true rfl, Nat.le_of_ble_eq_true rfl⟩ (Nat.le_of_ble_eq_true rfl) ⟨Nat.zero_le _, Nat.zero_le _⟩ (fun r1 s1 h => ?_)
  refine r_if_eq (pc := 4) (tgt := 14) dX12_push_4 (by decide) (fun c => ?_) (fun c => ?_)
  · replace h := h.1 c
    exact n_vret (pc := 14) dX12_push_14 rfl (Nat.le_refl _) (Nat.le_refl _) h
  · replace h := h.2 c
    refine r_iload_n (pc := 7) (x := x2) dX12_push_7 rfl ?_
    refine n_Si0 (pc := 8) (S0 := []) (spX12_isDay h) gmX12_isDay lk_RX12_83 dX12_push_8 rfl rfl ⟨Nat.le_of_ble_eq_true rfl, Nat.le_of_ble_eq_true rfl⟩ (Nat.le_of_ble_eq_true rfl) ⟨Nat.zero_le _, Nat.zero_le _⟩ (fun r2 s2 h => ?_)
    refine r_if_ne (pc := 11) (tgt := 15) dX12_push_11 (by decide) (fun c => ?_) (fun c => ?_)
    · replace h := h.1 c
      refine r_aload_n (pc := 15) (x := 177) dX12_push_15 rfl ?_
      refine n_getR (pc := 16) (j := 13) (q := 181) dX12_push_16 fl_RX12_21 (by decide) sh_177 rfl rfl rfl ?_
      refine r_iconst (pc := 19) (v := 4) dX12_push_19 (by decide) ?_
      refine r_aload_n (pc := 20) (x := 177) dX12_push_20 rfl ?_
      refine n_getI (pc := 21) (j := 14) dX12_push_21 fl_RX12_188 (by decide) sh_177 rfl rfl ?_
      refine r_imul (pc := 24) dX12_push_24 ?_
      refine r_iload_n (pc := 25) (x := x1) dX12_push_25 rfl ?_
      obtain ⟨b3, h⟩ := h
      refine n_iast (pc := 26) (j := (ix (4 * (gi s2 177 14)))) dX12_push_26 (by decide) sh_181 b3 rfl ?_
      refine r_aload_n (pc := 27) (x := 177) dX12_push_27 rfl ?_
      refine n_getR (pc := 28) (j := 13) (q := 181) dX12_push_28 fl_RX12_21 (by decide) sh_177 rfl rfl rfl ?_
      refine r_iconst (pc := 31) (v := 4) dX12_push_31 (by decide) ?_
      refine r_aload_n (pc := 32) (x := 177) dX12_push_32 rfl ?_
      refine n_getI (pc := 33) (j := 14) dX12_push_33 fl_RX12_188 (by decide) sh_177 rfl rfl ?_
      refine r_imul (pc := 36) dX12_push_36 ?_
      refine r_iconst (pc := 37) (v := 1) dX12_push_37 (by decide) ?_
      refine r_iadd (pc := 38) dX12_push_38 ?_
      refine r_iload_n (pc := 39) (x := x2) dX12_push_39 rfl ?_
      obtain ⟨b4, h⟩ := h
      refine n_iast (pc := 40) (j := (ix ((4 * (gi (wi s2 181 (ix (4 * (gi s2 177 14))) x1) 177 14)) + 1))) dX12_push_40 (by decide) sh_181 b4 rfl ?_
      refine r_aload_n (pc := 41) (x := 177) dX12_push_41 rfl ?_
      refine n_getR (pc := 42) (j := 13) (q := 181) dX12_push_42 fl_RX12_21 (by decide) sh_177 rfl rfl rfl ?_
      refine r_iconst (pc := 45) (v := 4) dX12_push_45 (by decide) ?_
      refine r_aload_n (pc := 46) (x := 177) dX12_push_46 rfl ?_
      refine n_getI (pc := 47) (j := 14) dX12_push_47 fl_RX12_188 (by decide) sh_177 rfl rfl ?_
      refine r_imul (pc := 50) dX12_push_50 ?_
      refine r_iconst (pc := 51) (v := 2) dX12_push_51 (by decide) ?_
      refine r_iadd (pc := 52) dX12_push_52 ?_
      refine r_iload_n (pc := 53) (x := x3) dX12_push_53 rfl ?_
      obtain ⟨b5, h⟩ := h
      refine n_iast (pc := 54) (j := (ix ((4 * (gi (wi (wi s2 181 (ix (4 * (gi s2 177 14))) x1) 181 (ix ((4 * (gi (wi s2 181 (ix (4 * (gi s2 177 14))) x1) 177 14)) + 1)) x2) 177 14)) + 2))) dX12_push_54 (by decide) sh_181 b5 rfl ?_
      refine r_aload_n (pc := 55) (x := 177) dX12_push_55 rfl ?_
      refine n_getR (pc := 56) (j := 13) (q := 181) dX12_push_56 fl_RX12_21 (by decide) sh_177 rfl rfl rfl ?_
      refine r_iconst (pc := 59) (v := 4) dX12_push_59 (by decide) ?_
      refine r_aload_n (pc := 60) (x := 177) dX12_push_60 rfl ?_
      refine n_getI (pc := 61) (j := 14) dX12_push_61 fl_RX12_188 (by decide) sh_177 rfl rfl ?_
      refine r_imul (pc := 64) dX12_push_64 ?_
      refine r_iconst (pc := 65) (v := 3) dX12_push_65 (by decide) ?_
      refine r_iadd (pc := 66) dX12_push_66 ?_
      refine r_iload (pc := 67) (x := x4) dX12_push_67 rfl ?_
      obtain ⟨b6, h⟩ := h
      refine n_iast (pc := 69) (j := (ix ((4 * (gi (wi (wi (wi s2 181 (ix (4 * (gi s2 177 14))) x1) 181 (ix ((4 * (gi (wi s2 181 (ix (4 * (gi s2 177 14))) x1) 177 14)) + 1)) x2) 181 (ix ((4 * (gi (wi (wi s2 181 (ix (4 * (gi s2 177 14))) x1) 181 (ix ((4 * (gi (wi s2 181 (ix (4 * (gi s2 177 14))) x1) 177 14)) + 1)) x2) 177 14)) + 2)) x3) 177 14)) + 3))) dX12_push_69 (by decide) sh_181 b6 rfl ?_
      refine r_aload_n (pc := 70) (x := 177) dX12_push_70 rfl ?_
      refine r_dup (pc := 71) dX12_push_71 rfl ?_
      refine n_getI (pc := 72) (j := 14) dX12_push_72 fl_RX12_188 (by decide) sh_177 rfl rfl ?_
      refine r_iconst (pc := 75) (v := 1) dX12_push_75 (by decide) ?_
      refine r_iadd (pc := 76) dX12_push_76 ?_
      refine n_putI (pc := 77) (j := 14) dX12_push_77 fl_RX12_188 fw_12_14 (by decide) sh_177 rfl rfl ?_
      exact n_vret (pc := 80) dX12_push_80 rfl (Nat.le_refl _) (Nat.le_refl _) h
    · replace h := h.2 c
      exact n_vret (pc := 14) dX12_push_14 rfl (Nat.le_refl _) (Nat.le_refl _) h
def wpX12_pushDay (x1 : Int32) (x2 : Int32) (s : gS) (Q : gS → Prop) : Prop := wpX12_push x1 x1 0 x2 s (fun s1 => Q s1)
set_option maxRecDepth 20000 in
theorem spX12_pushDay {l : Launch} {x1 : Int32} {x2 : Int32}  {s : gS} {Q : gS → Prop} (h : wpX12_pushDay x1 x2 s Q) : Ct l mX12_pushDay 4 0 0 [.ref 177, .int x1, .int x2] (nrm s) (q_v Q) := by
  refine Ct.of (by decide) (Nat.le_of_ble_eq_true rfl) (fun X => ?_)
  refine n_L (L' := [some (.ref 177), some (.int x1), some (.int x2)]) (le_s (le_s (le_s (le_e)))) ?_
  refine r_aload_n (pc := 0) (x := 177) dX12_pushDay_0 rfl ?_
  refine r_iload_n (pc := 1) (x := x1) dX12_pushDay_1 rfl ?_
  refine r_iload_n (pc := 2) (x := x1) dX12_pushDay_2 rfl ?_
  refine r_iconst (pc := 3) (v := 0) dX12_pushDay_3 (by decide) ?_
  refine r_iload_n (pc := 4) (x := x2) dX12_pushDay_4 rfl ?_
  refine n_Vv0 (pc := 5) (S0 := []) (spX12_push h) gmX12_push selX12_push lk_RX12_191 dX12_pushDay_5 rfl (by decide) sh_177 ⟨rfl, by decide⟩ rfl ⟨Nat.le_of_ble_eq_true rfl, Nat.le_of_ble_eq_true rfl⟩ (Nat.le_of_ble_eq_true rfl) ⟨Nat.zero_le _, Nat.zero_le _⟩ (fun s1 h => ?_)
  exact n_vret (pc := 8) dX12_pushDay_8 rfl (Nat.le_refl _) (Nat.le_refl _) h
def wpX12_h (x1 : Int32) (x2 : Int32) (s : gS) (Q : Int32 → gS → Prop) : Prop := vp_in ((4 * x1) + x2) 4096 ∧ (Q (gi s 181 (ix ((4 * x1) + x2))) s)
set_option maxRecDepth 20000 in
theorem spX12_h {l : Launch} {x1 : Int32} {x2 : Int32}  {s : gS} {Q : Int32 → gS → Prop} (h : wpX12_h x1 x2 s Q) : Ct l mX12_h 1 0 0 [.ref 177, .int x1, .int x2] (nrm s) (q_i Q) := by
  refine Ct.of (by decide) (Nat.le_of_ble_eq_true rfl) (fun X => ?_)
  refine n_L (L' := [some (.ref 177), some (.int x1), some (.int x2)]) (le_s (le_s (le_s (le_e)))) ?_
  refine r_aload_n (pc := 0) (x := 177) dX12_h_0 rfl ?_
  refine n_getR (pc := 1) (j := 13) (q := 181) dX12_h_1 fl_RX12_21 (by decide) sh_177 rfl rfl rfl ?_
  refine r_iconst (pc := 4) (v := 4) dX12_h_4 (by decide) ?_
  refine r_iload_n (pc := 5) (x := x1) dX12_h_5 rfl ?_
  refine r_imul (pc := 6) dX12_h_6 ?_
  refine r_iload_n (pc := 7) (x := x2) dX12_h_7 rfl ?_
  refine r_iadd (pc := 8) dX12_h_8 ?_
  obtain ⟨b1, h⟩ := h
  refine n_iald (pc := 9) (j := (ix ((4 * x1) + x2))) dX12_h_9 (by decide) sh_181 b1 rfl ?_
  exact n_iret (pc := 10) dX12_h_10 rfl (Nat.le_refl _) (Nat.le_refl _) h
def wX12_copyOver_2 (x1 : Int32) (x2 : Int32) (Q : gS → Prop)  : Nat → Int32 → gS → Prop
  | 0, _, _ => False
  | n + 1, y3, s => (4 ≤ y3 → Q s) ∧ (¬ (4 ≤ y3) → vp_in ((4 * x2) + y3) 4096 ∧ (vp_in ((4 * x1) + y3) 4096 ∧ (wX12_copyOver_2 x1 x2 Q n (y3 + 1) (wi s 181 (ix ((4 * x1) + y3)) (gi s 181 (ix ((4 * x2) + y3)))))))
set_option maxRecDepth 20000 in
theorem pX12_copyOver_2 {l : Launch} {X : gX} {x1 : Int32} {x2 : Int32}  {Q : gS → Prop}  : ∀ (n : Nat) (y3 : Int32) (s : gS) (h : wX12_copyOver_2 x1 x2 Q n y3 s) , Gw l mX12_copyOver (g_rm 1 0 0) X 2 [some (.ref 177), some (.int x1), some (.int x2), some (.int y3)] [] (nrm s) 0 0 (g_Z X (q_v Q) 0 0) := by
  intro n
  induction n with
  | zero => intro y3 s h; exact h.elim
  | succ n ih0 =>
    intro y3 s h 
    have ih : ∀ (y3 : Int32) (s : gS), wX12_copyOver_2 x1 x2 Q n y3 s → Gw l mX12_copyOver (g_rm 1 0 0) X 2 [some (.ref 177), some (.int x1), some (.int x2), some (.int y3)] [] (nrm s) 0 0 (g_Z X (q_v Q) 0 0) := fun y3 s h => ih0 y3 s h 
    refine r_iload_n (pc := 2) (x := y3) dX12_copyOver_2 rfl ?_
    refine r_iconst (pc := 3) (v := 4) dX12_copyOver_3 (by decide) ?_
    refine r_icmp_ge (pc := 4) (tgt := 33) dX12_copyOver_4 (by decide) (fun c => ?_) (fun c => ?_)
    · replace h := h.1 c
      exact n_vret (pc := 33) dX12_copyOver_33 rfl (Nat.le_refl _) (Nat.le_refl _) h
    · replace h := h.2 c
      refine r_aload_n (pc := 7) (x := 177) dX12_copyOver_7 rfl ?_
      refine n_getR (pc := 8) (j := 13) (q := 181) dX12_copyOver_8 fl_RX12_21 (by decide) sh_177 rfl rfl rfl ?_
      refine r_iconst (pc := 11) (v := 4) dX12_copyOver_11 (by decide) ?_
      refine r_iload_n (pc := 12) (x := x1) dX12_copyOver_12 rfl ?_
      refine r_imul (pc := 13) dX12_copyOver_13 ?_
      refine r_iload_n (pc := 14) (x := y3) dX12_copyOver_14 rfl ?_
      refine r_iadd (pc := 15) dX12_copyOver_15 ?_
      refine r_aload_n (pc := 16) (x := 177) dX12_copyOver_16 rfl ?_
      refine n_getR (pc := 17) (j := 13) (q := 181) dX12_copyOver_17 fl_RX12_21 (by decide) sh_177 rfl rfl rfl ?_
      refine r_iconst (pc := 20) (v := 4) dX12_copyOver_20 (by decide) ?_
      refine r_iload_n (pc := 21) (x := x2) dX12_copyOver_21 rfl ?_
      refine r_imul (pc := 22) dX12_copyOver_22 ?_
      refine r_iload_n (pc := 23) (x := y3) dX12_copyOver_23 rfl ?_
      refine r_iadd (pc := 24) dX12_copyOver_24 ?_
      obtain ⟨b1, h⟩ := h
      refine n_iald (pc := 25) (j := (ix ((4 * x2) + y3))) dX12_copyOver_25 (by decide) sh_181 b1 rfl ?_
      obtain ⟨b2, h⟩ := h
      refine n_iast (pc := 26) (j := (ix ((4 * x1) + y3))) dX12_copyOver_26 (by decide) sh_181 b2 rfl ?_
      refine n_iinc (pc := 27) (x := y3) (w := 1) (L' := [some (.ref 177), some (.int x1), some (.int x2), some (.int (y3 + 1))]) dX12_copyOver_27 rfl (by decide) rfl (by decide) rfl ?_
      refine r_goto (pc := 30) (tgt := 2) dX12_copyOver_30 (by decide) ?_
      refine n_L (L' := [some (.ref 177), some (.int x1), some (.int x2), some (.int (y3 + 1))]) (le_s (le_s (le_s (le_s (le_e))))) ?_
      exact ih _ _ h
def wpX12_copyOver (x1 : Int32) (x2 : Int32) (s : gS) (Q : gS → Prop) : Prop := ∃ n2, wX12_copyOver_2 x1 x2 Q n2 0 s
set_option maxRecDepth 20000 in
theorem spX12_copyOver {l : Launch} {x1 : Int32} {x2 : Int32}  {s : gS} {Q : gS → Prop} (h : wpX12_copyOver x1 x2 s Q) : Ct l mX12_copyOver 1 0 0 [.ref 177, .int x1, .int x2] (nrm s) (q_v Q) := by
  refine Ct.of (by decide) (Nat.le_of_ble_eq_true rfl) (fun X => ?_)
  refine n_L (L' := [some (.ref 177), some (.int x1), some (.int x2), none]) (le_s (le_s (le_s (le_p (le_e))))) ?_
  refine r_iconst (pc := 0) (v := 0) dX12_copyOver_0 (by decide) ?_
  refine r_istore_n (pc := 1) (L' := [some (.ref 177), some (.int x1), some (.int x2), some (.int 0)]) dX12_copyOver_1 rfl (by decide) rfl ?_
  refine n_L (L' := [some (.ref 177), some (.int x1), some (.int x2), some (.int 0)]) (le_s (le_s (le_s (le_s (le_e))))) ?_
  obtain ⟨n, h⟩ := h
  exact pX12_copyOver_2  n _ _ h 
def wpX12_pushMonth (x1 : Int32) (x2 : Int32) (x3 : Int32) (s : gS) (Q : gS → Prop) : Prop := wpX12_in x1 2000 2027 s (fun r1 s1 => (¬ r1 = 0 → wpX12_monthDay x1 x2 s1 (fun r2 s2 => wpX12_monthLength x1 x2 s2 (fun r3 s3 => wpX12_push r2 ((r2 + r3) - 1) 2 x3 s3 (fun s4 => Q s4)))) ∧ (r1 = 0 → Q s1))
set_option maxRecDepth 20000 in
theorem spX12_pushMonth {l : Launch} {x1 : Int32} {x2 : Int32} {x3 : Int32}  {s : gS} {Q : gS → Prop} (h : wpX12_pushMonth x1 x2 x3 s Q) : Ct l mX12_pushMonth 4 0 0 [.ref 177, .int x1, .int x2, .int x3] (nrm s) (q_v Q) := by
  refine Ct.of (by decide) (Nat.le_of_ble_eq_true rfl) (fun X => ?_)
  refine n_L (L' := [some (.ref 177), some (.int x1), some (.int x2), some (.int x3), none]) (le_s (le_s (le_s (le_s (le_p (le_e)))))) ?_
  refine r_iload_n (pc := 0) (x := x1) dX12_pushMonth_0 rfl ?_
  refine r_sipush (pc := 1) (v := 2000) dX12_pushMonth_1 (by decide) ?_
  refine r_sipush (pc := 4) (v := 2027) dX12_pushMonth_4 (by decide) ?_
  refine n_Si0 (pc := 7) (S0 := []) (spX12_in h) gmX12_in lk_RX12_62 dX12_pushMonth_7 rfl rfl ⟨Nat.le_of_ble_eq_true rfl, Nat.le_of_ble_eq_true rfl⟩ (Nat.le_of_ble_eq_true rfl) ⟨Nat.zero_le _, Nat.zero_le _⟩ (fun r1 s1 h => ?_)
  refine r_if_ne (pc := 10) (tgt := 14) dX12_pushMonth_10 (by decide) (fun c => ?_) (fun c => ?_)
  · replace h := h.1 c
    refine r_iload_n (pc := 14) (x := x1) dX12_pushMonth_14 rfl ?_
    refine r_iload_n (pc := 15) (x := x2) dX12_pushMonth_15 rfl ?_
    refine n_Si0 (pc := 16) (S0 := []) (spX12_monthDay h) gmX12_monthDay lk_RX12_77 dX12_pushMonth_16 rfl rfl ⟨Nat.le_of_ble_eq_true rfl, Nat.le_of_ble_eq_true rfl⟩ (Nat.le_of_ble_eq_true rfl) ⟨Nat.zero_le _, Nat.zero_le _⟩ (fun r2 s2 h => ?_)
    refine r_istore (pc := 19) (L' := [some (.ref 177), some (.int x1), some (.int x2), some (.int x3), some (.int r2)]) dX12_pushMonth_19 rfl (by decide) rfl ?_
    refine r_aload_n (pc := 21) (x := 177) dX12_pushMonth_21 rfl ?_
    refine r_iload (pc := 22) (x := r2) dX12_pushMonth_22 rfl ?_
    refine r_iload (pc := 24) (x := r2) dX12_pushMonth_24 rfl ?_
    refine r_iload_n (pc := 26) (x := x1) dX12_pushMonth_26 rfl ?_
    refine r_iload_n (pc := 27) (x := x2) dX12_pushMonth_27 rfl ?_
    refine n_Si0 (pc := 28) (S0 := [.int r2, .int r2, .ref 177]) (spX12_monthLength h) gmX12_monthLength lk_RX12_70 dX12_pushMonth_28 rfl rfl ⟨Nat.le_of_ble_eq_true rfl, Nat.le_of_ble_eq_true rfl⟩ (Nat.le_of_ble_eq_true rfl) ⟨Nat.zero_le _, Nat.zero_le _⟩ (fun r3 s3 h => ?_)
    refine r_iadd (pc := 31) dX12_pushMonth_31 ?_
    refine r_iconst (pc := 32) (v := 1) dX12_pushMonth_32 (by decide) ?_
    refine r_isub (pc := 33) dX12_pushMonth_33 ?_
    refine r_iconst (pc := 34) (v := 2) dX12_pushMonth_34 (by decide) ?_
    refine r_iload_n (pc := 35) (x := x3) dX12_pushMonth_35 rfl ?_
    refine n_Vv0 (pc := 36) (S0 := []) (spX12_push h) gmX12_push selX12_push lk_RX12_191 dX12_pushMonth_36 rfl (by decide) sh_177 ⟨rfl, by decide⟩ rfl ⟨Nat.le_of_ble_eq_true rfl, Nat.le_of_ble_eq_true rfl⟩ (Nat.le_of_ble_eq_true rfl) ⟨Nat.zero_le _, Nat.zero_le _⟩ (fun s4 h => ?_)
    exact n_vret (pc := 39) dX12_pushMonth_39 rfl (Nat.le_refl _) (Nat.le_refl _) h
  · replace h := h.2 c
    exact n_vret (pc := 13) dX12_pushMonth_13 rfl (Nat.le_refl _) (Nat.le_refl _) h
def wpX12_pushYear (x1 : Int32) (x2 : Int32) (s : gS) (Q : gS → Prop) : Prop := wpX12_in x1 2000 2027 s (fun r1 s1 => (¬ r1 = 0 → wpX12_aheadOf x1 s1 (fun r2 s2 => wpX12_aheadOf (x1 + 1) s2 (fun r3 s3 => wpX12_push r2 (r3 - 1) 3 x2 s3 (fun s4 => Q s4)))) ∧ (r1 = 0 → Q s1))
set_option maxRecDepth 20000 in
theorem spX12_pushYear {l : Launch} {x1 : Int32} {x2 : Int32}  {s : gS} {Q : gS → Prop} (h : wpX12_pushYear x1 x2 s Q) : Ct l mX12_pushYear 4 0 0 [.ref 177, .int x1, .int x2] (nrm s) (q_v Q) := by
  refine Ct.of (by decide) (Nat.le_of_ble_eq_true rfl) (fun X => ?_)
  refine n_L (L' := [some (.ref 177), some (.int x1), some (.int x2)]) (le_s (le_s (le_s (le_e)))) ?_
  refine r_iload_n (pc := 0) (x := x1) dX12_pushYear_0 rfl ?_
  refine r_sipush (pc := 1) (v := 2000) dX12_pushYear_1 (by decide) ?_
  refine r_sipush (pc := 4) (v := 2027) dX12_pushYear_4 (by decide) ?_
  refine n_Si0 (pc := 7) (S0 := []) (spX12_in h) gmX12_in lk_RX12_62 dX12_pushYear_7 rfl rfl ⟨Nat.le_of_ble_eq_true rfl, Nat.le_of_ble_eq_true rfl⟩ (Nat.le_of_ble_eq_true rfl) ⟨Nat.zero_le _, Nat.zero_le _⟩ (fun r1 s1 h => ?_)
  refine r_if_ne (pc := 10) (tgt := 14) dX12_pushYear_10 (by decide) (fun c => ?_) (fun c => ?_)
  · replace h := h.1 c
    refine r_aload_n (pc := 14) (x := 177) dX12_pushYear_14 rfl ?_
    refine r_iload_n (pc := 15) (x := x1) dX12_pushYear_15 rfl ?_
    refine n_Si0 (pc := 16) (S0 := [.ref 177]) (spX12_aheadOf h) gmX12_aheadOf lk_RX12_66 dX12_pushYear_16 rfl rfl ⟨Nat.le_of_ble_eq_true rfl, Nat.le_of_ble_eq_true rfl⟩ (Nat.le_of_ble_eq_true rfl) ⟨Nat.zero_le _, Nat.zero_le _⟩ (fun r2 s2 h => ?_)
    refine r_iload_n (pc := 19) (x := x1) dX12_pushYear_19 rfl ?_
    refine r_iconst (pc := 20) (v := 1) dX12_pushYear_20 (by decide) ?_
    refine r_iadd (pc := 21) dX12_pushYear_21 ?_
    refine n_Si0 (pc := 22) (S0 := [.int r2, .ref 177]) (spX12_aheadOf h) gmX12_aheadOf lk_RX12_66 dX12_pushYear_22 rfl rfl ⟨Nat.le_of_ble_eq_true rfl, Nat.le_of_ble_eq_true rfl⟩ (Nat.le_of_ble_eq_true rfl) ⟨Nat.zero_le _, Nat.zero_le _⟩ (fun r3 s3 h => ?_)
    refine r_iconst (pc := 25) (v := 1) dX12_pushYear_25 (by decide) ?_
    refine r_isub (pc := 26) dX12_pushYear_26 ?_
    refine r_iconst (pc := 27) (v := 3) dX12_pushYear_27 (by decide) ?_
    refine r_iload_n (pc := 28) (x := x2) dX12_pushYear_28 rfl ?_
    refine n_Vv0 (pc := 29) (S0 := []) (spX12_push h) gmX12_push selX12_push lk_RX12_191 dX12_pushYear_29 rfl (by decide) sh_177 ⟨rfl, by decide⟩ rfl ⟨Nat.le_of_ble_eq_true rfl, Nat.le_of_ble_eq_true rfl⟩ (Nat.le_of_ble_eq_true rfl) ⟨Nat.zero_le _, Nat.zero_le _⟩ (fun s4 h => ?_)
    exact n_vret (pc := 32) dX12_pushYear_32 rfl (Nat.le_refl _) (Nat.le_refl _) h
  · replace h := h.2 c
    exact n_vret (pc := 13) dX12_pushYear_13 rfl (Nat.le_refl _) (Nat.le_refl _) h
def wpX12_pushUnit (x1 : Int32) (x2 : Int32) (x3 : Int32) (x4 : Int32) (s : gS) (Q : gS → Prop) : Prop := (x1 = 0 → wpX12_pushDay (x2 + x3) x4 s (fun s1 => Q s1)) ∧ (x1 = 1 → wpX12_weekday x2 s (fun r2 s2 => wpX12_push ((x2 - r2) + (7 * x3)) (((x2 - r2) + (7 * x3)) + 6) 1 x4 s2 (fun s3 => Q s3))) ∧ (x1 = 2 → wpX12_yearOf x2 s (fun r4 s4 => wpX12_monthOf x2 s4 (fun r5 s5 => (0 ≤ ((((12 * (r4 - 2000)) + r5) - 1) + x3) → wpX12_pushMonth (2000 + (((((12 * (r4 - 2000)) + r5) - 1) + x3) / 12)) ((jrem ((((12 * (r4 - 2000)) + r5) - 1) + x3) 12) + 1) x4 s5 (fun s6 => Q s6)) ∧ (¬ (0 ≤ ((((12 * (r4 - 2000)) + r5) - 1) + x3)) → Q s5)))) ∧ (¬ x1 = 0 → ¬ x1 = 1 → ¬ x1 = 2 → wpX12_yearOf x2 s (fun r7 s7 => wpX12_pushYear (r7 + x3) x4 s7 (fun s8 => Q s8)))
set_option maxRecDepth 20000 in
theorem spX12_pushUnit {l : Launch} {x1 : Int32} {x2 : Int32} {x3 : Int32} {x4 : Int32}  {s : gS} {Q : gS → Prop} (h : wpX12_pushUnit x1 x2 x3 x4 s Q) : Ct l mX12_pushUnit 5 0 0 [.ref 177, .int x1, .int x2, .int x3, .int x4] (nrm s) (q_v Q) := by
  refine Ct.of (by decide) (Nat.le_of_ble_eq_true rfl) (fun X => ?_)
  refine n_L (L' := [some (.ref 177), some (.int x1), some (.int x2), some (.int x3), some (.int x4), none]) (le_s (le_s (le_s (le_s (le_s (le_p (le_e))))))) ?_
  refine r_iload_n (pc := 0) (x := x1) dX12_pushUnit_0 rfl ?_
  by_cases c9_0 : x1 = 0
  · replace h := h.1 c9_0
    refine r_tableIn (pc := 1) (off := 27) (tgt := 28) dX12_pushUnit_1 (by rw [c9_0]; decide) (by rw [c9_0]; decide) (by rw [c9_0]; decide) (by decide) ?_
    refine r_aload_n (pc := 28) (x := 177) dX12_pushUnit_28 rfl ?_
    refine r_iload_n (pc := 29) (x := x2) dX12_pushUnit_29 rfl ?_
    refine r_iload_n (pc := 30) (x := x3) dX12_pushUnit_30 rfl ?_
    refine r_iadd (pc := 31) dX12_pushUnit_31 ?_
    refine r_iload (pc := 32) (x := x4) dX12_pushUnit_32 rfl ?_
    refine n_Vv0 (pc := 34) (S0 := []) (spX12_pushDay h) gmX12_pushDay selX12_pushDay lk_RX12_195 dX12_pushUnit_34 rfl (by decide) sh_177 ⟨rfl, by decide⟩ rfl ⟨Nat.le_of_ble_eq_true rfl, Nat.le_of_ble_eq_true rfl⟩ (Nat.le_of_ble_eq_true rfl) ⟨Nat.zero_le _, Nat.zero_le _⟩ (fun s1 h => ?_)
    exact n_vret (pc := 37) dX12_pushUnit_37 rfl (Nat.le_refl _) (Nat.le_refl _) h
  by_cases c9_1 : x1 = 1
  · replace h := h.2.1 c9_1
    refine r_tableIn (pc := 1) (off := 37) (tgt := 38) dX12_pushUnit_1 (by rw [c9_1]; decide) (by rw [c9_1]; decide) (by rw [c9_1]; decide) (by decide) ?_
    refine r_iload_n (pc := 38) (x := x2) dX12_pushUnit_38 rfl ?_
    refine r_iload_n (pc := 39) (x := x2) dX12_pushUnit_39 rfl ?_
    refine n_Si0 (pc := 40) (S0 := [.int x2]) (spX12_weekday h) gmX12_weekday lk_RX12_98 dX12_pushUnit_40 rfl rfl ⟨Nat.le_of_ble_eq_true rfl, Nat.le_of_ble_eq_true rfl⟩ (Nat.le_of_ble_eq_true rfl) ⟨Nat.zero_le _, Nat.zero_le _⟩ (fun r2 s2 h => ?_)
    refine r_isub (pc := 43) dX12_pushUnit_43 ?_
    refine r_bipush (pc := 44) (v := 7) dX12_pushUnit_44 (by decide) ?_
    refine r_iload_n (pc := 46) (x := x3) dX12_pushUnit_46 rfl ?_
    refine r_imul (pc := 47) dX12_pushUnit_47 ?_
    refine r_iadd (pc := 48) dX12_pushUnit_48 ?_
    refine r_istore (pc := 49) (L' := [some (.ref 177), some (.int x1), some (.int x2), some (.int x3), some (.int x4), some (.int ((x2 - r2) + (7 * x3)))]) dX12_pushUnit_49 rfl (by decide) rfl ?_
    refine r_aload_n (pc := 51) (x := 177) dX12_pushUnit_51 rfl ?_
    refine r_iload (pc := 52) (x := (x2 - r2) + (7 * x3)) dX12_pushUnit_52 rfl ?_
    refine r_iload (pc := 54) (x := (x2 - r2) + (7 * x3)) dX12_pushUnit_54 rfl ?_
    refine r_bipush (pc := 56) (v := 6) dX12_pushUnit_56 (by decide) ?_
    refine r_iadd (pc := 58) dX12_pushUnit_58 ?_
    refine r_iconst (pc := 59) (v := 1) dX12_pushUnit_59 (by decide) ?_
    refine r_iload (pc := 60) (x := x4) dX12_pushUnit_60 rfl ?_
    refine n_Vv0 (pc := 62) (S0 := []) (spX12_push h) gmX12_push selX12_push lk_RX12_191 dX12_pushUnit_62 rfl (by decide) sh_177 ⟨rfl, by decide⟩ rfl ⟨Nat.le_of_ble_eq_true rfl, Nat.le_of_ble_eq_true rfl⟩ (Nat.le_of_ble_eq_true rfl) ⟨Nat.zero_le _, Nat.zero_le _⟩ (fun s3 h => ?_)
    exact n_vret (pc := 65) dX12_pushUnit_65 rfl (Nat.le_refl _) (Nat.le_refl _) h
  by_cases c9_2 : x1 = 2
  · replace h := h.2.2.1 c9_2
    refine r_tableIn (pc := 1) (off := 65) (tgt := 66) dX12_pushUnit_1 (by rw [c9_2]; decide) (by rw [c9_2]; decide) (by rw [c9_2]; decide) (by decide) ?_
    refine r_bipush (pc := 66) (v := 12) dX12_pushUnit_66 (by decide) ?_
    refine r_iload_n (pc := 68) (x := x2) dX12_pushUnit_68 rfl ?_
    refine n_Si0 (pc := 69) (S0 := [.int 12]) (spX12_yearOf h) gmX12_yearOf lk_RX12_74 dX12_pushUnit_69 rfl rfl ⟨Nat.le_of_ble_eq_true rfl, Nat.le_of_ble_eq_true rfl⟩ (Nat.le_of_ble_eq_true rfl) ⟨Nat.zero_le _, Nat.zero_le _⟩ (fun r4 s4 h => ?_)
    refine r_sipush (pc := 72) (v := 2000) dX12_pushUnit_72 (by decide) ?_
    refine r_isub (pc := 75) dX12_pushUnit_75 ?_
    refine r_imul (pc := 76) dX12_pushUnit_76 ?_
    refine r_iload_n (pc := 77) (x := x2) dX12_pushUnit_77 rfl ?_
    refine n_Si0 (pc := 78) (S0 := [.int (12 * (r4 - 2000))]) (spX12_monthOf h) gmX12_monthOf lk_RX12_80 dX12_pushUnit_78 rfl rfl ⟨Nat.le_of_ble_eq_true rfl, Nat.le_of_ble_eq_true rfl⟩ (Nat.le_of_ble_eq_true rfl) ⟨Nat.zero_le _, Nat.zero_le _⟩ (fun r5 s5 h => ?_)
    refine r_iadd (pc := 81) dX12_pushUnit_81 ?_
    refine r_iconst (pc := 82) (v := 1) dX12_pushUnit_82 (by decide) ?_
    refine r_isub (pc := 83) dX12_pushUnit_83 ?_
    refine r_iload_n (pc := 84) (x := x3) dX12_pushUnit_84 rfl ?_
    refine r_iadd (pc := 85) dX12_pushUnit_85 ?_
    refine r_istore (pc := 86) (L' := [some (.ref 177), some (.int x1), some (.int x2), some (.int x3), some (.int x4), some (.int ((((12 * (r4 - 2000)) + r5) - 1) + x3))]) dX12_pushUnit_86 rfl (by decide) rfl ?_
    refine r_iload (pc := 88) (x := (((12 * (r4 - 2000)) + r5) - 1) + x3) dX12_pushUnit_88 rfl ?_
    refine r_if_ge (pc := 90) (tgt := 94) dX12_pushUnit_90 (by decide) (fun c => ?_) (fun c => ?_)
    · replace h := h.1 c
      refine r_aload_n (pc := 94) (x := 177) dX12_pushUnit_94 rfl ?_
      refine r_sipush (pc := 95) (v := 2000) dX12_pushUnit_95 (by decide) ?_
      refine r_iload (pc := 98) (x := (((12 * (r4 - 2000)) + r5) - 1) + x3) dX12_pushUnit_98 rfl ?_
      refine r_bipush (pc := 100) (v := 12) dX12_pushUnit_100 (by decide) ?_
      refine r_idiv (pc := 102) dX12_pushUnit_102 (by decide) ?_
      refine r_iadd (pc := 103) dX12_pushUnit_103 ?_
      refine r_iload (pc := 104) (x := (((12 * (r4 - 2000)) + r5) - 1) + x3) dX12_pushUnit_104 rfl ?_
      refine r_bipush (pc := 106) (v := 12) dX12_pushUnit_106 (by decide) ?_
      refine n_irem (pc := 108) dX12_pushUnit_108 (by decide) ?_
      refine r_iconst (pc := 109) (v := 1) dX12_pushUnit_109 (by decide) ?_
      refine r_iadd (pc := 110) dX12_pushUnit_110 ?_
      refine r_iload (pc := 111) (x := x4) dX12_pushUnit_111 rfl ?_
      refine n_Vv0 (pc := 113) (S0 := []) (spX12_pushMonth h) gmX12_pushMonth selX12_pushMonth lk_RX12_199 dX12_pushUnit_113 rfl (by decide) sh_177 ⟨rfl, by decide⟩ rfl ⟨Nat.le_of_ble_eq_true rfl, Nat.le_of_ble_eq_true rfl⟩ (Nat.le_of_ble_eq_true rfl) ⟨Nat.zero_le _, Nat.zero_le _⟩ (fun s6 h => ?_)
      exact n_vret (pc := 116) dX12_pushUnit_116 rfl (Nat.le_refl _) (Nat.le_refl _) h
    · replace h := h.2 c
      exact n_vret (pc := 93) dX12_pushUnit_93 rfl (Nat.le_refl _) (Nat.le_refl _) h
  replace h := h.2.2.2 c9_0 c9_1 c9_2
  refine r_tableOut (pc := 1) (tgt := 117) dX12_pushUnit_1 (by have e0 := lv_neT c9_0 (show (0 : Int32).toInt = 0 by decide); have e1 := lv_neT c9_1 (show (1 : Int32).toInt = 1 by decide); have e2 := lv_neT c9_2 (show (2 : Int32).toInt = 2 by decide); omega) (by decide) ?_
  refine r_aload_n (pc := 117) (x := 177) dX12_pushUnit_117 rfl ?_
  refine r_iload_n (pc := 118) (x := x2) dX12_pushUnit_118 rfl ?_
  refine n_Si0 (pc := 119) (S0 := [.ref 177]) (spX12_yearOf h) gmX12_yearOf lk_RX12_74 dX12_pushUnit_119 rfl rfl ⟨Nat.le_of_ble_eq_true rfl, Nat.le_of_ble_eq_true rfl⟩ (Nat.le_of_ble_eq_true rfl) ⟨Nat.zero_le _, Nat.zero_le _⟩ (fun r7 s7 h => ?_)
  refine r_iload_n (pc := 122) (x := x3) dX12_pushUnit_122 rfl ?_
  refine r_iadd (pc := 123) dX12_pushUnit_123 ?_
  refine r_iload (pc := 124) (x := x4) dX12_pushUnit_124 rfl ?_
  refine n_Vv0 (pc := 126) (S0 := []) (spX12_pushYear h) gmX12_pushYear selX12_pushYear lk_RX12_203 dX12_pushUnit_126 rfl (by decide) sh_177 ⟨rfl, by decide⟩ rfl ⟨Nat.le_of_ble_eq_true rfl, Nat.le_of_ble_eq_true rfl⟩ (Nat.le_of_ble_eq_true rfl) ⟨Nat.zero_le _, Nat.zero_le _⟩ (fun s8 h => ?_)
  exact n_vret (pc := 129) dX12_pushUnit_129 rfl (Nat.le_refl _) (Nat.le_refl _) h
def wX12_drop_10 (x1 : Int32) (x2 : Int32) (Q : gS → Prop)  : Nat → Int32 → Int32 → gS → Prop
  | 0, _, _, _ => False
  | n + 1, y3, y4, s => (y3 ≤ y4 → Q (wi s 177 14 (x1 + y3))) ∧ (¬ (y3 ≤ y4) → wpX12_copyOver (x1 + y4) (x2 + y4) s (fun s1 => wX12_drop_10 x1 x2 Q n y3 (y4 + 1) s1))
set_option maxRecDepth 20000 in
theorem pX12_drop_10 {l : Launch} {X : gX} {x1 : Int32} {x2 : Int32}  {Q : gS → Prop}  : ∀ (n : Nat) (y3 : Int32) (y4 : Int32) (s : gS) (h : wX12_drop_10 x1 x2 Q n y3 y4 s) , Gw l mX12_drop (g_rm 2 0 0) X 10 [some (.ref 177), some (.int x1), some (.int x2), some (.int y3), some (.int y4)] [] (nrm s) 0 0 (g_Z X (q_v Q) 0 0) := by
  intro n
  induction n with
  | zero => intro y3 y4 s h; exact h.elim
  | succ n ih0 =>
    intro y3 y4 s h 
    have ih : ∀ (y3 : Int32) (y4 : Int32) (s : gS), wX12_drop_10 x1 x2 Q n y3 y4 s → Gw l mX12_drop (g_rm 2 0 0) X 10 [some (.ref 177), some (.int x1), some (.int x2), some (.int y3), some (.int y4)] [] (nrm s) 0 0 (g_Z X (q_v Q) 0 0) := fun y3 y4 s h => ih0 y3 y4 s h 
    refine r_iload (pc := 10) (x := y4) dX12_drop_10 rfl ?_
    refine r_iload_n (pc := 12) (x := y3) dX12_drop_12 rfl ?_
    refine r_icmp_ge (pc := 13) (tgt := 34) dX12_drop_13 (by decide) (fun c => ?_) (fun c => ?_)
    · replace h := h.1 c
      refine r_aload_n (pc := 34) (x := 177) dX12_drop_34 rfl ?_
      refine r_iload_n (pc := 35) (x := x1) dX12_drop_35 rfl ?_
      refine r_iload_n (pc := 36) (x := y3) dX12_drop_36 rfl ?_
      refine r_iadd (pc := 37) dX12_drop_37 ?_
      refine n_putI (pc := 38) (j := 14) dX12_drop_38 fl_RX12_188 fw_12_14 (by decide) sh_177 rfl rfl ?_
      exact n_vret (pc := 41) dX12_drop_41 rfl (Nat.le_refl _) (Nat.le_refl _) h
    · replace h := h.2 c
      refine r_aload_n (pc := 16) (x := 177) dX12_drop_16 rfl ?_
      refine r_iload_n (pc := 17) (x := x1) dX12_drop_17 rfl ?_
      refine r_iload (pc := 18) (x := y4) dX12_drop_18 rfl ?_
      refine r_iadd (pc := 20) dX12_drop_20 ?_
      refine r_iload_n (pc := 21) (x := x2) dX12_drop_21 rfl ?_
      refine r_iload (pc := 22) (x := y4) dX12_drop_22 rfl ?_
      refine r_iadd (pc := 24) dX12_drop_24 ?_
      refine n_Vv0 (pc := 25) (S0 := []) (spX12_copyOver h) gmX12_copyOver selX12_copyOver lk_RX12_206 dX12_drop_25 rfl (by decide) sh_177 ⟨rfl, by decide⟩ rfl ⟨Nat.le_of_ble_eq_true rfl, Nat.le_of_ble_eq_true rfl⟩ (Nat.le_of_ble_eq_true rfl) ⟨Nat.zero_le _, Nat.zero_le _⟩ (fun s1 h => ?_)
      refine n_iinc (pc := 28) (x := y4) (w := 1) (L' := [some (.ref 177), some (.int x1), some (.int x2), some (.int y3), some (.int (y4 + 1))]) dX12_drop_28 rfl (by decide) rfl (by decide) rfl ?_
      refine r_goto (pc := 31) (tgt := 10) dX12_drop_31 (by decide) ?_
      refine n_L (L' := [some (.ref 177), some (.int x1), some (.int x2), some (.int y3), some (.int (y4 + 1))]) (le_s (le_s (le_s (le_s (le_s (le_e)))))) ?_
      exact ih _ _ _ h
def wpX12_drop (x1 : Int32) (x2 : Int32) (s : gS) (Q : gS → Prop) : Prop := ∃ n10, wX12_drop_10 x1 x2 Q n10 ((gi s 177 14) - x2) 0 s
set_option maxRecDepth 20000 in
theorem spX12_drop {l : Launch} {x1 : Int32} {x2 : Int32}  {s : gS} {Q : gS → Prop} (h : wpX12_drop x1 x2 s Q) : Ct l mX12_drop 2 0 0 [.ref 177, .int x1, .int x2] (nrm s) (q_v Q) := by
  refine Ct.of (by decide) (Nat.le_of_ble_eq_true rfl) (fun X => ?_)
  refine n_L (L' := [some (.ref 177), some (.int x1), some (.int x2), none, none]) (le_s (le_s (le_s (le_p (le_p (le_e)))))) ?_
  refine r_aload_n (pc := 0) (x := 177) dX12_drop_0 rfl ?_
  refine n_getI (pc := 1) (j := 14) dX12_drop_1 fl_RX12_188 (by decide) sh_177 rfl rfl ?_
  refine r_iload_n (pc := 4) (x := x2) dX12_drop_4 rfl ?_
  refine r_isub (pc := 5) dX12_drop_5 ?_
  refine r_istore_n (pc := 6) (L' := [some (.ref 177), some (.int x1), some (.int x2), some (.int ((gi s 177 14) - x2)), none]) dX12_drop_6 rfl (by decide) rfl ?_
  refine r_iconst (pc := 7) (v := 0) dX12_drop_7 (by decide) ?_
  refine r_istore (pc := 8) (L' := [some (.ref 177), some (.int x1), some (.int x2), some (.int ((gi s 177 14) - x2)), some (.int 0)]) dX12_drop_8 rfl (by decide) rfl ?_
  refine n_L (L' := [some (.ref 177), some (.int x1), some (.int x2), some (.int ((gi s 177 14) - x2)), some (.int 0)]) (le_s (le_s (le_s (le_s (le_s (le_e)))))) ?_
  obtain ⟨n, h⟩ := h
  exact pX12_drop_10  n _ _ _ h 
def wX12_pushMoved_20 (x1 : Int32) (x2 : Int32) (Q : gS → Prop)  (z0 : Int32) (s : gS) : Prop := (¬ z0 = (-1) → wpX12_pushDay z0 3 s (fun s3 => (x1 = 0 → Q s3) ∧ (¬ (x1 = 0) → wpX12_pushUnit x1 z0 0 1 s3 (fun s4 => Q s4)))) ∧ (z0 = (-1) → Q s)
set_option maxRecDepth 20000 in
theorem pX12_pushMoved_20 {l : Launch} {X : gX} {x1 : Int32} {x2 : Int32}  {Q : gS → Prop}  (z0 : Int32) (s : gS) (h : wX12_pushMoved_20 x1 x2 Q z0 s)  : Gw l mX12_pushMoved (g_rm 6 0 0) X 20 [some (.ref 177), some (.int x1), none, none] [.int z0] (nrm s) 0 0 (g_Z X (q_v Q) 0 0) := by
  refine r_istore_n (pc := 20) (L' := [some (.ref 177), some (.int x1), none, some (.int z0)]) dX12_pushMoved_20 rfl (by decide) rfl ?_
  refine r_iload_n (pc := 21) (x := z0) dX12_pushMoved_21 rfl ?_
  refine r_iconst (pc := 22) (v := (-1)) dX12_pushMoved_22 (by decide) ?_
  refine r_icmp_ne (pc := 23) (tgt := 27) dX12_pushMoved_23 (by decide) (fun c => ?_) (fun c => ?_)
  · replace h := h.1 c
    refine r_aload_n (pc := 27) (x := 177) dX12_pushMoved_27 rfl ?_
    refine r_iload_n (pc := 28) (x := z0) dX12_pushMoved_28 rfl ?_
    refine r_iconst (pc := 29) (v := 3) dX12_pushMoved_29 (by decide) ?_
    refine n_Vv0 (pc := 30) (S0 := []) (spX12_pushDay h) gmX12_pushDay selX12_pushDay lk_RX12_195 dX12_pushMoved_30 rfl (by decide) sh_177 ⟨rfl, by decide⟩ rfl ⟨Nat.le_of_ble_eq_true rfl, Nat.le_of_ble_eq_true rfl⟩ (Nat.le_of_ble_eq_true rfl) ⟨Nat.zero_le _, Nat.zero_le _⟩ (fun s3 h => ?_)
    refine r_iload_n (pc := 33) (x := x1) dX12_pushMoved_33 rfl ?_
    refine r_if_eq (pc := 34) (tgt := 45) dX12_pushMoved_34 (by decide) (fun c => ?_) (fun c => ?_)
    · replace h := h.1 c
      exact n_vret (pc := 45) dX12_pushMoved_45 rfl (Nat.le_refl _) (Nat.le_refl _) h
    · replace h := h.2 c
      refine r_aload_n (pc := 37) (x := 177) dX12_pushMoved_37 rfl ?_
      refine r_iload_n (pc := 38) (x := x1) dX12_pushMoved_38 rfl ?_
      refine r_iload_n (pc := 39) (x := z0) dX12_pushMoved_39 rfl ?_
      refine r_iconst (pc := 40) (v := 0) dX12_pushMoved_40 (by decide) ?_
      refine r_iconst (pc := 41) (v := 1) dX12_pushMoved_41 (by decide) ?_
      refine n_Vv0 (pc := 42) (S0 := []) (spX12_pushUnit h) gmX12_pushUnit selX12_pushUnit lk_RX12_290 dX12_pushMoved_42 rfl (by decide) sh_177 ⟨rfl, by decide⟩ rfl ⟨Nat.le_of_ble_eq_true rfl, Nat.le_of_ble_eq_true rfl⟩ (Nat.le_of_ble_eq_true rfl) ⟨Nat.zero_le _, Nat.zero_le _⟩ (fun s4 h => ?_)
      exact n_vret (pc := 45) dX12_pushMoved_45 rfl (Nat.le_refl _) (Nat.le_refl _) h
  · replace h := h.2 c
    exact n_vret (pc := 26) dX12_pushMoved_26 rfl (Nat.le_refl _) (Nat.le_refl _) h
def wpX12_pushMoved (x1 : Int32) (x2 : Int32) (s : gS) (Q : gS → Prop) : Prop := wpX12_fine s (fun r1 s1 => (r1 = 0 → wX12_pushMoved_20 x1 x2 Q (-1) s1) ∧ (¬ (r1 = 0) → wpX12_move (gi s1 177 15) x1 x2 s1 (fun r2 s2 => wX12_pushMoved_20 x1 x2 Q r2 s2)))
set_option maxRecDepth 20000 in
theorem spX12_pushMoved {l : Launch} {x1 : Int32} {x2 : Int32}  {s : gS} {Q : gS → Prop} (h : wpX12_pushMoved x1 x2 s Q) : Ct l mX12_pushMoved 6 0 0 [.ref 177, .int x1, .int x2] (nrm s) (q_v Q) := by
  refine Ct.of (by decide) (Nat.le_of_ble_eq_true rfl) (fun X => ?_)
  refine n_L (L' := [some (.ref 177), some (.int x1), some (.int x2), none]) (le_s (le_s (le_s (le_p (le_e))))) ?_
  refine r_aload_n (pc := 0) (x := 177) dX12_pushMoved_0 rfl ?_
  refine n_Vi0 (pc := 1) (S0 := []) (spX12_fine h) gmX12_fine selX12_fine lk_RX12_121 dX12_pushMoved_1 rfl (by decide) sh_177 ⟨rfl, by decide⟩ rfl ⟨Nat.le_of_ble_eq_true rfl, Nat.le_of_ble_eq_true rfl⟩ (Nat.le_of_ble_eq_true rfl) ⟨Nat.zero_le _, Nat.zero_le _⟩ (fun r1 s1 h => ?_)
  refine r_if_eq (pc := 4) (tgt := 19) dX12_pushMoved_4 (by decide) (fun c => ?_) (fun c => ?_)
  · replace h := h.1 c
    refine r_iconst (pc := 19) (v := (-1)) dX12_pushMoved_19 (by decide) ?_
    refine n_L (L' := [some (.ref 177), some (.int x1), none, none]) (le_s (le_s (le_n (le_n (le_e))))) ?_
    exact pX12_pushMoved_20  _ _ h 
  · replace h := h.2 c
    refine r_aload_n (pc := 7) (x := 177) dX12_pushMoved_7 rfl ?_
    refine n_getI (pc := 8) (j := 15) dX12_pushMoved_8 fl_RX12_232 (by decide) sh_177 rfl rfl ?_
    refine r_iload_n (pc := 11) (x := x1) dX12_pushMoved_11 rfl ?_
    refine r_iload_n (pc := 12) (x := x2) dX12_pushMoved_12 rfl ?_
    refine n_Si0 (pc := 13) (S0 := []) (spX12_move h) gmX12_move lk_RX12_106 dX12_pushMoved_13 rfl rfl ⟨Nat.le_of_ble_eq_true rfl, Nat.le_of_ble_eq_true rfl⟩ (Nat.le_of_ble_eq_true rfl) ⟨Nat.zero_le _, Nat.zero_le _⟩ (fun r2 s2 h => ?_)
    refine r_goto (pc := 16) (tgt := 20) dX12_pushMoved_16 (by decide) ?_
    refine n_L (L' := [some (.ref 177), some (.int x1), none, none]) (le_s (le_s (le_n (le_n (le_e))))) ?_
    exact pX12_pushMoved_20  _ _ h 
def wpX12_readIn  (s : gS) (Q : gS → Prop) : Prop := wpX12_needNumber 1 99 s (fun r1 s1 => wpX12_needUnit s1 (fun r2 s2 => wpX12_pushMoved r2 r1 s2 (fun s3 => Q s3)))
set_option maxRecDepth 20000 in
theorem spX12_readIn {l : Launch}   {s : gS} {Q : gS → Prop} (h : wpX12_readIn  s Q) : Ct l mX12_readIn 8 0 0 [.ref 177] (nrm s) (q_v Q) := by
  refine Ct.of (by decide) (Nat.le_of_ble_eq_true rfl) (fun X => ?_)
  refine n_L (L' := [some (.ref 177), none, none]) (le_s (le_p (le_p (le_e)))) ?_
  refine r_aload_n (pc := 0) (x := 177) dX12_readIn_0 rfl ?_
  refine r_iconst (pc := 1) (v := 1) dX12_readIn_1 (by decide) ?_
  refine r_bipush (pc := 2) (v := 99) dX12_readIn_2 (by decide) ?_
  refine n_Vi0 (pc := 4) (S0 := []) (spX12_needNumber h) gmX12_needNumber selX12_needNumber lk_RX12_266 dX12_readIn_4 rfl (by decide) sh_177 ⟨rfl, by decide⟩ rfl ⟨Nat.le_of_ble_eq_true rfl, Nat.le_of_ble_eq_true rfl⟩ (Nat.le_of_ble_eq_true rfl) ⟨Nat.zero_le _, Nat.zero_le _⟩ (fun r1 s1 h => ?_)
  refine r_istore_n (pc := 7) (L' := [some (.ref 177), some (.int r1), none]) dX12_readIn_7 rfl (by decide) rfl ?_
  refine r_aload_n (pc := 8) (x := 177) dX12_readIn_8 rfl ?_
  refine n_Vi0 (pc := 9) (S0 := []) (spX12_needUnit h) gmX12_needUnit selX12_needUnit lk_RX12_269 dX12_readIn_9 rfl (by decide) sh_177 ⟨rfl, by decide⟩ rfl ⟨Nat.le_of_ble_eq_true rfl, Nat.le_of_ble_eq_true rfl⟩ (Nat.le_of_ble_eq_true rfl) ⟨Nat.zero_le _, Nat.zero_le _⟩ (fun r2 s2 h => ?_)
  refine r_istore_n (pc := 12) (L' := [some (.ref 177), some (.int r1), some (.int r2)]) dX12_readIn_12 rfl (by decide) rfl ?_
  refine r_aload_n (pc := 13) (x := 177) dX12_readIn_13 rfl ?_
  refine r_iload_n (pc := 14) (x := r2) dX12_readIn_14 rfl ?_
  refine r_iload_n (pc := 15) (x := r1) dX12_readIn_15 rfl ?_
  refine n_Vv0 (pc := 16) (S0 := []) (spX12_pushMoved h) gmX12_pushMoved selX12_pushMoved lk_RX12_274 dX12_readIn_16 rfl (by decide) sh_177 ⟨rfl, by decide⟩ rfl ⟨Nat.le_of_ble_eq_true rfl, Nat.le_of_ble_eq_true rfl⟩ (Nat.le_of_ble_eq_true rfl) ⟨Nat.zero_le _, Nat.zero_le _⟩ (fun s3 h => ?_)
  exact n_vret (pc := 19) dX12_readIn_19 rfl (Nat.le_refl _) (Nat.le_refl _) h
def wpX12_inWeek (x0 : Int32) (x1 : Int32) (s : gS) (Q : Int32 → gS → Prop) : Prop := wpX12_weekday x0 s (fun r1 s1 => Q ((x0 - r1) + x1) s1)
set_option maxRecDepth 20000 in
theorem spX12_inWeek {l : Launch} {x0 : Int32} {x1 : Int32}  {s : gS} {Q : Int32 → gS → Prop} (h : wpX12_inWeek x0 x1 s Q) : Ct l mX12_inWeek 2 0 0 [.int x0, .int x1] (nrm s) (q_i Q) := by
  refine Ct.of (by decide) (Nat.le_of_ble_eq_true rfl) (fun X => ?_)
  refine n_L (L' := [some (.int x0), some (.int x1)]) (le_s (le_s (le_e))) ?_
  refine r_iload_n (pc := 0) (x := x0) dX12_inWeek_0 rfl ?_
  refine r_iload_n (pc := 1) (x := x0) dX12_inWeek_1 rfl ?_
  refine n_Si0 (pc := 2) (S0 := [.int x0]) (spX12_weekday h) gmX12_weekday lk_RX12_98 dX12_inWeek_2 rfl rfl ⟨Nat.le_of_ble_eq_true rfl, Nat.le_of_ble_eq_true rfl⟩ (Nat.le_of_ble_eq_true rfl) ⟨Nat.zero_le _, Nat.zero_le _⟩ (fun r1 s1 h => ?_)
  refine r_isub (pc := 5) dX12_inWeek_5 ?_
  refine r_iload_n (pc := 6) (x := x1) dX12_inWeek_6 rfl ?_
  refine r_iadd (pc := 7) dX12_inWeek_7 ?_
  exact n_iret (pc := 8) dX12_inWeek_8 rfl (Nat.le_refl _) (Nat.le_refl _) h
def wpX12_from (x0 : Int32) (x1 : Int32) (s : gS) (Q : Int32 → gS → Prop) : Prop := wpX12_weekday x0 s (fun r1 s1 => Q (x0 + (jrem ((x1 - r1) + 7) 7)) s1)
set_option maxRecDepth 20000 in
theorem spX12_from {l : Launch} {x0 : Int32} {x1 : Int32}  {s : gS} {Q : Int32 → gS → Prop} (h : wpX12_from x0 x1 s Q) : Ct l mX12_from 2 0 0 [.int x0, .int x1] (nrm s) (q_i Q) := by
  refine Ct.of (by decide) (Nat.le_of_ble_eq_true rfl) (fun X => ?_)
  refine n_L (L' := [some (.int x0), some (.int x1)]) (le_s (le_s (le_e))) ?_
  refine r_iload_n (pc := 0) (x := x0) dX12_from_0 rfl ?_
  refine r_iload_n (pc := 1) (x := x1) dX12_from_1 rfl ?_
  refine r_iload_n (pc := 2) (x := x0) dX12_from_2 rfl ?_
  refine n_Si0 (pc := 3) (S0 := [.int x1, .int x0]) (spX12_weekday h) gmX12_weekday lk_RX12_98 dX12_from_3 rfl rfl ⟨Nat.le_of_ble_eq_true rfl, Nat.le_of_ble_eq_true rfl⟩ (Nat.le_of_ble_eq_true rfl) ⟨Nat.zero_le _, Nat.zero_le _⟩ (fun r1 s1 h => ?_)
  refine r_isub (pc := 6) dX12_from_6 ?_
  refine r_bipush (pc := 7) (v := 7) dX12_from_7 (by decide) ?_
  refine r_iadd (pc := 9) dX12_from_9 ?_
  refine r_bipush (pc := 10) (v := 7) dX12_from_10 (by decide) ?_
  refine n_irem (pc := 12) dX12_from_12 (by decide) ?_
  refine r_iadd (pc := 13) dX12_from_13 ?_
  exact n_iret (pc := 14) dX12_from_14 rfl (Nat.le_refl _) (Nat.le_refl _) h
def wpX12_ahead (x0 : Int32) (x1 : Int32) (s : gS) (Q : Int32 → gS → Prop) : Prop := wpX12_weekday (x0 - 1) s (fun r1 s1 => Q ((x0 - 1) - (jrem ((r1 - x1) + 7) 7)) s1)
set_option maxRecDepth 20000 in
theorem spX12_ahead {l : Launch} {x0 : Int32} {x1 : Int32}  {s : gS} {Q : Int32 → gS → Prop} (h : wpX12_ahead x0 x1 s Q) : Ct l mX12_ahead 2 0 0 [.int x0, .int x1] (nrm s) (q_i Q) := by
  refine Ct.of (by decide) (Nat.le_of_ble_eq_true rfl) (fun X => ?_)
  refine n_L (L' := [some (.int x0), some (.int x1)]) (le_s (le_s (le_e))) ?_
  refine r_iload_n (pc := 0) (x := x0) dX12_ahead_0 rfl ?_
  refine r_iconst (pc := 1) (v := 1) dX12_ahead_1 (by decide) ?_
  refine r_isub (pc := 2) dX12_ahead_2 ?_
  refine r_iload_n (pc := 3) (x := x0) dX12_ahead_3 rfl ?_
  refine r_iconst (pc := 4) (v := 1) dX12_ahead_4 (by decide) ?_
  refine r_isub (pc := 5) dX12_ahead_5 ?_
  refine n_Si0 (pc := 6) (S0 := [.int (x0 - 1)]) (spX12_weekday h) gmX12_weekday lk_RX12_98 dX12_ahead_6 rfl rfl ⟨Nat.le_of_ble_eq_true rfl, Nat.le_of_ble_eq_true rfl⟩ (Nat.le_of_ble_eq_true rfl) ⟨Nat.zero_le _, Nat.zero_le _⟩ (fun r1 s1 h => ?_)
  refine r_iload_n (pc := 9) (x := x1) dX12_ahead_9 rfl ?_
  refine r_isub (pc := 10) dX12_ahead_10 ?_
  refine r_bipush (pc := 11) (v := 7) dX12_ahead_11 (by decide) ?_
  refine r_iadd (pc := 13) dX12_ahead_13 ?_
  refine r_bipush (pc := 14) (v := 7) dX12_ahead_14 (by decide) ?_
  refine n_irem (pc := 16) dX12_ahead_16 (by decide) ?_
  refine r_isub (pc := 17) dX12_ahead_17 ?_
  exact n_iret (pc := 18) dX12_ahead_18 rfl (Nat.le_refl _) (Nat.le_refl _) h
def wX12_pushMonths_49 (x1 : Int32) (Q : gS → Prop)  : Nat → Int32 → gS → Prop
  | 0, _, _ => False
  | n + 1, y2, s => wpX12_monthDay y2 x1 s (fun r6 s6 => (r6 < (gi s6 177 15) → wpX12_pushMonth y2 x1 2 s6 (fun s7 => Q s7)) ∧ (¬ (r6 < (gi s6 177 15)) → wX12_pushMonths_49 x1 Q n (y2 + (-1)) s6))
set_option maxRecDepth 20000 in
theorem pX12_pushMonths_49 {l : Launch} {X : gX} {x1 : Int32}  {Q : gS → Prop}  : ∀ (n : Nat) (y2 : Int32) (s : gS) (h : wX12_pushMonths_49 x1 Q n y2 s) , Gw l mX12_pushMonths (g_rm 5 0 0) X 49 [some (.ref 177), some (.int x1), some (.int y2)] [] (nrm s) 0 0 (g_Z X (q_v Q) 0 0) := by
  intro n
  induction n with
  | zero => intro y2 s h; exact h.elim
  | succ n ih0 =>
    intro y2 s h 
    have ih : ∀ (y2 : Int32) (s : gS), wX12_pushMonths_49 x1 Q n y2 s → Gw l mX12_pushMonths (g_rm 5 0 0) X 49 [some (.ref 177), some (.int x1), some (.int y2)] [] (nrm s) 0 0 (g_Z X (q_v Q) 0 0) := fun y2 s h => ih0 y2 s h 
    refine r_iload_n (pc := 49) (x := y2) dX12_pushMonths_49 rfl ?_
    refine r_iload_n (pc := 50) (x := x1) dX12_pushMonths_50 rfl ?_
    refine n_Si0 (pc := 51) (S0 := []) (spX12_monthDay h) gmX12_monthDay lk_RX12_77 dX12_pushMonths_51 rfl rfl ⟨Nat.le_of_ble_eq_true rfl, Nat.le_of_ble_eq_true rfl⟩ (Nat.le_of_ble_eq_true rfl) ⟨Nat.zero_le _, Nat.zero_le _⟩ (fun r6 s6 h => ?_)
    refine r_aload_n (pc := 54) (x := 177) dX12_pushMonths_54 rfl ?_
    refine n_getI (pc := 55) (j := 15) dX12_pushMonths_55 fl_RX12_232 (by decide) sh_177 rfl rfl ?_
    refine r_icmp_lt (pc := 58) (tgt := 67) dX12_pushMonths_58 (by decide) (fun c => ?_) (fun c => ?_)
    · replace h := h.1 c
      refine r_aload_n (pc := 67) (x := 177) dX12_pushMonths_67 rfl ?_
      refine r_iload_n (pc := 68) (x := y2) dX12_pushMonths_68 rfl ?_
      refine r_iload_n (pc := 69) (x := x1) dX12_pushMonths_69 rfl ?_
      refine r_iconst (pc := 70) (v := 2) dX12_pushMonths_70 (by decide) ?_
      refine n_Vv0 (pc := 71) (S0 := []) (spX12_pushMonth h) gmX12_pushMonth selX12_pushMonth lk_RX12_199 dX12_pushMonths_71 rfl (by decide) sh_177 ⟨rfl, by decide⟩ rfl ⟨Nat.le_of_ble_eq_true rfl, Nat.le_of_ble_eq_true rfl⟩ (Nat.le_of_ble_eq_true rfl) ⟨Nat.zero_le _, Nat.zero_le _⟩ (fun s7 h => ?_)
      exact n_vret (pc := 74) dX12_pushMonths_74 rfl (Nat.le_refl _) (Nat.le_refl _) h
    · replace h := h.2 c
      refine n_iinc (pc := 61) (x := y2) (w := (-1)) (L' := [some (.ref 177), some (.int x1), some (.int (y2 + (-1)))]) dX12_pushMonths_61 rfl (by decide) rfl (by decide) rfl ?_
      refine r_goto (pc := 64) (tgt := 49) dX12_pushMonths_64 (by decide) ?_
      refine n_L (L' := [some (.ref 177), some (.int x1), some (.int (y2 + (-1)))]) (le_s (le_s (le_s (le_e)))) ?_
      exact ih _ _ h
def wX12_pushMonths_8 (x1 : Int32) (Q : gS → Prop)  : Nat → Int32 → gS → Prop
  | 0, _, _ => False
  | n + 1, y2, s => wpX12_monthDay y2 x1 s (fun r2 s2 => wpX12_monthLength y2 x1 s2 (fun r3 s3 => ((gi s3 177 15) ≤ ((r2 + r3) - 1) → wpX12_pushMonth y2 x1 3 s3 (fun s4 => wpX12_yearOf (gi s4 177 15) s4 (fun r5 s5 => ∃ n49, wX12_pushMonths_49 x1 Q n49 r5 s5))) ∧ (¬ ((gi s3 177 15) ≤ ((r2 + r3) - 1)) → wX12_pushMonths_8 x1 Q n (y2 + 1) s3)))
set_option maxRecDepth 20000 in
theorem pX12_pushMonths_8 {l : Launch} {X : gX} {x1 : Int32}  {Q : gS → Prop}  : ∀ (n : Nat) (y2 : Int32) (s : gS) (h : wX12_pushMonths_8 x1 Q n y2 s) , Gw l mX12_pushMonths (g_rm 5 0 0) X 8 [some (.ref 177), some (.int x1), some (.int y2)] [] (nrm s) 0 0 (g_Z X (q_v Q) 0 0) := by
  intro n
  induction n with
  | zero => intro y2 s h; exact h.elim
  | succ n ih0 =>
    intro y2 s h 
    have ih : ∀ (y2 : Int32) (s : gS), wX12_pushMonths_8 x1 Q n y2 s → Gw l mX12_pushMonths (g_rm 5 0 0) X 8 [some (.ref 177), some (.int x1), some (.int y2)] [] (nrm s) 0 0 (g_Z X (q_v Q) 0 0) := fun y2 s h => ih0 y2 s h 
    refine r_iload_n (pc := 8) (x := y2) dX12_pushMonths_8 rfl ?_
    refine r_iload_n (pc := 9) (x := x1) dX12_pushMonths_9 rfl ?_
    refine n_Si0 (pc := 10) (S0 := []) (spX12_monthDay h) gmX12_monthDay lk_RX12_77 dX12_pushMonths_10 rfl rfl ⟨Nat.le_of_ble_eq_true rfl, Nat.le_of_ble_eq_true rfl⟩ (Nat.le_of_ble_eq_true rfl) ⟨Nat.zero_le _, Nat.zero_le _⟩ (fun r2 s2 h => ?_)
    refine r_iload_n (pc := 13) (x := y2) dX12_pushMonths_13 rfl ?_
    refine r_iload_n (pc := 14) (x := x1) dX12_pushMonths_14 rfl ?_
    refine n_Si0 (pc := 15) (S0 := [.int r2]) (spX12_monthLength h) gmX12_monthLength lk_RX12_70 dX12_pushMonths_15 rfl rfl ⟨Nat.le_of_ble_eq_true rfl, Nat.le_of_ble_eq_true rfl⟩ (Nat.le_of_ble_eq_true rfl) ⟨Nat.zero_le _, Nat.zero_le _⟩ (fun r3 s3 h => ?_)
    refine r_iadd (pc := 18) dX12_pushMonths_18 ?_
    refine r_iconst (pc := 19) (v := 1) dX12_pushMonths_19 (by decide) ?_
    refine r_isub (pc := 20) dX12_pushMonths_20 ?_
    refine r_aload_n (pc := 21) (x := 177) dX12_pushMonths_21 rfl ?_
    refine n_getI (pc := 22) (j := 15) dX12_pushMonths_22 fl_RX12_232 (by decide) sh_177 rfl rfl ?_
    refine r_icmp_ge (pc := 25) (tgt := 34) dX12_pushMonths_25 (by decide) (fun c => ?_) (fun c => ?_)
    · replace h := h.1 c
      refine r_aload_n (pc := 34) (x := 177) dX12_pushMonths_34 rfl ?_
      refine r_iload_n (pc := 35) (x := y2) dX12_pushMonths_35 rfl ?_
      refine r_iload_n (pc := 36) (x := x1) dX12_pushMonths_36 rfl ?_
      refine r_iconst (pc := 37) (v := 3) dX12_pushMonths_37 (by decide) ?_
      refine n_Vv0 (pc := 38) (S0 := []) (spX12_pushMonth h) gmX12_pushMonth selX12_pushMonth lk_RX12_199 dX12_pushMonths_38 rfl (by decide) sh_177 ⟨rfl, by decide⟩ rfl ⟨Nat.le_of_ble_eq_true rfl, Nat.le_of_ble_eq_true rfl⟩ (Nat.le_of_ble_eq_true rfl) ⟨Nat.zero_le _, Nat.zero_le _⟩ (fun s4 h => ?_)
      refine r_aload_n (pc := 41) (x := 177) dX12_pushMonths_41 rfl ?_
      refine n_getI (pc := 42) (j := 15) dX12_pushMonths_42 fl_RX12_232 (by decide) sh_177 rfl rfl ?_
      refine n_Si0 (pc := 45) (S0 := []) (spX12_yearOf h) gmX12_yearOf lk_RX12_74 dX12_pushMonths_45 rfl rfl ⟨Nat.le_of_ble_eq_true rfl, Nat.le_of_ble_eq_true rfl⟩ (Nat.le_of_ble_eq_true rfl) ⟨Nat.zero_le _, Nat.zero_le _⟩ (fun r5 s5 h => ?_)
      refine r_istore_n (pc := 48) (L' := [some (.ref 177), some (.int x1), some (.int r5)]) dX12_pushMonths_48 rfl (by decide) rfl ?_
      refine n_L (L' := [some (.ref 177), some (.int x1), some (.int r5)]) (le_s (le_s (le_s (le_e)))) ?_
      obtain ⟨n, h⟩ := h
      exact pX12_pushMonths_49  n _ _ h 
    · replace h := h.2 c
      refine n_iinc (pc := 28) (x := y2) (w := 1) (L' := [some (.ref 177), some (.int x1), some (.int (y2 + 1))]) dX12_pushMonths_28 rfl (by decide) rfl (by decide) rfl ?_
      refine r_goto (pc := 31) (tgt := 8) dX12_pushMonths_31 (by decide) ?_
      refine n_L (L' := [some (.ref 177), some (.int x1), some (.int (y2 + 1))]) (le_s (le_s (le_s (le_e)))) ?_
      exact ih _ _ h
def wpX12_pushMonths (x1 : Int32) (s : gS) (Q : gS → Prop) : Prop := wpX12_yearOf (gi s 177 15) s (fun r1 s1 => ∃ n8, wX12_pushMonths_8 x1 Q n8 r1 s1)
set_option maxRecDepth 20000 in
theorem spX12_pushMonths {l : Launch} {x1 : Int32}  {s : gS} {Q : gS → Prop} (h : wpX12_pushMonths x1 s Q) : Ct l mX12_pushMonths 5 0 0 [.ref 177, .int x1] (nrm s) (q_v Q) := by
  refine Ct.of (by decide) (Nat.le_of_ble_eq_true rfl) (fun X => ?_)
  refine n_L (L' := [some (.ref 177), some (.int x1), none]) (le_s (le_s (le_p (le_e)))) ?_
  refine r_aload_n (pc := 0) (x := 177) dX12_pushMonths_0 rfl ?_
  refine n_getI (pc := 1) (j := 15) dX12_pushMonths_1 fl_RX12_232 (by decide) sh_177 rfl rfl ?_
  refine n_Si0 (pc := 4) (S0 := []) (spX12_yearOf h) gmX12_yearOf lk_RX12_74 dX12_pushMonths_4 rfl rfl ⟨Nat.le_of_ble_eq_true rfl, Nat.le_of_ble_eq_true rfl⟩ (Nat.le_of_ble_eq_true rfl) ⟨Nat.zero_le _, Nat.zero_le _⟩ (fun r1 s1 h => ?_)
  refine r_istore_n (pc := 7) (L' := [some (.ref 177), some (.int x1), some (.int r1)]) dX12_pushMonths_7 rfl (by decide) rfl ?_
  refine n_L (L' := [some (.ref 177), some (.int x1), some (.int r1)]) (le_s (le_s (le_s (le_e)))) ?_
  obtain ⟨n, h⟩ := h
  exact pX12_pushMonths_8  n _ _ h 
def wX12_join_55  (Q : gS → Prop) (k4 : Int32 → Int32 → gS → Prop) (y1 : Int32) (y2 : Int32) (y3 : Int32) (s : gS) : Prop := (¬ y3 = y1 → wpX12_h y3 2 s (fun r5 s5 => wpX12_h y2 2 s5 (fun r6 s6 => vp_in ((4 * y3) + 2) 4096 ∧ (wpX12_h y3 3 (wi s6 181 (ix ((4 * y3) + 2)) (jmin r5 r6)) (fun r8 s8 => wpX12_h y2 3 s8 (fun r9 s9 => vp_in ((4 * y3) + 3) 4096 ∧ (k4 y1 (y2 + 1) (wi s9 181 (ix ((4 * y3) + 3)) (jmax r8 r9))))))))) ∧ (y3 = y1 → wpX12_copyOver y1 y2 s (fun s11 => k4 (y1 + 1) (y2 + 1) s11))
set_option maxRecDepth 20000 in
theorem pX12_join_55 {l : Launch} {X : gX}   {Q : gS → Prop} {k4 : Int32 → Int32 → gS → Prop} (y1 : Int32) (y2 : Int32) (y3 : Int32) (s : gS) (h : wX12_join_55  Q k4 y1 y2 y3 s) (hk4 : ∀ (y1 : Int32) (y2 : Int32) (s : gS), k4 y1 y2 s → Gw l mX12_join (g_rm 2 0 0) X 4 [some (.ref 177), some (.int y1), some (.int y2), none] [] (nrm s) 0 0 (g_Z X (q_v Q) 0 0)) : Gw l mX12_join (g_rm 2 0 0) X 55 [some (.ref 177), some (.int y1), some (.int y2), some (.int y3)] [] (nrm s) 0 0 (g_Z X (q_v Q) 0 0) := by
  refine r_iload_n (pc := 55) (x := y3) dX12_join_55 rfl ?_
  refine r_iload_n (pc := 56) (x := y1) dX12_join_56 rfl ?_
  refine r_icmp_ne (pc := 57) (tgt := 72) dX12_join_57 (by decide) (fun c => ?_) (fun c => ?_)
  · replace h := h.1 c
    refine r_aload_n (pc := 72) (x := 177) dX12_join_72 rfl ?_
    refine n_getR (pc := 73) (j := 13) (q := 181) dX12_join_73 fl_RX12_21 (by decide) sh_177 rfl rfl rfl ?_
    refine r_iconst (pc := 76) (v := 4) dX12_join_76 (by decide) ?_
    refine r_iload_n (pc := 77) (x := y3) dX12_join_77 rfl ?_
    refine r_imul (pc := 78) dX12_join_78 ?_
    refine r_iconst (pc := 79) (v := 2) dX12_join_79 (by decide) ?_
    refine r_iadd (pc := 80) dX12_join_80 ?_
    refine r_aload_n (pc := 81) (x := 177) dX12_join_81 rfl ?_
    refine r_iload_n (pc := 82) (x := y3) dX12_join_82 rfl ?_
    refine r_iconst (pc := 83) (v := 2) dX12_join_83 (by decide) ?_
    refine n_Vi0 (pc := 84) (S0 := [.int ((4 * y3) + 2), .ref 181]) (spX12_h h) gmX12_h selX12_h lk_RX12_284 dX12_join_84 rfl (by decide) sh_177 ⟨rfl, by decide⟩ rfl ⟨Nat.le_of_ble_eq_true rfl, Nat.le_of_ble_eq_true rfl⟩ (Nat.le_of_ble_eq_true rfl) ⟨Nat.zero_le _, Nat.zero_le _⟩ (fun r5 s5 h => ?_)
    refine r_aload_n (pc := 87) (x := 177) dX12_join_87 rfl ?_
    refine r_iload_n (pc := 88) (x := y2) dX12_join_88 rfl ?_
    refine r_iconst (pc := 89) (v := 2) dX12_join_89 (by decide) ?_
    refine n_Vi0 (pc := 90) (S0 := [.int r5, .int ((4 * y3) + 2), .ref 181]) (spX12_h h) gmX12_h selX12_h lk_RX12_284 dX12_join_90 rfl (by decide) sh_177 ⟨rfl, by decide⟩ rfl ⟨Nat.le_of_ble_eq_true rfl, Nat.le_of_ble_eq_true rfl⟩ (Nat.le_of_ble_eq_true rfl) ⟨Nat.zero_le _, Nat.zero_le _⟩ (fun r6 s6 h => ?_)
    refine n_min (pc := 93) dX12_join_93 lk_RX12_101 ⟨Nat.le_of_ble_eq_true rfl, Nat.le_of_ble_eq_true rfl⟩ ⟨Nat.zero_le _, Nat.zero_le _⟩ ?_
    obtain ⟨b7, h⟩ := h
    refine n_iast (pc := 96) (j := (ix ((4 * y3) + 2))) dX12_join_96 (by decide) sh_181 b7 rfl ?_
    refine r_aload_n (pc := 97) (x := 177) dX12_join_97 rfl ?_
    refine n_getR (pc := 98) (j := 13) (q := 181) dX12_join_98 fl_RX12_21 (by decide) sh_177 rfl rfl rfl ?_
    refine r_iconst (pc := 101) (v := 4) dX12_join_101 (by decide) ?_
    refine r_iload_n (pc := 102) (x := y3) dX12_join_102 rfl ?_
    refine r_imul (pc := 103) dX12_join_103 ?_
    refine r_iconst (pc := 104) (v := 3) dX12_join_104 (by decide) ?_
    refine r_iadd (pc := 105) dX12_join_105 ?_
    refine r_aload_n (pc := 106) (x := 177) dX12_join_106 rfl ?_
    refine r_iload_n (pc := 107) (x := y3) dX12_join_107 rfl ?_
    refine r_iconst (pc := 108) (v := 3) dX12_join_108 (by decide) ?_
    refine n_Vi0 (pc := 109) (S0 := [.int ((4 * y3) + 3), .ref 181]) (spX12_h h) gmX12_h selX12_h lk_RX12_284 dX12_join_109 rfl (by decide) sh_177 ⟨rfl, by decide⟩ rfl ⟨Nat.le_of_ble_eq_true rfl, Nat.le_of_ble_eq_true rfl⟩ (Nat.le_of_ble_eq_true rfl) ⟨Nat.zero_le _, Nat.zero_le _⟩ (fun r8 s8 h => ?_)
    refine r_aload_n (pc := 112) (x := 177) dX12_join_112 rfl ?_
    refine r_iload_n (pc := 113) (x := y2) dX12_join_113 rfl ?_
    refine r_iconst (pc := 114) (v := 3) dX12_join_114 (by decide) ?_
    refine n_Vi0 (pc := 115) (S0 := [.int r8, .int ((4 * y3) + 3), .ref 181]) (spX12_h h) gmX12_h selX12_h lk_RX12_284 dX12_join_115 rfl (by decide) sh_177 ⟨rfl, by decide⟩ rfl ⟨Nat.le_of_ble_eq_true rfl, Nat.le_of_ble_eq_true rfl⟩ (Nat.le_of_ble_eq_true rfl) ⟨Nat.zero_le _, Nat.zero_le _⟩ (fun r9 s9 h => ?_)
    refine n_max (pc := 118) dX12_join_118 lk_RX12_179 ⟨Nat.le_of_ble_eq_true rfl, Nat.le_of_ble_eq_true rfl⟩ ⟨Nat.zero_le _, Nat.zero_le _⟩ ?_
    obtain ⟨b10, h⟩ := h
    refine n_iast (pc := 121) (j := (ix ((4 * y3) + 3))) dX12_join_121 (by decide) sh_181 b10 rfl ?_
    refine n_iinc (pc := 122) (x := y2) (w := 1) (L' := [some (.ref 177), some (.int y1), some (.int (y2 + 1)), some (.int y3)]) dX12_join_122 rfl (by decide) rfl (by decide) rfl ?_
    refine r_goto (pc := 125) (tgt := 4) dX12_join_125 (by decide) ?_
    refine n_L (L' := [some (.ref 177), some (.int y1), some (.int (y2 + 1)), none]) (le_s (le_s (le_s (le_n (le_e))))) ?_
    exact hk4 _ _ _ h
  · replace h := h.2 c
    refine r_aload_n (pc := 60) (x := 177) dX12_join_60 rfl ?_
    refine r_iload_n (pc := 61) (x := y1) dX12_join_61 rfl ?_
    refine r_iload_n (pc := 62) (x := y2) dX12_join_62 rfl ?_
    refine n_Vv0 (pc := 63) (S0 := []) (spX12_copyOver h) gmX12_copyOver selX12_copyOver lk_RX12_206 dX12_join_63 rfl (by decide) sh_177 ⟨rfl, by decide⟩ rfl ⟨Nat.le_of_ble_eq_true rfl, Nat.le_of_ble_eq_true rfl⟩ (Nat.le_of_ble_eq_true rfl) ⟨Nat.zero_le _, Nat.zero_le _⟩ (fun s11 h => ?_)
    refine n_iinc (pc := 66) (x := y1) (w := 1) (L' := [some (.ref 177), some (.int (y1 + 1)), some (.int y2), some (.int y3)]) dX12_join_66 rfl (by decide) rfl (by decide) rfl ?_
    refine r_goto (pc := 69) (tgt := 122) dX12_join_69 (by decide) ?_
    refine n_iinc (pc := 122) (x := y2) (w := 1) (L' := [some (.ref 177), some (.int (y1 + 1)), some (.int (y2 + 1)), some (.int y3)]) dX12_join_122 rfl (by decide) rfl (by decide) rfl ?_
    refine r_goto (pc := 125) (tgt := 4) dX12_join_125 (by decide) ?_
    refine n_L (L' := [some (.ref 177), some (.int (y1 + 1)), some (.int (y2 + 1)), none]) (le_s (le_s (le_s (le_n (le_e))))) ?_
    exact hk4 _ _ _ h
def wX12_join_14  (Q : gS → Prop) (k4 : Int32 → Int32 → gS → Prop) : Nat → Int32 → Int32 → Int32 → gS → Prop
  | 0, _, _, _, _ => False
  | n + 1, y1, y2, y3, s => (y1 ≤ y3 → wX12_join_55  Q k4 y1 y2 y3 s) ∧ (¬ (y1 ≤ y3) → wpX12_h y3 0 s (fun r1 s1 => wpX12_h y2 0 s1 (fun r2 s2 => (¬ r1 = r2 → wX12_join_14  Q k4 n y1 y2 (y3 + 1) s2) ∧ (r1 = r2 → wpX12_h y3 1 s2 (fun r3 s3 => wpX12_h y2 1 s3 (fun r4 s4 => (r3 = r4 → wX12_join_55  Q k4 y1 y2 y3 s4) ∧ (¬ (r3 = r4) → wX12_join_14  Q k4 n y1 y2 (y3 + 1) s4)))))))
set_option maxRecDepth 20000 in
theorem pX12_join_14 {l : Launch} {X : gX}   {Q : gS → Prop} {k4 : Int32 → Int32 → gS → Prop} : ∀ (n : Nat) (y1 : Int32) (y2 : Int32) (y3 : Int32) (s : gS) (h : wX12_join_14  Q k4 n y1 y2 y3 s) (hk4 : ∀ (y1 : Int32) (y2 : Int32) (s : gS), k4 y1 y2 s → Gw l mX12_join (g_rm 2 0 0) X 4 [some (.ref 177), some (.int y1), some (.int y2), none] [] (nrm s) 0 0 (g_Z X (q_v Q) 0 0)), Gw l mX12_join (g_rm 2 0 0) X 14 [some (.ref 177), some (.int y1), some (.int y2), some (.int y3)] [] (nrm s) 0 0 (g_Z X (q_v Q) 0 0) := by
  intro n
  induction n with
  | zero => intro y1 y2 y3 s h; exact h.elim
  | succ n ih0 =>
    intro y1 y2 y3 s h hk4
    have ih : ∀ (y1 : Int32) (y2 : Int32) (y3 : Int32) (s : gS), wX12_join_14  Q k4 n y1 y2 y3 s → Gw l mX12_join (g_rm 2 0 0) X 14 [some (.ref 177), some (.int y1), some (.int y2), some (.int y3)] [] (nrm s) 0 0 (g_Z X (q_v Q) 0 0) := fun y1 y2 y3 s h => ih0 y1 y2 y3 s h hk4
    refine r_iload_n (pc := 14) (x := y3) dX12_join_14 rfl ?_
    refine r_iload_n (pc := 15) (x := y1) dX12_join_15 rfl ?_
    refine r_icmp_ge (pc := 16) (tgt := 55) dX12_join_16 (by decide) (fun c => ?_) (fun c => ?_)
    · replace h := h.1 c
      refine n_L (L' := [some (.ref 177), some (.int y1), some (.int y2), some (.int y3)]) (le_s (le_s (le_s (le_s (le_e))))) ?_
      exact pX12_join_55  _ _ _ _ h hk4
    · replace h := h.2 c
      refine r_aload_n (pc := 19) (x := 177) dX12_join_19 rfl ?_
      refine r_iload_n (pc := 20) (x := y3) dX12_join_20 rfl ?_
      refine r_iconst (pc := 21) (v := 0) dX12_join_21 (by decide) ?_
      refine n_Vi0 (pc := 22) (S0 := []) (spX12_h h) gmX12_h selX12_h lk_RX12_284 dX12_join_22 rfl (by decide) sh_177 ⟨rfl, by decide⟩ rfl ⟨Nat.le_of_ble_eq_true rfl, Nat.le_of_ble_eq_true rfl⟩ (Nat.le_of_ble_eq_true rfl) ⟨Nat.zero_le _, Nat.zero_le _⟩ (fun r1 s1 h => ?_)
      refine r_aload_n (pc := 25) (x := 177) dX12_join_25 rfl ?_
      refine r_iload_n (pc := 26) (x := y2) dX12_join_26 rfl ?_
      refine r_iconst (pc := 27) (v := 0) dX12_join_27 (by decide) ?_
      refine n_Vi0 (pc := 28) (S0 := [.int r1]) (spX12_h h) gmX12_h selX12_h lk_RX12_284 dX12_join_28 rfl (by decide) sh_177 ⟨rfl, by decide⟩ rfl ⟨Nat.le_of_ble_eq_true rfl, Nat.le_of_ble_eq_true rfl⟩ (Nat.le_of_ble_eq_true rfl) ⟨Nat.zero_le _, Nat.zero_le _⟩ (fun r2 s2 h => ?_)
      refine r_icmp_ne (pc := 31) (tgt := 49) dX12_join_31 (by decide) (fun c => ?_) (fun c => ?_)
      · replace h := h.1 c
        refine n_iinc (pc := 49) (x := y3) (w := 1) (L' := [some (.ref 177), some (.int y1), some (.int y2), some (.int (y3 + 1))]) dX12_join_49 rfl (by decide) rfl (by decide) rfl ?_
        refine r_goto (pc := 52) (tgt := 14) dX12_join_52 (by decide) ?_
        refine n_L (L' := [some (.ref 177), some (.int y1), some (.int y2), some (.int (y3 + 1))]) (le_s (le_s (le_s (le_s (le_e))))) ?_
        exact ih _ _ _ _ h
      · replace h := h.2 c
        refine r_aload_n (pc := 34) (x := 177) dX12_join_34 rfl ?_
        refine r_iload_n (pc := 35) (x := y3) dX12_join_35 rfl ?_
        refine r_iconst (pc := 36) (v := 1) dX12_join_36 (by decide) ?_
        refine n_Vi0 (pc := 37) (S0 := []) (spX12_h h) gmX12_h selX12_h lk_RX12_284 dX12_join_37 rfl (by decide) sh_177 ⟨rfl, by decide⟩ rfl ⟨Nat.le_of_ble_eq_true rfl, Nat.le_of_ble_eq_true rfl⟩ (Nat.le_of_ble_eq_true rfl) ⟨Nat.zero_le _, Nat.zero_le _⟩ (fun r3 s3 h => ?_)
        refine r_aload_n (pc := 40) (x := 177) dX12_join_40 rfl ?_
        refine r_iload_n (pc := 41) (x := y2) dX12_join_41 rfl ?_
        refine r_iconst (pc := 42) (v := 1) dX12_join_42 (by decide) ?_
        refine n_Vi0 (pc := 43) (S0 := [.int r3]) (spX12_h h) gmX12_h selX12_h lk_RX12_284 dX12_join_43 rfl (by decide) sh_177 ⟨rfl, by decide⟩ rfl ⟨Nat.le_of_ble_eq_true rfl, Nat.le_of_ble_eq_true rfl⟩ (Nat.le_of_ble_eq_true rfl) ⟨Nat.zero_le _, Nat.zero_le _⟩ (fun r4 s4 h => ?_)
        refine r_icmp_eq (pc := 46) (tgt := 55) dX12_join_46 (by decide) (fun c => ?_) (fun c => ?_)
        · replace h := h.1 c
          refine n_L (L' := [some (.ref 177), some (.int y1), some (.int y2), some (.int y3)]) (le_s (le_s (le_s (le_s (le_e))))) ?_
          exact pX12_join_55  _ _ _ _ h hk4
        · replace h := h.2 c
          refine n_iinc (pc := 49) (x := y3) (w := 1) (L' := [some (.ref 177), some (.int y1), some (.int y2), some (.int (y3 + 1))]) dX12_join_49 rfl (by decide) rfl (by decide) rfl ?_
          refine r_goto (pc := 52) (tgt := 14) dX12_join_52 (by decide) ?_
          refine n_L (L' := [some (.ref 177), some (.int y1), some (.int y2), some (.int (y3 + 1))]) (le_s (le_s (le_s (le_s (le_e))))) ?_
          exact ih _ _ _ _ h
def wX12_join_4  (Q : gS → Prop)  : Nat → Int32 → Int32 → gS → Prop
  | 0, _, _, _ => False
  | n + 1, y1, y2, s => ((gi s 177 14) ≤ y2 → Q (wi s 177 14 y1)) ∧ (¬ ((gi s 177 14) ≤ y2) → ∃ n14, wX12_join_14  Q (fun y1 y2 s => wX12_join_4  Q n y1 y2 s) n14 y1 y2 0 s)
set_option maxRecDepth 20000 in
theorem pX12_join_4 {l : Launch} {X : gX}   {Q : gS → Prop}  : ∀ (n : Nat) (y1 : Int32) (y2 : Int32) (s : gS) (h : wX12_join_4  Q n y1 y2 s) , Gw l mX12_join (g_rm 2 0 0) X 4 [some (.ref 177), some (.int y1), some (.int y2), none] [] (nrm s) 0 0 (g_Z X (q_v Q) 0 0) := by
  intro n
  induction n with
  | zero => intro y1 y2 s h; exact h.elim
  | succ n ih0 =>
    intro y1 y2 s h 
    have ih : ∀ (y1 : Int32) (y2 : Int32) (s : gS), wX12_join_4  Q n y1 y2 s → Gw l mX12_join (g_rm 2 0 0) X 4 [some (.ref 177), some (.int y1), some (.int y2), none] [] (nrm s) 0 0 (g_Z X (q_v Q) 0 0) := fun y1 y2 s h => ih0 y1 y2 s h 
    refine r_iload_n (pc := 4) (x := y2) dX12_join_4 rfl ?_
    refine r_aload_n (pc := 5) (x := 177) dX12_join_5 rfl ?_
    refine n_getI (pc := 6) (j := 14) dX12_join_6 fl_RX12_188 (by decide) sh_177 rfl rfl ?_
    refine r_icmp_ge (pc := 9) (tgt := 128) dX12_join_9 (by decide) (fun c => ?_) (fun c => ?_)
    · replace h := h.1 c
      refine r_aload_n (pc := 128) (x := 177) dX12_join_128 rfl ?_
      refine r_iload_n (pc := 129) (x := y1) dX12_join_129 rfl ?_
      refine n_putI (pc := 130) (j := 14) dX12_join_130 fl_RX12_188 fw_12_14 (by decide) sh_177 rfl rfl ?_
      exact n_vret (pc := 133) dX12_join_133 rfl (Nat.le_refl _) (Nat.le_refl _) h
    · replace h := h.2 c
      refine r_iconst (pc := 12) (v := 0) dX12_join_12 (by decide) ?_
      refine r_istore_n (pc := 13) (L' := [some (.ref 177), some (.int y1), some (.int y2), some (.int 0)]) dX12_join_13 rfl (by decide) rfl ?_
      refine n_L (L' := [some (.ref 177), some (.int y1), some (.int y2), some (.int 0)]) (le_s (le_s (le_s (le_s (le_e))))) ?_
      obtain ⟨n, h⟩ := h
      exact pX12_join_14  n _ _ _ _ h ih
def wpX12_join  (s : gS) (Q : gS → Prop) : Prop := ∃ n4, wX12_join_4  Q n4 0 0 s
set_option maxRecDepth 20000 in
theorem spX12_join {l : Launch}   {s : gS} {Q : gS → Prop} (h : wpX12_join  s Q) : Ct l mX12_join 2 0 0 [.ref 177] (nrm s) (q_v Q) := by
  refine Ct.of (by decide) (Nat.le_of_ble_eq_true rfl) (fun X => ?_)
  refine n_L (L' := [some (.ref 177), none, none, none]) (le_s (le_p (le_p (le_p (le_e))))) ?_
  refine r_iconst (pc := 0) (v := 0) dX12_join_0 (by decide) ?_
  refine r_istore_n (pc := 1) (L' := [some (.ref 177), some (.int 0), none, none]) dX12_join_1 rfl (by decide) rfl ?_
  refine r_iconst (pc := 2) (v := 0) dX12_join_2 (by decide) ?_
  refine r_istore_n (pc := 3) (L' := [some (.ref 177), some (.int 0), some (.int 0), none]) dX12_join_3 rfl (by decide) rfl ?_
  refine n_L (L' := [some (.ref 177), some (.int 0), some (.int 0), none]) (le_s (le_s (le_s (le_n (le_e))))) ?_
  obtain ⟨n, h⟩ := h
  exact pX12_join_4  n _ _ _ h 
def wpX12_refusesHeap  (s : gS) (Q : Int32 → gS → Prop) : Prop := (¬ (gi s 177 14) = 0 → ((gi s 177 14) ≤ 6 → Q 0 s) ∧ (¬ ((gi s 177 14) ≤ 6) → Q (-300) s)) ∧ ((gi s 177 14) = 0 → Q (-200) s)
set_option maxRecDepth 20000 in
theorem spX12_refusesHeap {l : Launch}   {s : gS} {Q : Int32 → gS → Prop} (h : wpX12_refusesHeap  s Q) : Ct l mX12_refusesHeap 1 0 0 [.ref 177] (nrm s) (q_i Q) := by
  refine Ct.of (by decide) (Nat.le_of_ble_eq_true rfl) (fun X => ?_)
  refine n_L (L' := [some (.ref 177)]) (le_s (le_e)) ?_
  refine r_aload_n (pc := 0) (x := 177) dX12_refusesHeap_0 rfl ?_
  refine n_getI (pc := 1) (j := 14) dX12_refusesHeap_1 fl_RX12_188 (by decide) sh_177 rfl rfl ?_
  refine r_if_ne (pc := 4) (tgt := 13) dX12_refusesHeap_4 (by decide) (fun c => ?_) (fun c => ?_)
  · replace h := h.1 c
    refine r_aload_n (pc := 13) (x := 177) dX12_refusesHeap_13 rfl ?_
    refine n_getI (pc := 14) (j := 14) dX12_refusesHeap_14 fl_RX12_188 (by decide) sh_177 rfl rfl ?_
    refine r_bipush (pc := 17) (v := 6) dX12_refusesHeap_17 (by decide) ?_
    refine r_icmp_le (pc := 19) (tgt := 28) dX12_refusesHeap_19 (by decide) (fun c => ?_) (fun c => ?_)
    · replace h := h.1 c
      refine r_iconst (pc := 28) (v := 0) dX12_refusesHeap_28 (by decide) ?_
      exact n_iret (pc := 29) dX12_refusesHeap_29 rfl (Nat.le_refl _) (Nat.le_refl _) h
    · replace h := h.2 c
      refine r_sipush (pc := 22) (v := (-300)) dX12_refusesHeap_22 (by decide) ?_
      refine r_goto (pc := 25) (tgt := 29) dX12_refusesHeap_25 (by decide) ?_
      exact n_iret (pc := 29) dX12_refusesHeap_29 rfl (Nat.le_refl _) (Nat.le_refl _) h
  · replace h := h.2 c
    refine r_sipush (pc := 7) (v := (-200)) dX12_refusesHeap_7 (by decide) ?_
    refine r_goto (pc := 10) (tgt := 29) dX12_refusesHeap_10 (by decide) ?_
    exact n_iret (pc := 29) dX12_refusesHeap_29 rfl (Nat.le_refl _) (Nat.le_refl _) h
def wpX12_isEvent (x1 : Int32) (s : gS) (Q : Int32 → gS → Prop) : Prop := wpX12_in x1 0 5 s (fun r1 s1 => (r1 = 0 ∨ r1 = 1) ∧ (Q r1 s1))
set_option maxRecDepth 20000 in
theorem spX12_isEvent {l : Launch} {x1 : Int32}  {s : gS} {Q : Int32 → gS → Prop} (h : wpX12_isEvent x1 s Q) : Ct l mX12_isEvent 2 0 0 [.ref 177, .int x1] (nrm s) (q_i Q) := by
  refine Ct.of (by decide) (Nat.le_of_ble_eq_true rfl) (fun X => ?_)
  refine n_L (L' := [some (.ref 177), some (.int x1)]) (le_s (le_s (le_e))) ?_
  refine r_iload_n (pc := 0) (x := x1) dX12_isEvent_0 rfl ?_
  refine r_iconst (pc := 1) (v := 0) dX12_isEvent_1 (by decide) ?_
  refine r_iconst (pc := 2) (v := 5) dX12_isEvent_2 (by decide) ?_
  refine n_Si0 (pc := 3) (S0 := []) (spX12_in h) gmX12_in lk_RX12_62 dX12_isEvent_3 rfl rfl ⟨Nat.le_of_ble_eq_true rfl, Nat.le_of_ble_eq_true rfl⟩ (Nat.le_of_ble_eq_true rfl) ⟨Nat.zero_le _, Nat.zero_le _⟩ (fun r1 s1 h => ?_)
  obtain ⟨b2, h⟩ := h
  exact n_zret (pc := 6) dX12_isEvent_6 rfl b2 (Nat.le_refl _) (Nat.le_refl _) h
def wpX12_isTold (x1 : Int32) (s : gS) (Q : Int32 → gS → Prop) : Prop := wpX12_isEvent x1 s (fun r1 s1 => (r1 = 0 → Q 0 s1) ∧ (¬ (r1 = 0) → vp_in (2 + x1) 218 ∧ (((gi s1 178 (ix (2 + x1))) = (-1) → Q 0 s1) ∧ (¬ ((gi s1 178 (ix (2 + x1))) = (-1)) → Q 1 s1))))
set_option maxRecDepth 20000 in
theorem spX12_isTold {l : Launch} {x1 : Int32}  {s : gS} {Q : Int32 → gS → Prop} (h : wpX12_isTold x1 s Q) : Ct l mX12_isTold 3 0 0 [.ref 177, .int x1] (nrm s) (q_i Q) := by
  refine Ct.of (by decide) (Nat.le_of_ble_eq_true rfl) (fun X => ?_)
  refine n_L (L' := [some (.ref 177), some (.int x1)]) (le_s (le_s (le_e))) ?_
  refine r_aload_n (pc := 0) (x := 177) dX12_isTold_0 rfl ?_
  refine r_iload_n (pc := 1) (x := x1) dX12_isTold_1 rfl ?_
  refine n_Vi0 (pc := 2) (S0 := []) (spX12_isEvent h) gmX12_isEvent selX12_isEvent lk_RX12_321 dX12_isTold_2 rfl (by decide) sh_177 ⟨rfl, by decide⟩ rfl ⟨Nat.le_of_ble_eq_true rfl, Nat.le_of_ble_eq_true rfl⟩ (Nat.le_of_ble_eq_true rfl) ⟨Nat.zero_le _, Nat.zero_le _⟩ (fun r1 s1 h => ?_)
  refine r_if_eq (pc := 5) (tgt := 24) dX12_isTold_5 (by decide) (fun c => ?_) (fun c => ?_)
  · replace h := h.1 c
    refine r_iconst (pc := 24) (v := 0) dX12_isTold_24 (by decide) ?_
    exact n_zret (pc := 25) dX12_isTold_25 rfl (by decide) (Nat.le_refl _) (Nat.le_refl _) h
  · replace h := h.2 c
    refine r_aload_n (pc := 8) (x := 177) dX12_isTold_8 rfl ?_
    refine n_getR (pc := 9) (j := 0) (q := 178) dX12_isTold_9 fl_RX12_9 (by decide) sh_177 rfl rfl rfl ?_
    refine r_iconst (pc := 12) (v := 2) dX12_isTold_12 (by decide) ?_
    refine r_iload_n (pc := 13) (x := x1) dX12_isTold_13 rfl ?_
    refine r_iadd (pc := 14) dX12_isTold_14 ?_
    obtain ⟨b2, h⟩ := h
    refine n_iald (pc := 15) (j := (ix (2 + x1))) dX12_isTold_15 (by decide) sh_178 b2 rfl ?_
    refine r_iconst (pc := 16) (v := (-1)) dX12_isTold_16 (by decide) ?_
    refine r_icmp_eq (pc := 17) (tgt := 24) dX12_isTold_17 (by decide) (fun c => ?_) (fun c => ?_)
    · replace h := h.1 c
      refine r_iconst (pc := 24) (v := 0) dX12_isTold_24 (by decide) ?_
      exact n_zret (pc := 25) dX12_isTold_25 rfl (by decide) (Nat.le_refl _) (Nat.le_refl _) h
    · replace h := h.2 c
      refine r_iconst (pc := 20) (v := 1) dX12_isTold_20 (by decide) ?_
      refine r_goto (pc := 21) (tgt := 25) dX12_isTold_21 (by decide) ?_
      exact n_zret (pc := 25) dX12_isTold_25 rfl (by decide) (Nat.le_refl _) (Nat.le_refl _) h
def wpX12_place (x0 : Int32) (x1 : Int32) (s : gS) (Q : Int32 → gS → Prop) : Prop := Q (8 + (5 * ((6 * x0) + x1))) s
set_option maxRecDepth 20000 in
theorem spX12_place {l : Launch} {x0 : Int32} {x1 : Int32}  {s : gS} {Q : Int32 → gS → Prop} (h : wpX12_place x0 x1 s Q) : Ct l mX12_place 1 0 0 [.int x0, .int x1] (nrm s) (q_i Q) := by
  refine Ct.of (by decide) (Nat.le_of_ble_eq_true rfl) (fun X => ?_)
  refine n_L (L' := [some (.int x0), some (.int x1)]) (le_s (le_s (le_e))) ?_
  refine r_bipush (pc := 0) (v := 8) dX12_place_0 (by decide) ?_
  refine r_iconst (pc := 2) (v := 5) dX12_place_2 (by decide) ?_
  refine r_bipush (pc := 3) (v := 6) dX12_place_3 (by decide) ?_
  refine r_iload_n (pc := 5) (x := x0) dX12_place_5 rfl ?_
  refine r_imul (pc := 6) dX12_place_6 ?_
  refine r_iload_n (pc := 7) (x := x1) dX12_place_7 rfl ?_
  refine r_iadd (pc := 8) dX12_place_8 ?_
  refine r_imul (pc := 9) dX12_place_9 ?_
  refine r_iadd (pc := 10) dX12_place_10 ?_
  exact n_iret (pc := 11) dX12_place_11 rfl (Nat.le_refl _) (Nat.le_refl _) h
def wpX12_of (x1 : Int32) (x2 : Int32) (x3 : Int32) (s : gS) (Q : Int32 → gS → Prop) : Prop := wpX12_place x1 x2 s (fun r1 s1 => vp_in (r1 + x3) 218 ∧ (Q (gi s1 178 (ix (r1 + x3))) s1))
set_option maxRecDepth 20000 in
theorem spX12_of {l : Launch} {x1 : Int32} {x2 : Int32} {x3 : Int32}  {s : gS} {Q : Int32 → gS → Prop} (h : wpX12_of x1 x2 x3 s Q) : Ct l mX12_of 2 0 0 [.ref 177, .int x1, .int x2, .int x3] (nrm s) (q_i Q) := by
  refine Ct.of (by decide) (Nat.le_of_ble_eq_true rfl) (fun X => ?_)
  refine n_L (L' := [some (.ref 177), some (.int x1), some (.int x2), some (.int x3)]) (le_s (le_s (le_s (le_s (le_e))))) ?_
  refine r_aload_n (pc := 0) (x := 177) dX12_of_0 rfl ?_
  refine n_getR (pc := 1) (j := 0) (q := 178) dX12_of_1 fl_RX12_9 (by decide) sh_177 rfl rfl rfl ?_
  refine r_iload_n (pc := 4) (x := x1) dX12_of_4 rfl ?_
  refine r_iload_n (pc := 5) (x := x2) dX12_of_5 rfl ?_
  refine n_Si0 (pc := 6) (S0 := [.ref 178]) (spX12_place h) gmX12_place lk_RX12_324 dX12_of_6 rfl rfl ⟨Nat.le_of_ble_eq_true rfl, Nat.le_of_ble_eq_true rfl⟩ (Nat.le_of_ble_eq_true rfl) ⟨Nat.zero_le _, Nat.zero_le _⟩ (fun r1 s1 h => ?_)
  refine r_iload_n (pc := 9) (x := x3) dX12_of_9 rfl ?_
  refine r_iadd (pc := 10) dX12_of_10 ?_
  obtain ⟨b2, h⟩ := h
  refine n_iald (pc := 11) (j := (ix (r1 + x3))) dX12_of_11 (by decide) sh_178 b2 rfl ?_
  exact n_iret (pc := 12) dX12_of_12 rfl (Nat.le_refl _) (Nat.le_refl _) h
def wX12_lay_2  (Q : gS → Prop)  : Nat → Int32 → gS → Prop
  | 0, _, _ => False
  | n + 1, y1, s => (218 ≤ y1 → Q s) ∧ (¬ (218 ≤ y1) → vp_in y1 218 ∧ (vp_in y1 218 ∧ (wX12_lay_2  Q n (y1 + 1) (wi s 188 (ix y1) (gi s 178 (ix y1))))))
set_option maxRecDepth 20000 in
theorem pX12_lay_2 {l : Launch} {X : gX}   {Q : gS → Prop}  : ∀ (n : Nat) (y1 : Int32) (s : gS) (h : wX12_lay_2  Q n y1 s) , Gw l mX12_lay (g_rm 1 0 0) X 2 [some (.ref 177), some (.int y1)] [] (nrm s) 0 0 (g_Z X (q_v Q) 0 0) := by
  intro n
  induction n with
  | zero => intro y1 s h; exact h.elim
  | succ n ih0 =>
    intro y1 s h 
    have ih : ∀ (y1 : Int32) (s : gS), wX12_lay_2  Q n y1 s → Gw l mX12_lay (g_rm 1 0 0) X 2 [some (.ref 177), some (.int y1)] [] (nrm s) 0 0 (g_Z X (q_v Q) 0 0) := fun y1 s h => ih0 y1 s h 
    refine r_iload_n (pc := 2) (x := y1) dX12_lay_2 rfl ?_
    refine r_sipush (pc := 3) (v := 218) dX12_lay_3 (by decide) ?_
    refine r_icmp_ge (pc := 6) (tgt := 27) dX12_lay_6 (by decide) (fun c => ?_) (fun c => ?_)
    · replace h := h.1 c
      exact n_vret (pc := 27) dX12_lay_27 rfl (Nat.le_refl _) (Nat.le_refl _) h
    · replace h := h.2 c
      refine r_aload_n (pc := 9) (x := 177) dX12_lay_9 rfl ?_
      refine n_getR (pc := 10) (j := 25) (q := 188) dX12_lay_10 fl_RX12_42 (by decide) sh_177 rfl rfl rfl ?_
      refine r_iload_n (pc := 13) (x := y1) dX12_lay_13 rfl ?_
      refine r_aload_n (pc := 14) (x := 177) dX12_lay_14 rfl ?_
      refine n_getR (pc := 15) (j := 0) (q := 178) dX12_lay_15 fl_RX12_9 (by decide) sh_177 rfl rfl rfl ?_
      refine r_iload_n (pc := 18) (x := y1) dX12_lay_18 rfl ?_
      obtain ⟨b1, h⟩ := h
      refine n_iald (pc := 19) (j := (ix y1)) dX12_lay_19 (by decide) sh_178 b1 rfl ?_
      obtain ⟨b2, h⟩ := h
      refine n_iast (pc := 20) (j := (ix y1)) dX12_lay_20 (by decide) sh_188 b2 rfl ?_
      refine n_iinc (pc := 21) (x := y1) (w := 1) (L' := [some (.ref 177), some (.int (y1 + 1))]) dX12_lay_21 rfl (by decide) rfl (by decide) rfl ?_
      refine r_goto (pc := 24) (tgt := 2) dX12_lay_24 (by decide) ?_
      refine n_L (L' := [some (.ref 177), some (.int (y1 + 1))]) (le_s (le_s (le_e))) ?_
      exact ih _ _ h
def wpX12_lay  (s : gS) (Q : gS → Prop) : Prop := ∃ n2, wX12_lay_2  Q n2 0 s
set_option maxRecDepth 20000 in
theorem spX12_lay {l : Launch}   {s : gS} {Q : gS → Prop} (h : wpX12_lay  s Q) : Ct l mX12_lay 1 0 0 [.ref 177] (nrm s) (q_v Q) := by
  refine Ct.of (by decide) (Nat.le_of_ble_eq_true rfl) (fun X => ?_)
  refine n_L (L' := [some (.ref 177), none]) (le_s (le_p (le_e))) ?_
  refine r_iconst (pc := 0) (v := 0) dX12_lay_0 (by decide) ?_
  refine r_istore_n (pc := 1) (L' := [some (.ref 177), some (.int 0)]) dX12_lay_1 rfl (by decide) rfl ?_
  refine n_L (L' := [some (.ref 177), some (.int 0)]) (le_s (le_s (le_e))) ?_
  obtain ⟨n, h⟩ := h
  exact pX12_lay_2  n _ _ h 
def wX12_note_11  (Q : gS → Prop) (k52 : Int32 → gS → Prop) : Nat → Int32 → gS → Prop
  | 0, _, _ => False
  | n + 1, y1, s => (1526 ≤ y1 → k52 0 (wi s 177 26 ((gi s 177 26) - 1))) ∧ (¬ (1526 ≤ y1) → vp_in (y1 + 218) 1744 ∧ (vp_in y1 1744 ∧ (wX12_note_11  Q k52 n (y1 + 1) (wi s 187 (ix y1) (gi s 187 (ix (y1 + 218)))))))
set_option maxRecDepth 20000 in
theorem pX12_note_11 {l : Launch} {X : gX}   {Q : gS → Prop} {k52 : Int32 → gS → Prop} : ∀ (n : Nat) (y1 : Int32) (s : gS) (h : wX12_note_11  Q k52 n y1 s) (hk52 : ∀ (y1 : Int32) (s : gS), k52 y1 s → Gw l mX12_note (g_rm 1 0 0) X 52 [some (.ref 177), some (.int y1)] [] (nrm s) 0 0 (g_Z X (q_v Q) 0 0)), Gw l mX12_note (g_rm 1 0 0) X 11 [some (.ref 177), some (.int y1)] [] (nrm s) 0 0 (g_Z X (q_v Q) 0 0) := by
  intro n
  induction n with
  | zero => intro y1 s h; exact h.elim
  | succ n ih0 =>
    intro y1 s h hk52
    have ih : ∀ (y1 : Int32) (s : gS), wX12_note_11  Q k52 n y1 s → Gw l mX12_note (g_rm 1 0 0) X 11 [some (.ref 177), some (.int y1)] [] (nrm s) 0 0 (g_Z X (q_v Q) 0 0) := fun y1 s h => ih0 y1 s h hk52
    refine r_iload_n (pc := 11) (x := y1) dX12_note_11 rfl ?_
    refine r_sipush (pc := 12) (v := 1526) dX12_note_12 (by decide) ?_
    refine r_icmp_ge (pc := 15) (tgt := 40) dX12_note_15 (by decide) (fun c => ?_) (fun c => ?_)
    · replace h := h.1 c
      refine r_aload_n (pc := 40) (x := 177) dX12_note_40 rfl ?_
      refine r_dup (pc := 41) dX12_note_41 rfl ?_
      refine n_getI (pc := 42) (j := 26) dX12_note_42 fl_RX12_445 (by decide) sh_177 rfl rfl ?_
      refine r_iconst (pc := 45) (v := 1) dX12_note_45 (by decide) ?_
      refine r_isub (pc := 46) dX12_note_46 ?_
      refine n_putI (pc := 47) (j := 26) dX12_note_47 fl_RX12_445 fw_12_26 (by decide) sh_177 rfl rfl ?_
      refine r_iconst (pc := 50) (v := 0) dX12_note_50 (by decide) ?_
      refine r_istore_n (pc := 51) (L' := [some (.ref 177), some (.int 0)]) dX12_note_51 rfl (by decide) rfl ?_
      refine n_L (L' := [some (.ref 177), some (.int 0)]) (le_s (le_s (le_e))) ?_
      exact hk52 _ _ h
    · replace h := h.2 c
      refine r_aload_n (pc := 18) (x := 177) dX12_note_18 rfl ?_
      refine n_getR (pc := 19) (j := 24) (q := 187) dX12_note_19 fl_RX12_39 (by decide) sh_177 rfl rfl rfl ?_
      refine r_iload_n (pc := 22) (x := y1) dX12_note_22 rfl ?_
      refine r_aload_n (pc := 23) (x := 177) dX12_note_23 rfl ?_
      refine n_getR (pc := 24) (j := 24) (q := 187) dX12_note_24 fl_RX12_39 (by decide) sh_177 rfl rfl rfl ?_
      refine r_iload_n (pc := 27) (x := y1) dX12_note_27 rfl ?_
      refine r_sipush (pc := 28) (v := 218) dX12_note_28 (by decide) ?_
      refine r_iadd (pc := 31) dX12_note_31 ?_
      obtain ⟨b1, h⟩ := h
      refine n_iald (pc := 32) (j := (ix (y1 + 218))) dX12_note_32 (by decide) sh_187 b1 rfl ?_
      obtain ⟨b2, h⟩ := h
      refine n_iast (pc := 33) (j := (ix y1)) dX12_note_33 (by decide) sh_187 b2 rfl ?_
      refine n_iinc (pc := 34) (x := y1) (w := 1) (L' := [some (.ref 177), some (.int (y1 + 1))]) dX12_note_34 rfl (by decide) rfl (by decide) rfl ?_
      refine r_goto (pc := 37) (tgt := 11) dX12_note_37 (by decide) ?_
      refine n_L (L' := [some (.ref 177), some (.int (y1 + 1))]) (le_s (le_s (le_e))) ?_
      exact ih _ _ h
def wX12_note_52  (Q : gS → Prop)  : Nat → Int32 → gS → Prop
  | 0, _, _ => False
  | n + 1, y1, s => (218 ≤ y1 → Q (wi s 177 26 ((gi s 177 26) + 1))) ∧ (¬ (218 ≤ y1) → vp_in y1 218 ∧ (vp_in ((218 * (gi s 177 26)) + y1) 1744 ∧ (wX12_note_52  Q n (y1 + 1) (wi s 187 (ix ((218 * (gi s 177 26)) + y1)) (gi s 188 (ix y1))))))
set_option maxRecDepth 20000 in
theorem pX12_note_52 {l : Launch} {X : gX}   {Q : gS → Prop}  : ∀ (n : Nat) (y1 : Int32) (s : gS) (h : wX12_note_52  Q n y1 s) , Gw l mX12_note (g_rm 1 0 0) X 52 [some (.ref 177), some (.int y1)] [] (nrm s) 0 0 (g_Z X (q_v Q) 0 0) := by
  intro n
  induction n with
  | zero => intro y1 s h; exact h.elim
  | succ n ih0 =>
    intro y1 s h 
    have ih : ∀ (y1 : Int32) (s : gS), wX12_note_52  Q n y1 s → Gw l mX12_note (g_rm 1 0 0) X 52 [some (.ref 177), some (.int y1)] [] (nrm s) 0 0 (g_Z X (q_v Q) 0 0) := fun y1 s h => ih0 y1 s h 
    refine r_iload_n (pc := 52) (x := y1) dX12_note_52 rfl ?_
    refine r_sipush (pc := 53) (v := 218) dX12_note_53 (by decide) ?_
    refine r_icmp_ge (pc := 56) (tgt := 86) dX12_note_56 (by decide) (fun c => ?_) (fun c => ?_)
    · replace h := h.1 c
      refine r_aload_n (pc := 86) (x := 177) dX12_note_86 rfl ?_
      refine r_dup (pc := 87) dX12_note_87 rfl ?_
      refine n_getI (pc := 88) (j := 26) dX12_note_88 fl_RX12_445 (by decide) sh_177 rfl rfl ?_
      refine r_iconst (pc := 91) (v := 1) dX12_note_91 (by decide) ?_
      refine r_iadd (pc := 92) dX12_note_92 ?_
      refine n_putI (pc := 93) (j := 26) dX12_note_93 fl_RX12_445 fw_12_26 (by decide) sh_177 rfl rfl ?_
      exact n_vret (pc := 96) dX12_note_96 rfl (Nat.le_refl _) (Nat.le_refl _) h
    · replace h := h.2 c
      refine r_aload_n (pc := 59) (x := 177) dX12_note_59 rfl ?_
      refine n_getR (pc := 60) (j := 24) (q := 187) dX12_note_60 fl_RX12_39 (by decide) sh_177 rfl rfl rfl ?_
      refine r_sipush (pc := 63) (v := 218) dX12_note_63 (by decide) ?_
      refine r_aload_n (pc := 66) (x := 177) dX12_note_66 rfl ?_
      refine n_getI (pc := 67) (j := 26) dX12_note_67 fl_RX12_445 (by decide) sh_177 rfl rfl ?_
      refine r_imul (pc := 70) dX12_note_70 ?_
      refine r_iload_n (pc := 71) (x := y1) dX12_note_71 rfl ?_
      refine r_iadd (pc := 72) dX12_note_72 ?_
      refine r_aload_n (pc := 73) (x := 177) dX12_note_73 rfl ?_
      refine n_getR (pc := 74) (j := 25) (q := 188) dX12_note_74 fl_RX12_42 (by decide) sh_177 rfl rfl rfl ?_
      refine r_iload_n (pc := 77) (x := y1) dX12_note_77 rfl ?_
      obtain ⟨b3, h⟩ := h
      refine n_iald (pc := 78) (j := (ix y1)) dX12_note_78 (by decide) sh_188 b3 rfl ?_
      obtain ⟨b4, h⟩ := h
      refine n_iast (pc := 79) (j := (ix ((218 * (gi s 177 26)) + y1))) dX12_note_79 (by decide) sh_187 b4 rfl ?_
      refine n_iinc (pc := 80) (x := y1) (w := 1) (L' := [some (.ref 177), some (.int (y1 + 1))]) dX12_note_80 rfl (by decide) rfl (by decide) rfl ?_
      refine r_goto (pc := 83) (tgt := 52) dX12_note_83 (by decide) ?_
      refine n_L (L' := [some (.ref 177), some (.int (y1 + 1))]) (le_s (le_s (le_e))) ?_
      exact ih _ _ h
def wpX12_note  (s : gS) (Q : gS → Prop) : Prop := (¬ (gi s 177 26) = 8 → ∃ n52, wX12_note_52  Q n52 0 s) ∧ ((gi s 177 26) = 8 → ∃ n11, wX12_note_11  Q (fun y1 s => ∃ n52, wX12_note_52  Q n52 y1 s) n11 0 s)
set_option maxRecDepth 20000 in
theorem spX12_note {l : Launch}   {s : gS} {Q : gS → Prop} (h : wpX12_note  s Q) : Ct l mX12_note 1 0 0 [.ref 177] (nrm s) (q_v Q) := by
  refine Ct.of (by decide) (Nat.le_of_ble_eq_true rfl) (fun X => ?_)
  refine n_L (L' := [some (.ref 177), none]) (le_s (le_p (le_e))) ?_
  refine r_aload_n (pc := 0) (x := 177) dX12_note_0 rfl ?_
  refine n_getI (pc := 1) (j := 26) dX12_note_1 fl_RX12_445 (by decide) sh_177 rfl rfl ?_
  refine r_bipush (pc := 4) (v := 8) dX12_note_4 (by decide) ?_
  refine r_icmp_ne (pc := 6) (tgt := 50) dX12_note_6 (by decide) (fun c => ?_) (fun c => ?_)
  · replace h := h.1 c
    refine r_iconst (pc := 50) (v := 0) dX12_note_50 (by decide) ?_
    refine r_istore_n (pc := 51) (L' := [some (.ref 177), some (.int 0)]) dX12_note_51 rfl (by decide) rfl ?_
    refine n_L (L' := [some (.ref 177), some (.int 0)]) (le_s (le_s (le_e))) ?_
    obtain ⟨n, h⟩ := h
    exact pX12_note_52  n _ _ h 
  · replace h := h.2 c
    refine r_iconst (pc := 9) (v := 0) dX12_note_9 (by decide) ?_
    refine r_istore_n (pc := 10) (L' := [some (.ref 177), some (.int 0)]) dX12_note_10 rfl (by decide) rfl ?_
    refine n_L (L' := [some (.ref 177), some (.int 0)]) (le_s (le_s (le_e))) ?_
    obtain ⟨n, h⟩ := h
    exact pX12_note_11  n _ _ h (fun _ _ h => h.elim fun n h => pX12_note_52  n _ _ h )
def wpX12_change  (s : gS) (Q : gS → Prop) : Prop := wpX12_lay s (fun s1 => wpX12_note s1 (fun s2 => Q s2))
set_option maxRecDepth 20000 in
theorem spX12_change {l : Launch}   {s : gS} {Q : gS → Prop} (h : wpX12_change  s Q) : Ct l mX12_change 2 0 0 [.ref 177] (nrm s) (q_v Q) := by
  refine Ct.of (by decide) (Nat.le_of_ble_eq_true rfl) (fun X => ?_)
  refine n_L (L' := [some (.ref 177)]) (le_s (le_e)) ?_
  refine r_aload_n (pc := 0) (x := 177) dX12_change_0 rfl ?_
  refine n_Vv0 (pc := 1) (S0 := []) (spX12_lay h) gmX12_lay selX12_lay lk_RX12_448 dX12_change_1 rfl (by decide) sh_177 ⟨rfl, by decide⟩ rfl ⟨Nat.le_of_ble_eq_true rfl, Nat.le_of_ble_eq_true rfl⟩ (Nat.le_of_ble_eq_true rfl) ⟨Nat.zero_le _, Nat.zero_le _⟩ (fun s1 h => ?_)
  refine r_aload_n (pc := 4) (x := 177) dX12_change_4 rfl ?_
  refine n_Vv0 (pc := 5) (S0 := []) (spX12_note h) gmX12_note selX12_note lk_RX12_451 dX12_change_5 rfl (by decide) sh_177 ⟨rfl, by decide⟩ rfl ⟨Nat.le_of_ble_eq_true rfl, Nat.le_of_ble_eq_true rfl⟩ (Nat.le_of_ble_eq_true rfl) ⟨Nat.zero_le _, Nat.zero_le _⟩ (fun s2 h => ?_)
  exact n_vret (pc := 8) dX12_change_8 rfl (Nat.le_refl _) (Nat.le_refl _) h
def wpX12_holdsBy (x1 : Int32) (x2 : Int32) (x3 : Int32) (x4 : Int32) (x5 : Int32) (s : gS) (Q : Int32 → gS → Prop) : Prop := wpX12_of x2 x3 0 s (fun r1 s1 => wpX12_of x2 x3 1 s1 (fun r2 s2 => wpX12_of x4 x5 0 s2 (fun r3 s3 => wpX12_of x4 x5 1 s3 (fun r4 s4 => (x1 = 0 → (r3 ≤ r2 → Q 0 s4) ∧ (¬ (r3 ≤ r2) → Q 1 s4)) ∧ (x1 = 1 → (r4 < r1 → Q 0 s4) ∧ (¬ (r4 < r1) → (r2 < r3 → Q 0 s4) ∧ (¬ (r2 < r3) → Q 1 s4))) ∧ (x1 = 2 → (r1 < r3 → Q 0 s4) ∧ (¬ (r1 < r3) → (r4 < r2 → Q 0 s4) ∧ (¬ (r4 < r2) → Q 1 s4))) ∧ (x1 = 3 → (¬ r1 = r3 → Q 0 s4) ∧ (r1 = r3 → Q 1 s4)) ∧ (¬ x1 = 0 → ¬ x1 = 1 → ¬ x1 = 2 → ¬ x1 = 3 → (7 < (r3 - r2) → Q 0 s4) ∧ (¬ (7 < (r3 - r2)) → (7 < (r1 - r4) → Q 0 s4) ∧ (¬ (7 < (r1 - r4)) → Q 1 s4)))))))
set_option maxRecDepth 20000 in
theorem spX12_holdsBy {l : Launch} {x1 : Int32} {x2 : Int32} {x3 : Int32} {x4 : Int32} {x5 : Int32}  {s : gS} {Q : Int32 → gS → Prop} (h : wpX12_holdsBy x1 x2 x3 x4 x5 s Q) : Ct l mX12_holdsBy 3 0 0 [.ref 177, .int x1, .int x2, .int x3, .int x4, .int x5] (nrm s) (q_i Q) := by
  refine Ct.of (by decide) (Nat.le_of_ble_eq_true rfl) (fun X => ?_)
  refine n_L (L' := [some (.ref 177), some (.int x1), some (.int x2), some (.int x3), some (.int x4), some (.int x5), none, none, none, none]) (le_s (le_s (le_s (le_s (le_s (le_s (le_p (le_p (le_p (le_p (le_e))))))))))) ?_
  refine r_aload_n (pc := 0) (x := 177) dX12_holdsBy_0 rfl ?_
  refine r_iload_n (pc := 1) (x := x2) dX12_holdsBy_1 rfl ?_
  refine r_iload_n (pc := 2) (x := x3) dX12_holdsBy_2 rfl ?_
  refine r_iconst (pc := 3) (v := 0) dX12_holdsBy_3 (by decide) ?_
  refine n_Vi0 (pc := 4) (S0 := []) (spX12_of h) gmX12_of selX12_of lk_RX12_333 dX12_holdsBy_4 rfl (by decide) sh_177 ⟨rfl, by decide⟩ rfl ⟨Nat.le_of_ble_eq_true rfl, Nat.le_of_ble_eq_true rfl⟩ (Nat.le_of_ble_eq_true rfl) ⟨Nat.zero_le _, Nat.zero_le _⟩ (fun r1 s1 h => ?_)
  refine r_istore (pc := 7) (L' := [some (.ref 177), some (.int x1), some (.int x2), some (.int x3), some (.int x4), some (.int x5), some (.int r1), none, none, none]) dX12_holdsBy_7 rfl (by decide) rfl ?_
  refine r_aload_n (pc := 9) (x := 177) dX12_holdsBy_9 rfl ?_
  refine r_iload_n (pc := 10) (x := x2) dX12_holdsBy_10 rfl ?_
  refine r_iload_n (pc := 11) (x := x3) dX12_holdsBy_11 rfl ?_
  refine r_iconst (pc := 12) (v := 1) dX12_holdsBy_12 (by decide) ?_
  refine n_Vi0 (pc := 13) (S0 := []) (spX12_of h) gmX12_of selX12_of lk_RX12_333 dX12_holdsBy_13 rfl (by decide) sh_177 ⟨rfl, by decide⟩ rfl ⟨Nat.le_of_ble_eq_true rfl, Nat.le_of_ble_eq_true rfl⟩ (Nat.le_of_ble_eq_true rfl) ⟨Nat.zero_le _, Nat.zero_le _⟩ (fun r2 s2 h => ?_)
  refine r_istore (pc := 16) (L' := [some (.ref 177), some (.int x1), some (.int x2), some (.int x3), some (.int x4), some (.int x5), some (.int r1), some (.int r2), none, none]) dX12_holdsBy_16 rfl (by decide) rfl ?_
  refine r_aload_n (pc := 18) (x := 177) dX12_holdsBy_18 rfl ?_
  refine r_iload (pc := 19) (x := x4) dX12_holdsBy_19 rfl ?_
  refine r_iload (pc := 21) (x := x5) dX12_holdsBy_21 rfl ?_
  refine r_iconst (pc := 23) (v := 0) dX12_holdsBy_23 (by decide) ?_
  refine n_Vi0 (pc := 24) (S0 := []) (spX12_of h) gmX12_of selX12_of lk_RX12_333 dX12_holdsBy_24 rfl (by decide) sh_177 ⟨rfl, by decide⟩ rfl ⟨Nat.le_of_ble_eq_true rfl, Nat.le_of_ble_eq_true rfl⟩ (Nat.le_of_ble_eq_true rfl) ⟨Nat.zero_le _, Nat.zero_le _⟩ (fun r3 s3 h => ?_)
  refine r_istore (pc := 27) (L' := [some (.ref 177), some (.int x1), some (.int x2), some (.int x3), some (.int x4), some (.int x5), some (.int r1), some (.int r2), some (.int r3), none]) dX12_holdsBy_27 rfl (by decide) rfl ?_
  refine r_aload_n (pc := 29) (x := 177) dX12_holdsBy_29 rfl ?_
  refine r_iload (pc := 30) (x := x4) dX12_holdsBy_30 rfl ?_
  refine r_iload (pc := 32) (x := x5) dX12_holdsBy_32 rfl ?_
  refine r_iconst (pc := 34) (v := 1) dX12_holdsBy_34 (by decide) ?_
  refine n_Vi0 (pc := 35) (S0 := []) (spX12_of h) gmX12_of selX12_of lk_RX12_333 dX12_holdsBy_35 rfl (by decide) sh_177 ⟨rfl, by decide⟩ rfl ⟨Nat.le_of_ble_eq_true rfl, Nat.le_of_ble_eq_true rfl⟩ (Nat.le_of_ble_eq_true rfl) ⟨Nat.zero_le _, Nat.zero_le _⟩ (fun r4 s4 h => ?_)
  refine r_istore (pc := 38) (L' := [some (.ref 177), some (.int x1), some (.int x2), some (.int x3), some (.int x4), some (.int x5), some (.int r1), some (.int r2), some (.int r3), some (.int r4)]) dX12_holdsBy_38 rfl (by decide) rfl ?_
  refine r_iload_n (pc := 40) (x := x1) dX12_holdsBy_40 rfl ?_
  by_cases c5_0 : x1 = 0
  · replace h := h.1 c5_0
    refine r_tableIn (pc := 41) (off := 31) (tgt := 72) dX12_holdsBy_41 (by rw [c5_0]; decide) (by rw [c5_0]; decide) (by rw [c5_0]; decide) (by decide) ?_
    refine r_iload (pc := 72) (x := r2) dX12_holdsBy_72 rfl ?_
    refine r_iload (pc := 74) (x := r3) dX12_holdsBy_74 rfl ?_
    refine r_icmp_ge (pc := 76) (tgt := 83) dX12_holdsBy_76 (by decide) (fun c => ?_) (fun c => ?_)
    · replace h := h.1 c
      refine r_iconst (pc := 83) (v := 0) dX12_holdsBy_83 (by decide) ?_
      exact n_zret (pc := 84) dX12_holdsBy_84 rfl (by decide) (Nat.le_refl _) (Nat.le_refl _) h
    · replace h := h.2 c
      refine r_iconst (pc := 79) (v := 1) dX12_holdsBy_79 (by decide) ?_
      refine r_goto (pc := 80) (tgt := 84) dX12_holdsBy_80 (by decide) ?_
      exact n_zret (pc := 84) dX12_holdsBy_84 rfl (by decide) (Nat.le_refl _) (Nat.le_refl _) h
  by_cases c5_1 : x1 = 1
  · replace h := h.2.1 c5_1
    refine r_tableIn (pc := 41) (off := 44) (tgt := 85) dX12_holdsBy_41 (by rw [c5_1]; decide) (by rw [c5_1]; decide) (by rw [c5_1]; decide) (by decide) ?_
    refine r_iload (pc := 85) (x := r1) dX12_holdsBy_85 rfl ?_
    refine r_iload (pc := 87) (x := r4) dX12_holdsBy_87 rfl ?_
    refine r_icmp_gt (pc := 89) (tgt := 103) dX12_holdsBy_89 (by decide) (fun c => ?_) (fun c => ?_)
    · replace h := h.1 c
      refine r_iconst (pc := 103) (v := 0) dX12_holdsBy_103 (by decide) ?_
      exact n_zret (pc := 104) dX12_holdsBy_104 rfl (by decide) (Nat.le_refl _) (Nat.le_refl _) h
    · replace h := h.2 c
      refine r_iload (pc := 92) (x := r3) dX12_holdsBy_92 rfl ?_
      refine r_iload (pc := 94) (x := r2) dX12_holdsBy_94 rfl ?_
      refine r_icmp_gt (pc := 96) (tgt := 103) dX12_holdsBy_96 (by decide) (fun c => ?_) (fun c => ?_)
      · replace h := h.1 c
        refine r_iconst (pc := 103) (v := 0) dX12_holdsBy_103 (by decide) ?_
        exact n_zret (pc := 104) dX12_holdsBy_104 rfl (by decide) (Nat.le_refl _) (Nat.le_refl _) h
      · replace h := h.2 c
        refine r_iconst (pc := 99) (v := 1) dX12_holdsBy_99 (by decide) ?_
        refine r_goto (pc := 100) (tgt := 104) dX12_holdsBy_100 (by decide) ?_
        exact n_zret (pc := 104) dX12_holdsBy_104 rfl (by decide) (Nat.le_refl _) (Nat.le_refl _) h
  by_cases c5_2 : x1 = 2
  · replace h := h.2.2.1 c5_2
    refine r_tableIn (pc := 41) (off := 64) (tgt := 105) dX12_holdsBy_41 (by rw [c5_2]; decide) (by rw [c5_2]; decide) (by rw [c5_2]; decide) (by decide) ?_
    refine r_iload (pc := 105) (x := r1) dX12_holdsBy_105 rfl ?_
    refine r_iload (pc := 107) (x := r3) dX12_holdsBy_107 rfl ?_
    refine r_icmp_lt (pc := 109) (tgt := 123) dX12_holdsBy_109 (by decide) (fun c => ?_) (fun c => ?_)
    · replace h := h.1 c
      refine r_iconst (pc := 123) (v := 0) dX12_holdsBy_123 (by decide) ?_
      exact n_zret (pc := 124) dX12_holdsBy_124 rfl (by decide) (Nat.le_refl _) (Nat.le_refl _) h
    · replace h := h.2 c
      refine r_iload (pc := 112) (x := r2) dX12_holdsBy_112 rfl ?_
      refine r_iload (pc := 114) (x := r4) dX12_holdsBy_114 rfl ?_
      refine r_icmp_gt (pc := 116) (tgt := 123) dX12_holdsBy_116 (by decide) (fun c => ?_) (fun c => ?_)
      · replace h := h.1 c
        refine r_iconst (pc := 123) (v := 0) dX12_holdsBy_123 (by decide) ?_
        exact n_zret (pc := 124) dX12_holdsBy_124 rfl (by decide) (Nat.le_refl _) (Nat.le_refl _) h
      · replace h := h.2 c
        refine r_iconst (pc := 119) (v := 1) dX12_holdsBy_119 (by decide) ?_
        refine r_goto (pc := 120) (tgt := 124) dX12_holdsBy_120 (by decide) ?_
        exact n_zret (pc := 124) dX12_holdsBy_124 rfl (by decide) (Nat.le_refl _) (Nat.le_refl _) h
  by_cases c5_3 : x1 = 3
  · replace h := h.2.2.2.1 c5_3
    refine r_tableIn (pc := 41) (off := 84) (tgt := 125) dX12_holdsBy_41 (by rw [c5_3]; decide) (by rw [c5_3]; decide) (by rw [c5_3]; decide) (by decide) ?_
    refine r_iload (pc := 125) (x := r1) dX12_holdsBy_125 rfl ?_
    refine r_iload (pc := 127) (x := r3) dX12_holdsBy_127 rfl ?_
    refine r_icmp_ne (pc := 129) (tgt := 136) dX12_holdsBy_129 (by decide) (fun c => ?_) (fun c => ?_)
    · replace h := h.1 c
      refine r_iconst (pc := 136) (v := 0) dX12_holdsBy_136 (by decide) ?_
      exact n_zret (pc := 137) dX12_holdsBy_137 rfl (by decide) (Nat.le_refl _) (Nat.le_refl _) h
    · replace h := h.2 c
      refine r_iconst (pc := 132) (v := 1) dX12_holdsBy_132 (by decide) ?_
      refine r_goto (pc := 133) (tgt := 137) dX12_holdsBy_133 (by decide) ?_
      exact n_zret (pc := 137) dX12_holdsBy_137 rfl (by decide) (Nat.le_refl _) (Nat.le_refl _) h
  replace h := h.2.2.2.2 c5_0 c5_1 c5_2 c5_3
  refine r_tableOut (pc := 41) (tgt := 138) dX12_holdsBy_41 (by have e0 := lv_neT c5_0 (show (0 : Int32).toInt = 0 by decide); have e1 := lv_neT c5_1 (show (1 : Int32).toInt = 1 by decide); have e2 := lv_neT c5_2 (show (2 : Int32).toInt = 2 by decide); have e3 := lv_neT c5_3 (show (3 : Int32).toInt = 3 by decide); omega) (by decide) ?_
  refine r_iload (pc := 138) (x := r3) dX12_holdsBy_138 rfl ?_
  refine r_iload (pc := 140) (x := r2) dX12_holdsBy_140 rfl ?_
  refine r_isub (pc := 142) dX12_holdsBy_142 ?_
  refine r_bipush (pc := 143) (v := 7) dX12_holdsBy_143 (by decide) ?_
  refine r_icmp_gt (pc := 145) (tgt := 162) dX12_holdsBy_145 (by decide) (fun c => ?_) (fun c => ?_)
  · replace h := h.1 c
    refine r_iconst (pc := 162) (v := 0) dX12_holdsBy_162 (by decide) ?_
    exact n_zret (pc := 163) dX12_holdsBy_163 rfl (by decide) (Nat.le_refl _) (Nat.le_refl _) h
  · replace h := h.2 c
    refine r_iload (pc := 148) (x := r1) dX12_holdsBy_148 rfl ?_
    refine r_iload (pc := 150) (x := r4) dX12_holdsBy_150 rfl ?_
    refine r_isub (pc := 152) dX12_holdsBy_152 ?_
    refine r_bipush (pc := 153) (v := 7) dX12_holdsBy_153 (by decide) ?_
    refine r_icmp_gt (pc := 155) (tgt := 162) dX12_holdsBy_155 (by decide) (fun c => ?_) (fun c => ?_)
    · replace h := h.1 c
      refine r_iconst (pc := 162) (v := 0) dX12_holdsBy_162 (by decide) ?_
      exact n_zret (pc := 163) dX12_holdsBy_163 rfl (by decide) (Nat.le_refl _) (Nat.le_refl _) h
    · replace h := h.2 c
      refine r_iconst (pc := 158) (v := 1) dX12_holdsBy_158 (by decide) ?_
      refine r_goto (pc := 159) (tgt := 163) dX12_holdsBy_159 (by decide) ?_
      exact n_zret (pc := 163) dX12_holdsBy_163 rfl (by decide) (Nat.le_refl _) (Nat.le_refl _) h
def wX12_brokenNow_4  (Q : Int32 → gS → Prop)  : Nat → Int32 → Int32 → gS → Prop
  | 0, _, _, _ => False
  | n + 1, y1, y2, s => ((gi s 178 1) ≤ y2 → Q y1 s) ∧ (¬ ((gi s 178 1) ≤ y2) → vp_in ((188 + (3 * y2)) + 1) 218 ∧ (vp_in ((188 + (3 * y2)) + 2) 218 ∧ (wpX12_isTold (gi s 178 (ix ((188 + (3 * y2)) + 1))) s (fun r3 s3 => (r3 = 0 → wX12_brokenNow_4  Q n y1 (y2 + 1) s3) ∧ (¬ (r3 = 0) → wpX12_isTold (gi s 178 (ix ((188 + (3 * y2)) + 2))) s3 (fun r4 s4 => (r4 = 0 → wX12_brokenNow_4  Q n y1 (y2 + 1) s4) ∧ (¬ (r4 = 0) → vp_in (188 + (3 * y2)) 218 ∧ (vp_in (gi s 178 (ix ((188 + (3 * y2)) + 1))) 6 ∧ (vp_in (gi s 178 (ix ((188 + (3 * y2)) + 2))) 6 ∧ (wpX12_holdsBy (gi s4 178 (ix (188 + (3 * y2)))) (gi s 178 (ix ((188 + (3 * y2)) + 1))) (gi s4 182 (ix (gi s 178 (ix ((188 + (3 * y2)) + 1))))) (gi s 178 (ix ((188 + (3 * y2)) + 2))) (gi s4 182 (ix (gi s 178 (ix ((188 + (3 * y2)) + 2))))) s4 (fun r8 s8 => (¬ r8 = 0 → wX12_brokenNow_4  Q n y1 (y2 + 1) s8) ∧ (r8 = 0 → wX12_brokenNow_4  Q n (y1 ||| (jshl 1 y2)) (y2 + 1) s8))))))))))))
set_option maxRecDepth 20000 in
theorem pX12_brokenNow_4 {l : Launch} {X : gX}   {Q : Int32 → gS → Prop}  : ∀ (n : Nat) (y1 : Int32) (y2 : Int32) (s : gS) (h : wX12_brokenNow_4  Q n y1 y2 s) , Gw l mX12_brokenNow (g_rm 4 0 0) X 4 [some (.ref 177), some (.int y1), some (.int y2), none, none] [] (nrm s) 0 0 (g_Z X (q_i Q) 0 0) := by
  intro n
  induction n with
  | zero => intro y1 y2 s h; exact h.elim
  | succ n ih0 =>
    intro y1 y2 s h 
    have ih : ∀ (y1 : Int32) (y2 : Int32) (s : gS), wX12_brokenNow_4  Q n y1 y2 s → Gw l mX12_brokenNow (g_rm 4 0 0) X 4 [some (.ref 177), some (.int y1), some (.int y2), none, none] [] (nrm s) 0 0 (g_Z X (q_i Q) 0 0) := fun y1 y2 s h => ih0 y1 y2 s h 
    refine r_iload_n (pc := 4) (x := y2) dX12_brokenNow_4 rfl ?_
    refine r_aload_n (pc := 5) (x := 177) dX12_brokenNow_5 rfl ?_
    refine n_getR (pc := 6) (j := 0) (q := 178) dX12_brokenNow_6 fl_RX12_9 (by decide) sh_177 rfl rfl rfl ?_
    refine r_iconst (pc := 9) (v := 1) dX12_brokenNow_9 (by decide) ?_
    refine n_iald (pc := 10) (j := 1) dX12_brokenNow_10 (by decide) sh_178 (vp_inc (by decide)) (by decide) ?_
    refine r_icmp_ge (pc := 11) (tgt := 109) dX12_brokenNow_11 (by decide) (fun c => ?_) (fun c => ?_)
    · replace h := h.1 c
      refine r_iload_n (pc := 109) (x := y1) dX12_brokenNow_109 rfl ?_
      exact n_iret (pc := 110) dX12_brokenNow_110 rfl (Nat.le_refl _) (Nat.le_refl _) h
    · replace h := h.2 c
      refine r_aload_n (pc := 14) (x := 177) dX12_brokenNow_14 rfl ?_
      refine n_getR (pc := 15) (j := 0) (q := 178) dX12_brokenNow_15 fl_RX12_9 (by decide) sh_177 rfl rfl rfl ?_
      refine r_sipush (pc := 18) (v := 188) dX12_brokenNow_18 (by decide) ?_
      refine r_iconst (pc := 21) (v := 3) dX12_brokenNow_21 (by decide) ?_
      refine r_iload_n (pc := 22) (x := y2) dX12_brokenNow_22 rfl ?_
      refine r_imul (pc := 23) dX12_brokenNow_23 ?_
      refine r_iadd (pc := 24) dX12_brokenNow_24 ?_
      refine r_iconst (pc := 25) (v := 1) dX12_brokenNow_25 (by decide) ?_
      refine r_iadd (pc := 26) dX12_brokenNow_26 ?_
      obtain ⟨b1, h⟩ := h
      refine n_iald (pc := 27) (j := (ix ((188 + (3 * y2)) + 1))) dX12_brokenNow_27 (by decide) sh_178 b1 rfl ?_
      refine r_istore_n (pc := 28) (L' := [some (.ref 177), some (.int y1), some (.int y2), some (.int (gi s 178 (ix ((188 + (3 * y2)) + 1)))), none]) dX12_brokenNow_28 rfl (by decide) rfl ?_
      refine r_aload_n (pc := 29) (x := 177) dX12_brokenNow_29 rfl ?_
      refine n_getR (pc := 30) (j := 0) (q := 178) dX12_brokenNow_30 fl_RX12_9 (by decide) sh_177 rfl rfl rfl ?_
      refine r_sipush (pc := 33) (v := 188) dX12_brokenNow_33 (by decide) ?_
      refine r_iconst (pc := 36) (v := 3) dX12_brokenNow_36 (by decide) ?_
      refine r_iload_n (pc := 37) (x := y2) dX12_brokenNow_37 rfl ?_
      refine r_imul (pc := 38) dX12_brokenNow_38 ?_
      refine r_iadd (pc := 39) dX12_brokenNow_39 ?_
      refine r_iconst (pc := 40) (v := 2) dX12_brokenNow_40 (by decide) ?_
      refine r_iadd (pc := 41) dX12_brokenNow_41 ?_
      obtain ⟨b2, h⟩ := h
      refine n_iald (pc := 42) (j := (ix ((188 + (3 * y2)) + 2))) dX12_brokenNow_42 (by decide) sh_178 b2 rfl ?_
      refine r_istore (pc := 43) (L' := [some (.ref 177), some (.int y1), some (.int y2), some (.int (gi s 178 (ix ((188 + (3 * y2)) + 1)))), some (.int (gi s 178 (ix ((188 + (3 * y2)) + 2))))]) dX12_brokenNow_43 rfl (by decide) rfl ?_
      refine r_aload_n (pc := 45) (x := 177) dX12_brokenNow_45 rfl ?_
      refine r_iload_n (pc := 46) (x := gi s 178 (ix ((188 + (3 * y2)) + 1))) dX12_brokenNow_46 rfl ?_
      refine n_Vi0 (pc := 47) (S0 := []) (spX12_isTold h) gmX12_isTold selX12_isTold lk_RX12_330 dX12_brokenNow_47 rfl (by decide) sh_177 ⟨rfl, by decide⟩ rfl ⟨Nat.le_of_ble_eq_true rfl, Nat.le_of_ble_eq_true rfl⟩ (Nat.le_of_ble_eq_true rfl) ⟨Nat.zero_le _, Nat.zero_le _⟩ (fun r3 s3 h => ?_)
      refine r_if_eq (pc := 50) (tgt := 103) dX12_brokenNow_50 (by decide) (fun c => ?_) (fun c => ?_)
      · replace h := h.1 c
        refine n_iinc (pc := 103) (x := y2) (w := 1) (L' := [some (.ref 177), some (.int y1), some (.int (y2 + 1)), some (.int (gi s 178 (ix ((188 + (3 * y2)) + 1)))), some (.int (gi s 178 (ix ((188 + (3 * y2)) + 2))))]) dX12_brokenNow_103 rfl (by decide) rfl (by decide) rfl ?_
        refine r_goto (pc := 106) (tgt := 4) dX12_brokenNow_106 (by decide) ?_
        refine n_L (L' := [some (.ref 177), some (.int y1), some (.int (y2 + 1)), none, none]) (le_s (le_s (le_s (le_n (le_n (le_e)))))) ?_
        exact ih _ _ _ h
      · replace h := h.2 c
        refine r_aload_n (pc := 53) (x := 177) dX12_brokenNow_53 rfl ?_
        refine r_iload (pc := 54) (x := gi s 178 (ix ((188 + (3 * y2)) + 2))) dX12_brokenNow_54 rfl ?_
        refine n_Vi0 (pc := 56) (S0 := []) (spX12_isTold h) gmX12_isTold selX12_isTold lk_RX12_330 dX12_brokenNow_56 rfl (by decide) sh_177 ⟨rfl, by decide⟩ rfl ⟨Nat.le_of_ble_eq_true rfl, Nat.le_of_ble_eq_true rfl⟩ (Nat.le_of_ble_eq_true rfl) ⟨Nat.zero_le _, Nat.zero_le _⟩ (fun r4 s4 h => ?_)
        refine r_if_eq (pc := 59) (tgt := 103) dX12_brokenNow_59 (by decide) (fun c => ?_) (fun c => ?_)
        · replace h := h.1 c
          refine n_iinc (pc := 103) (x := y2) (w := 1) (L' := [some (.ref 177), some (.int y1), some (.int (y2 + 1)), some (.int (gi s 178 (ix ((188 + (3 * y2)) + 1)))), some (.int (gi s 178 (ix ((188 + (3 * y2)) + 2))))]) dX12_brokenNow_103 rfl (by decide) rfl (by decide) rfl ?_
          refine r_goto (pc := 106) (tgt := 4) dX12_brokenNow_106 (by decide) ?_
          refine n_L (L' := [some (.ref 177), some (.int y1), some (.int (y2 + 1)), none, none]) (le_s (le_s (le_s (le_n (le_n (le_e)))))) ?_
          exact ih _ _ _ h
        · replace h := h.2 c
          refine r_aload_n (pc := 62) (x := 177) dX12_brokenNow_62 rfl ?_
          refine r_aload_n (pc := 63) (x := 177) dX12_brokenNow_63 rfl ?_
          refine n_getR (pc := 64) (j := 0) (q := 178) dX12_brokenNow_64 fl_RX12_9 (by decide) sh_177 rfl rfl rfl ?_
          refine r_sipush (pc := 67) (v := 188) dX12_brokenNow_67 (by decide) ?_
          refine r_iconst (pc := 70) (v := 3) dX12_brokenNow_70 (by decide) ?_
          refine r_iload_n (pc := 71) (x := y2) dX12_brokenNow_71 rfl ?_
          refine r_imul (pc := 72) dX12_brokenNow_72 ?_
          refine r_iadd (pc := 73) dX12_brokenNow_73 ?_
          obtain ⟨b5, h⟩ := h
          refine n_iald (pc := 74) (j := (ix (188 + (3 * y2)))) dX12_brokenNow_74 (by decide) sh_178 b5 rfl ?_
          refine r_iload_n (pc := 75) (x := gi s 178 (ix ((188 + (3 * y2)) + 1))) dX12_brokenNow_75 rfl ?_
          refine r_aload_n (pc := 76) (x := 177) dX12_brokenNow_76 rfl ?_
          refine n_getR (pc := 77) (j := 16) (q := 182) dX12_brokenNow_77 fl_RX12_24 (by decide) sh_177 rfl rfl rfl ?_
          refine r_iload_n (pc := 80) (x := gi s 178 (ix ((188 + (3 * y2)) + 1))) dX12_brokenNow_80 rfl ?_
          obtain ⟨b6, h⟩ := h
          refine n_iald (pc := 81) (j := (ix (gi s 178 (ix ((188 + (3 * y2)) + 1))))) dX12_brokenNow_81 (by decide) sh_182 b6 rfl ?_
          refine r_iload (pc := 82) (x := gi s 178 (ix ((188 + (3 * y2)) + 2))) dX12_brokenNow_82 rfl ?_
          refine r_aload_n (pc := 84) (x := 177) dX12_brokenNow_84 rfl ?_
          refine n_getR (pc := 85) (j := 16) (q := 182) dX12_brokenNow_85 fl_RX12_24 (by decide) sh_177 rfl rfl rfl ?_
          refine r_iload (pc := 88) (x := gi s 178 (ix ((188 + (3 * y2)) + 2))) dX12_brokenNow_88 rfl ?_
          obtain ⟨b7, h⟩ := h
          refine n_iald (pc := 90) (j := (ix (gi s 178 (ix ((188 + (3 * y2)) + 2))))) dX12_brokenNow_90 (by decide) sh_182 b7 rfl ?_
          refine n_Vi0 (pc := 91) (S0 := []) (spX12_holdsBy h) gmX12_holdsBy selX12_holdsBy lk_RX12_347 dX12_brokenNow_91 rfl (by decide) sh_177 ⟨rfl, by decide⟩ rfl ⟨Nat.le_of_ble_eq_true rfl, Nat.le_of_ble_eq_true rfl⟩ (Nat.le_of_ble_eq_true rfl) ⟨Nat.zero_le _, Nat.zero_le _⟩ (fun r8 s8 h => ?_)
          refine r_if_ne (pc := 94) (tgt := 103) dX12_brokenNow_94 (by decide) (fun c => ?_) (fun c => ?_)
          · replace h := h.1 c
            refine n_iinc (pc := 103) (x := y2) (w := 1) (L' := [some (.ref 177), some (.int y1), some (.int (y2 + 1)), some (.int (gi s 178 (ix ((188 + (3 * y2)) + 1)))), some (.int (gi s 178 (ix ((188 + (3 * y2)) + 2))))]) dX12_brokenNow_103 rfl (by decide) rfl (by decide) rfl ?_
            refine r_goto (pc := 106) (tgt := 4) dX12_brokenNow_106 (by decide) ?_
            refine n_L (L' := [some (.ref 177), some (.int y1), some (.int (y2 + 1)), none, none]) (le_s (le_s (le_s (le_n (le_n (le_e)))))) ?_
            exact ih _ _ _ h
          · replace h := h.2 c
            refine r_iload_n (pc := 97) (x := y1) dX12_brokenNow_97 rfl ?_
            refine r_iconst (pc := 98) (v := 1) dX12_brokenNow_98 (by decide) ?_
            refine r_iload_n (pc := 99) (x := y2) dX12_brokenNow_99 rfl ?_
            refine n_ishl (pc := 100) dX12_brokenNow_100 ?_
            refine r_ior (pc := 101) dX12_brokenNow_101 ?_
            refine r_istore_n (pc := 102) (L' := [some (.ref 177), some (.int (y1 ||| (jshl 1 y2))), some (.int y2), some (.int (gi s 178 (ix ((188 + (3 * y2)) + 1)))), some (.int (gi s 178 (ix ((188 + (3 * y2)) + 2))))]) dX12_brokenNow_102 rfl (by decide) rfl ?_
            refine n_iinc (pc := 103) (x := y2) (w := 1) (L' := [some (.ref 177), some (.int (y1 ||| (jshl 1 y2))), some (.int (y2 + 1)), some (.int (gi s 178 (ix ((188 + (3 * y2)) + 1)))), some (.int (gi s 178 (ix ((188 + (3 * y2)) + 2))))]) dX12_brokenNow_103 rfl (by decide) rfl (by decide) rfl ?_
            refine r_goto (pc := 106) (tgt := 4) dX12_brokenNow_106 (by decide) ?_
            refine n_L (L' := [some (.ref 177), some (.int (y1 ||| (jshl 1 y2))), some (.int (y2 + 1)), none, none]) (le_s (le_s (le_s (le_n (le_n (le_e)))))) ?_
            exact ih _ _ _ h
def wpX12_brokenNow  (s : gS) (Q : Int32 → gS → Prop) : Prop := ∃ n4, wX12_brokenNow_4  Q n4 0 0 s
set_option maxRecDepth 20000 in
theorem spX12_brokenNow {l : Launch}   {s : gS} {Q : Int32 → gS → Prop} (h : wpX12_brokenNow  s Q) : Ct l mX12_brokenNow 4 0 0 [.ref 177] (nrm s) (q_i Q) := by
  refine Ct.of (by decide) (Nat.le_of_ble_eq_true rfl) (fun X => ?_)
  refine n_L (L' := [some (.ref 177), none, none, none, none]) (le_s (le_p (le_p (le_p (le_p (le_e)))))) ?_
  refine r_iconst (pc := 0) (v := 0) dX12_brokenNow_0 (by decide) ?_
  refine r_istore_n (pc := 1) (L' := [some (.ref 177), some (.int 0), none, none, none]) dX12_brokenNow_1 rfl (by decide) rfl ?_
  refine r_iconst (pc := 2) (v := 0) dX12_brokenNow_2 (by decide) ?_
  refine r_istore_n (pc := 3) (L' := [some (.ref 177), some (.int 0), some (.int 0), none, none]) dX12_brokenNow_3 rfl (by decide) rfl ?_
  refine n_L (L' := [some (.ref 177), some (.int 0), some (.int 0), none, none]) (le_s (le_s (le_s (le_n (le_n (le_e)))))) ?_
  obtain ⟨n, h⟩ := h
  exact pX12_brokenNow_4  n _ _ _ h 
def wX12_isAny_2  (Q : Int32 → gS → Prop)  : Nat → Int32 → gS → Prop
  | 0, _, _ => False
  | n + 1, y1, s => (6 ≤ y1 → Q 0 s) ∧ (¬ (6 ≤ y1) → wpX12_isTold y1 s (fun r1 s1 => (r1 = 0 → wX12_isAny_2  Q n (y1 + 1) s1) ∧ (¬ (r1 = 0) → Q 1 s1)))
set_option maxRecDepth 20000 in
theorem pX12_isAny_2 {l : Launch} {X : gX}   {Q : Int32 → gS → Prop}  : ∀ (n : Nat) (y1 : Int32) (s : gS) (h : wX12_isAny_2  Q n y1 s) , Gw l mX12_isAny (g_rm 4 0 0) X 2 [some (.ref 177), some (.int y1)] [] (nrm s) 0 0 (g_Z X (q_i Q) 0 0) := by
  intro n
  induction n with
  | zero => intro y1 s h; exact h.elim
  | succ n ih0 =>
    intro y1 s h 
    have ih : ∀ (y1 : Int32) (s : gS), wX12_isAny_2  Q n y1 s → Gw l mX12_isAny (g_rm 4 0 0) X 2 [some (.ref 177), some (.int y1)] [] (nrm s) 0 0 (g_Z X (q_i Q) 0 0) := fun y1 s h => ih0 y1 s h 
    refine r_iload_n (pc := 2) (x := y1) dX12_isAny_2 rfl ?_
    refine r_bipush (pc := 3) (v := 6) dX12_isAny_3 (by decide) ?_
    refine r_icmp_ge (pc := 5) (tgt := 24) dX12_isAny_5 (by decide) (fun c => ?_) (fun c => ?_)
    · replace h := h.1 c
      refine r_iconst (pc := 24) (v := 0) dX12_isAny_24 (by decide) ?_
      exact n_zret (pc := 25) dX12_isAny_25 rfl (by decide) (Nat.le_refl _) (Nat.le_refl _) h
    · replace h := h.2 c
      refine r_aload_n (pc := 8) (x := 177) dX12_isAny_8 rfl ?_
      refine r_iload_n (pc := 9) (x := y1) dX12_isAny_9 rfl ?_
      refine n_Vi0 (pc := 10) (S0 := []) (spX12_isTold h) gmX12_isTold selX12_isTold lk_RX12_330 dX12_isAny_10 rfl (by decide) sh_177 ⟨rfl, by decide⟩ rfl ⟨Nat.le_of_ble_eq_true rfl, Nat.le_of_ble_eq_true rfl⟩ (Nat.le_of_ble_eq_true rfl) ⟨Nat.zero_le _, Nat.zero_le _⟩ (fun r1 s1 h => ?_)
      refine r_if_eq (pc := 13) (tgt := 18) dX12_isAny_13 (by decide) (fun c => ?_) (fun c => ?_)
      · replace h := h.1 c
        refine n_iinc (pc := 18) (x := y1) (w := 1) (L' := [some (.ref 177), some (.int (y1 + 1))]) dX12_isAny_18 rfl (by decide) rfl (by decide) rfl ?_
        refine r_goto (pc := 21) (tgt := 2) dX12_isAny_21 (by decide) ?_
        refine n_L (L' := [some (.ref 177), some (.int (y1 + 1))]) (le_s (le_s (le_e))) ?_
        exact ih _ _ h
      · replace h := h.2 c
        refine r_iconst (pc := 16) (v := 1) dX12_isAny_16 (by decide) ?_
        exact n_zret (pc := 17) dX12_isAny_17 rfl (by decide) (Nat.le_refl _) (Nat.le_refl _) h
def wpX12_isAny  (s : gS) (Q : Int32 → gS → Prop) : Prop := ∃ n2, wX12_isAny_2  Q n2 0 s
set_option maxRecDepth 20000 in
theorem spX12_isAny {l : Launch}   {s : gS} {Q : Int32 → gS → Prop} (h : wpX12_isAny  s Q) : Ct l mX12_isAny 4 0 0 [.ref 177] (nrm s) (q_i Q) := by
  refine Ct.of (by decide) (Nat.le_of_ble_eq_true rfl) (fun X => ?_)
  refine n_L (L' := [some (.ref 177), none]) (le_s (le_p (le_e))) ?_
  refine r_iconst (pc := 0) (v := 0) dX12_isAny_0 (by decide) ?_
  refine r_istore_n (pc := 1) (L' := [some (.ref 177), some (.int 0)]) dX12_isAny_1 rfl (by decide) rfl ?_
  refine n_L (L' := [some (.ref 177), some (.int 0)]) (le_s (le_s (le_e))) ?_
  obtain ⟨n, h⟩ := h
  exact pX12_isAny_2  n _ _ h 
def wX12_inFrom_2 (x1 : Int32) (x2 : Int32) (Q : Int32 → gS → Prop)  : Nat → Int32 → gS → Prop
  | 0, _, _ => False
  | n + 1, y3, s => vp_in (2 + x1) 218 ∧ (((gi s 178 (ix (2 + x1))) ≤ y3 → Q (-1) s) ∧ (¬ ((gi s 178 (ix (2 + x1))) ≤ y3) → wpX12_of x1 y3 4 s (fun r2 s2 => (¬ r2 = 1 → wX12_inFrom_2 x1 x2 Q n (y3 + 1) s2) ∧ (r2 = 1 → Q y3 s2))))
set_option maxRecDepth 20000 in
theorem pX12_inFrom_2 {l : Launch} {X : gX} {x1 : Int32} {x2 : Int32}  {Q : Int32 → gS → Prop}  : ∀ (n : Nat) (y3 : Int32) (s : gS) (h : wX12_inFrom_2 x1 x2 Q n y3 s) , Gw l mX12_inFrom (g_rm 3 0 0) X 2 [some (.ref 177), some (.int x1), none, some (.int y3)] [] (nrm s) 0 0 (g_Z X (q_i Q) 0 0) := by
  intro n
  induction n with
  | zero => intro y3 s h; exact h.elim
  | succ n ih0 =>
    intro y3 s h 
    have ih : ∀ (y3 : Int32) (s : gS), wX12_inFrom_2 x1 x2 Q n y3 s → Gw l mX12_inFrom (g_rm 3 0 0) X 2 [some (.ref 177), some (.int x1), none, some (.int y3)] [] (nrm s) 0 0 (g_Z X (q_i Q) 0 0) := fun y3 s h => ih0 y3 s h 
    refine r_iload_n (pc := 2) (x := y3) dX12_inFrom_2 rfl ?_
    refine r_aload_n (pc := 3) (x := 177) dX12_inFrom_3 rfl ?_
    refine n_getR (pc := 4) (j := 0) (q := 178) dX12_inFrom_4 fl_RX12_9 (by decide) sh_177 rfl rfl rfl ?_
    refine r_iconst (pc := 7) (v := 2) dX12_inFrom_7 (by decide) ?_
    refine r_iload_n (pc := 8) (x := x1) dX12_inFrom_8 rfl ?_
    refine r_iadd (pc := 9) dX12_inFrom_9 ?_
    obtain ⟨b1, h⟩ := h
    refine n_iald (pc := 10) (j := (ix (2 + x1))) dX12_inFrom_10 (by decide) sh_178 b1 rfl ?_
    refine r_icmp_ge (pc := 11) (tgt := 33) dX12_inFrom_11 (by decide) (fun c => ?_) (fun c => ?_)
    · replace h := h.1 c
      refine r_iconst (pc := 33) (v := (-1)) dX12_inFrom_33 (by decide) ?_
      exact n_iret (pc := 34) dX12_inFrom_34 rfl (Nat.le_refl _) (Nat.le_refl _) h
    · replace h := h.2 c
      refine r_aload_n (pc := 14) (x := 177) dX12_inFrom_14 rfl ?_
      refine r_iload_n (pc := 15) (x := x1) dX12_inFrom_15 rfl ?_
      refine r_iload_n (pc := 16) (x := y3) dX12_inFrom_16 rfl ?_
      refine r_iconst (pc := 17) (v := 4) dX12_inFrom_17 (by decide) ?_
      refine n_Vi0 (pc := 18) (S0 := []) (spX12_of h) gmX12_of selX12_of lk_RX12_333 dX12_inFrom_18 rfl (by decide) sh_177 ⟨rfl, by decide⟩ rfl ⟨Nat.le_of_ble_eq_true rfl, Nat.le_of_ble_eq_true rfl⟩ (Nat.le_of_ble_eq_true rfl) ⟨Nat.zero_le _, Nat.zero_le _⟩ (fun r2 s2 h => ?_)
      refine r_iconst (pc := 21) (v := 1) dX12_inFrom_21 (by decide) ?_
      refine r_icmp_ne (pc := 22) (tgt := 27) dX12_inFrom_22 (by decide) (fun c => ?_) (fun c => ?_)
      · replace h := h.1 c
        refine n_iinc (pc := 27) (x := y3) (w := 1) (L' := [some (.ref 177), some (.int x1), none, some (.int (y3 + 1))]) dX12_inFrom_27 rfl (by decide) rfl (by decide) rfl ?_
        refine r_goto (pc := 30) (tgt := 2) dX12_inFrom_30 (by decide) ?_
        refine n_L (L' := [some (.ref 177), some (.int x1), none, some (.int (y3 + 1))]) (le_s (le_s (le_n (le_s (le_e))))) ?_
        exact ih _ _ h
      · replace h := h.2 c
        refine r_iload_n (pc := 25) (x := y3) dX12_inFrom_25 rfl ?_
        exact n_iret (pc := 26) dX12_inFrom_26 rfl (Nat.le_refl _) (Nat.le_refl _) h
def wpX12_inFrom (x1 : Int32) (x2 : Int32) (s : gS) (Q : Int32 → gS → Prop) : Prop := ∃ n2, wX12_inFrom_2 x1 x2 Q n2 x2 s
set_option maxRecDepth 20000 in
theorem spX12_inFrom {l : Launch} {x1 : Int32} {x2 : Int32}  {s : gS} {Q : Int32 → gS → Prop} (h : wpX12_inFrom x1 x2 s Q) : Ct l mX12_inFrom 3 0 0 [.ref 177, .int x1, .int x2] (nrm s) (q_i Q) := by
  refine Ct.of (by decide) (Nat.le_of_ble_eq_true rfl) (fun X => ?_)
  refine n_L (L' := [some (.ref 177), some (.int x1), some (.int x2), none]) (le_s (le_s (le_s (le_p (le_e))))) ?_
  refine r_iload_n (pc := 0) (x := x2) dX12_inFrom_0 rfl ?_
  refine r_istore_n (pc := 1) (L' := [some (.ref 177), some (.int x1), some (.int x2), some (.int x2)]) dX12_inFrom_1 rfl (by decide) rfl ?_
  refine n_L (L' := [some (.ref 177), some (.int x1), none, some (.int x2)]) (le_s (le_s (le_n (le_s (le_e))))) ?_
  obtain ⟨n, h⟩ := h
  exact pX12_inFrom_2  n _ _ h 
def wX12_startPicks_31  (Q : Int32 → gS → Prop) (k2 : Int32 → gS → Prop) (y1 : Int32) (z0 : Int32) (z1 : Int32) (s : gS) : Prop := vp_in z1 6 ∧ (wpX12_isTold y1 (wi s 182 (ix z1) z0) (fun r6 s6 => (r6 = 0 → k2 (y1 + 1) s6) ∧ (¬ (r6 = 0) → vp_in y1 6 ∧ ((¬ (gi s6 182 (ix y1)) = (-1) → k2 (y1 + 1) s6) ∧ ((gi s6 182 (ix y1)) = (-1) → Q 0 s6)))))
set_option maxRecDepth 20000 in
theorem pX12_startPicks_31 {l : Launch} {X : gX}   {Q : Int32 → gS → Prop} {k2 : Int32 → gS → Prop} (y1 : Int32) (z0 : Int32) (z1 : Int32) (s : gS) (h : wX12_startPicks_31  Q k2 y1 z0 z1 s) (hk2 : ∀ (y1 : Int32) (s : gS), k2 y1 s → Gw l mX12_startPicks (g_rm 5 0 0) X 2 [some (.ref 177), some (.int y1)] [] (nrm s) 0 0 (g_Z X (q_i Q) 0 0)) : Gw l mX12_startPicks (g_rm 5 0 0) X 31 [some (.ref 177), some (.int y1)] [.int z0, .int z1, .ref 182] (nrm s) 0 0 (g_Z X (q_i Q) 0 0) := by
  obtain ⟨b5, h⟩ := h
  refine n_iast (pc := 31) (j := (ix z1)) dX12_startPicks_31 (by decide) sh_182 b5 rfl ?_
  refine r_aload_n (pc := 32) (x := 177) dX12_startPicks_32 rfl ?_
  refine r_iload_n (pc := 33) (x := y1) dX12_startPicks_33 rfl ?_
  refine n_Vi0 (pc := 34) (S0 := []) (spX12_isTold h) gmX12_isTold selX12_isTold lk_RX12_330 dX12_startPicks_34 rfl (by decide) sh_177 ⟨rfl, by decide⟩ rfl ⟨Nat.le_of_ble_eq_true rfl, Nat.le_of_ble_eq_true rfl⟩ (Nat.le_of_ble_eq_true rfl) ⟨Nat.zero_le _, Nat.zero_le _⟩ (fun r6 s6 h => ?_)
  refine r_if_eq (pc := 37) (tgt := 52) dX12_startPicks_37 (by decide) (fun c => ?_) (fun c => ?_)
  · replace h := h.1 c
    refine n_iinc (pc := 52) (x := y1) (w := 1) (L' := [some (.ref 177), some (.int (y1 + 1))]) dX12_startPicks_52 rfl (by decide) rfl (by decide) rfl ?_
    refine r_goto (pc := 55) (tgt := 2) dX12_startPicks_55 (by decide) ?_
    refine n_L (L' := [some (.ref 177), some (.int (y1 + 1))]) (le_s (le_s (le_e))) ?_
    exact hk2 _ _ h
  · replace h := h.2 c
    refine r_aload_n (pc := 40) (x := 177) dX12_startPicks_40 rfl ?_
    refine n_getR (pc := 41) (j := 16) (q := 182) dX12_startPicks_41 fl_RX12_24 (by decide) sh_177 rfl rfl rfl ?_
    refine r_iload_n (pc := 44) (x := y1) dX12_startPicks_44 rfl ?_
    obtain ⟨b7, h⟩ := h
    refine n_iald (pc := 45) (j := (ix y1)) dX12_startPicks_45 (by decide) sh_182 b7 rfl ?_
    refine r_iconst (pc := 46) (v := (-1)) dX12_startPicks_46 (by decide) ?_
    refine r_icmp_ne (pc := 47) (tgt := 52) dX12_startPicks_47 (by decide) (fun c => ?_) (fun c => ?_)
    · replace h := h.1 c
      refine n_iinc (pc := 52) (x := y1) (w := 1) (L' := [some (.ref 177), some (.int (y1 + 1))]) dX12_startPicks_52 rfl (by decide) rfl (by decide) rfl ?_
      refine r_goto (pc := 55) (tgt := 2) dX12_startPicks_55 (by decide) ?_
      refine n_L (L' := [some (.ref 177), some (.int (y1 + 1))]) (le_s (le_s (le_e))) ?_
      exact hk2 _ _ h
    · replace h := h.2 c
      refine r_iconst (pc := 50) (v := 0) dX12_startPicks_50 (by decide) ?_
      exact n_zret (pc := 51) dX12_startPicks_51 rfl (by decide) (Nat.le_refl _) (Nat.le_refl _) h
def wX12_startPicks_2  (Q : Int32 → gS → Prop)  : Nat → Int32 → gS → Prop
  | 0, _, _ => False
  | n + 1, y1, s => (6 ≤ y1 → wpX12_isAny s (fun r1 s1 => (r1 = 0 ∨ r1 = 1) ∧ (Q r1 s1))) ∧ (¬ (6 ≤ y1) → wpX12_isTold y1 s (fun r3 s3 => (r3 = 0 → wX12_startPicks_31  Q (fun y1 s => wX12_startPicks_2  Q n y1 s) y1 (-1) y1 s3) ∧ (¬ (r3 = 0) → wpX12_inFrom y1 0 s3 (fun r4 s4 => wX12_startPicks_31  Q (fun y1 s => wX12_startPicks_2  Q n y1 s) y1 r4 y1 s4))))
set_option maxRecDepth 20000 in
theorem pX12_startPicks_2 {l : Launch} {X : gX}   {Q : Int32 → gS → Prop}  : ∀ (n : Nat) (y1 : Int32) (s : gS) (h : wX12_startPicks_2  Q n y1 s) , Gw l mX12_startPicks (g_rm 5 0 0) X 2 [some (.ref 177), some (.int y1)] [] (nrm s) 0 0 (g_Z X (q_i Q) 0 0) := by
  intro n
  induction n with
  | zero => intro y1 s h; exact h.elim
  | succ n ih0 =>
    intro y1 s h 
    have ih : ∀ (y1 : Int32) (s : gS), wX12_startPicks_2  Q n y1 s → Gw l mX12_startPicks (g_rm 5 0 0) X 2 [some (.ref 177), some (.int y1)] [] (nrm s) 0 0 (g_Z X (q_i Q) 0 0) := fun y1 s h => ih0 y1 s h 
    refine r_iload_n (pc := 2) (x := y1) dX12_startPicks_2 rfl ?_
    refine r_bipush (pc := 3) (v := 6) dX12_startPicks_3 (by decide) ?_
    refine r_icmp_ge (pc := 5) (tgt := 58) dX12_startPicks_5 (by decide) (fun c => ?_) (fun c => ?_)
    · replace h := h.1 c
      refine r_aload_n (pc := 58) (x := 177) dX12_startPicks_58 rfl ?_
      refine n_Vi0 (pc := 59) (S0 := []) (spX12_isAny h) gmX12_isAny selX12_isAny lk_RX12_354 dX12_startPicks_59 rfl (by decide) sh_177 ⟨rfl, by decide⟩ rfl ⟨Nat.le_of_ble_eq_true rfl, Nat.le_of_ble_eq_true rfl⟩ (Nat.le_of_ble_eq_true rfl) ⟨Nat.zero_le _, Nat.zero_le _⟩ (fun r1 s1 h => ?_)
      obtain ⟨b2, h⟩ := h
      exact n_zret (pc := 62) dX12_startPicks_62 rfl b2 (Nat.le_refl _) (Nat.le_refl _) h
    · replace h := h.2 c
      refine r_aload_n (pc := 8) (x := 177) dX12_startPicks_8 rfl ?_
      refine n_getR (pc := 9) (j := 16) (q := 182) dX12_startPicks_9 fl_RX12_24 (by decide) sh_177 rfl rfl rfl ?_
      refine r_iload_n (pc := 12) (x := y1) dX12_startPicks_12 rfl ?_
      refine r_aload_n (pc := 13) (x := 177) dX12_startPicks_13 rfl ?_
      refine r_iload_n (pc := 14) (x := y1) dX12_startPicks_14 rfl ?_
      refine n_Vi0 (pc := 15) (S0 := [.int y1, .ref 182]) (spX12_isTold h) gmX12_isTold selX12_isTold lk_RX12_330 dX12_startPicks_15 rfl (by decide) sh_177 ⟨rfl, by decide⟩ rfl ⟨Nat.le_of_ble_eq_true rfl, Nat.le_of_ble_eq_true rfl⟩ (Nat.le_of_ble_eq_true rfl) ⟨Nat.zero_le _, Nat.zero_le _⟩ (fun r3 s3 h => ?_)
      refine r_if_eq (pc := 18) (tgt := 30) dX12_startPicks_18 (by decide) (fun c => ?_) (fun c => ?_)
      · replace h := h.1 c
        refine r_iconst (pc := 30) (v := (-1)) dX12_startPicks_30 (by decide) ?_
        refine n_L (L' := [some (.ref 177), some (.int y1)]) (le_s (le_s (le_e))) ?_
        exact pX12_startPicks_31  _ _ _ _ h ih
      · replace h := h.2 c
        refine r_aload_n (pc := 21) (x := 177) dX12_startPicks_21 rfl ?_
        refine r_iload_n (pc := 22) (x := y1) dX12_startPicks_22 rfl ?_
        refine r_iconst (pc := 23) (v := 0) dX12_startPicks_23 (by decide) ?_
        refine n_Vi0 (pc := 24) (S0 := [.int y1, .ref 182]) (spX12_inFrom h) gmX12_inFrom selX12_inFrom lk_RX12_351 dX12_startPicks_24 rfl (by decide) sh_177 ⟨rfl, by decide⟩ rfl ⟨Nat.le_of_ble_eq_true rfl, Nat.le_of_ble_eq_true rfl⟩ (Nat.le_of_ble_eq_true rfl) ⟨Nat.zero_le _, Nat.zero_le _⟩ (fun r4 s4 h => ?_)
        refine r_goto (pc := 27) (tgt := 31) dX12_startPicks_27 (by decide) ?_
        refine n_L (L' := [some (.ref 177), some (.int y1)]) (le_s (le_s (le_e))) ?_
        exact pX12_startPicks_31  _ _ _ _ h ih
def wpX12_startPicks  (s : gS) (Q : Int32 → gS → Prop) : Prop := ∃ n2, wX12_startPicks_2  Q n2 0 s
set_option maxRecDepth 20000 in
theorem spX12_startPicks {l : Launch}   {s : gS} {Q : Int32 → gS → Prop} (h : wpX12_startPicks  s Q) : Ct l mX12_startPicks 5 0 0 [.ref 177] (nrm s) (q_i Q) := by
  refine Ct.of (by decide) (Nat.le_of_ble_eq_true rfl) (fun X => ?_)
  refine n_L (L' := [some (.ref 177), none]) (le_s (le_p (le_e))) ?_
  refine r_iconst (pc := 0) (v := 0) dX12_startPicks_0 (by decide) ?_
  refine r_istore_n (pc := 1) (L' := [some (.ref 177), some (.int 0)]) dX12_startPicks_1 rfl (by decide) rfl ?_
  refine n_L (L' := [some (.ref 177), some (.int 0)]) (le_s (le_s (le_e))) ?_
  obtain ⟨n, h⟩ := h
  exact pX12_startPicks_2  n _ _ h 
def wX12_nextPicks_2  (Q : Int32 → gS → Prop)  : Nat → Int32 → gS → Prop
  | 0, _, _ => False
  | n + 1, y1, s => (y1 < 0 → Q 0 s) ∧ (¬ (y1 < 0) → wpX12_isTold y1 s (fun r1 s1 => (¬ r1 = 0 → vp_in y1 6 ∧ (wpX12_inFrom y1 ((gi s1 182 (ix y1)) + 1) s1 (fun r3 s3 => (r3 = (-1) → wpX12_inFrom y1 0 s3 (fun r4 s4 => vp_in y1 6 ∧ (wX12_nextPicks_2  Q n (y1 + (-1)) (wi s4 182 (ix y1) r4)))) ∧ (¬ (r3 = (-1)) → vp_in y1 6 ∧ (Q 1 (wi s3 182 (ix y1) r3)))))) ∧ (r1 = 0 → wX12_nextPicks_2  Q n (y1 + (-1)) s1)))
set_option maxRecDepth 20000 in
theorem pX12_nextPicks_2 {l : Launch} {X : gX}   {Q : Int32 → gS → Prop}  : ∀ (n : Nat) (y1 : Int32) (s : gS) (h : wX12_nextPicks_2  Q n y1 s) , Gw l mX12_nextPicks (g_rm 4 0 0) X 2 [some (.ref 177), some (.int y1), none] [] (nrm s) 0 0 (g_Z X (q_i Q) 0 0) := by
  intro n
  induction n with
  | zero => intro y1 s h; exact h.elim
  | succ n ih0 =>
    intro y1 s h 
    have ih : ∀ (y1 : Int32) (s : gS), wX12_nextPicks_2  Q n y1 s → Gw l mX12_nextPicks (g_rm 4 0 0) X 2 [some (.ref 177), some (.int y1), none] [] (nrm s) 0 0 (g_Z X (q_i Q) 0 0) := fun y1 s h => ih0 y1 s h 
    refine r_iload_n (pc := 2) (x := y1) dX12_nextPicks_2 rfl ?_
    refine r_if_lt (pc := 3) (tgt := 63) dX12_nextPicks_3 (by decide) (fun c => ?_) (fun c => ?_)
    · replace h := h.1 c
      refine r_iconst (pc := 63) (v := 0) dX12_nextPicks_63 (by decide) ?_
      exact n_zret (pc := 64) dX12_nextPicks_64 rfl (by decide) (Nat.le_refl _) (Nat.le_refl _) h
    · replace h := h.2 c
      refine r_aload_n (pc := 6) (x := 177) dX12_nextPicks_6 rfl ?_
      refine r_iload_n (pc := 7) (x := y1) dX12_nextPicks_7 rfl ?_
      refine n_Vi0 (pc := 8) (S0 := []) (spX12_isTold h) gmX12_isTold selX12_isTold lk_RX12_330 dX12_nextPicks_8 rfl (by decide) sh_177 ⟨rfl, by decide⟩ rfl ⟨Nat.le_of_ble_eq_true rfl, Nat.le_of_ble_eq_true rfl⟩ (Nat.le_of_ble_eq_true rfl) ⟨Nat.zero_le _, Nat.zero_le _⟩ (fun r1 s1 h => ?_)
      refine r_if_ne (pc := 11) (tgt := 17) dX12_nextPicks_11 (by decide) (fun c => ?_) (fun c => ?_)
      · replace h := h.1 c
        refine r_aload_n (pc := 17) (x := 177) dX12_nextPicks_17 rfl ?_
        refine r_iload_n (pc := 18) (x := y1) dX12_nextPicks_18 rfl ?_
        refine r_aload_n (pc := 19) (x := 177) dX12_nextPicks_19 rfl ?_
        refine n_getR (pc := 20) (j := 16) (q := 182) dX12_nextPicks_20 fl_RX12_24 (by decide) sh_177 rfl rfl rfl ?_
        refine r_iload_n (pc := 23) (x := y1) dX12_nextPicks_23 rfl ?_
        obtain ⟨b2, h⟩ := h
        refine n_iald (pc := 24) (j := (ix y1)) dX12_nextPicks_24 (by decide) sh_182 b2 rfl ?_
        refine r_iconst (pc := 25) (v := 1) dX12_nextPicks_25 (by decide) ?_
        refine r_iadd (pc := 26) dX12_nextPicks_26 ?_
        refine n_Vi0 (pc := 27) (S0 := []) (spX12_inFrom h) gmX12_inFrom selX12_inFrom lk_RX12_351 dX12_nextPicks_27 rfl (by decide) sh_177 ⟨rfl, by decide⟩ rfl ⟨Nat.le_of_ble_eq_true rfl, Nat.le_of_ble_eq_true rfl⟩ (Nat.le_of_ble_eq_true rfl) ⟨Nat.zero_le _, Nat.zero_le _⟩ (fun r3 s3 h => ?_)
        refine r_istore_n (pc := 30) (L' := [some (.ref 177), some (.int y1), some (.int r3)]) dX12_nextPicks_30 rfl (by decide) rfl ?_
        refine r_iload_n (pc := 31) (x := r3) dX12_nextPicks_31 rfl ?_
        refine r_iconst (pc := 32) (v := (-1)) dX12_nextPicks_32 (by decide) ?_
        refine r_icmp_eq (pc := 33) (tgt := 45) dX12_nextPicks_33 (by decide) (fun c => ?_) (fun c => ?_)
        · replace h := h.1 c
          refine r_aload_n (pc := 45) (x := 177) dX12_nextPicks_45 rfl ?_
          refine n_getR (pc := 46) (j := 16) (q := 182) dX12_nextPicks_46 fl_RX12_24 (by decide) sh_177 rfl rfl rfl ?_
          refine r_iload_n (pc := 49) (x := y1) dX12_nextPicks_49 rfl ?_
          refine r_aload_n (pc := 50) (x := 177) dX12_nextPicks_50 rfl ?_
          refine r_iload_n (pc := 51) (x := y1) dX12_nextPicks_51 rfl ?_
          refine r_iconst (pc := 52) (v := 0) dX12_nextPicks_52 (by decide) ?_
          refine n_Vi0 (pc := 53) (S0 := [.int y1, .ref 182]) (spX12_inFrom h) gmX12_inFrom selX12_inFrom lk_RX12_351 dX12_nextPicks_53 rfl (by decide) sh_177 ⟨rfl, by decide⟩ rfl ⟨Nat.le_of_ble_eq_true rfl, Nat.le_of_ble_eq_true rfl⟩ (Nat.le_of_ble_eq_true rfl) ⟨Nat.zero_le _, Nat.zero_le _⟩ (fun r4 s4 h => ?_)
          obtain ⟨b5, h⟩ := h
          refine n_iast (pc := 56) (j := (ix y1)) dX12_nextPicks_56 (by decide) sh_182 b5 rfl ?_
          refine n_iinc (pc := 57) (x := y1) (w := (-1)) (L' := [some (.ref 177), some (.int (y1 + (-1))), some (.int r3)]) dX12_nextPicks_57 rfl (by decide) rfl (by decide) rfl ?_
          refine r_goto (pc := 60) (tgt := 2) dX12_nextPicks_60 (by decide) ?_
          refine n_L (L' := [some (.ref 177), some (.int (y1 + (-1))), none]) (le_s (le_s (le_n (le_e)))) ?_
          exact ih _ _ h
        · replace h := h.2 c
          refine r_aload_n (pc := 36) (x := 177) dX12_nextPicks_36 rfl ?_
          refine n_getR (pc := 37) (j := 16) (q := 182) dX12_nextPicks_37 fl_RX12_24 (by decide) sh_177 rfl rfl rfl ?_
          refine r_iload_n (pc := 40) (x := y1) dX12_nextPicks_40 rfl ?_
          refine r_iload_n (pc := 41) (x := r3) dX12_nextPicks_41 rfl ?_
          obtain ⟨b6, h⟩ := h
          refine n_iast (pc := 42) (j := (ix y1)) dX12_nextPicks_42 (by decide) sh_182 b6 rfl ?_
          refine r_iconst (pc := 43) (v := 1) dX12_nextPicks_43 (by decide) ?_
          exact n_zret (pc := 44) dX12_nextPicks_44 rfl (by decide) (Nat.le_refl _) (Nat.le_refl _) h
      · replace h := h.2 c
        refine r_goto (pc := 14) (tgt := 57) dX12_nextPicks_14 (by decide) ?_
        refine n_iinc (pc := 57) (x := y1) (w := (-1)) (L' := [some (.ref 177), some (.int (y1 + (-1))), none]) dX12_nextPicks_57 rfl (by decide) rfl (by decide) rfl ?_
        refine r_goto (pc := 60) (tgt := 2) dX12_nextPicks_60 (by decide) ?_
        refine n_L (L' := [some (.ref 177), some (.int (y1 + (-1))), none]) (le_s (le_s (le_n (le_e)))) ?_
        exact ih _ _ h
def wpX12_nextPicks  (s : gS) (Q : Int32 → gS → Prop) : Prop := ∃ n2, wX12_nextPicks_2  Q n2 5 s
set_option maxRecDepth 20000 in
theorem spX12_nextPicks {l : Launch}   {s : gS} {Q : Int32 → gS → Prop} (h : wpX12_nextPicks  s Q) : Ct l mX12_nextPicks 4 0 0 [.ref 177] (nrm s) (q_i Q) := by
  refine Ct.of (by decide) (Nat.le_of_ble_eq_true rfl) (fun X => ?_)
  refine n_L (L' := [some (.ref 177), none, none]) (le_s (le_p (le_p (le_e)))) ?_
  refine r_iconst (pc := 0) (v := 5) dX12_nextPicks_0 (by decide) ?_
  refine r_istore_n (pc := 1) (L' := [some (.ref 177), some (.int 5), none]) dX12_nextPicks_1 rfl (by decide) rfl ?_
  refine n_L (L' := [some (.ref 177), some (.int 5), none]) (le_s (le_s (le_n (le_e)))) ?_
  obtain ⟨n, h⟩ := h
  exact pX12_nextPicks_2  n _ _ h 
def wX12_worthNow_4  (Q : Int32 → gS → Prop)  : Nat → Int32 → Int32 → gS → Prop
  | 0, _, _, _ => False
  | n + 1, y1, y2, s => (6 ≤ y2 → Q y1 s) ∧ (¬ (6 ≤ y2) → wpX12_isTold y2 s (fun r1 s1 => (r1 = 0 → wX12_worthNow_4  Q n (y1 + 0) (y2 + 1) s1) ∧ (¬ (r1 = 0) → vp_in y2 6 ∧ (wpX12_of y2 (gi s1 182 (ix y2)) 3 s1 (fun r3 s3 => wX12_worthNow_4  Q n (y1 + r3) (y2 + 1) s3)))))
set_option maxRecDepth 20000 in
theorem pX12_worthNow_4 {l : Launch} {X : gX}   {Q : Int32 → gS → Prop}  : ∀ (n : Nat) (y1 : Int32) (y2 : Int32) (s : gS) (h : wX12_worthNow_4  Q n y1 y2 s) , Gw l mX12_worthNow (g_rm 4 0 0) X 4 [some (.ref 177), some (.int y1), some (.int y2)] [] (nrm s) 0 0 (g_Z X (q_i Q) 0 0) := by
  intro n
  induction n with
  | zero => intro y1 y2 s h; exact h.elim
  | succ n ih0 =>
    intro y1 y2 s h 
    have ih : ∀ (y1 : Int32) (y2 : Int32) (s : gS), wX12_worthNow_4  Q n y1 y2 s → Gw l mX12_worthNow (g_rm 4 0 0) X 4 [some (.ref 177), some (.int y1), some (.int y2)] [] (nrm s) 0 0 (g_Z X (q_i Q) 0 0) := fun y1 y2 s h => ih0 y1 y2 s h 
    refine r_iload_n (pc := 4) (x := y2) dX12_worthNow_4 rfl ?_
    refine r_bipush (pc := 5) (v := 6) dX12_worthNow_5 (by decide) ?_
    refine r_icmp_ge (pc := 7) (tgt := 43) dX12_worthNow_7 (by decide) (fun c => ?_) (fun c => ?_)
    · replace h := h.1 c
      refine r_iload_n (pc := 43) (x := y1) dX12_worthNow_43 rfl ?_
      exact n_iret (pc := 44) dX12_worthNow_44 rfl (Nat.le_refl _) (Nat.le_refl _) h
    · replace h := h.2 c
      refine r_iload_n (pc := 10) (x := y1) dX12_worthNow_10 rfl ?_
      refine r_aload_n (pc := 11) (x := 177) dX12_worthNow_11 rfl ?_
      refine r_iload_n (pc := 12) (x := y2) dX12_worthNow_12 rfl ?_
      refine n_Vi0 (pc := 13) (S0 := [.int y1]) (spX12_isTold h) gmX12_isTold selX12_isTold lk_RX12_330 dX12_worthNow_13 rfl (by decide) sh_177 ⟨rfl, by decide⟩ rfl ⟨Nat.le_of_ble_eq_true rfl, Nat.le_of_ble_eq_true rfl⟩ (Nat.le_of_ble_eq_true rfl) ⟨Nat.zero_le _, Nat.zero_le _⟩ (fun r1 s1 h => ?_)
      refine r_if_eq (pc := 16) (tgt := 34) dX12_worthNow_16 (by decide) (fun c => ?_) (fun c => ?_)
      · replace h := h.1 c
        refine r_iconst (pc := 34) (v := 0) dX12_worthNow_34 (by decide) ?_
        refine r_iadd (pc := 35) dX12_worthNow_35 ?_
        refine r_istore_n (pc := 36) (L' := [some (.ref 177), some (.int (y1 + 0)), some (.int y2)]) dX12_worthNow_36 rfl (by decide) rfl ?_
        refine n_iinc (pc := 37) (x := y2) (w := 1) (L' := [some (.ref 177), some (.int (y1 + 0)), some (.int (y2 + 1))]) dX12_worthNow_37 rfl (by decide) rfl (by decide) rfl ?_
        refine r_goto (pc := 40) (tgt := 4) dX12_worthNow_40 (by decide) ?_
        refine n_L (L' := [some (.ref 177), some (.int (y1 + 0)), some (.int (y2 + 1))]) (le_s (le_s (le_s (le_e)))) ?_
        exact ih _ _ _ h
      · replace h := h.2 c
        refine r_aload_n (pc := 19) (x := 177) dX12_worthNow_19 rfl ?_
        refine r_iload_n (pc := 20) (x := y2) dX12_worthNow_20 rfl ?_
        refine r_aload_n (pc := 21) (x := 177) dX12_worthNow_21 rfl ?_
        refine n_getR (pc := 22) (j := 16) (q := 182) dX12_worthNow_22 fl_RX12_24 (by decide) sh_177 rfl rfl rfl ?_
        refine r_iload_n (pc := 25) (x := y2) dX12_worthNow_25 rfl ?_
        obtain ⟨b2, h⟩ := h
        refine n_iald (pc := 26) (j := (ix y2)) dX12_worthNow_26 (by decide) sh_182 b2 rfl ?_
        refine r_iconst (pc := 27) (v := 3) dX12_worthNow_27 (by decide) ?_
        refine n_Vi0 (pc := 28) (S0 := [.int y1]) (spX12_of h) gmX12_of selX12_of lk_RX12_333 dX12_worthNow_28 rfl (by decide) sh_177 ⟨rfl, by decide⟩ rfl ⟨Nat.le_of_ble_eq_true rfl, Nat.le_of_ble_eq_true rfl⟩ (Nat.le_of_ble_eq_true rfl) ⟨Nat.zero_le _, Nat.zero_le _⟩ (fun r3 s3 h => ?_)
        refine r_goto (pc := 31) (tgt := 35) dX12_worthNow_31 (by decide) ?_
        refine r_iadd (pc := 35) dX12_worthNow_35 ?_
        refine r_istore_n (pc := 36) (L' := [some (.ref 177), some (.int (y1 + r3)), some (.int y2)]) dX12_worthNow_36 rfl (by decide) rfl ?_
        refine n_iinc (pc := 37) (x := y2) (w := 1) (L' := [some (.ref 177), some (.int (y1 + r3)), some (.int (y2 + 1))]) dX12_worthNow_37 rfl (by decide) rfl (by decide) rfl ?_
        refine r_goto (pc := 40) (tgt := 4) dX12_worthNow_40 (by decide) ?_
        refine n_L (L' := [some (.ref 177), some (.int (y1 + r3)), some (.int (y2 + 1))]) (le_s (le_s (le_s (le_e)))) ?_
        exact ih _ _ _ h
def wpX12_worthNow  (s : gS) (Q : Int32 → gS → Prop) : Prop := ∃ n4, wX12_worthNow_4  Q n4 0 0 s
set_option maxRecDepth 20000 in
theorem spX12_worthNow {l : Launch}   {s : gS} {Q : Int32 → gS → Prop} (h : wpX12_worthNow  s Q) : Ct l mX12_worthNow 4 0 0 [.ref 177] (nrm s) (q_i Q) := by
  refine Ct.of (by decide) (Nat.le_of_ble_eq_true rfl) (fun X => ?_)
  refine n_L (L' := [some (.ref 177), none, none]) (le_s (le_p (le_p (le_e)))) ?_
  refine r_iconst (pc := 0) (v := 0) dX12_worthNow_0 (by decide) ?_
  refine r_istore_n (pc := 1) (L' := [some (.ref 177), some (.int 0), none]) dX12_worthNow_1 rfl (by decide) rfl ?_
  refine r_iconst (pc := 2) (v := 0) dX12_worthNow_2 (by decide) ?_
  refine r_istore_n (pc := 3) (L' := [some (.ref 177), some (.int 0), some (.int 0)]) dX12_worthNow_3 rfl (by decide) rfl ?_
  refine n_L (L' := [some (.ref 177), some (.int 0), some (.int 0)]) (le_s (le_s (le_s (le_e)))) ?_
  obtain ⟨n, h⟩ := h
  exact pX12_worthNow_4  n _ _ _ h 
