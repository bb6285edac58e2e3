def wX1_heed_58 (a1 : Nat) (x2 : Int32) (Q : gS → Prop) (k39 : Int32 → Int32 → Int32 → Int32 → gS → Prop) : Nat → Int32 → Int32 → Int32 → Int32 → Int32 → Int32 → gS → Prop
  | 0, _, _, _, _, _, _, _ => False
  | n + 1, y3, y4, y5, y6, y7, y8, s => (6 ≤ y8 → k39 y3 y4 y5 (y6 + 1) s) ∧ (¬ (6 ≤ y8) → wpX11_hasBit y7 y8 s (fun r3 s3 => (¬ r3 = 0 → wX1_heed_58 a1 x2 Q k39 n y3 y4 y5 y6 y7 (y8 + 1) s3) ∧ (r3 = 0 → vp_in (jmin (y4 + y6) (y5 + y8)) 36 ∧ (vp_in (jmax (y4 + y6) (y5 + y8)) 36 ∧ (vp_in (jmax (y4 + y6) (y5 + y8)) 36 ∧ (wX1_heed_58 a1 x2 Q k39 n y3 y4 y5 y6 y7 (y8 + 1) (wi s3 (139 + 1 + (ix (jmin (y4 + y6) (y5 + y8)))) (ix (jmax (y4 + y6) (y5 + y8))) ((gi s3 (139 + 1 + (ix (jmin (y4 + y6) (y5 + y8)))) (ix (jmax (y4 + y6) (y5 + y8)))) ||| (jshl 1 x2)))))))))
set_option maxRecDepth 20000 in
theorem pX1_heed_58 {l : Launch} {X : gX} {a1 : Nat} {x2 : Int32} (ha1 : isSt a1) {Q : gS → Prop} {k39 : Int32 → Int32 → Int32 → Int32 → gS → Prop} : ∀ (n : Nat) (y3 : Int32) (y4 : Int32) (y5 : Int32) (y6 : Int32) (y7 : Int32) (y8 : Int32) (s : gS) (h : wX1_heed_58 a1 x2 Q k39 n y3 y4 y5 y6 y7 y8 s) (hk39 : ∀ (y3 : Int32) (y4 : Int32) (y5 : Int32) (y6 : Int32) (s : gS), k39 y3 y4 y5 y6 s → Gw l mX1_heed (g_rm 3 0 0) X 39 [some (.ref 138), some (.ref a1), some (.int x2), some (.int y3), some (.int y4), some (.int y5), some (.int y6), none, none] [] (nrm s) 0 0 (g_Z X (q_v Q) 0 0)), Gw l mX1_heed (g_rm 3 0 0) X 58 [some (.ref 138), some (.ref a1), some (.int x2), some (.int y3), some (.int y4), some (.int y5), some (.int y6), some (.int y7), some (.int y8)] [] (nrm s) 0 0 (g_Z X (q_v Q) 0 0) := by
  intro n
  induction n with
  | zero => intro y3 y4 y5 y6 y7 y8 s h; exact h.elim
  | succ n ih0 =>
    intro y3 y4 y5 y6 y7 y8 s h hk39
    have ih : ∀ (y3 : Int32) (y4 : Int32) (y5 : Int32) (y6 : Int32) (y7 : Int32) (y8 : Int32) (s : gS), wX1_heed_58 a1 x2 Q k39 n y3 y4 y5 y6 y7 y8 s → Gw l mX1_heed (g_rm 3 0 0) X 58 [some (.ref 138), some (.ref a1), some (.int x2), some (.int y3), some (.int y4), some (.int y5), some (.int y6), some (.int y7), some (.int y8)] [] (nrm s) 0 0 (g_Z X (q_v Q) 0 0) := fun y3 y4 y5 y6 y7 y8 s h => ih0 y3 y4 y5 y6 y7 y8 s h hk39
    refine r_iload (pc := 58) (x := y8) dX1_heed_58 rfl ?_
    refine r_bipush (pc := 60) (v := 6) dX1_heed_60 (by decide) ?_
    refine r_icmp_ge (pc := 62) (tgt := 119) dX1_heed_62 (by decide) (fun c => ?_) (fun c => ?_)
    · replace h := h.1 c
      refine n_iinc (pc := 119) (x := y6) (w := 1) (L' := [some (.ref 138), some (.ref a1), some (.int x2), some (.int y3), some (.int y4), some (.int y5), some (.int (y6 + 1)), some (.int y7), some (.int y8)]) dX1_heed_119 rfl (by decide) rfl (by decide) rfl ?_
      refine r_goto (pc := 122) (tgt := 39) dX1_heed_122 (by decide) ?_
      refine n_L (L' := [some (.ref 138), some (.ref a1), some (.int x2), some (.int y3), some (.int y4), some (.int y5), some (.int (y6 + 1)), none, none]) (le_s (le_s (le_s (le_s (le_s (le_s (le_s (le_n (le_n (le_e)))))))))) ?_
      exact hk39 _ _ _ _ _ h
    · replace h := h.2 c
      refine r_iload (pc := 65) (x := y7) dX1_heed_65 rfl ?_
      refine r_iload (pc := 67) (x := y8) dX1_heed_67 rfl ?_
      refine n_Ni0 (pc := 69) (S0 := []) (spX11_hasBit h) gmX11_hasBit lk_RX1_53 dX1_heed_69 rfl rfl ⟨Nat.le_of_ble_eq_true rfl, Nat.le_of_ble_eq_true rfl⟩ (Nat.le_of_ble_eq_true rfl) ⟨Nat.zero_le _, Nat.zero_le _⟩ (fun r3 s3 h => ?_)
      refine r_if_ne (pc := 72) (tgt := 113) dX1_heed_72 (by decide) (fun c => ?_) (fun c => ?_)
      · replace h := h.1 c
        refine n_iinc (pc := 113) (x := y8) (w := 1) (L' := [some (.ref 138), some (.ref a1), some (.int x2), some (.int y3), some (.int y4), some (.int y5), some (.int y6), some (.int y7), some (.int (y8 + 1))]) dX1_heed_113 rfl (by decide) rfl (by decide) rfl ?_
        refine r_goto (pc := 116) (tgt := 58) dX1_heed_116 (by decide) ?_
        refine n_L (L' := [some (.ref 138), some (.ref a1), some (.int x2), some (.int y3), some (.int y4), some (.int y5), some (.int y6), some (.int y7), some (.int (y8 + 1))]) (le_s (le_s (le_s (le_s (le_s (le_s (le_s (le_s (le_s (le_e)))))))))) ?_
        exact ih _ _ _ _ _ _ _ h
      · replace h := h.2 c
        refine r_aload_n (pc := 75) (x := 138) dX1_heed_75 rfl ?_
        refine n_getR (pc := 76) (j := 0) (q := 139) dX1_heed_76 fl_RX1_13 (by decide) sh_138 rfl rfl rfl ?_
        refine r_iload (pc := 79) (x := y4) dX1_heed_79 rfl ?_
        refine r_iload (pc := 81) (x := y6) dX1_heed_81 rfl ?_
        refine r_iadd (pc := 83) dX1_heed_83 ?_
        refine r_iload (pc := 84) (x := y5) dX1_heed_84 rfl ?_
        refine r_iload (pc := 86) (x := y8) dX1_heed_86 rfl ?_
        refine r_iadd (pc := 88) dX1_heed_88 ?_
        refine n_min (pc := 89) dX1_heed_89 lk_RX1_57 ⟨Nat.le_of_ble_eq_true rfl, Nat.le_of_ble_eq_true rfl⟩ ⟨Nat.zero_le _, Nat.zero_le _⟩ ?_
        obtain ⟨b4, h⟩ := h
        refine n_aald (pc := 92) (j := (ix (jmin (y4 + y6) (y5 + y8)))) (q := (139 + 1 + (ix (jmin (y4 + y6) (y5 + y8))))) dX1_heed_92 (by decide) sh_139 b4 rfl (ro_139 (vp_lt b4)) ?_
        refine r_iload (pc := 93) (x := y4) dX1_heed_93 rfl ?_
        refine r_iload (pc := 95) (x := y6) dX1_heed_95 rfl ?_
        refine r_iadd (pc := 97) dX1_heed_97 ?_
        refine r_iload (pc := 98) (x := y5) dX1_heed_98 rfl ?_
        refine r_iload (pc := 100) (x := y8) dX1_heed_100 rfl ?_
        refine r_iadd (pc := 102) dX1_heed_102 ?_
        refine n_max (pc := 103) dX1_heed_103 lk_RX1_62 ⟨Nat.le_of_ble_eq_true rfl, Nat.le_of_ble_eq_true rfl⟩ ⟨Nat.zero_le _, Nat.zero_le _⟩ ?_
        refine r_dup2 (pc := 106) dX1_heed_106 rfl rfl ?_
        obtain ⟨b5, h⟩ := h
        refine n_iald (pc := 107) (j := (ix (jmax (y4 + y6) (y5 + y8)))) dX1_heed_107 (lr_139 (vp_lt b4)) (sr_139 (vp_lt b4)) b5 rfl ?_
        refine r_iconst (pc := 108) (v := 1) dX1_heed_108 (by decide) ?_
        refine r_iload_n (pc := 109) (x := x2) dX1_heed_109 rfl ?_
        refine n_ishl (pc := 110) dX1_heed_110 ?_
        refine r_ior (pc := 111) dX1_heed_111 ?_
        obtain ⟨b6, h⟩ := h
        refine n_iast (pc := 112) (j := (ix (jmax (y4 + y6) (y5 + y8)))) dX1_heed_112 (lr_139 (vp_lt b4)) (sr_139 (vp_lt b4)) b6 rfl ?_
        refine n_iinc (pc := 113) (x := y8) (w := 1) (L' := [some (.ref 138), some (.ref a1), some (.int x2), some (.int y3), some (.int y4), some (.int y5), some (.int y6), some (.int y7), some (.int (y8 + 1))]) dX1_heed_113 rfl (by decide) rfl (by decide) rfl ?_
        refine r_goto (pc := 116) (tgt := 58) dX1_heed_116 (by decide) ?_
        refine n_L (L' := [some (.ref 138), some (.ref a1), some (.int x2), some (.int y3), some (.int y4), some (.int y5), some (.int y6), some (.int y7), some (.int (y8 + 1))]) (le_s (le_s (le_s (le_s (le_s (le_s (le_s (le_s (le_s (le_e)))))))))) ?_
        exact ih _ _ _ _ _ _ _ h
def wX1_heed_39 (a1 : Nat) (x2 : Int32) (Q : gS → Prop)  : Nat → Int32 → Int32 → Int32 → Int32 → gS → Prop
  | 0, _, _, _, _, _ => False
  | n + 1, y3, y4, y5, y6, s => (6 ≤ y6 → Q s) ∧ (¬ (6 ≤ y6) → wpX8_bitsThatHold a1 y3 y6 s (fun r7 s7 => ∃ n58, wX1_heed_58 a1 x2 Q (fun y3 y4 y5 y6 s => wX1_heed_39 a1 x2 Q n y3 y4 y5 y6 s) n58 y3 y4 y5 y6 r7 0 s7))
set_option maxRecDepth 20000 in
theorem pX1_heed_39 {l : Launch} {X : gX} {a1 : Nat} {x2 : Int32} (ha1 : isSt a1) {Q : gS → Prop}  : ∀ (n : Nat) (y3 : Int32) (y4 : Int32) (y5 : Int32) (y6 : Int32) (s : gS) (h : wX1_heed_39 a1 x2 Q n y3 y4 y5 y6 s) , Gw l mX1_heed (g_rm 3 0 0) X 39 [some (.ref 138), some (.ref a1), some (.int x2), some (.int y3), some (.int y4), some (.int y5), some (.int y6), none, none] [] (nrm s) 0 0 (g_Z X (q_v Q) 0 0) := by
  intro n
  induction n with
  | zero => intro y3 y4 y5 y6 s h; exact h.elim
  | succ n ih0 =>
    intro y3 y4 y5 y6 s h 
    have ih : ∀ (y3 : Int32) (y4 : Int32) (y5 : Int32) (y6 : Int32) (s : gS), wX1_heed_39 a1 x2 Q n y3 y4 y5 y6 s → Gw l mX1_heed (g_rm 3 0 0) X 39 [some (.ref 138), some (.ref a1), some (.int x2), some (.int y3), some (.int y4), some (.int y5), some (.int y6), none, none] [] (nrm s) 0 0 (g_Z X (q_v Q) 0 0) := fun y3 y4 y5 y6 s h => ih0 y3 y4 y5 y6 s h 
    refine r_iload (pc := 39) (x := y6) dX1_heed_39 rfl ?_
    refine r_bipush (pc := 41) (v := 6) dX1_heed_41 (by decide) ?_
    refine r_icmp_ge (pc := 43) (tgt := 125) dX1_heed_43 (by decide) (fun c => ?_) (fun c => ?_)
    · replace h := h.1 c
      exact n_vret (pc := 125) dX1_heed_125 rfl (Nat.le_refl _) (Nat.le_refl _) h
    · replace h := h.2 c
      refine r_aload_n (pc := 46) (x := a1) dX1_heed_46 rfl ?_
      refine r_iload_n (pc := 47) (x := y3) dX1_heed_47 rfl ?_
      refine r_iload (pc := 48) (x := y6) dX1_heed_48 rfl ?_
      refine n_Vi0 (pc := 50) (S0 := []) (spX8_bitsThatHold ha1 h) gmX8_bitsThatHold selX8_bitsThatHold lk_RX1_49 dX1_heed_50 rfl (lt_St ha1) (sh_St ha1) ⟨rfl, by decide⟩ rfl ⟨Nat.le_of_ble_eq_true rfl, Nat.le_of_ble_eq_true rfl⟩ (Nat.le_of_ble_eq_true rfl) ⟨Nat.zero_le _, Nat.zero_le _⟩ (fun r7 s7 h => ?_)
      refine r_istore (pc := 53) (L' := [some (.ref 138), some (.ref a1), some (.int x2), some (.int y3), some (.int y4), some (.int y5), some (.int y6), some (.int r7), none]) dX1_heed_53 rfl (by decide) rfl ?_
      refine r_iconst (pc := 55) (v := 0) dX1_heed_55 (by decide) ?_
      refine r_istore (pc := 56) (L' := [some (.ref 138), some (.ref a1), some (.int x2), some (.int y3), some (.int y4), some (.int y5), some (.int y6), some (.int r7), some (.int 0)]) dX1_heed_56 rfl (by decide) rfl ?_
      refine n_L (L' := [some (.ref 138), some (.ref a1), some (.int x2), some (.int y3), some (.int y4), some (.int y5), some (.int y6), some (.int r7), some (.int 0)]) (le_s (le_s (le_s (le_s (le_s (le_s (le_s (le_s (le_s (le_e)))))))))) ?_
      obtain ⟨n, h⟩ := h
      exact pX1_heed_58 ha1 n _ _ _ _ _ _ _ h ih
def wpX1_heed (a1 : Nat) (x2 : Int32) (s : gS) (Q : gS → Prop) : Prop := wpX8_code a1 x2 s (fun r1 s1 => wpX8_bothAreTold a1 r1 s1 (fun r2 s2 => (¬ r2 = 0 → ∃ n39, wX1_heed_39 a1 x2 Q n39 r1 ((jrem (r1 / 10) 10) * 6) ((jrem r1 10) * 6) 0 s2) ∧ (r2 = 0 → Q s2)))
set_option maxRecDepth 20000 in
theorem spX1_heed {l : Launch} {a1 : Nat} {x2 : Int32} (ha1 : isSt a1) {s : gS} {Q : gS → Prop} (h : wpX1_heed a1 x2 s Q) : Ct l mX1_heed 3 0 0 [.ref 138, .ref a1, .int x2] (nrm s) (q_v Q) := by
  refine Ct.of (by decide) (Nat.le_of_ble_eq_true rfl) (fun X => ?_)
  refine n_L (L' := [some (.ref 138), some (.ref a1), some (.int x2), none, none, none, none, none, none]) (le_s (le_s (le_s (le_p (le_p (le_p (le_p (le_p (le_p (le_e)))))))))) ?_
  refine r_aload_n (pc := 0) (x := a1) dX1_heed_0 rfl ?_
  refine r_iload_n (pc := 1) (x := x2) dX1_heed_1 rfl ?_
  refine n_Vi0 (pc := 2) (S0 := []) (spX8_code ha1 h) gmX8_code selX8_code lk_RX1_41 dX1_heed_2 rfl (lt_St ha1) (sh_St ha1) ⟨rfl, by decide⟩ rfl ⟨Nat.le_of_ble_eq_true rfl, Nat.le_of_ble_eq_true rfl⟩ (Nat.le_of_ble_eq_true rfl) ⟨Nat.zero_le _, Nat.zero_le _⟩ (fun r1 s1 h => ?_)
  refine r_istore_n (pc := 5) (L' := [some (.ref 138), some (.ref a1), some (.int x2), some (.int r1), none, none, none, none, none]) dX1_heed_5 rfl (by decide) rfl ?_
  refine r_aload_n (pc := 6) (x := a1) dX1_heed_6 rfl ?_
  refine r_iload_n (pc := 7) (x := r1) dX1_heed_7 rfl ?_
  refine n_Vi0 (pc := 8) (S0 := []) (spX8_bothAreTold ha1 h) gmX8_bothAreTold selX8_bothAreTold lk_RX1_45 dX1_heed_8 rfl (lt_St ha1) (sh_St ha1) ⟨rfl, by decide⟩ rfl ⟨Nat.le_of_ble_eq_true rfl, Nat.le_of_ble_eq_true rfl⟩ (Nat.le_of_ble_eq_true rfl) ⟨Nat.zero_le _, Nat.zero_le _⟩ (fun r2 s2 h => ?_)
  refine r_if_ne (pc := 11) (tgt := 15) dX1_heed_11 (by decide) (fun c => ?_) (fun c => ?_)
  · replace h := h.1 c
    refine r_iload_n (pc := 15) (x := r1) dX1_heed_15 rfl ?_
    refine r_bipush (pc := 16) (v := 10) dX1_heed_16 (by decide) ?_
    refine r_idiv (pc := 18) dX1_heed_18 (by decide) ?_
    refine r_bipush (pc := 19) (v := 10) dX1_heed_19 (by decide) ?_
    refine n_irem (pc := 21) dX1_heed_21 (by decide) ?_
    refine r_bipush (pc := 22) (v := 6) dX1_heed_22 (by decide) ?_
    refine r_imul (pc := 24) dX1_heed_24 ?_
    refine r_istore (pc := 25) (L' := [some (.ref 138), some (.ref a1), some (.int x2), some (.int r1), some (.int ((jrem (r1 / 10) 10) * 6)), none, none, none, none]) dX1_heed_25 rfl (by decide) rfl ?_
    refine r_iload_n (pc := 27) (x := r1) dX1_heed_27 rfl ?_
    refine r_bipush (pc := 28) (v := 10) dX1_heed_28 (by decide) ?_
    refine n_irem (pc := 30) dX1_heed_30 (by decide) ?_
    refine r_bipush (pc := 31) (v := 6) dX1_heed_31 (by decide) ?_
    refine r_imul (pc := 33) dX1_heed_33 ?_
    refine r_istore (pc := 34) (L' := [some (.ref 138), some (.ref a1), some (.int x2), some (.int r1), some (.int ((jrem (r1 / 10) 10) * 6)), some (.int ((jrem r1 10) * 6)), none, none, none]) dX1_heed_34 rfl (by decide) rfl ?_
    refine r_iconst (pc := 36) (v := 0) dX1_heed_36 (by decide) ?_
    refine r_istore (pc := 37) (L' := [some (.ref 138), some (.ref a1), some (.int x2), some (.int r1), some (.int ((jrem (r1 / 10) 10) * 6)), some (.int ((jrem r1 10) * 6)), some (.int 0), none, none]) dX1_heed_37 rfl (by decide) rfl ?_
    refine n_L (L' := [some (.ref 138), some (.ref a1), some (.int x2), some (.int r1), some (.int ((jrem (r1 / 10) 10) * 6)), some (.int ((jrem r1 10) * 6)), some (.int 0), none, none]) (le_s (le_s (le_s (le_s (le_s (le_s (le_s (le_n (le_n (le_e)))))))))) ?_
    obtain ⟨n, h⟩ := h
    exact pX1_heed_39 ha1 n _ _ _ _ _ h 
  · replace h := h.2 c
    exact n_vret (pc := 14) dX1_heed_14 rfl (Nat.le_refl _) (Nat.le_refl _) h
def wpX1_isWorse (x1 : Int32) (s : gS) (Q : Int32 → gS → Prop) : Prop := wpJ6_bitCount_0f7a4 x1 s (fun r1 s1 => wpJ6_bitCount_0f7a4 (gi s1 138 2) s1 (fun r2 s2 => (r2 < r1 → Q 1 s2) ∧ (¬ (r2 < r1) → (¬ r1 = r2 → Q 0 s2) ∧ (r1 = r2 → (x1 ≤ (gi s2 138 2) → Q 0 s2) ∧ (¬ (x1 ≤ (gi s2 138 2)) → Q 1 s2)))))
set_option maxRecDepth 20000 in
theorem spX1_isWorse {l : Launch} {x1 : Int32}  {s : gS} {Q : Int32 → gS → Prop} (h : wpX1_isWorse x1 s Q) : Ct l mX1_isWorse 2 0 0 [.ref 138, .int x1] (nrm s) (q_i Q) := by
  refine Ct.of (by decide) (Nat.le_of_ble_eq_true rfl) (fun X => ?_)
  refine n_L (L' := [some (.ref 138), some (.int x1), none, none]) (le_s (le_s (le_p (le_p (le_e))))) ?_
  refine r_iload_n (pc := 0) (x := x1) dX1_isWorse_0 rfl ?_
  refine n_Si0 (pc := 1) (S0 := []) (spJ6_bitCount_0f7a4 h) gmJ6_bitCount_0f7a4 lk_RX1_81 dX1_isWorse_1 rfl rfl ⟨Nat.le_of_ble_eq_true rfl, Nat.le_of_ble_eq_true rfl⟩ (Nat.le_of_ble_eq_true rfl) ⟨Nat.zero_le _, Nat.zero_le _⟩ (fun r1 s1 h => ?_)
  refine r_istore_n (pc := 4) (L' := [some (.ref 138), some (.int x1), some (.int r1), none]) dX1_isWorse_4 rfl (by decide) rfl ?_
  refine r_aload_n (pc := 5) (x := 138) dX1_isWorse_5 rfl ?_
  refine n_getI (pc := 6) (j := 2) dX1_isWorse_6 fl_RX1_20 (by decide) sh_138 rfl rfl ?_
  refine n_Si0 (pc := 9) (S0 := []) (spJ6_bitCount_0f7a4 h) gmJ6_bitCount_0f7a4 lk_RX1_81 dX1_isWorse_9 rfl rfl ⟨Nat.le_of_ble_eq_true rfl, Nat.le_of_ble_eq_true rfl⟩ (Nat.le_of_ble_eq_true rfl) ⟨Nat.zero_le _, Nat.zero_le _⟩ (fun r2 s2 h => ?_)
  refine r_istore_n (pc := 12) (L' := [some (.ref 138), some (.int x1), some (.int r1), some (.int r2)]) dX1_isWorse_12 rfl (by decide) rfl ?_
  refine r_iload_n (pc := 13) (x := r1) dX1_isWorse_13 rfl ?_
  refine r_iload_n (pc := 14) (x := r2) dX1_isWorse_14 rfl ?_
  refine r_icmp_gt (pc := 15) (tgt := 31) dX1_isWorse_15 (by decide) (fun c => ?_) (fun c => ?_)
  · replace h := h.1 c
    refine r_iconst (pc := 31) (v := 1) dX1_isWorse_31 (by decide) ?_
    refine r_goto (pc := 32) (tgt := 36) dX1_isWorse_32 (by decide) ?_
    exact n_zret (pc := 36) dX1_isWorse_36 rfl (by decide) (Nat.le_refl _) (Nat.le_refl _) h
  · replace h := h.2 c
    refine r_iload_n (pc := 18) (x := r1) dX1_isWorse_18 rfl ?_
    refine r_iload_n (pc := 19) (x := r2) dX1_isWorse_19 rfl ?_
    refine r_icmp_ne (pc := 20) (tgt := 35) dX1_isWorse_20 (by decide) (fun c => ?_) (fun c => ?_)
    · replace h := h.1 c
      refine r_iconst (pc := 35) (v := 0) dX1_isWorse_35 (by decide) ?_
      exact n_zret (pc := 36) dX1_isWorse_36 rfl (by decide) (Nat.le_refl _) (Nat.le_refl _) h
    · replace h := h.2 c
      refine r_iload_n (pc := 23) (x := x1) dX1_isWorse_23 rfl ?_
      refine r_aload_n (pc := 24) (x := 138) dX1_isWorse_24 rfl ?_
      refine n_getI (pc := 25) (j := 2) dX1_isWorse_25 fl_RX1_20 (by decide) sh_138 rfl rfl ?_
      refine r_icmp_le (pc := 28) (tgt := 35) dX1_isWorse_28 (by decide) (fun c => ?_) (fun c => ?_)
      · replace h := h.1 c
        refine r_iconst (pc := 35) (v := 0) dX1_isWorse_35 (by decide) ?_
        exact n_zret (pc := 36) dX1_isWorse_36 rfl (by decide) (Nat.le_refl _) (Nat.le_refl _) h
      · replace h := h.2 c
        refine r_iconst (pc := 31) (v := 1) dX1_isWorse_31 (by decide) ?_
        refine r_goto (pc := 32) (tgt := 36) dX1_isWorse_32 (by decide) ?_
        exact n_zret (pc := 36) dX1_isWorse_36 rfl (by decide) (Nat.le_refl _) (Nat.le_refl _) h
def wX1_arrive_19 (x1 : Int32) (Q : gS → Prop)  (z0 : Int32) (s : gS) : Prop := Q (wi (wi s 138 3 z0) 138 2 x1)
set_option maxRecDepth 20000 in
theorem pX1_arrive_19 {l : Launch} {X : gX} {x1 : Int32}  {Q : gS → Prop}  (z0 : Int32) (s : gS) (h : wX1_arrive_19 x1 Q z0 s)  : Gw l mX1_arrive (g_rm 1 0 0) X 19 [some (.ref 138), some (.int x1)] [.int z0, .ref 138] (nrm s) 0 0 (g_Z X (q_v Q) 0 0) := by
  refine n_putI (pc := 19) (j := 3) dX1_arrive_19 fl_RX1_24 fw_1_3 (by decide) sh_138 rfl rfl ?_
  refine r_aload_n (pc := 22) (x := 138) dX1_arrive_22 rfl ?_
  refine r_iload_n (pc := 23) (x := x1) dX1_arrive_23 rfl ?_
  refine n_putI (pc := 24) (j := 2) dX1_arrive_24 fl_RX1_20 fw_1_2 (by decide) sh_138 rfl rfl ?_
  exact n_vret (pc := 27) dX1_arrive_27 rfl (Nat.le_refl _) (Nat.le_refl _) h
def wpX1_arrive (x1 : Int32) (s : gS) (Q : gS → Prop) : Prop := (¬ x1 = (gi s 138 2) → wX1_arrive_19 x1 Q 1 s) ∧ (x1 = (gi s 138 2) → wX1_arrive_19 x1 Q ((gi s 138 3) + 1) s)
set_option maxRecDepth 20000 in
theorem spX1_arrive {l : Launch} {x1 : Int32}  {s : gS} {Q : gS → Prop} (h : wpX1_arrive x1 s Q) : Ct l mX1_arrive 1 0 0 [.ref 138, .int x1] (nrm s) (q_v Q) := by
  refine Ct.of (by decide) (Nat.le_of_ble_eq_true rfl) (fun X => ?_)
  refine n_L (L' := [some (.ref 138), some (.int x1)]) (le_s (le_s (le_e))) ?_
  refine r_aload_n (pc := 0) (x := 138) dX1_arrive_0 rfl ?_
  refine r_iload_n (pc := 1) (x := x1) dX1_arrive_1 rfl ?_
  refine r_aload_n (pc := 2) (x := 138) dX1_arrive_2 rfl ?_
  refine n_getI (pc := 3) (j := 2) dX1_arrive_3 fl_RX1_20 (by decide) sh_138 rfl rfl ?_
  refine r_icmp_ne (pc := 6) (tgt := 18) dX1_arrive_6 (by decide) (fun c => ?_) (fun c => ?_)
  · replace h := h.1 c
    refine r_iconst (pc := 18) (v := 1) dX1_arrive_18 (by decide) ?_
    refine n_L (L' := [some (.ref 138), some (.int x1)]) (le_s (le_s (le_e))) ?_
    exact pX1_arrive_19  _ _ h 
  · replace h := h.2 c
    refine r_aload_n (pc := 9) (x := 138) dX1_arrive_9 rfl ?_
    refine n_getI (pc := 10) (j := 3) dX1_arrive_10 fl_RX1_24 (by decide) sh_138 rfl rfl ?_
    refine r_iconst (pc := 13) (v := 1) dX1_arrive_13 (by decide) ?_
    refine r_iadd (pc := 14) dX1_arrive_14 ?_
    refine r_goto (pc := 15) (tgt := 19) dX1_arrive_15 (by decide) ?_
    refine n_L (L' := [some (.ref 138), some (.int x1)]) (le_s (le_s (le_e))) ?_
    exact pX1_arrive_19  _ _ h 
def wX1_brokenWithThoseAhead_4 (x1 : Int32) (Q : Int32 → gS → Prop)  : Nat → Int32 → Int32 → gS → Prop
  | 0, _, _, _ => False
  | n + 1, y2, y3, s => (x1 ≤ y3 → Q y2 s) ∧ (¬ (x1 ≤ y3) → vp_in y3 6 ∧ (vp_in (gi s 176 (ix y3)) 36 ∧ (vp_in x1 6 ∧ (vp_in (gi s 176 (ix x1)) 36 ∧ (wX1_brokenWithThoseAhead_4 x1 Q n (y2 ||| (gi s (139 + 1 + (ix (gi s 176 (ix y3)))) (ix (gi s 176 (ix x1))))) (y3 + 1) s)))))
set_option maxRecDepth 20000 in
theorem pX1_brokenWithThoseAhead_4 {l : Launch} {X : gX} {x1 : Int32}  {Q : Int32 → gS → Prop}  : ∀ (n : Nat) (y2 : Int32) (y3 : Int32) (s : gS) (h : wX1_brokenWithThoseAhead_4 x1 Q n y2 y3 s) , Gw l mX1_brokenWithThoseAhead (g_rm 1 0 0) X 4 [some (.ref 138), some (.int x1), some (.int y2), some (.int y3)] [] (nrm s) 0 0 (g_Z X (q_i Q) 0 0) := by
  intro n
  induction n with
  | zero => intro y2 y3 s h; exact h.elim
  | succ n ih0 =>
    intro y2 y3 s h 
    have ih : ∀ (y2 : Int32) (y3 : Int32) (s : gS), wX1_brokenWithThoseAhead_4 x1 Q n y2 y3 s → Gw l mX1_brokenWithThoseAhead (g_rm 1 0 0) X 4 [some (.ref 138), some (.int x1), some (.int y2), some (.int y3)] [] (nrm s) 0 0 (g_Z X (q_i Q) 0 0) := fun y2 y3 s h => ih0 y2 y3 s h 
    refine r_iload_n (pc := 4) (x := y3) dX1_brokenWithThoseAhead_4 rfl ?_
    refine r_iload_n (pc := 5) (x := x1) dX1_brokenWithThoseAhead_5 rfl ?_
    refine r_icmp_ge (pc := 6) (tgt := 36) dX1_brokenWithThoseAhead_6 (by decide) (fun c => ?_) (fun c => ?_)
    · replace h := h.1 c
      refine r_iload_n (pc := 36) (x := y2) dX1_brokenWithThoseAhead_36 rfl ?_
      exact n_iret (pc := 37) dX1_brokenWithThoseAhead_37 rfl (Nat.le_refl _) (Nat.le_refl _) h
    · replace h := h.2 c
      refine r_iload_n (pc := 9) (x := y2) dX1_brokenWithThoseAhead_9 rfl ?_
      refine r_aload_n (pc := 10) (x := 138) dX1_brokenWithThoseAhead_10 rfl ?_
      refine n_getR (pc := 11) (j := 0) (q := 139) dX1_brokenWithThoseAhead_11 fl_RX1_13 (by decide) sh_138 rfl rfl rfl ?_
      refine r_aload_n (pc := 14) (x := 138) dX1_brokenWithThoseAhead_14 rfl ?_
      refine n_getR (pc := 15) (j := 1) (q := 176) dX1_brokenWithThoseAhead_15 fl_RX1_16 (by decide) sh_138 rfl rfl rfl ?_
      refine r_iload_n (pc := 18) (x := y3) dX1_brokenWithThoseAhead_18 rfl ?_
      obtain ⟨b1, h⟩ := h
      refine n_iald (pc := 19) (j := (ix y3)) dX1_brokenWithThoseAhead_19 (by decide) sh_176 b1 rfl ?_
      obtain ⟨b2, h⟩ := h
      refine n_aald (pc := 20) (j := (ix (gi s 176 (ix y3)))) (q := (139 + 1 + (ix (gi s 176 (ix y3))))) dX1_brokenWithThoseAhead_20 (by decide) sh_139 b2 rfl (ro_139 (vp_lt b2)) ?_
      refine r_aload_n (pc := 21) (x := 138) dX1_brokenWithThoseAhead_21 rfl ?_
      refine n_getR (pc := 22) (j := 1) (q := 176) dX1_brokenWithThoseAhead_22 fl_RX1_16 (by decide) sh_138 rfl rfl rfl ?_
      refine r_iload_n (pc := 25) (x := x1) dX1_brokenWithThoseAhead_25 rfl ?_
      obtain ⟨b3, h⟩ := h
      refine n_iald (pc := 26) (j := (ix x1)) dX1_brokenWithThoseAhead_26 (by decide) sh_176 b3 rfl ?_
      obtain ⟨b4, h⟩ := h
      refine n_iald (pc := 27) (j := (ix (gi s 176 (ix x1)))) dX1_brokenWithThoseAhead_27 (lr_139 (vp_lt b2)) (sr_139 (vp_lt b2)) b4 rfl ?_
      refine r_ior (pc := 28) dX1_brokenWithThoseAhead_28 ?_
      refine r_istore_n (pc := 29) (L' := [some (.ref 138), some (.int x1), some (.int (y2 ||| (gi s (139 + 1 + (ix (gi s 176 (ix y3)))) (ix (gi s 176 (ix x1)))))), some (.int y3)]) dX1_brokenWithThoseAhead_29 rfl (by decide) rfl ?_
      refine n_iinc (pc := 30) (x := y3) (w := 1) (L' := [some (.ref 138), some (.int x1), some (.int (y2 ||| (gi s (139 + 1 + (ix (gi s 176 (ix y3)))) (ix (gi s 176 (ix x1)))))), some (.int (y3 + 1))]) dX1_brokenWithThoseAhead_30 rfl (by decide) rfl (by decide) rfl ?_
      refine r_goto (pc := 33) (tgt := 4) dX1_brokenWithThoseAhead_33 (by decide) ?_
      refine n_L (L' := [some (.ref 138), some (.int x1), some (.int (y2 ||| (gi s (139 + 1 + (ix (gi s 176 (ix y3)))) (ix (gi s 176 (ix x1)))))), some (.int (y3 + 1))]) (le_s (le_s (le_s (le_s (le_e))))) ?_
      exact ih _ _ _ h
def wpX1_brokenWithThoseAhead (x1 : Int32) (s : gS) (Q : Int32 → gS → Prop) : Prop := ∃ n4, wX1_brokenWithThoseAhead_4 x1 Q n4 0 0 s
set_option maxRecDepth 20000 in
theorem spX1_brokenWithThoseAhead {l : Launch} {x1 : Int32}  {s : gS} {Q : Int32 → gS → Prop} (h : wpX1_brokenWithThoseAhead x1 s Q) : Ct l mX1_brokenWithThoseAhead 1 0 0 [.ref 138, .int x1] (nrm s) (q_i Q) := by
  refine Ct.of (by decide) (Nat.le_of_ble_eq_true rfl) (fun X => ?_)
  refine n_L (L' := [some (.ref 138), some (.int x1), none, none]) (le_s (le_s (le_p (le_p (le_e))))) ?_
  refine r_iconst (pc := 0) (v := 0) dX1_brokenWithThoseAhead_0 (by decide) ?_
  refine r_istore_n (pc := 1) (L' := [some (.ref 138), some (.int x1), some (.int 0), none]) dX1_brokenWithThoseAhead_1 rfl (by decide) rfl ?_
  refine r_iconst (pc := 2) (v := 0) dX1_brokenWithThoseAhead_2 (by decide) ?_
  refine r_istore_n (pc := 3) (L' := [some (.ref 138), some (.int x1), some (.int 0), some (.int 0)]) dX1_brokenWithThoseAhead_3 rfl (by decide) rfl ?_
  refine n_L (L' := [some (.ref 138), some (.int x1), some (.int 0), some (.int 0)]) (le_s (le_s (le_s (le_s (le_e))))) ?_
  obtain ⟨n, h⟩ := h
  exact pX1_brokenWithThoseAhead_4  n _ _ _ h 
def wX1_search_19 (rc : Nat → Int32 → Int32 → gS → (gS → Prop) → Prop) (a1 : Nat) (x2 : Int32) (x3 : Int32) (Q : gS → Prop)   (s : gS) : Prop := wpX1_arrive x3 s (fun s9 => Q s9)
set_option maxRecDepth 20000 in
theorem pX1_search_19 {l : Launch} {X : gX} {dd : Nat} {rc : Nat → Int32 → Int32 → gS → (gS → Prop) → Prop} {a1 : Nat} {x2 : Int32} {x3 : Int32} (hrc : ∀ (a1 : Nat) (x2 : Int32) (x3 : Int32) (ha1 : isSt a1) (s : gS) (Q : gS → Prop), rc a1 x2 x3 s Q → Ct l mX1_search (dd + 4) 0 0 [.ref 138, .ref a1, .int x2, .int x3] (nrm s) (q_v Q)) (ha1 : isSt a1) {Q : gS → Prop}   (s : gS) (h : wX1_search_19 rc a1 x2 x3 Q  s)  : Gw l mX1_search (g_rm (dd + 5) 0 0) X 19 [some (.ref 138), none, none, some (.int x3), none] [] (nrm s) 0 0 (g_Z X (q_v Q) 0 0) := by
  refine r_aload_n (pc := 19) (x := 138) dX1_search_19 rfl ?_
  refine r_iload_n (pc := 20) (x := x3) dX1_search_20 rfl ?_
  refine n_Vv0 (pc := 21) (S0 := []) (spX1_arrive h) gmX1_arrive selX1_arrive lk_RX1_68 dX1_search_21 rfl (by decide) sh_138 ⟨rfl, by decide⟩ rfl ⟨by show 1 + 1 ≤ dd + 5; omega, by show 8 + (2 + 11) + 40 * (1) ≤ 40 * (dd + 5); omega⟩ (Nat.le_of_ble_eq_true rfl) ⟨Nat.zero_le _, Nat.zero_le _⟩ (fun s9 h => ?_)
  exact n_vret (pc := 24) dX1_search_24 rfl (Nat.le_refl _) (Nat.le_refl _) h
def wX1_search_56 (rc : Nat → Int32 → Int32 → gS → (gS → Prop) → Prop) (a1 : Nat) (x2 : Int32) (x3 : Int32) (Q : gS → Prop)  : Nat → Int32 → gS → Prop
  | 0, _, _ => False
  | n + 1, y4, s => (6 ≤ y4 → Q s) ∧ (¬ (6 ≤ y4) → wpX8_isIn a1 x2 y4 s (fun r5 s5 => (r5 = 0 → wX1_search_56 rc a1 x2 x3 Q n (y4 + 1) s5) ∧ (¬ (r5 = 0) → vp_in x2 6 ∧ (wpX1_brokenWithThoseAhead x2 (wi s5 176 (ix x2) ((x2 * 6) + y4)) (fun r7 s7 => rc a1 (x2 + 1) (x3 ||| r7) s7 (fun s8 => wX1_search_56 rc a1 x2 x3 Q n (y4 + 1) s8))))))
set_option maxRecDepth 20000 in
theorem pX1_search_56 {l : Launch} {X : gX} {dd : Nat} {rc : Nat → Int32 → Int32 → gS → (gS → Prop) → Prop} {a1 : Nat} {x2 : Int32} {x3 : Int32} (hrc : ∀ (a1 : Nat) (x2 : Int32) (x3 : Int32) (ha1 : isSt a1) (s : gS) (Q : gS → Prop), rc a1 x2 x3 s Q → Ct l mX1_search (dd + 4) 0 0 [.ref 138, .ref a1, .int x2, .int x3] (nrm s) (q_v Q)) (ha1 : isSt a1) {Q : gS → Prop}  : ∀ (n : Nat) (y4 : Int32) (s : gS) (h : wX1_search_56 rc a1 x2 x3 Q n y4 s) , Gw l mX1_search (g_rm (dd + 5) 0 0) X 56 [some (.ref 138), some (.ref a1), some (.int x2), some (.int x3), some (.int y4)] [] (nrm s) 0 0 (g_Z X (q_v Q) 0 0) := by
  intro n
  induction n with
  | zero => intro y4 s h; exact h.elim
  | succ n ih0 =>
    intro y4 s h 
    have ih : ∀ (y4 : Int32) (s : gS), wX1_search_56 rc a1 x2 x3 Q n y4 s → Gw l mX1_search (g_rm (dd + 5) 0 0) X 56 [some (.ref 138), some (.ref a1), some (.int x2), some (.int x3), some (.int y4)] [] (nrm s) 0 0 (g_Z X (q_v Q) 0 0) := fun y4 s h => ih0 y4 s h 
    refine r_iload (pc := 56) (x := y4) dX1_search_56 rfl ?_
    refine r_bipush (pc := 58) (v := 6) dX1_search_58 (by decide) ?_
    refine r_icmp_ge (pc := 60) (tgt := 107) dX1_search_60 (by decide) (fun c => ?_) (fun c => ?_)
    · replace h := h.1 c
      exact n_vret (pc := 107) dX1_search_107 rfl (Nat.le_refl _) (Nat.le_refl _) h
    · replace h := h.2 c
      refine r_aload_n (pc := 63) (x := a1) dX1_search_63 rfl ?_
      refine r_iload_n (pc := 64) (x := x2) dX1_search_64 rfl ?_
      refine r_iload (pc := 65) (x := y4) dX1_search_65 rfl ?_
      refine n_Vi0 (pc := 67) (S0 := []) (spX8_isIn ha1 h) gmX8_isIn selX8_isIn lk_RX1_75 dX1_search_67 rfl (lt_St ha1) (sh_St ha1) ⟨rfl, by decide⟩ rfl ⟨by show 3 + 1 ≤ dd + 5; omega, by show 8 + (3 + 11) + 40 * (3) ≤ 40 * (dd + 5); omega⟩ (Nat.le_of_ble_eq_true rfl) ⟨Nat.zero_le _, Nat.zero_le _⟩ (fun r5 s5 h => ?_)
      refine r_if_eq (pc := 70) (tgt := 101) dX1_search_70 (by decide) (fun c => ?_) (fun c => ?_)
      · replace h := h.1 c
        refine n_iinc (pc := 101) (x := y4) (w := 1) (L' := [some (.ref 138), some (.ref a1), some (.int x2), some (.int x3), some (.int (y4 + 1))]) dX1_search_101 rfl (by decide) rfl (by decide) rfl ?_
        refine r_goto (pc := 104) (tgt := 56) dX1_search_104 (by decide) ?_
        refine n_L (L' := [some (.ref 138), some (.ref a1), some (.int x2), some (.int x3), some (.int (y4 + 1))]) (le_s (le_s (le_s (le_s (le_s (le_e)))))) ?_
        exact ih _ _ h
      · replace h := h.2 c
        refine r_aload_n (pc := 73) (x := 138) dX1_search_73 rfl ?_
        refine n_getR (pc := 74) (j := 1) (q := 176) dX1_search_74 fl_RX1_16 (by decide) sh_138 rfl rfl rfl ?_
        refine r_iload_n (pc := 77) (x := x2) dX1_search_77 rfl ?_
        refine r_iload_n (pc := 78) (x := x2) dX1_search_78 rfl ?_
        refine r_bipush (pc := 79) (v := 6) dX1_search_79 (by decide) ?_
        refine r_imul (pc := 81) dX1_search_81 ?_
        refine r_iload (pc := 82) (x := y4) dX1_search_82 rfl ?_
        refine r_iadd (pc := 84) dX1_search_84 ?_
        obtain ⟨b6, h⟩ := h
        refine n_iast (pc := 85) (j := (ix x2)) dX1_search_85 (by decide) sh_176 b6 rfl ?_
        refine r_aload_n (pc := 86) (x := 138) dX1_search_86 rfl ?_
        refine r_aload_n (pc := 87) (x := a1) dX1_search_87 rfl ?_
        refine r_iload_n (pc := 88) (x := x2) dX1_search_88 rfl ?_
        refine r_iconst (pc := 89) (v := 1) dX1_search_89 (by decide) ?_
        refine r_iadd (pc := 90) dX1_search_90 ?_
        refine r_iload_n (pc := 91) (x := x3) dX1_search_91 rfl ?_
        refine r_aload_n (pc := 92) (x := 138) dX1_search_92 rfl ?_
        refine r_iload_n (pc := 93) (x := x2) dX1_search_93 rfl ?_
        refine n_Vi0 (pc := 94) (S0 := [.int x3, .int (x2 + 1), .ref a1, .ref 138]) (spX1_brokenWithThoseAhead h) gmX1_brokenWithThoseAhead selX1_brokenWithThoseAhead lk_RX1_78 dX1_search_94 rfl (by decide) sh_138 ⟨rfl, by decide⟩ rfl ⟨by show 1 + 1 ≤ dd + 5; omega, by show 8 + (4 + 11) + 40 * (1) ≤ 40 * (dd + 5); omega⟩ (Nat.le_of_ble_eq_true rfl) ⟨Nat.zero_le _, Nat.zero_le _⟩ (fun r7 s7 h => ?_)
        refine r_ior (pc := 97) dX1_search_97 ?_
        refine n_Vv0 (pc := 98) (S0 := []) (hrc _ _ _ ha1 _ _ h) gmX1_search selX1_search lk_RX1_37 dX1_search_98 rfl (by decide) sh_138 ⟨rfl, by decide⟩ rfl ⟨by show dd + 4 + 1 ≤ dd + 5; omega, by show 8 + (5 + 11) + 40 * (dd + 4) ≤ 40 * (dd + 5); omega⟩ (Nat.le_of_ble_eq_true rfl) ⟨Nat.zero_le _, Nat.zero_le _⟩ (fun s8 h => ?_)
        refine n_iinc (pc := 101) (x := y4) (w := 1) (L' := [some (.ref 138), some (.ref a1), some (.int x2), some (.int x3), some (.int (y4 + 1))]) dX1_search_101 rfl (by decide) rfl (by decide) rfl ?_
        refine r_goto (pc := 104) (tgt := 56) dX1_search_104 (by decide) ?_
        refine n_L (L' := [some (.ref 138), some (.ref a1), some (.int x2), some (.int x3), some (.int (y4 + 1))]) (le_s (le_s (le_s (le_s (le_s (le_e)))))) ?_
        exact ih _ _ h
def wfX1_search (rc : Nat → Int32 → Int32 → gS → (gS → Prop) → Prop) (a1 : Nat) (x2 : Int32) (x3 : Int32) (s : gS) (Q : gS → Prop) : Prop := wpX1_isWorse x3 s (fun r1 s1 => (r1 = 0 → (x2 < 0 → wX1_search_19 rc a1 x2 x3 Q s1) ∧ (¬ (x2 < 0) → (x2 < 6 → vp_in x2 6 ∧ (wpX8_isTold a1 x2 (wi s1 176 (ix x2) (x2 * 6)) (fun r3 s3 => (¬ r3 = 0 → ∃ n56, wX1_search_56 rc a1 x2 x3 Q n56 0 s3) ∧ (r3 = 0 → rc a1 (x2 + 1) x3 s3 (fun s4 => Q s4))))) ∧ (¬ (x2 < 6) → wX1_search_19 rc a1 x2 x3 Q s1))) ∧ (¬ (r1 = 0) → Q s1))
set_option maxRecDepth 20000 in
theorem spfX1_search {l : Launch} {dd : Nat} {rc : Nat → Int32 → Int32 → gS → (gS → Prop) → Prop} {a1 : Nat} {x2 : Int32} {x3 : Int32} (hrc : ∀ (a1 : Nat) (x2 : Int32) (x3 : Int32) (ha1 : isSt a1) (s : gS) (Q : gS → Prop), rc a1 x2 x3 s Q → Ct l mX1_search (dd + 4) 0 0 [.ref 138, .ref a1, .int x2, .int x3] (nrm s) (q_v Q)) (ha1 : isSt a1) {s : gS} {Q : gS → Prop} (h : wfX1_search rc a1 x2 x3 s Q) : Ct l mX1_search (dd + 5) 0 0 [.ref 138, .ref a1, .int x2, .int x3] (nrm s) (q_v Q) := by
  refine Ct.of (by decide) (Nat.le_of_ble_eq_true rfl) (fun X => ?_)
  refine n_L (L' := [some (.ref 138), some (.ref a1), some (.int x2), some (.int x3), none]) (le_s (le_s (le_s (le_s (le_p (le_e)))))) ?_
  refine r_aload_n (pc := 0) (x := 138) dX1_search_0 rfl ?_
  refine r_iload_n (pc := 1) (x := x3) dX1_search_1 rfl ?_
  refine n_Vi0 (pc := 2) (S0 := []) (spX1_isWorse h) gmX1_isWorse selX1_isWorse lk_RX1_65 dX1_search_2 rfl (by decide) sh_138 ⟨rfl, by decide⟩ rfl ⟨by show 2 + 1 ≤ dd + 5; omega, by show 8 + (4 + 11) + 40 * (2) ≤ 40 * (dd + 5); omega⟩ (Nat.le_of_ble_eq_true rfl) ⟨Nat.zero_le _, Nat.zero_le _⟩ (fun r1 s1 h => ?_)
  refine r_if_eq (pc := 5) (tgt := 9) dX1_search_5 (by decide) (fun c => ?_) (fun c => ?_)
  · replace h := h.1 c
    refine r_iload_n (pc := 9) (x := x2) dX1_search_9 rfl ?_
    refine r_if_lt (pc := 10) (tgt := 19) dX1_search_10 (by decide) (fun c => ?_) (fun c => ?_)
    · replace h := h.1 c
      refine n_L (L' := [some (.ref 138), none, none, some (.int x3), none]) (le_s (le_n (le_n (le_s (le_n (le_e)))))) ?_
      exact pX1_search_19 hrc ha1  _ h 
    · replace h := h.2 c
      refine r_iload_n (pc := 13) (x := x2) dX1_search_13 rfl ?_
      refine r_bipush (pc := 14) (v := 6) dX1_search_14 (by decide) ?_
      refine r_icmp_lt (pc := 16) (tgt := 25) dX1_search_16 (by decide) (fun c => ?_) (fun c => ?_)
      · replace h := h.1 c
        refine r_aload_n (pc := 25) (x := 138) dX1_search_25 rfl ?_
        refine n_getR (pc := 26) (j := 1) (q := 176) dX1_search_26 fl_RX1_16 (by decide) sh_138 rfl rfl rfl ?_
        refine r_iload_n (pc := 29) (x := x2) dX1_search_29 rfl ?_
        refine r_iload_n (pc := 30) (x := x2) dX1_search_30 rfl ?_
        refine r_bipush (pc := 31) (v := 6) dX1_search_31 (by decide) ?_
        refine r_imul (pc := 33) dX1_search_33 ?_
        obtain ⟨b2, h⟩ := h
        refine n_iast (pc := 34) (j := (ix x2)) dX1_search_34 (by decide) sh_176 b2 rfl ?_
        refine r_aload_n (pc := 35) (x := a1) dX1_search_35 rfl ?_
        refine r_iload_n (pc := 36) (x := x2) dX1_search_36 rfl ?_
        refine n_Vi0 (pc := 37) (S0 := []) (spX8_isTold ha1 h) gmX8_isTold selX8_isTold lk_RX1_72 dX1_search_37 rfl (lt_St ha1) (sh_St ha1) ⟨rfl, by decide⟩ rfl ⟨by show 1 + 1 ≤ dd + 5; omega, by show 8 + (2 + 11) + 40 * (1) ≤ 40 * (dd + 5); omega⟩ (Nat.le_of_ble_eq_true rfl) ⟨Nat.zero_le _, Nat.zero_le _⟩ (fun r3 s3 h => ?_)
        refine r_if_ne (pc := 40) (tgt := 53) dX1_search_40 (by decide) (fun c => ?_) (fun c => ?_)
        · replace h := h.1 c
          refine r_iconst (pc := 53) (v := 0) dX1_search_53 (by decide) ?_
          refine r_istore (pc := 54) (L' := [some (.ref 138), some (.ref a1), some (.int x2), some (.int x3), some (.int 0)]) dX1_search_54 rfl (by decide) rfl ?_
          refine n_L (L' := [some (.ref 138), some (.ref a1), some (.int x2), some (.int x3), some (.int 0)]) (le_s (le_s (le_s (le_s (le_s (le_e)))))) ?_
          obtain ⟨n, h⟩ := h
          exact pX1_search_56 hrc ha1 n _ _ h 
        · replace h := h.2 c
          refine r_aload_n (pc := 43) (x := 138) dX1_search_43 rfl ?_
          refine r_aload_n (pc := 44) (x := a1) dX1_search_44 rfl ?_
          refine r_iload_n (pc := 45) (x := x2) dX1_search_45 rfl ?_
          refine r_iconst (pc := 46) (v := 1) dX1_search_46 (by decide) ?_
          refine r_iadd (pc := 47) dX1_search_47 ?_
          refine r_iload_n (pc := 48) (x := x3) dX1_search_48 rfl ?_
          refine n_Vv0 (pc := 49) (S0 := []) (hrc _ _ _ ha1 _ _ h) gmX1_search selX1_search lk_RX1_37 dX1_search_49 rfl (by decide) sh_138 ⟨rfl, by decide⟩ rfl ⟨by show dd + 4 + 1 ≤ dd + 5; omega, by show 8 + (5 + 11) + 40 * (dd + 4) ≤ 40 * (dd + 5); omega⟩ (Nat.le_of_ble_eq_true rfl) ⟨Nat.zero_le _, Nat.zero_le _⟩ (fun s4 h => ?_)
          exact n_vret (pc := 52) dX1_search_52 rfl (Nat.le_refl _) (Nat.le_refl _) h
      · replace h := h.2 c
        refine n_L (L' := [some (.ref 138), none, none, some (.int x3), none]) (le_s (le_n (le_n (le_s (le_n (le_e)))))) ?_
        exact pX1_search_19 hrc ha1  _ h 
  · replace h := h.2 c
    exact n_vret (pc := 8) dX1_search_8 rfl (Nat.le_refl _) (Nat.le_refl _) h
def wpX1_search : Nat → Nat → Int32 → Int32 → gS → (gS → Prop) → Prop
  | 0, _, _, _, _, _ => False
  | d + 1, a1, x2, x3, s, Q => wfX1_search (fun a1 x2 x3 s Q => wpX1_search d a1 x2 x3 s Q) a1 x2 x3 s Q
set_option maxRecDepth 20000 in
theorem spX1_search {l : Launch} (d : Nat) : ∀ {a1 : Nat} {x2 : Int32} {x3 : Int32} (ha1 : isSt a1) {s : gS} {Q : gS → Prop} (h : wpX1_search d a1 x2 x3 s Q), Ct l mX1_search (1 * d + 4) 0 0 [.ref 138, .ref a1, .int x2, .int x3] (nrm s) (q_v Q) := by
  induction d with
  | zero => intro _ _ _ _ _ _; exact (fun h => h.elim)
  | succ d ih =>
    intro a1 x2 x3 ha1 s Q h
    have e : 1 * (d + 1) + 4 = 1 * d + 5 := by omega
    rw [e]
    exact spfX1_search (dd := 1 * d) (fun _ _ _ ha1 _ _ h => ih ha1 h) ha1 h
def wX1_find_10 (a1 : Nat) (Q : gS → Prop) (k2 : Int32 → gS → Prop) : Nat → Int32 → Int32 → gS → Prop
  | 0, _, _, _ => False
  | n + 1, y2, y3, s => (36 ≤ y3 → k2 (y2 + 1) s) ∧ (¬ (36 ≤ y3) → vp_in y2 36 ∧ (vp_in y3 36 ∧ (wX1_find_10 a1 Q k2 n y2 (y3 + 1) (wi s (139 + 1 + (ix y2)) (ix y3) 0))))
set_option maxRecDepth 20000 in
theorem pX1_find_10 {l : Launch} {X : gX} {a1 : Nat} (ha1 : isSt a1) {Q : gS → Prop} {k2 : Int32 → gS → Prop} : ∀ (n : Nat) (y2 : Int32) (y3 : Int32) (s : gS) (h : wX1_find_10 a1 Q k2 n y2 y3 s) (hk2 : ∀ (y2 : Int32) (s : gS), k2 y2 s → Gw l mX1_find (g_rm 13 0 0) X 2 [some (.ref 138), some (.ref a1), some (.int y2), none] [] (nrm s) 0 0 (g_Z X (q_v Q) 0 0)), Gw l mX1_find (g_rm 13 0 0) X 10 [some (.ref 138), some (.ref a1), some (.int y2), some (.int y3)] [] (nrm s) 0 0 (g_Z X (q_v Q) 0 0) := by
  intro n
  induction n with
  | zero => intro y2 y3 s h; exact h.elim
  | succ n ih0 =>
    intro y2 y3 s h hk2
    have ih : ∀ (y2 : Int32) (y3 : Int32) (s : gS), wX1_find_10 a1 Q k2 n y2 y3 s → Gw l mX1_find (g_rm 13 0 0) X 10 [some (.ref 138), some (.ref a1), some (.int y2), some (.int y3)] [] (nrm s) 0 0 (g_Z X (q_v Q) 0 0) := fun y2 y3 s h => ih0 y2 y3 s h hk2
    refine r_iload_n (pc := 10) (x := y3) dX1_find_10 rfl ?_
    refine r_bipush (pc := 11) (v := 36) dX1_find_11 (by decide) ?_
    refine r_icmp_ge (pc := 13) (tgt := 31) dX1_find_13 (by decide) (fun c => ?_) (fun c => ?_)
    · replace h := h.1 c
      refine n_iinc (pc := 31) (x := y2) (w := 1) (L' := [some (.ref 138), some (.ref a1), some (.int (y2 + 1)), some (.int y3)]) dX1_find_31 rfl (by decide) rfl (by decide) rfl ?_
      refine r_goto (pc := 34) (tgt := 2) dX1_find_34 (by decide) ?_
      refine n_L (L' := [some (.ref 138), some (.ref a1), some (.int (y2 + 1)), none]) (le_s (le_s (le_s (le_n (le_e))))) ?_
      exact hk2 _ _ h
    · replace h := h.2 c
      refine r_aload_n (pc := 16) (x := 138) dX1_find_16 rfl ?_
      refine n_getR (pc := 17) (j := 0) (q := 139) dX1_find_17 fl_RX1_13 (by decide) sh_138 rfl rfl rfl ?_
      refine r_iload_n (pc := 20) (x := y2) dX1_find_20 rfl ?_
      obtain ⟨b1, h⟩ := h
      refine n_aald (pc := 21) (j := (ix y2)) (q := (139 + 1 + (ix y2))) dX1_find_21 (by decide) sh_139 b1 rfl (ro_139 (vp_lt b1)) ?_
      refine r_iload_n (pc := 22) (x := y3) dX1_find_22 rfl ?_
      refine r_iconst (pc := 23) (v := 0) dX1_find_23 (by decide) ?_
      obtain ⟨b2, h⟩ := h
      refine n_iast (pc := 24) (j := (ix y3)) dX1_find_24 (lr_139 (vp_lt b1)) (sr_139 (vp_lt b1)) b2 rfl ?_
      refine n_iinc (pc := 25) (x := y3) (w := 1) (L' := [some (.ref 138), some (.ref a1), some (.int y2), some (.int (y3 + 1))]) dX1_find_25 rfl (by decide) rfl (by decide) rfl ?_
      refine r_goto (pc := 28) (tgt := 10) dX1_find_28 (by decide) ?_
      refine n_L (L' := [some (.ref 138), some (.ref a1), some (.int y2), some (.int (y3 + 1))]) (le_s (le_s (le_s (le_s (le_e))))) ?_
      exact ih _ _ _ h
def wX1_find_66 (a1 : Nat) (Q : gS → Prop)  : Nat → Int32 → gS → Prop
  | 0, _, _ => False
  | n + 1, y2, s => (10 < y2 → Q s) ∧ (¬ (10 < y2) → (¬ (gi s 138 3) = 0 → Q s) ∧ ((gi s 138 3) = 0 → wpX1_search 8 a1 0 0 (wi s 138 2 (jshl ((jshl 1 y2) - 1) (10 - y2))) (fun s3 => wX1_find_66 a1 Q n (y2 + 1) s3)))
set_option maxRecDepth 20000 in
theorem pX1_find_66 {l : Launch} {X : gX} {a1 : Nat} (ha1 : isSt a1) {Q : gS → Prop}  : ∀ (n : Nat) (y2 : Int32) (s : gS) (h : wX1_find_66 a1 Q n y2 s) , Gw l mX1_find (g_rm 13 0 0) X 66 [some (.ref 138), some (.ref a1), some (.int y2), none] [] (nrm s) 0 0 (g_Z X (q_v Q) 0 0) := by
  intro n
  induction n with
  | zero => intro y2 s h; exact h.elim
  | succ n ih0 =>
    intro y2 s h 
    have ih : ∀ (y2 : Int32) (s : gS), wX1_find_66 a1 Q n y2 s → Gw l mX1_find (g_rm 13 0 0) X 66 [some (.ref 138), some (.ref a1), some (.int y2), none] [] (nrm s) 0 0 (g_Z X (q_v Q) 0 0) := fun y2 s h => ih0 y2 s h 
    refine r_iload_n (pc := 66) (x := y2) dX1_find_66 rfl ?_
    refine r_bipush (pc := 67) (v := 10) dX1_find_67 (by decide) ?_
    refine r_icmp_gt (pc := 69) (tgt := 106) dX1_find_69 (by decide) (fun c => ?_) (fun c => ?_)
    · replace h := h.1 c
      exact n_vret (pc := 106) dX1_find_106 rfl (Nat.le_refl _) (Nat.le_refl _) h
    · replace h := h.2 c
      refine r_aload_n (pc := 72) (x := 138) dX1_find_72 rfl ?_
      refine n_getI (pc := 73) (j := 3) dX1_find_73 fl_RX1_24 (by decide) sh_138 rfl rfl ?_
      refine r_if_ne (pc := 76) (tgt := 106) dX1_find_76 (by decide) (fun c => ?_) (fun c => ?_)
      · replace h := h.1 c
        exact n_vret (pc := 106) dX1_find_106 rfl (Nat.le_refl _) (Nat.le_refl _) h
      · replace h := h.2 c
        refine r_aload_n (pc := 79) (x := 138) dX1_find_79 rfl ?_
        refine r_iconst (pc := 80) (v := 1) dX1_find_80 (by decide) ?_
        refine r_iload_n (pc := 81) (x := y2) dX1_find_81 rfl ?_
        refine n_ishl (pc := 82) dX1_find_82 ?_
        refine r_iconst (pc := 83) (v := 1) dX1_find_83 (by decide) ?_
        refine r_isub (pc := 84) dX1_find_84 ?_
        refine r_bipush (pc := 85) (v := 10) dX1_find_85 (by decide) ?_
        refine r_iload_n (pc := 87) (x := y2) dX1_find_87 rfl ?_
        refine r_isub (pc := 88) dX1_find_88 ?_
        refine n_ishl (pc := 89) dX1_find_89 ?_
        refine n_putI (pc := 90) (j := 2) dX1_find_90 fl_RX1_20 fw_1_2 (by decide) sh_138 rfl rfl ?_
        refine r_aload_n (pc := 93) (x := 138) dX1_find_93 rfl ?_
        refine r_aload_n (pc := 94) (x := a1) dX1_find_94 rfl ?_
        refine r_iconst (pc := 95) (v := 0) dX1_find_95 (by decide) ?_
        refine r_iconst (pc := 96) (v := 0) dX1_find_96 (by decide) ?_
        refine n_Vv0 (pc := 97) (S0 := []) (spX1_search 8 ha1 h) gmX1_search selX1_search lk_RX1_37 dX1_find_97 rfl (by decide) sh_138 ⟨rfl, by decide⟩ rfl ⟨Nat.le_of_ble_eq_true rfl, Nat.le_of_ble_eq_true rfl⟩ (Nat.le_of_ble_eq_true rfl) ⟨Nat.zero_le _, Nat.zero_le _⟩ (fun s3 h => ?_)
        refine n_iinc (pc := 100) (x := y2) (w := 1) (L' := [some (.ref 138), some (.ref a1), some (.int (y2 + 1)), none]) dX1_find_100 rfl (by decide) rfl (by decide) rfl ?_
        refine r_goto (pc := 103) (tgt := 66) dX1_find_103 (by decide) ?_
        refine n_L (L' := [some (.ref 138), some (.ref a1), some (.int (y2 + 1)), none]) (le_s (le_s (le_s (le_n (le_e))))) ?_
        exact ih _ _ h
def wX1_find_39 (a1 : Nat) (Q : gS → Prop)  : Nat → Int32 → gS → Prop
  | 0, _, _ => False
  | n + 1, y2, s => wpX8_orders a1 s (fun r4 s4 => (r4 ≤ y2 → ∃ n66, wX1_find_66 a1 Q n66 1 (wi s4 138 3 0)) ∧ (¬ (r4 ≤ y2) → wpX1_heed a1 y2 s4 (fun s5 => wX1_find_39 a1 Q n (y2 + 1) s5)))
set_option maxRecDepth 20000 in
theorem pX1_find_39 {l : Launch} {X : gX} {a1 : Nat} (ha1 : isSt a1) {Q : gS → Prop}  : ∀ (n : Nat) (y2 : Int32) (s : gS) (h : wX1_find_39 a1 Q n y2 s) , Gw l mX1_find (g_rm 13 0 0) X 39 [some (.ref 138), some (.ref a1), some (.int y2), none] [] (nrm s) 0 0 (g_Z X (q_v Q) 0 0) := by
  intro n
  induction n with
  | zero => intro y2 s h; exact h.elim
  | succ n ih0 =>
    intro y2 s h 
    have ih : ∀ (y2 : Int32) (s : gS), wX1_find_39 a1 Q n y2 s → Gw l mX1_find (g_rm 13 0 0) X 39 [some (.ref 138), some (.ref a1), some (.int y2), none] [] (nrm s) 0 0 (g_Z X (q_v Q) 0 0) := fun y2 s h => ih0 y2 s h 
    refine r_iload_n (pc := 39) (x := y2) dX1_find_39 rfl ?_
    refine r_aload_n (pc := 40) (x := a1) dX1_find_40 rfl ?_
    refine n_Vi0 (pc := 41) (S0 := [.int y2]) (spX8_orders ha1 h) gmX8_orders selX8_orders lk_RX1_27 dX1_find_41 rfl (lt_St ha1) (sh_St ha1) ⟨rfl, by decide⟩ rfl ⟨Nat.le_of_ble_eq_true rfl, Nat.le_of_ble_eq_true rfl⟩ (Nat.le_of_ble_eq_true rfl) ⟨Nat.zero_le _, Nat.zero_le _⟩ (fun r4 s4 h => ?_)
    refine r_icmp_ge (pc := 44) (tgt := 59) dX1_find_44 (by decide) (fun c => ?_) (fun c => ?_)
    · replace h := h.1 c
      refine r_aload_n (pc := 59) (x := 138) dX1_find_59 rfl ?_
      refine r_iconst (pc := 60) (v := 0) dX1_find_60 (by decide) ?_
      refine n_putI (pc := 61) (j := 3) dX1_find_61 fl_RX1_24 fw_1_3 (by decide) sh_138 rfl rfl ?_
      refine r_iconst (pc := 64) (v := 1) dX1_find_64 (by decide) ?_
      refine r_istore_n (pc := 65) (L' := [some (.ref 138), some (.ref a1), some (.int 1), none]) dX1_find_65 rfl (by decide) rfl ?_
      refine n_L (L' := [some (.ref 138), some (.ref a1), some (.int 1), none]) (le_s (le_s (le_s (le_n (le_e))))) ?_
      obtain ⟨n, h⟩ := h
      exact pX1_find_66 ha1 n _ _ h 
    · replace h := h.2 c
      refine r_aload_n (pc := 47) (x := 138) dX1_find_47 rfl ?_
      refine r_aload_n (pc := 48) (x := a1) dX1_find_48 rfl ?_
      refine r_iload_n (pc := 49) (x := y2) dX1_find_49 rfl ?_
      refine n_Vv0 (pc := 50) (S0 := []) (spX1_heed ha1 h) gmX1_heed selX1_heed lk_RX1_33 dX1_find_50 rfl (by decide) sh_138 ⟨rfl, by decide⟩ rfl ⟨Nat.le_of_ble_eq_true rfl, Nat.le_of_ble_eq_true rfl⟩ (Nat.le_of_ble_eq_true rfl) ⟨Nat.zero_le _, Nat.zero_le _⟩ (fun s5 h => ?_)
      refine n_iinc (pc := 53) (x := y2) (w := 1) (L' := [some (.ref 138), some (.ref a1), some (.int (y2 + 1)), none]) dX1_find_53 rfl (by decide) rfl (by decide) rfl ?_
      refine r_goto (pc := 56) (tgt := 39) dX1_find_56 (by decide) ?_
      refine n_L (L' := [some (.ref 138), some (.ref a1), some (.int (y2 + 1)), none]) (le_s (le_s (le_s (le_n (le_e))))) ?_
      exact ih _ _ h
def wX1_find_2 (a1 : Nat) (Q : gS → Prop)  : Nat → Int32 → gS → Prop
  | 0, _, _ => False
  | n + 1, y2, s => (36 ≤ y2 → ∃ n39, wX1_find_39 a1 Q n39 0 s) ∧ (¬ (36 ≤ y2) → ∃ n10, wX1_find_10 a1 Q (fun y2 s => wX1_find_2 a1 Q n y2 s) n10 y2 0 s)
set_option maxRecDepth 20000 in
theorem pX1_find_2 {l : Launch} {X : gX} {a1 : Nat} (ha1 : isSt a1) {Q : gS → Prop}  : ∀ (n : Nat) (y2 : Int32) (s : gS) (h : wX1_find_2 a1 Q n y2 s) , Gw l mX1_find (g_rm 13 0 0) X 2 [some (.ref 138), some (.ref a1), some (.int y2), none] [] (nrm s) 0 0 (g_Z X (q_v Q) 0 0) := by
  intro n
  induction n with
  | zero => intro y2 s h; exact h.elim
  | succ n ih0 =>
    intro y2 s h 
    have ih : ∀ (y2 : Int32) (s : gS), wX1_find_2 a1 Q n y2 s → Gw l mX1_find (g_rm 13 0 0) X 2 [some (.ref 138), some (.ref a1), some (.int y2), none] [] (nrm s) 0 0 (g_Z X (q_v Q) 0 0) := fun y2 s h => ih0 y2 s h 
    refine r_iload_n (pc := 2) (x := y2) dX1_find_2 rfl ?_
    refine r_bipush (pc := 3) (v := 36) dX1_find_3 (by decide) ?_
    refine r_icmp_ge (pc := 5) (tgt := 37) dX1_find_5 (by decide) (fun c => ?_) (fun c => ?_)
    · replace h := h.1 c
      refine r_iconst (pc := 37) (v := 0) dX1_find_37 (by decide) ?_
      refine r_istore_n (pc := 38) (L' := [some (.ref 138), some (.ref a1), some (.int 0), none]) dX1_find_38 rfl (by decide) rfl ?_
      refine n_L (L' := [some (.ref 138), some (.ref a1), some (.int 0), none]) (le_s (le_s (le_s (le_n (le_e))))) ?_
      obtain ⟨n, h⟩ := h
      exact pX1_find_39 ha1 n _ _ h 
    · replace h := h.2 c
      refine r_iconst (pc := 8) (v := 0) dX1_find_8 (by decide) ?_
      refine r_istore_n (pc := 9) (L' := [some (.ref 138), some (.ref a1), some (.int y2), some (.int 0)]) dX1_find_9 rfl (by decide) rfl ?_
      refine n_L (L' := [some (.ref 138), some (.ref a1), some (.int y2), some (.int 0)]) (le_s (le_s (le_s (le_s (le_e))))) ?_
      obtain ⟨n, h⟩ := h
      exact pX1_find_10 ha1 n _ _ _ h ih
def wpX1_find (a1 : Nat) (s : gS) (Q : gS → Prop) : Prop := ∃ n2, wX1_find_2 a1 Q n2 0 s
set_option maxRecDepth 20000 in
theorem spX1_find {l : Launch} {a1 : Nat} (ha1 : isSt a1) {s : gS} {Q : gS → Prop} (h : wpX1_find a1 s Q) : Ct l mX1_find 13 0 0 [.ref 138, .ref a1] (nrm s) (q_v Q) := by
  refine Ct.of (by decide) (Nat.le_of_ble_eq_true rfl) (fun X => ?_)
  refine n_L (L' := [some (.ref 138), some (.ref a1), none, none]) (le_s (le_s (le_p (le_p (le_e))))) ?_
  refine r_iconst (pc := 0) (v := 0) dX1_find_0 (by decide) ?_
  refine r_istore_n (pc := 1) (L' := [some (.ref 138), some (.ref a1), some (.int 0), none]) dX1_find_1 rfl (by decide) rfl ?_
  refine n_L (L' := [some (.ref 138), some (.ref a1), some (.int 0), none]) (le_s (le_s (le_s (le_n (le_e))))) ?_
  obtain ⟨n, h⟩ := h
  exact pX1_find_2 ha1 n _ _ h 
def wX7_layOut_68 (a0 : Nat) (a1 : Nat) (x2 : Int32) (Q : gS → Prop) (k29 : Int32 → gS → Prop) : Nat → Int32 → Int32 → Int32 → gS → Prop
  | 0, _, _, _, _ => False
  | n + 1, y3, y4, y5, s => (6 ≤ y5 → k29 (y3 + 1) s) ∧ (¬ (6 ≤ y5) → vp_in y4 36 ∧ (vp_in y5 6 ∧ (wX7_layOut_68 a0 a1 x2 Q k29 n y3 y4 (y5 + 1) (wi s (a0 + 3 + 1 + (ix y4)) (ix y5) 63))))
set_option maxRecDepth 20000 in
theorem pX7_layOut_68 {l : Launch} {X : gX} {a0 : Nat} {a1 : Nat} {x2 : Int32} (ha0 : isSo a0) (ha1 : isSt a1) {Q : gS → Prop} {k29 : Int32 → gS → Prop} : ∀ (n : Nat) (y3 : Int32) (y4 : Int32) (y5 : Int32) (s : gS) (h : wX7_layOut_68 a0 a1 x2 Q k29 n y3 y4 y5 s) (hk29 : ∀ (y3 : Int32) (s : gS), k29 y3 s → Gw l mX7_layOut (g_rm 2 0 0) X 29 [some (.ref a0), some (.ref a1), some (.int x2), some (.int y3), none, none] [] (nrm s) 0 0 (g_Z X (q_v Q) 0 0)), Gw l mX7_layOut (g_rm 2 0 0) X 68 [some (.ref a0), some (.ref a1), some (.int x2), some (.int y3), some (.int y4), some (.int y5)] [] (nrm s) 0 0 (g_Z X (q_v Q) 0 0) := by
  intro n
  induction n with
  | zero => intro y3 y4 y5 s h; exact h.elim
  | succ n ih0 =>
    intro y3 y4 y5 s h hk29
    have ih : ∀ (y3 : Int32) (y4 : Int32) (y5 : Int32) (s : gS), wX7_layOut_68 a0 a1 x2 Q k29 n y3 y4 y5 s → Gw l mX7_layOut (g_rm 2 0 0) X 68 [some (.ref a0), some (.ref a1), some (.int x2), some (.int y3), some (.int y4), some (.int y5)] [] (nrm s) 0 0 (g_Z X (q_v Q) 0 0) := fun y3 y4 y5 s h => ih0 y3 y4 y5 s h hk29
    refine r_iload (pc := 68) (x := y5) dX7_layOut_68 rfl ?_
    refine r_bipush (pc := 70) (v := 6) dX7_layOut_70 (by decide) ?_
    refine r_icmp_ge (pc := 72) (tgt := 93) dX7_layOut_72 (by decide) (fun c => ?_) (fun c => ?_)
    · replace h := h.1 c
      refine n_iinc (pc := 93) (x := y3) (w := 1) (L' := [some (.ref a0), some (.ref a1), some (.int x2), some (.int (y3 + 1)), some (.int y4), some (.int y5)]) dX7_layOut_93 rfl (by decide) rfl (by decide) rfl ?_
      refine r_goto (pc := 96) (tgt := 29) dX7_layOut_96 (by decide) ?_
      refine n_L (L' := [some (.ref a0), some (.ref a1), some (.int x2), some (.int (y3 + 1)), none, none]) (le_s (le_s (le_s (le_s (le_n (le_n (le_e))))))) ?_
      exact hk29 _ _ h
    · replace h := h.2 c
      refine r_aload_n (pc := 75) (x := a0) dX7_layOut_75 rfl ?_
      refine n_getR (pc := 76) (j := 3) (q := (a0 + 3)) dX7_layOut_76 fl_RX7_24 (lt_So ha0) (sh_So ha0) rfl rfl (rf_So_3 ha0) ?_
      refine r_iload (pc := 79) (x := y4) dX7_layOut_79 rfl ?_
      obtain ⟨b5, h⟩ := h
      refine n_aald (pc := 81) (j := (ix y4)) (q := (a0 + 3 + 1 + (ix y4))) dX7_layOut_81 (lt_So_3 ha0) (sh_So_3 ha0) b5 rfl (ro_So_3 ha0 (vp_lt b5)) ?_
      refine r_iload (pc := 82) (x := y5) dX7_layOut_82 rfl ?_
      refine r_bipush (pc := 84) (v := 63) dX7_layOut_84 (by decide) ?_
      obtain ⟨b6, h⟩ := h
      refine n_iast (pc := 86) (j := (ix y5)) dX7_layOut_86 (lr_So_3 ha0 (vp_lt b5)) (sr_So_3 ha0 (vp_lt b5)) b6 rfl ?_
      refine n_iinc (pc := 87) (x := y5) (w := 1) (L' := [some (.ref a0), some (.ref a1), some (.int x2), some (.int y3), some (.int y4), some (.int (y5 + 1))]) dX7_layOut_87 rfl (by decide) rfl (by decide) rfl ?_
      refine r_goto (pc := 90) (tgt := 68) dX7_layOut_90 (by decide) ?_
      refine n_L (L' := [some (.ref a0), some (.ref a1), some (.int x2), some (.int y3), some (.int y4), some (.int (y5 + 1))]) (le_s (le_s (le_s (le_s (le_s (le_s (le_e))))))) ?_
      exact ih _ _ _ _ h
def wX7_layOut_29 (a0 : Nat) (a1 : Nat) (x2 : Int32) (Q : gS → Prop)  : Nat → Int32 → gS → Prop
  | 0, _, _ => False
  | n + 1, y3, s => (6 ≤ y3 → Q s) ∧ (¬ (6 ≤ y3) → wpX8_value a1 x2 y3 3 s (fun r7 s7 => vp_in ((x2 * 6) + y3) 36 ∧ (vp_in ((x2 * 6) + y3) 36 ∧ (∃ n68, wX7_layOut_68 a0 a1 x2 Q (fun y3 s => wX7_layOut_29 a0 a1 x2 Q n y3 s) n68 y3 ((x2 * 6) + y3) 0 (wi (wi s7 (a0 + 2) (ix ((x2 * 6) + y3)) r7) (a0 + 49) (ix ((x2 * 6) + y3)) 0)))))
set_option maxRecDepth 20000 in
theorem pX7_layOut_29 {l : Launch} {X : gX} {a0 : Nat} {a1 : Nat} {x2 : Int32} (ha0 : isSo a0) (ha1 : isSt a1) {Q : gS → Prop}  : ∀ (n : Nat) (y3 : Int32) (s : gS) (h : wX7_layOut_29 a0 a1 x2 Q n y3 s) , Gw l mX7_layOut (g_rm 2 0 0) X 29 [some (.ref a0), some (.ref a1), some (.int x2), some (.int y3), none, none] [] (nrm s) 0 0 (g_Z X (q_v Q) 0 0) := by
  intro n
  induction n with
  | zero => intro y3 s h; exact h.elim
  | succ n ih0 =>
    intro y3 s h 
    have ih : ∀ (y3 : Int32) (s : gS), wX7_layOut_29 a0 a1 x2 Q n y3 s → Gw l mX7_layOut (g_rm 2 0 0) X 29 [some (.ref a0), some (.ref a1), some (.int x2), some (.int y3), none, none] [] (nrm s) 0 0 (g_Z X (q_v Q) 0 0) := fun y3 s h => ih0 y3 s h 
    refine r_iload_n (pc := 29) (x := y3) dX7_layOut_29 rfl ?_
    refine r_bipush (pc := 30) (v := 6) dX7_layOut_30 (by decide) ?_
    refine r_icmp_ge (pc := 32) (tgt := 99) dX7_layOut_32 (by decide) (fun c => ?_) (fun c => ?_)
    · replace h := h.1 c
      exact n_vret (pc := 99) dX7_layOut_99 rfl (Nat.le_refl _) (Nat.le_refl _) h
    · replace h := h.2 c
      refine r_iload_n (pc := 35) (x := x2) dX7_layOut_35 rfl ?_
      refine r_bipush (pc := 36) (v := 6) dX7_layOut_36 (by decide) ?_
      refine r_imul (pc := 38) dX7_layOut_38 ?_
      refine r_iload_n (pc := 39) (x := y3) dX7_layOut_39 rfl ?_
      refine r_iadd (pc := 40) dX7_layOut_40 ?_
      refine r_istore (pc := 41) (L' := [some (.ref a0), some (.ref a1), some (.int x2), some (.int y3), some (.int ((x2 * 6) + y3)), none]) dX7_layOut_41 rfl (by decide) rfl ?_
      refine r_aload_n (pc := 43) (x := a0) dX7_layOut_43 rfl ?_
      refine n_getR (pc := 44) (j := 2) (q := (a0 + 2)) dX7_layOut_44 fl_RX7_19 (lt_So ha0) (sh_So ha0) rfl rfl (rf_So_2 ha0) ?_
      refine r_iload (pc := 47) (x := (x2 * 6) + y3) dX7_layOut_47 rfl ?_
      refine r_aload_n (pc := 49) (x := a1) dX7_layOut_49 rfl ?_
      refine r_iload_n (pc := 50) (x := x2) dX7_layOut_50 rfl ?_
      refine r_iload_n (pc := 51) (x := y3) dX7_layOut_51 rfl ?_
      refine r_iconst (pc := 52) (v := 3) dX7_layOut_52 (by decide) ?_
      refine n_Vi0 (pc := 53) (S0 := [.int ((x2 * 6) + y3), .ref (a0 + 2)]) (spX8_value ha1 h) gmX8_value selX8_value lk_RX7_73 dX7_layOut_53 rfl (lt_St ha1) (sh_St ha1) ⟨rfl, by decide⟩ rfl ⟨Nat.le_of_ble_eq_true rfl, Nat.le_of_ble_eq_true rfl⟩ (Nat.le_of_ble_eq_true rfl) ⟨Nat.zero_le _, Nat.zero_le _⟩ (fun r7 s7 h => ?_)
      obtain ⟨b8, h⟩ := h
      refine n_iast (pc := 56) (j := (ix ((x2 * 6) + y3))) dX7_layOut_56 (lt_So_2 ha0) (sh_So_2 ha0) b8 rfl ?_
      refine r_aload_n (pc := 57) (x := a0) dX7_layOut_57 rfl ?_
      refine n_getR (pc := 58) (j := 7) (q := (a0 + 49)) dX7_layOut_58 fl_RX7_36 (lt_So ha0) (sh_So ha0) rfl rfl (rf_So_7 ha0) ?_
      refine r_iload (pc := 61) (x := (x2 * 6) + y3) dX7_layOut_61 rfl ?_
      refine r_iconst (pc := 63) (v := 0) dX7_layOut_63 (by decide) ?_
      obtain ⟨b9, h⟩ := h
      refine n_iast (pc := 64) (j := (ix ((x2 * 6) + y3))) dX7_layOut_64 (lt_So_49 ha0) (sh_So_49 ha0) b9 rfl ?_
      refine r_iconst (pc := 65) (v := 0) dX7_layOut_65 (by decide) ?_
      refine r_istore (pc := 66) (L' := [some (.ref a0), some (.ref a1), some (.int x2), some (.int y3), some (.int ((x2 * 6) + y3)), some (.int 0)]) dX7_layOut_66 rfl (by decide) rfl ?_
      refine n_L (L' := [some (.ref a0), some (.ref a1), some (.int x2), some (.int y3), some (.int ((x2 * 6) + y3)), some (.int 0)]) (le_s (le_s (le_s (le_s (le_s (le_s (le_e))))))) ?_
      obtain ⟨n, h⟩ := h
      exact pX7_layOut_68 ha0 ha1 n _ _ _ _ h ih
def wpX7_layOut (a0 : Nat) (a1 : Nat) (x2 : Int32) (s : gS) (Q : gS → Prop) : Prop := vp_in x2 6 ∧ (vp_in x2 6 ∧ (wpX8_inBits a1 x2 (wi (wi s (a0 + 48) (ix x2) (-1)) (a0 + 47) (ix x2) (-1)) (fun r3 s3 => vp_in x2 6 ∧ (∃ n29, wX7_layOut_29 a0 a1 x2 Q n29 0 (wi s3 (a0 + 40 + 1 + 0) (ix x2) r3)))))
set_option maxRecDepth 20000 in
theorem spX7_layOut {l : Launch} {a0 : Nat} {a1 : Nat} {x2 : Int32} (ha0 : isSo a0) (ha1 : isSt a1) {s : gS} {Q : gS → Prop} (h : wpX7_layOut a0 a1 x2 s Q) : Ct l mX7_layOut 2 0 0 [.ref a0, .ref a1, .int x2] (nrm s) (q_v Q) := by
  refine Ct.of (by decide) (Nat.le_of_ble_eq_true rfl) (fun X => ?_)
  refine n_L (L' := [some (.ref a0), some (.ref a1), some (.int x2), none, none, none]) (le_s (le_s (le_s (le_p (le_p (le_p (le_e))))))) ?_
  refine r_aload_n (pc := 0) (x := a0) dX7_layOut_0 rfl ?_
  refine n_getR (pc := 1) (j := 6) (q := (a0 + 48)) dX7_layOut_1 fl_RX7_33 (lt_So ha0) (sh_So ha0) rfl rfl (rf_So_6 ha0) ?_
  refine r_iload_n (pc := 4) (x := x2) dX7_layOut_4 rfl ?_
  refine r_iconst (pc := 5) (v := (-1)) dX7_layOut_5 (by decide) ?_
  obtain ⟨b1, h⟩ := h
  refine n_iast (pc := 6) (j := (ix x2)) dX7_layOut_6 (lt_So_48 ha0) (sh_So_48 ha0) b1 rfl ?_
  refine r_aload_n (pc := 7) (x := a0) dX7_layOut_7 rfl ?_
  refine n_getR (pc := 8) (j := 5) (q := (a0 + 47)) dX7_layOut_8 fl_RX7_30 (lt_So ha0) (sh_So ha0) rfl rfl (rf_So_5 ha0) ?_
  refine r_iload_n (pc := 11) (x := x2) dX7_layOut_11 rfl ?_
  refine r_iconst (pc := 12) (v := (-1)) dX7_layOut_12 (by decide) ?_
  obtain ⟨b2, h⟩ := h
  refine n_iast (pc := 13) (j := (ix x2)) dX7_layOut_13 (lt_So_47 ha0) (sh_So_47 ha0) b2 rfl ?_
  refine r_aload_n (pc := 14) (x := a0) dX7_layOut_14 rfl ?_
  refine n_getR (pc := 15) (j := 4) (q := (a0 + 40)) dX7_layOut_15 fl_RX7_27 (lt_So ha0) (sh_So ha0) rfl rfl (rf_So_4 ha0) ?_
  refine r_iconst (pc := 18) (v := 0) dX7_layOut_18 (by decide) ?_
  refine n_aald (pc := 19) (j := 0) (q := (a0 + 40 + 1 + 0)) dX7_layOut_19 (lt_So_40 ha0) (sh_So_40 ha0) (vp_inc (by decide)) (by decide) (ro_So_40 ha0 (by decide)) ?_
  refine r_iload_n (pc := 20) (x := x2) dX7_layOut_20 rfl ?_
  refine r_aload_n (pc := 21) (x := a1) dX7_layOut_21 rfl ?_
  refine r_iload_n (pc := 22) (x := x2) dX7_layOut_22 rfl ?_
  refine n_Vi0 (pc := 23) (S0 := [.int x2, .ref (a0 + 40 + 1 + 0)]) (spX8_inBits ha1 h) gmX8_inBits selX8_inBits lk_RX7_70 dX7_layOut_23 rfl (lt_St ha1) (sh_St ha1) ⟨rfl, by decide⟩ rfl ⟨Nat.le_of_ble_eq_true rfl, Nat.le_of_ble_eq_true rfl⟩ (Nat.le_of_ble_eq_true rfl) ⟨Nat.zero_le _, Nat.zero_le _⟩ (fun r3 s3 h => ?_)
  obtain ⟨b4, h⟩ := h
  refine n_iast (pc := 26) (j := (ix x2)) dX7_layOut_26 (lr_So_40 ha0 (by decide)) (sr_So_40 ha0 (by decide)) b4 rfl ?_
  refine r_iconst (pc := 27) (v := 0) dX7_layOut_27 (by decide) ?_
  refine r_istore_n (pc := 28) (L' := [some (.ref a0), some (.ref a1), some (.int x2), some (.int 0), none, none]) dX7_layOut_28 rfl (by decide) rfl ?_
  refine n_L (L' := [some (.ref a0), some (.ref a1), some (.int x2), some (.int 0), none, none]) (le_s (le_s (le_s (le_s (le_n (le_n (le_e))))))) ?_
  obtain ⟨n, h⟩ := h
  exact pX7_layOut_29 ha0 ha1 n _ _ h 
def wX7_heed_65 (a0 : Nat) (a1 : Nat) (x2 : Int32) (Q : gS → Prop) (k26 : Int32 → Int32 → Int32 → gS → Prop) : Nat → Int32 → Int32 → Int32 → Int32 → Int32 → gS → Prop
  | 0, _, _, _, _, _, _ => False
  | n + 1, y3, y4, y5, y6, y7, s => (6 ≤ y7 → k26 y3 y4 (y5 + 1) s) ∧ (¬ (6 ≤ y7) → wpX11_hasBit y6 y7 s (fun r2 s2 => (¬ r2 = 0 → wX7_heed_65 a0 a1 x2 Q k26 n y3 y4 y5 y6 (y7 + 1) s2) ∧ (r2 = 0 → vp_in ((y4 * 6) + y7) 36 ∧ (vp_in y3 6 ∧ (vp_in y3 6 ∧ (wX7_heed_65 a0 a1 x2 Q k26 n y3 y4 y5 y6 (y7 + 1) (wi s2 (a0 + 3 + 1 + (ix ((y4 * 6) + y7))) (ix y3) ((gi s2 (a0 + 3 + 1 + (ix ((y4 * 6) + y7))) (ix y3)) &&& ((jshl 1 y5) ^^^ (-1))))))))))
set_option maxRecDepth 20000 in
theorem pX7_heed_65 {l : Launch} {X : gX} {a0 : Nat} {a1 : Nat} {x2 : Int32} (ha0 : isSo a0) (ha1 : isSt a1) {Q : gS → Prop} {k26 : Int32 → Int32 → Int32 → gS → Prop} : ∀ (n : Nat) (y3 : Int32) (y4 : Int32) (y5 : Int32) (y6 : Int32) (y7 : Int32) (s : gS) (h : wX7_heed_65 a0 a1 x2 Q k26 n y3 y4 y5 y6 y7 s) (hk26 : ∀ (y3 : Int32) (y4 : Int32) (y5 : Int32) (s : gS), k26 y3 y4 y5 s → Gw l mX7_heed (g_rm 3 0 0) X 26 [some (.ref a0), some (.ref a1), some (.int x2), some (.int y3), some (.int y4), some (.int y5), none, none] [] (nrm s) 0 0 (g_Z X (q_v Q) 0 0)), Gw l mX7_heed (g_rm 3 0 0) X 65 [some (.ref a0), some (.ref a1), some (.int x2), some (.int y3), some (.int y4), some (.int y5), some (.int y6), some (.int y7)] [] (nrm s) 0 0 (g_Z X (q_v Q) 0 0) := by
  intro n
  induction n with
  | zero => intro y3 y4 y5 y6 y7 s h; exact h.elim
  | succ n ih0 =>
    intro y3 y4 y5 y6 y7 s h hk26
    have ih : ∀ (y3 : Int32) (y4 : Int32) (y5 : Int32) (y6 : Int32) (y7 : Int32) (s : gS), wX7_heed_65 a0 a1 x2 Q k26 n y3 y4 y5 y6 y7 s → Gw l mX7_heed (g_rm 3 0 0) X 65 [some (.ref a0), some (.ref a1), some (.int x2), some (.int y3), some (.int y4), some (.int y5), some (.int y6), some (.int y7)] [] (nrm s) 0 0 (g_Z X (q_v Q) 0 0) := fun y3 y4 y5 y6 y7 s h => ih0 y3 y4 y5 y6 y7 s h hk26
    refine r_iload (pc := 65) (x := y7) dX7_heed_65 rfl ?_
    refine r_bipush (pc := 67) (v := 6) dX7_heed_67 (by decide) ?_
    refine r_icmp_ge (pc := 69) (tgt := 112) dX7_heed_69 (by decide) (fun c => ?_) (fun c => ?_)
    · replace h := h.1 c
      refine n_iinc (pc := 112) (x := y5) (w := 1) (L' := [some (.ref a0), some (.ref a1), some (.int x2), some (.int y3), some (.int y4), some (.int (y5 + 1)), some (.int y6), some (.int y7)]) dX7_heed_112 rfl (by decide) rfl (by decide) rfl ?_
      refine r_goto (pc := 115) (tgt := 26) dX7_heed_115 (by decide) ?_
      refine n_L (L' := [some (.ref a0), some (.ref a1), some (.int x2), some (.int y3), some (.int y4), some (.int (y5 + 1)), none, none]) (le_s (le_s (le_s (le_s (le_s (le_s (le_n (le_n (le_e))))))))) ?_
      exact hk26 _ _ _ _ h
    · replace h := h.2 c
      refine r_iload (pc := 72) (x := y6) dX7_heed_72 rfl ?_
      refine r_iload (pc := 74) (x := y7) dX7_heed_74 rfl ?_
      refine n_Ni0 (pc := 76) (S0 := []) (spX11_hasBit h) gmX11_hasBit lk_RX7_83 dX7_heed_76 rfl rfl ⟨Nat.le_of_ble_eq_true rfl, Nat.le_of_ble_eq_true rfl⟩ (Nat.le_of_ble_eq_true rfl) ⟨Nat.zero_le _, Nat.zero_le _⟩ (fun r2 s2 h => ?_)
      refine r_if_ne (pc := 79) (tgt := 106) dX7_heed_79 (by decide) (fun c => ?_) (fun c => ?_)
      · replace h := h.1 c
        refine n_iinc (pc := 106) (x := y7) (w := 1) (L' := [some (.ref a0), some (.ref a1), some (.int x2), some (.int y3), some (.int y4), some (.int y5), some (.int y6), some (.int (y7 + 1))]) dX7_heed_106 rfl (by decide) rfl (by decide) rfl ?_
        refine r_goto (pc := 109) (tgt := 65) dX7_heed_109 (by decide) ?_
        refine n_L (L' := [some (.ref a0), some (.ref a1), some (.int x2), some (.int y3), some (.int y4), some (.int y5), some (.int y6), some (.int (y7 + 1))]) (le_s (le_s (le_s (le_s (le_s (le_s (le_s (le_s (le_e))))))))) ?_
        exact ih _ _ _ _ _ _ h
      · replace h := h.2 c
        refine r_aload_n (pc := 82) (x := a0) dX7_heed_82 rfl ?_
        refine n_getR (pc := 83) (j := 3) (q := (a0 + 3)) dX7_heed_83 fl_RX7_24 (lt_So ha0) (sh_So ha0) rfl rfl (rf_So_3 ha0) ?_
        refine r_iload (pc := 86) (x := y4) dX7_heed_86 rfl ?_
        refine r_bipush (pc := 88) (v := 6) dX7_heed_88 (by decide) ?_
        refine r_imul (pc := 90) dX7_heed_90 ?_
        refine r_iload (pc := 91) (x := y7) dX7_heed_91 rfl ?_
        refine r_iadd (pc := 93) dX7_heed_93 ?_
        obtain ⟨b3, h⟩ := h
        refine n_aald (pc := 94) (j := (ix ((y4 * 6) + y7))) (q := (a0 + 3 + 1 + (ix ((y4 * 6) + y7)))) dX7_heed_94 (lt_So_3 ha0) (sh_So_3 ha0) b3 rfl (ro_So_3 ha0 (vp_lt b3)) ?_
        refine r_iload_n (pc := 95) (x := y3) dX7_heed_95 rfl ?_
        refine r_dup2 (pc := 96) dX7_heed_96 rfl rfl ?_
        obtain ⟨b4, h⟩ := h
        refine n_iald (pc := 97) (j := (ix y3)) dX7_heed_97 (lr_So_3 ha0 (vp_lt b3)) (sr_So_3 ha0 (vp_lt b3)) b4 rfl ?_
        refine r_iconst (pc := 98) (v := 1) dX7_heed_98 (by decide) ?_
        refine r_iload (pc := 99) (x := y5) dX7_heed_99 rfl ?_
        refine n_ishl (pc := 101) dX7_heed_101 ?_
        refine r_iconst (pc := 102) (v := (-1)) dX7_heed_102 (by decide) ?_
        refine r_ixor (pc := 103) dX7_heed_103 ?_
        refine r_iand (pc := 104) dX7_heed_104 ?_
        obtain ⟨b5, h⟩ := h
        refine n_iast (pc := 105) (j := (ix y3)) dX7_heed_105 (lr_So_3 ha0 (vp_lt b3)) (sr_So_3 ha0 (vp_lt b3)) b5 rfl ?_
        refine n_iinc (pc := 106) (x := y7) (w := 1) (L' := [some (.ref a0), some (.ref a1), some (.int x2), some (.int y3), some (.int y4), some (.int y5), some (.int y6), some (.int (y7 + 1))]) dX7_heed_106 rfl (by decide) rfl (by decide) rfl ?_
        refine r_goto (pc := 109) (tgt := 65) dX7_heed_109 (by decide) ?_
        refine n_L (L' := [some (.ref a0), some (.ref a1), some (.int x2), some (.int y3), some (.int y4), some (.int y5), some (.int y6), some (.int (y7 + 1))]) (le_s (le_s (le_s (le_s (le_s (le_s (le_s (le_s (le_e))))))))) ?_
        exact ih _ _ _ _ _ _ h
def wX7_heed_26 (a0 : Nat) (a1 : Nat) (x2 : Int32) (Q : gS → Prop)  : Nat → Int32 → Int32 → Int32 → gS → Prop
  | 0, _, _, _, _ => False
  | n + 1, y3, y4, y5, s => (6 ≤ y5 → Q s) ∧ (¬ (6 ≤ y5) → wpX8_bitsThatHold a1 x2 y5 s (fun r6 s6 => vp_in ((y3 * 6) + y5) 36 ∧ (vp_in y4 6 ∧ (vp_in y4 6 ∧ (∃ n65, wX7_heed_65 a0 a1 x2 Q (fun y3 y4 y5 s => wX7_heed_26 a0 a1 x2 Q n y3 y4 y5 s) n65 y3 y4 y5 r6 0 (wi s6 (a0 + 3 + 1 + (ix ((y3 * 6) + y5))) (ix y4) ((gi s6 (a0 + 3 + 1 + (ix ((y3 * 6) + y5))) (ix y4)) &&& r6)))))))
set_option maxRecDepth 20000 in
theorem pX7_heed_26 {l : Launch} {X : gX} {a0 : Nat} {a1 : Nat} {x2 : Int32} (ha0 : isSo a0) (ha1 : isSt a1) {Q : gS → Prop}  : ∀ (n : Nat) (y3 : Int32) (y4 : Int32) (y5 : Int32) (s : gS) (h : wX7_heed_26 a0 a1 x2 Q n y3 y4 y5 s) , Gw l mX7_heed (g_rm 3 0 0) X 26 [some (.ref a0), some (.ref a1), some (.int x2), some (.int y3), some (.int y4), some (.int y5), none, none] [] (nrm s) 0 0 (g_Z X (q_v Q) 0 0) := by
  intro n
  induction n with
  | zero => intro y3 y4 y5 s h; exact h.elim
  | succ n ih0 =>
    intro y3 y4 y5 s h 
    have ih : ∀ (y3 : Int32) (y4 : Int32) (y5 : Int32) (s : gS), wX7_heed_26 a0 a1 x2 Q n y3 y4 y5 s → Gw l mX7_heed (g_rm 3 0 0) X 26 [some (.ref a0), some (.ref a1), some (.int x2), some (.int y3), some (.int y4), some (.int y5), none, none] [] (nrm s) 0 0 (g_Z X (q_v Q) 0 0) := fun y3 y4 y5 s h => ih0 y3 y4 y5 s h 
    refine r_iload (pc := 26) (x := y5) dX7_heed_26 rfl ?_
    refine r_bipush (pc := 28) (v := 6) dX7_heed_28 (by decide) ?_
    refine r_icmp_ge (pc := 30) (tgt := 118) dX7_heed_30 (by decide) (fun c => ?_) (fun c => ?_)
    · replace h := h.1 c
      exact n_vret (pc := 118) dX7_heed_118 rfl (Nat.le_refl _) (Nat.le_refl _) h
    · replace h := h.2 c
      refine r_aload_n (pc := 33) (x := a1) dX7_heed_33 rfl ?_
      refine r_iload_n (pc := 34) (x := x2) dX7_heed_34 rfl ?_
      refine r_iload (pc := 35) (x := y5) dX7_heed_35 rfl ?_
      refine n_Vi0 (pc := 37) (S0 := []) (spX8_bitsThatHold ha1 h) gmX8_bitsThatHold selX8_bitsThatHold lk_RX7_80 dX7_heed_37 rfl (lt_St ha1) (sh_St ha1) ⟨rfl, by decide⟩ rfl ⟨Nat.le_of_ble_eq_true rfl, Nat.le_of_ble_eq_true rfl⟩ (Nat.le_of_ble_eq_true rfl) ⟨Nat.zero_le _, Nat.zero_le _⟩ (fun r6 s6 h => ?_)
      refine r_istore (pc := 40) (L' := [some (.ref a0), some (.ref a1), some (.int x2), some (.int y3), some (.int y4), some (.int y5), some (.int r6), none]) dX7_heed_40 rfl (by decide) rfl ?_
      refine r_aload_n (pc := 42) (x := a0) dX7_heed_42 rfl ?_
      refine n_getR (pc := 43) (j := 3) (q := (a0 + 3)) dX7_heed_43 fl_RX7_24 (lt_So ha0) (sh_So ha0) rfl rfl (rf_So_3 ha0) ?_
      refine r_iload_n (pc := 46) (x := y3) dX7_heed_46 rfl ?_
      refine r_bipush (pc := 47) (v := 6) dX7_heed_47 (by decide) ?_
      refine r_imul (pc := 49) dX7_heed_49 ?_
      refine r_iload (pc := 50) (x := y5) dX7_heed_50 rfl ?_
      refine r_iadd (pc := 52) dX7_heed_52 ?_
      obtain ⟨b7, h⟩ := h
      refine n_aald (pc := 53) (j := (ix ((y3 * 6) + y5))) (q := (a0 + 3 + 1 + (ix ((y3 * 6) + y5)))) dX7_heed_53 (lt_So_3 ha0) (sh_So_3 ha0) b7 rfl (ro_So_3 ha0 (vp_lt b7)) ?_
      refine r_iload (pc := 54) (x := y4) dX7_heed_54 rfl ?_
      refine r_dup2 (pc := 56) dX7_heed_56 rfl rfl ?_
      obtain ⟨b8, h⟩ := h
      refine n_iald (pc := 57) (j := (ix y4)) dX7_heed_57 (lr_So_3 ha0 (vp_lt b7)) (sr_So_3 ha0 (vp_lt b7)) b8 rfl ?_
      refine r_iload (pc := 58) (x := r6) dX7_heed_58 rfl ?_
      refine r_iand (pc := 60) dX7_heed_60 ?_
      obtain ⟨b9, h⟩ := h
      refine n_iast (pc := 61) (j := (ix y4)) dX7_heed_61 (lr_So_3 ha0 (vp_lt b7)) (sr_So_3 ha0 (vp_lt b7)) b9 rfl ?_
      refine r_iconst (pc := 62) (v := 0) dX7_heed_62 (by decide) ?_
      refine r_istore (pc := 63) (L' := [some (.ref a0), some (.ref a1), some (.int x2), some (.int y3), some (.int y4), some (.int y5), some (.int r6), some (.int 0)]) dX7_heed_63 rfl (by decide) rfl ?_
      refine n_L (L' := [some (.ref a0), some (.ref a1), some (.int x2), some (.int y3), some (.int y4), some (.int y5), some (.int r6), some (.int 0)]) (le_s (le_s (le_s (le_s (le_s (le_s (le_s (le_s (le_e))))))))) ?_
      obtain ⟨n, h⟩ := h
      exact pX7_heed_65 ha0 ha1 n _ _ _ _ _ _ h ih
def wpX7_heed (a0 : Nat) (a1 : Nat) (x2 : Int32) (s : gS) (Q : gS → Prop) : Prop := wpX8_bothAreTold a1 x2 s (fun r1 s1 => (¬ r1 = 0 → ∃ n26, wX7_heed_26 a0 a1 x2 Q n26 (jrem (x2 / 10) 10) (jrem x2 10) 0 s1) ∧ (r1 = 0 → Q s1))
set_option maxRecDepth 20000 in
theorem spX7_heed {l : Launch} {a0 : Nat} {a1 : Nat} {x2 : Int32} (ha0 : isSo a0) (ha1 : isSt a1) {s : gS} {Q : gS → Prop} (h : wpX7_heed a0 a1 x2 s Q) : Ct l mX7_heed 3 0 0 [.ref a0, .ref a1, .int x2] (nrm s) (q_v Q) := by
  refine Ct.of (by decide) (Nat.le_of_ble_eq_true rfl) (fun X => ?_)
  refine n_L (L' := [some (.ref a0), some (.ref a1), some (.int x2), none, none, none, none, none]) (le_s (le_s (le_s (le_p (le_p (le_p (le_p (le_p (le_e))))))))) ?_
  refine r_aload_n (pc := 0) (x := a1) dX7_heed_0 rfl ?_
  refine r_iload_n (pc := 1) (x := x2) dX7_heed_1 rfl ?_
  refine n_Vi0 (pc := 2) (S0 := []) (spX8_bothAreTold ha1 h) gmX8_bothAreTold selX8_bothAreTold lk_RX7_77 dX7_heed_2 rfl (lt_St ha1) (sh_St ha1) ⟨rfl, by decide⟩ rfl ⟨Nat.le_of_ble_eq_true rfl, Nat.le_of_ble_eq_true rfl⟩ (Nat.le_of_ble_eq_true rfl) ⟨Nat.zero_le _, Nat.zero_le _⟩ (fun r1 s1 h => ?_)
  refine r_if_ne (pc := 5) (tgt := 9) dX7_heed_5 (by decide) (fun c => ?_) (fun c => ?_)
  · replace h := h.1 c
    refine r_iload_n (pc := 9) (x := x2) dX7_heed_9 rfl ?_
    refine r_bipush (pc := 10) (v := 10) dX7_heed_10 (by decide) ?_
    refine r_idiv (pc := 12) dX7_heed_12 (by decide) ?_
    refine r_bipush (pc := 13) (v := 10) dX7_heed_13 (by decide) ?_
    refine n_irem (pc := 15) dX7_heed_15 (by decide) ?_
    refine r_istore_n (pc := 16) (L' := [some (.ref a0), some (.ref a1), some (.int x2), some (.int (jrem (x2 / 10) 10)), none, none, none, none]) dX7_heed_16 rfl (by decide) rfl ?_
    refine r_iload_n (pc := 17) (x := x2) dX7_heed_17 rfl ?_
    refine r_bipush (pc := 18) (v := 10) dX7_heed_18 (by decide) ?_
    refine n_irem (pc := 20) dX7_heed_20 (by decide) ?_
    refine r_istore (pc := 21) (L' := [some (.ref a0), some (.ref a1), some (.int x2), some (.int (jrem (x2 / 10) 10)), some (.int (jrem x2 10)), none, none, none]) dX7_heed_21 rfl (by decide) rfl ?_
    refine r_iconst (pc := 23) (v := 0) dX7_heed_23 (by decide) ?_
    refine r_istore (pc := 24) (L' := [some (.ref a0), some (.ref a1), some (.int x2), some (.int (jrem (x2 / 10) 10)), some (.int (jrem x2 10)), some (.int 0), none, none]) dX7_heed_24 rfl (by decide) rfl ?_
    refine n_L (L' := [some (.ref a0), some (.ref a1), some (.int x2), some (.int (jrem (x2 / 10) 10)), some (.int (jrem x2 10)), some (.int 0), none, none]) (le_s (le_s (le_s (le_s (le_s (le_s (le_n (le_n (le_e))))))))) ?_
    obtain ⟨n, h⟩ := h
    exact pX7_heed_26 ha0 ha1 n _ _ _ _ h 
  · replace h := h.2 c
    exact n_vret (pc := 8) dX7_heed_8 rfl (Nat.le_refl _) (Nat.le_refl _) h
def wpX7_arrive (a0 : Nat) (x1 : Int32) (s : gS) (Q : Int32 → gS → Prop) : Prop := (x1 ≤ (gi s a0 9) → Q 1 s) ∧ (¬ (x1 ≤ (gi s a0 9)) → Q 1 (cpI (wi s a0 9 x1) (a0 + 47) (ix 0) (a0 + 48) (ix 0) (ix 6)))
set_option maxRecDepth 20000 in
theorem spX7_arrive {l : Launch} {a0 : Nat} {x1 : Int32} (ha0 : isSo a0) {s : gS} {Q : Int32 → gS → Prop} (h : wpX7_arrive a0 x1 s Q) : Ct l mX7_arrive 2 0 0 [.ref a0, .int x1] (nrm s) (q_i Q) := by
  refine Ct.of (by decide) (Nat.le_of_ble_eq_true rfl) (fun X => ?_)
  refine n_L (L' := [some (.ref a0), some (.int x1)]) (le_s (le_s (le_e))) ?_
  refine r_iload_n (pc := 0) (x := x1) dX7_arrive_0 rfl ?_
  refine r_aload_n (pc := 1) (x := a0) dX7_arrive_1 rfl ?_
  refine n_getI (pc := 2) (j := 9) dX7_arrive_2 fl_RX7_42 (lt_So ha0) (sh_So ha0) rfl rfl ?_
  refine r_icmp_le (pc := 5) (tgt := 28) dX7_arrive_5 (by decide) (fun c => ?_) (fun c => ?_)
  · replace h := h.1 c
    refine r_iconst (pc := 28) (v := 1) dX7_arrive_28 (by decide) ?_
    exact n_iret (pc := 29) dX7_arrive_29 rfl (Nat.le_refl _) (Nat.le_refl _) h
  · replace h := h.2 c
    refine r_aload_n (pc := 8) (x := a0) dX7_arrive_8 rfl ?_
    refine r_iload_n (pc := 9) (x := x1) dX7_arrive_9 rfl ?_
    refine n_putI (pc := 10) (j := 9) dX7_arrive_10 fl_RX7_42 fw_7_9 (lt_So ha0) (sh_So ha0) rfl rfl ?_
    refine r_aload_n (pc := 13) (x := a0) dX7_arrive_13 rfl ?_
    refine n_getR (pc := 14) (j := 5) (q := (a0 + 47)) dX7_arrive_14 fl_RX7_30 (lt_So ha0) (sh_So ha0) rfl rfl (rf_So_5 ha0) ?_
    refine r_iconst (pc := 17) (v := 0) dX7_arrive_17 (by decide) ?_
    refine r_aload_n (pc := 18) (x := a0) dX7_arrive_18 rfl ?_
    refine n_getR (pc := 19) (j := 6) (q := (a0 + 48)) dX7_arrive_19 fl_RX7_33 (lt_So ha0) (sh_So ha0) rfl rfl (rf_So_6 ha0) ?_
    refine r_iconst (pc := 22) (v := 0) dX7_arrive_22 (by decide) ?_
    refine r_bipush (pc := 23) (v := 6) dX7_arrive_23 (by decide) ?_
    refine n_copy (pc := 25) dX7_arrive_25 lk_RX7_93 ⟨Nat.le_of_ble_eq_true rfl, Nat.le_of_ble_eq_true rfl⟩ (lt_So_47 ha0) (sh_So_47 ha0) (lt_So_48 ha0) (sh_So_48 ha0) (by decide) (by decide) (by decide) (by decide) (by decide) ?_
    refine r_iconst (pc := 28) (v := 1) dX7_arrive_28 (by decide) ?_
    exact n_iret (pc := 29) dX7_arrive_29 rfl (Nat.le_refl _) (Nat.le_refl _) h
def wX7_leavesSome_4 (a0 : Nat) (x1 : Int32) (x2 : Int32) (Q : Int32 → gS → Prop)  : Nat → Int32 → gS → Prop
  | 0, _, _ => False
  | n + 1, y3, s => ((gi s a0 1) ≤ y3 → Q 1 s) ∧ (¬ ((gi s a0 1) ≤ y3) → vp_in y3 6 ∧ (vp_in x1 6 ∧ (vp_in (gi s (a0 + 1) (ix y3)) 6 ∧ (vp_in x2 36 ∧ (vp_in (gi s (a0 + 1) (ix y3)) 6 ∧ ((¬ ((gi s (a0 + 40 + 1 + (ix x1)) (ix (gi s (a0 + 1) (ix y3)))) &&& (gi s (a0 + 3 + 1 + (ix x2)) (ix (gi s (a0 + 1) (ix y3))))) = 0 → vp_in (x1 + 1) 6 ∧ (vp_in (gi s (a0 + 1) (ix y3)) 6 ∧ (wX7_leavesSome_4 a0 x1 x2 Q n (y3 + 1) (wi s (a0 + 40 + 1 + (ix (x1 + 1))) (ix (gi s (a0 + 1) (ix y3))) ((gi s (a0 + 40 + 1 + (ix x1)) (ix (gi s (a0 + 1) (ix y3)))) &&& (gi s (a0 + 3 + 1 + (ix x2)) (ix (gi s (a0 + 1) (ix y3))))))))) ∧ (((gi s (a0 + 40 + 1 + (ix x1)) (ix (gi s (a0 + 1) (ix y3)))) &&& (gi s (a0 + 3 + 1 + (ix x2)) (ix (gi s (a0 + 1) (ix y3))))) = 0 → Q 0 s)))))))
set_option maxRecDepth 20000 in
theorem pX7_leavesSome_4 {l : Launch} {X : gX} {a0 : Nat} {x1 : Int32} {x2 : Int32} (ha0 : isSo a0) {Q : Int32 → gS → Prop}  : ∀ (n : Nat) (y3 : Int32) (s : gS) (h : wX7_leavesSome_4 a0 x1 x2 Q n y3 s) , Gw l mX7_leavesSome (g_rm 1 0 0) X 4 [some (.ref a0), some (.int x1), some (.int x2), some (.int y3), none, none] [] (nrm s) 0 0 (g_Z X (q_i Q) 0 0) := by
  intro n
  induction n with
  | zero => intro y3 s h; exact h.elim
  | succ n ih0 =>
    intro y3 s h 
    have ih : ∀ (y3 : Int32) (s : gS), wX7_leavesSome_4 a0 x1 x2 Q n y3 s → Gw l mX7_leavesSome (g_rm 1 0 0) X 4 [some (.ref a0), some (.int x1), some (.int x2), some (.int y3), none, none] [] (nrm s) 0 0 (g_Z X (q_i Q) 0 0) := fun y3 s h => ih0 y3 s h 
    refine r_iload_n (pc := 4) (x := y3) dX7_leavesSome_4 rfl ?_
    refine r_aload_n (pc := 5) (x := a0) dX7_leavesSome_5 rfl ?_
    refine n_getI (pc := 6) (j := 1) dX7_leavesSome_6 fl_RX7_15 (lt_So ha0) (sh_So ha0) rfl rfl ?_
    refine r_icmp_ge (pc := 9) (tgt := 67) dX7_leavesSome_9 (by decide) (fun c => ?_) (fun c => ?_)
    · replace h := h.1 c
      refine r_iconst (pc := 67) (v := 1) dX7_leavesSome_67 (by decide) ?_
      exact n_zret (pc := 68) dX7_leavesSome_68 rfl (by decide) (Nat.le_refl _) (Nat.le_refl _) h
    · replace h := h.2 c
      refine r_aload_n (pc := 12) (x := a0) dX7_leavesSome_12 rfl ?_
      refine n_getR (pc := 13) (j := 0) (q := (a0 + 1)) dX7_leavesSome_13 fl_RX7_9 (lt_So ha0) (sh_So ha0) rfl rfl (rf_So_0 ha0) ?_
      refine r_iload_n (pc := 16) (x := y3) dX7_leavesSome_16 rfl ?_
      obtain ⟨b1, h⟩ := h
      refine n_iald (pc := 17) (j := (ix y3)) dX7_leavesSome_17 (lt_So_1 ha0) (sh_So_1 ha0) b1 rfl ?_
      refine r_istore (pc := 18) (L' := [some (.ref a0), some (.int x1), some (.int x2), some (.int y3), some (.int (gi s (a0 + 1) (ix y3))), none]) dX7_leavesSome_18 rfl (by decide) rfl ?_
      refine r_aload_n (pc := 20) (x := a0) dX7_leavesSome_20 rfl ?_
      refine n_getR (pc := 21) (j := 4) (q := (a0 + 40)) dX7_leavesSome_21 fl_RX7_27 (lt_So ha0) (sh_So ha0) rfl rfl (rf_So_4 ha0) ?_
      refine r_iload_n (pc := 24) (x := x1) dX7_leavesSome_24 rfl ?_
      obtain ⟨b2, h⟩ := h
      refine n_aald (pc := 25) (j := (ix x1)) (q := (a0 + 40 + 1 + (ix x1))) dX7_leavesSome_25 (lt_So_40 ha0) (sh_So_40 ha0) b2 rfl (ro_So_40 ha0 (vp_lt b2)) ?_
      refine r_iload (pc := 26) (x := gi s (a0 + 1) (ix y3)) dX7_leavesSome_26 rfl ?_
      obtain ⟨b3, h⟩ := h
      refine n_iald (pc := 28) (j := (ix (gi s (a0 + 1) (ix y3)))) dX7_leavesSome_28 (lr_So_40 ha0 (vp_lt b2)) (sr_So_40 ha0 (vp_lt b2)) b3 rfl ?_
      refine r_aload_n (pc := 29) (x := a0) dX7_leavesSome_29 rfl ?_
      refine n_getR (pc := 30) (j := 3) (q := (a0 + 3)) dX7_leavesSome_30 fl_RX7_24 (lt_So ha0) (sh_So ha0) rfl rfl (rf_So_3 ha0) ?_
      refine r_iload_n (pc := 33) (x := x2) dX7_leavesSome_33 rfl ?_
      obtain ⟨b4, h⟩ := h
      refine n_aald (pc := 34) (j := (ix x2)) (q := (a0 + 3 + 1 + (ix x2))) dX7_leavesSome_34 (lt_So_3 ha0) (sh_So_3 ha0) b4 rfl (ro_So_3 ha0 (vp_lt b4)) ?_
      refine r_iload (pc := 35) (x := gi s (a0 + 1) (ix y3)) dX7_leavesSome_35 rfl ?_
      obtain ⟨b5, h⟩ := h
      refine n_iald (pc := 37) (j := (ix (gi s (a0 + 1) (ix y3)))) dX7_leavesSome_37 (lr_So_3 ha0 (vp_lt b4)) (sr_So_3 ha0 (vp_lt b4)) b5 rfl ?_
      refine r_iand (pc := 38) dX7_leavesSome_38 ?_
      refine r_istore (pc := 39) (L' := [some (.ref a0), some (.int x1), some (.int x2), some (.int y3), some (.int (gi s (a0 + 1) (ix y3))), some (.int ((gi s (a0 + 40 + 1 + (ix x1)) (ix (gi s (a0 + 1) (ix y3)))) &&& (gi s (a0 + 3 + 1 + (ix x2)) (ix (gi s (a0 + 1) (ix y3))))))]) dX7_leavesSome_39 rfl (by decide) rfl ?_
      refine r_iload (pc := 41) (x := (gi s (a0 + 40 + 1 + (ix x1)) (ix (gi s (a0 + 1) (ix y3)))) &&& (gi s (a0 + 3 + 1 + (ix x2)) (ix (gi s (a0 + 1) (ix y3))))) dX7_leavesSome_41 rfl ?_
      refine r_if_ne (pc := 43) (tgt := 48) dX7_leavesSome_43 (by decide) (fun c => ?_) (fun c => ?_)
      · replace h := h.1 c
        refine r_aload_n (pc := 48) (x := a0) dX7_leavesSome_48 rfl ?_
        refine n_getR (pc := 49) (j := 4) (q := (a0 + 40)) dX7_leavesSome_49 fl_RX7_27 (lt_So ha0) (sh_So ha0) rfl rfl (rf_So_4 ha0) ?_
        refine r_iload_n (pc := 52) (x := x1) dX7_leavesSome_52 rfl ?_
        refine r_iconst (pc := 53) (v := 1) dX7_leavesSome_53 (by decide) ?_
        refine r_iadd (pc := 54) dX7_leavesSome_54 ?_
        obtain ⟨b6, h⟩ := h
        refine n_aald (pc := 55) (j := (ix (x1 + 1))) (q := (a0 + 40 + 1 + (ix (x1 + 1)))) dX7_leavesSome_55 (lt_So_40 ha0) (sh_So_40 ha0) b6 rfl (ro_So_40 ha0 (vp_lt b6)) ?_
        refine r_iload (pc := 56) (x := gi s (a0 + 1) (ix y3)) dX7_leavesSome_56 rfl ?_
        refine r_iload (pc := 58) (x := (gi s (a0 + 40 + 1 + (ix x1)) (ix (gi s (a0 + 1) (ix y3)))) &&& (gi s (a0 + 3 + 1 + (ix x2)) (ix (gi s (a0 + 1) (ix y3))))) dX7_leavesSome_58 rfl ?_
        obtain ⟨b7, h⟩ := h
        refine n_iast (pc := 60) (j := (ix (gi s (a0 + 1) (ix y3)))) dX7_leavesSome_60 (lr_So_40 ha0 (vp_lt b6)) (sr_So_40 ha0 (vp_lt b6)) b7 rfl ?_
        refine n_iinc (pc := 61) (x := y3) (w := 1) (L' := [some (.ref a0), some (.int x1), some (.int x2), some (.int (y3 + 1)), some (.int (gi s (a0 + 1) (ix y3))), some (.int ((gi s (a0 + 40 + 1 + (ix x1)) (ix (gi s (a0 + 1) (ix y3)))) &&& (gi s (a0 + 3 + 1 + (ix x2)) (ix (gi s (a0 + 1) (ix y3))))))]) dX7_leavesSome_61 rfl (by decide) rfl (by decide) rfl ?_
        refine r_goto (pc := 64) (tgt := 4) dX7_leavesSome_64 (by decide) ?_
        refine n_L (L' := [some (.ref a0), some (.int x1), some (.int x2), some (.int (y3 + 1)), none, none]) (le_s (le_s (le_s (le_s (le_n (le_n (le_e))))))) ?_
        exact ih _ _ h
      · replace h := h.2 c
        refine r_iconst (pc := 46) (v := 0) dX7_leavesSome_46 (by decide) ?_
        exact n_zret (pc := 47) dX7_leavesSome_47 rfl (by decide) (Nat.le_refl _) (Nat.le_refl _) h
def wpX7_leavesSome (a0 : Nat) (x1 : Int32) (x2 : Int32) (s : gS) (Q : Int32 → gS → Prop) : Prop := ∃ n4, wX7_leavesSome_4 a0 x1 x2 Q n4 (x1 + 1) s
set_option maxRecDepth 20000 in
theorem spX7_leavesSome {l : Launch} {a0 : Nat} {x1 : Int32} {x2 : Int32} (ha0 : isSo a0) {s : gS} {Q : Int32 → gS → Prop} (h : wpX7_leavesSome a0 x1 x2 s Q) : Ct l mX7_leavesSome 1 0 0 [.ref a0, .int x1, .int x2] (nrm s) (q_i Q) := by
  refine Ct.of (by decide) (Nat.le_of_ble_eq_true rfl) (fun X => ?_)
  refine n_L (L' := [some (.ref a0), some (.int x1), some (.int x2), none, none, none]) (le_s (le_s (le_s (le_p (le_p (le_p (le_e))))))) ?_
  refine r_iload_n (pc := 0) (x := x1) dX7_leavesSome_0 rfl ?_
  refine r_iconst (pc := 1) (v := 1) dX7_leavesSome_1 (by decide) ?_
  refine r_iadd (pc := 2) dX7_leavesSome_2 ?_
  refine r_istore_n (pc := 3) (L' := [some (.ref a0), some (.int x1), some (.int x2), some (.int (x1 + 1)), none, none]) dX7_leavesSome_3 rfl (by decide) rfl ?_
  refine n_L (L' := [some (.ref a0), some (.int x1), some (.int x2), some (.int (x1 + 1)), none, none]) (le_s (le_s (le_s (le_s (le_n (le_n (le_e))))))) ?_
  obtain ⟨n, h⟩ := h
  exact pX7_leavesSome_4 ha0 n _ _ h 
def wX7_search_139 (rc : Nat → Int32 → Int32 → gS → (Int32 → gS → Prop) → Prop) (a0 : Nat) (x1 : Int32) (x2 : Int32) (Q : Int32 → gS → Prop) (k43 : Int32 → Int32 → Int32 → Int32 → gS → Prop) (y3 : Int32) (y4 : Int32) (y5 : Int32) (y6 : Int32) (y7 : Int32) (y8 : Int32) (s : gS) : Prop := vp_in y7 36 ∧ (vp_in y7 36 ∧ (k43 y3 y4 (y5 + y8) (y6 + 1) (wi s (a0 + 49) (ix y7) ((gi s (a0 + 49) (ix y7)) + y8))))
set_option maxRecDepth 20000 in
theorem pX7_search_139 {l : Launch} {X : gX} {dd : Nat} {rc : Nat → Int32 → Int32 → gS → (Int32 → gS → Prop) → Prop} {a0 : Nat} {x1 : Int32} {x2 : Int32} (hrc : ∀ (a0 : Nat) (x1 : Int32) (x2 : Int32) (ha0 : isSo a0) (s : gS) (Q : Int32 → gS → Prop), rc a0 x1 x2 s Q → Ct l mX7_search (dd + 3) 0 0 [.ref a0, .int x1, .int x2] (nrm s) (q_i Q)) (ha0 : isSo a0) {Q : Int32 → gS → Prop} {k43 : Int32 → Int32 → Int32 → Int32 → gS → Prop} (y3 : Int32) (y4 : Int32) (y5 : Int32) (y6 : Int32) (y7 : Int32) (y8 : Int32) (s : gS) (h : wX7_search_139 rc a0 x1 x2 Q k43 y3 y4 y5 y6 y7 y8 s) (hk43 : ∀ (y3 : Int32) (y4 : Int32) (y5 : Int32) (y6 : Int32) (s : gS), k43 y3 y4 y5 y6 s → Gw l mX7_search (g_rm (dd + 4) 0 0) X 43 [some (.ref a0), some (.int x1), some (.int x2), some (.int y3), some (.int y4), some (.int y5), some (.int y6), none, none] [] (nrm s) 0 0 (g_Z X (q_i Q) 0 0)) : Gw l mX7_search (g_rm (dd + 4) 0 0) X 139 [some (.ref a0), some (.int x1), some (.int x2), some (.int y3), some (.int y4), some (.int y5), some (.int y6), some (.int y7), some (.int y8)] [] (nrm s) 0 0 (g_Z X (q_i Q) 0 0) := by
  refine r_aload_n (pc := 139) (x := a0) dX7_search_139 rfl ?_
  refine n_getR (pc := 140) (j := 7) (q := (a0 + 49)) dX7_search_140 fl_RX7_36 (lt_So ha0) (sh_So ha0) rfl rfl (rf_So_7 ha0) ?_
  refine r_iload (pc := 143) (x := y7) dX7_search_143 rfl ?_
  refine r_dup2 (pc := 145) dX7_search_145 rfl rfl ?_
  obtain ⟨b10, h⟩ := h
  refine n_iald (pc := 146) (j := (ix y7)) dX7_search_146 (lt_So_49 ha0) (sh_So_49 ha0) b10 rfl ?_
  refine r_iload (pc := 147) (x := y8) dX7_search_147 rfl ?_
  refine r_iadd (pc := 149) dX7_search_149 ?_
  obtain ⟨b11, h⟩ := h
  refine n_iast (pc := 150) (j := (ix y7)) dX7_search_150 (lt_So_49 ha0) (sh_So_49 ha0) b11 rfl ?_
  refine r_iload (pc := 151) (x := y5) dX7_search_151 rfl ?_
  refine r_iload (pc := 153) (x := y8) dX7_search_153 rfl ?_
  refine r_iadd (pc := 155) dX7_search_155 ?_
  refine r_istore (pc := 156) (L' := [some (.ref a0), some (.int x1), some (.int x2), some (.int y3), some (.int y4), some (.int (y5 + y8)), some (.int y6), some (.int y7), some (.int y8)]) dX7_search_156 rfl (by decide) rfl ?_
  refine n_iinc (pc := 158) (x := y6) (w := 1) (L' := [some (.ref a0), some (.int x1), some (.int x2), some (.int y3), some (.int y4), some (.int (y5 + y8)), some (.int (y6 + 1)), some (.int y7), some (.int y8)]) dX7_search_158 rfl (by decide) rfl (by decide) rfl ?_
  refine r_goto (pc := 161) (tgt := 43) dX7_search_161 (by decide) ?_
  refine n_L (L' := [some (.ref a0), some (.int x1), some (.int x2), some (.int y3), some (.int y4), some (.int (y5 + y8)), some (.int (y6 + 1)), none, none]) (le_s (le_s (le_s (le_s (le_s (le_s (le_s (le_n (le_n (le_e)))))))))) ?_
  exact hk43 _ _ _ _ _ h
def wX7_search_43 (rc : Nat → Int32 → Int32 → gS → (Int32 → gS → Prop) → Prop) (a0 : Nat) (x1 : Int32) (x2 : Int32) (Q : Int32 → gS → Prop)  : Nat → Int32 → Int32 → Int32 → Int32 → gS → Prop
  | 0, _, _, _, _, _ => False
  | n + 1, y3, y4, y5, y6, s => (6 ≤ y6 → Q y5 s) ∧ (¬ (6 ≤ y6) → (¬ ((jshr y4 y6) &&& 1) = 0 → vp_in y3 6 ∧ ((¬ (x1 + 1) = (gi (wi s (a0 + 47) (ix y3) y6) a0 1) → wpX7_leavesSome a0 x1 ((y3 * 6) + y6) (wi s (a0 + 47) (ix y3) y6) (fun r5 s5 => (r5 = 0 → wX7_search_139 rc a0 x1 x2 Q (fun y3 y4 y5 y6 s => wX7_search_43 rc a0 x1 x2 Q n y3 y4 y5 y6 s) y3 y4 y5 y6 ((y3 * 6) + y6) 0 s5) ∧ (¬ (r5 = 0) → vp_in ((y3 * 6) + y6) 36 ∧ (rc a0 (x1 + 1) (x2 + (gi s5 (a0 + 2) (ix ((y3 * 6) + y6)))) s5 (fun r7 s7 => wX7_search_139 rc a0 x1 x2 Q (fun y3 y4 y5 y6 s => wX7_search_43 rc a0 x1 x2 Q n y3 y4 y5 y6 s) y3 y4 y5 y6 ((y3 * 6) + y6) r7 s7))))) ∧ ((x1 + 1) = (gi (wi s (a0 + 47) (ix y3) y6) a0 1) → vp_in ((y3 * 6) + y6) 36 ∧ (wpX7_arrive a0 (x2 + (gi (wi s (a0 + 47) (ix y3) y6) (a0 + 2) (ix ((y3 * 6) + y6)))) (wi s (a0 + 47) (ix y3) y6) (fun r9 s9 => wX7_search_139 rc a0 x1 x2 Q (fun y3 y4 y5 y6 s => wX7_search_43 rc a0 x1 x2 Q n y3 y4 y5 y6 s) y3 y4 y5 y6 ((y3 * 6) + y6) r9 s9))))) ∧ (((jshr y4 y6) &&& 1) = 0 → wX7_search_43 rc a0 x1 x2 Q n y3 y4 y5 (y6 + 1) s))
set_option maxRecDepth 20000 in
theorem pX7_search_43 {l : Launch} {X : gX} {dd : Nat} {rc : Nat → Int32 → Int32 → gS → (Int32 → gS → Prop) → Prop} {a0 : Nat} {x1 : Int32} {x2 : Int32} (hrc : ∀ (a0 : Nat) (x1 : Int32) (x2 : Int32) (ha0 : isSo a0) (s : gS) (Q : Int32 → gS → Prop), rc a0 x1 x2 s Q → Ct l mX7_search (dd + 3) 0 0 [.ref a0, .int x1, .int x2] (nrm s) (q_i Q)) (ha0 : isSo a0) {Q : Int32 → gS → Prop}  : ∀ (n : Nat) (y3 : Int32) (y4 : Int32) (y5 : Int32) (y6 : Int32) (s : gS) (h : wX7_search_43 rc a0 x1 x2 Q n y3 y4 y5 y6 s) , Gw l mX7_search (g_rm (dd + 4) 0 0) X 43 [some (.ref a0), some (.int x1), some (.int x2), some (.int y3), some (.int y4), some (.int y5), some (.int y6), none, none] [] (nrm s) 0 0 (g_Z X (q_i Q) 0 0) := by
  intro n
  induction n with
  | zero => intro y3 y4 y5 y6 s h; exact h.elim
  | succ n ih0 =>
    intro y3 y4 y5 y6 s h 
    have ih : ∀ (y3 : Int32) (y4 : Int32) (y5 : Int32) (y6 : Int32) (s : gS), wX7_search_43 rc a0 x1 x2 Q n y3 y4 y5 y6 s → Gw l mX7_search (g_rm (dd + 4) 0 0) X 43 [some (.ref a0), some (.int x1), some (.int x2), some (.int y3), some (.int y4), some (.int y5), some (.int y6), none, none] [] (nrm s) 0 0 (g_Z X (q_i Q) 0 0) := fun y3 y4 y5 y6 s h => ih0 y3 y4 y5 y6 s h 
    refine r_iload (pc := 43) (x := y6) dX7_search_43 rfl ?_
    refine r_bipush (pc := 45) (v := 6) dX7_search_45 (by decide) ?_
    refine r_icmp_ge (pc := 47) (tgt := 164) dX7_search_47 (by decide) (fun c => ?_) (fun c => ?_)
    · replace h := h.1 c
      refine r_iload (pc := 164) (x := y5) dX7_search_164 rfl ?_
      exact n_iret (pc := 166) dX7_search_166 rfl (Nat.le_refl _) (Nat.le_refl _) h
    · replace h := h.2 c
      refine r_iload (pc := 50) (x := y4) dX7_search_50 rfl ?_
      refine r_iload (pc := 52) (x := y6) dX7_search_52 rfl ?_
      refine n_ishr (pc := 54) dX7_search_54 ?_
      refine r_iconst (pc := 55) (v := 1) dX7_search_55 (by decide) ?_
      refine r_iand (pc := 56) dX7_search_56 ?_
      refine r_if_ne (pc := 57) (tgt := 63) dX7_search_57 (by decide) (fun c => ?_) (fun c => ?_)
      · replace h := h.1 c
        refine r_iload_n (pc := 63) (x := y3) dX7_search_63 rfl ?_
        refine r_bipush (pc := 64) (v := 6) dX7_search_64 (by decide) ?_
        refine r_imul (pc := 66) dX7_search_66 ?_
        refine r_iload (pc := 67) (x := y6) dX7_search_67 rfl ?_
        refine r_iadd (pc := 69) dX7_search_69 ?_
        refine r_istore (pc := 70) (L' := [some (.ref a0), some (.int x1), some (.int x2), some (.int y3), some (.int y4), some (.int y5), some (.int y6), some (.int ((y3 * 6) + y6)), none]) dX7_search_70 rfl (by decide) rfl ?_
        refine r_aload_n (pc := 72) (x := a0) dX7_search_72 rfl ?_
        refine n_getR (pc := 73) (j := 5) (q := (a0 + 47)) dX7_search_73 fl_RX7_30 (lt_So ha0) (sh_So ha0) rfl rfl (rf_So_5 ha0) ?_
        refine r_iload_n (pc := 76) (x := y3) dX7_search_76 rfl ?_
        refine r_iload (pc := 77) (x := y6) dX7_search_77 rfl ?_
        obtain ⟨b4, h⟩ := h
        refine n_iast (pc := 79) (j := (ix y3)) dX7_search_79 (lt_So_47 ha0) (sh_So_47 ha0) b4 rfl ?_
        refine r_iconst (pc := 80) (v := 0) dX7_search_80 (by decide) ?_
        refine r_istore (pc := 81) (L' := [some (.ref a0), some (.int x1), some (.int x2), some (.int y3), some (.int y4), some (.int y5), some (.int y6), some (.int ((y3 * 6) + y6)), some (.int 0)]) dX7_search_81 rfl (by decide) rfl ?_
        refine r_iload_n (pc := 83) (x := x1) dX7_search_83 rfl ?_
        refine r_iconst (pc := 84) (v := 1) dX7_search_84 (by decide) ?_
        refine r_iadd (pc := 85) dX7_search_85 ?_
        refine r_aload_n (pc := 86) (x := a0) dX7_search_86 rfl ?_
        refine n_getI (pc := 87) (j := 1) dX7_search_87 fl_RX7_15 (lt_So ha0) (sh_So ha0) rfl rfl ?_
        refine r_icmp_ne (pc := 90) (tgt := 111) dX7_search_90 (by decide) (fun c => ?_) (fun c => ?_)
        · replace h := h.1 c
          refine r_aload_n (pc := 111) (x := a0) dX7_search_111 rfl ?_
          refine r_iload_n (pc := 112) (x := x1) dX7_search_112 rfl ?_
          refine r_iload (pc := 113) (x := (y3 * 6) + y6) dX7_search_113 rfl ?_
          refine n_Vi0 (pc := 115) (S0 := []) (spX7_leavesSome ha0 h) gmX7_leavesSome selX7_leavesSome lk_RX7_90 dX7_search_115 rfl (lt_So ha0) (sh_So ha0) ⟨rfl, by decide⟩ rfl ⟨by show 1 + 1 ≤ dd + 4; omega, by show 8 + (6 + 11) + 40 * (1) ≤ 40 * (dd + 4); omega⟩ (Nat.le_of_ble_eq_true rfl) ⟨Nat.zero_le _, Nat.zero_le _⟩ (fun r5 s5 h => ?_)
          refine r_if_eq (pc := 118) (tgt := 139) dX7_search_118 (by decide) (fun c => ?_) (fun c => ?_)
          · replace h := h.1 c
            refine n_L (L' := [some (.ref a0), some (.int x1), some (.int x2), some (.int y3), some (.int y4), some (.int y5), some (.int y6), some (.int ((y3 * 6) + y6)), some (.int 0)]) (le_s (le_s (le_s (le_s (le_s (le_s (le_s (le_s (le_s (le_e)))))))))) ?_
            exact pX7_search_139 hrc ha0 _ _ _ _ _ _ _ h ih
          · replace h := h.2 c
            refine r_aload_n (pc := 121) (x := a0) dX7_search_121 rfl ?_
            refine r_iload_n (pc := 122) (x := x1) dX7_search_122 rfl ?_
            refine r_iconst (pc := 123) (v := 1) dX7_search_123 (by decide) ?_
            refine r_iadd (pc := 124) dX7_search_124 ?_
            refine r_iload_n (pc := 125) (x := x2) dX7_search_125 rfl ?_
            refine r_aload_n (pc := 126) (x := a0) dX7_search_126 rfl ?_
            refine n_getR (pc := 127) (j := 2) (q := (a0 + 2)) dX7_search_127 fl_RX7_19 (lt_So ha0) (sh_So ha0) rfl rfl (rf_So_2 ha0) ?_
            refine r_iload (pc := 130) (x := (y3 * 6) + y6) dX7_search_130 rfl ?_
            obtain ⟨b6, h⟩ := h
            refine n_iald (pc := 132) (j := (ix ((y3 * 6) + y6))) dX7_search_132 (lt_So_2 ha0) (sh_So_2 ha0) b6 rfl ?_
            refine r_iadd (pc := 133) dX7_search_133 ?_
            refine n_Vi0 (pc := 134) (S0 := []) (hrc _ _ _ ha0 _ _ h) gmX7_search selX7_search lk_RX7_66 dX7_search_134 rfl (lt_So ha0) (sh_So ha0) ⟨rfl, by decide⟩ rfl ⟨by show dd + 3 + 1 ≤ dd + 4; omega, by show 8 + (9 + 11) + 40 * (dd + 3) ≤ 40 * (dd + 4); omega⟩ (Nat.le_of_ble_eq_true rfl) ⟨Nat.zero_le _, Nat.zero_le _⟩ (fun r7 s7 h => ?_)
            refine r_istore (pc := 137) (L' := [some (.ref a0), some (.int x1), some (.int x2), some (.int y3), some (.int y4), some (.int y5), some (.int y6), some (.int ((y3 * 6) + y6)), some (.int r7)]) dX7_search_137 rfl (by decide) rfl ?_
            refine n_L (L' := [some (.ref a0), some (.int x1), some (.int x2), some (.int y3), some (.int y4), some (.int y5), some (.int y6), some (.int ((y3 * 6) + y6)), some (.int r7)]) (le_s (le_s (le_s (le_s (le_s (le_s (le_s (le_s (le_s (le_e)))))))))) ?_
            exact pX7_search_139 hrc ha0 _ _ _ _ _ _ _ h ih
        · replace h := h.2 c
          refine r_aload_n (pc := 93) (x := a0) dX7_search_93 rfl ?_
          refine r_iload_n (pc := 94) (x := x2) dX7_search_94 rfl ?_
          refine r_aload_n (pc := 95) (x := a0) dX7_search_95 rfl ?_
          refine n_getR (pc := 96) (j := 2) (q := (a0 + 2)) dX7_search_96 fl_RX7_19 (lt_So ha0) (sh_So ha0) rfl rfl (rf_So_2 ha0) ?_
          refine r_iload (pc := 99) (x := (y3 * 6) + y6) dX7_search_99 rfl ?_
          obtain ⟨b8, h⟩ := h
          refine n_iald (pc := 101) (j := (ix ((y3 * 6) + y6))) dX7_search_101 (lt_So_2 ha0) (sh_So_2 ha0) b8 rfl ?_
          refine r_iadd (pc := 102) dX7_search_102 ?_
          refine n_Vi0 (pc := 103) (S0 := []) (spX7_arrive ha0 h) gmX7_arrive selX7_arrive lk_RX7_87 dX7_search_103 rfl (lt_So ha0) (sh_So ha0) ⟨rfl, by decide⟩ rfl ⟨by show 2 + 1 ≤ dd + 4; omega, by show 8 + (2 + 11) + 40 * (2) ≤ 40 * (dd + 4); omega⟩ (Nat.le_of_ble_eq_true rfl) ⟨Nat.zero_le _, Nat.zero_le _⟩ (fun r9 s9 h => ?_)
          refine r_istore (pc := 106) (L' := [some (.ref a0), some (.int x1), some (.int x2), some (.int y3), some (.int y4), some (.int y5), some (.int y6), some (.int ((y3 * 6) + y6)), some (.int r9)]) dX7_search_106 rfl (by decide) rfl ?_
          refine r_goto (pc := 108) (tgt := 139) dX7_search_108 (by decide) ?_
          refine n_L (L' := [some (.ref a0), some (.int x1), some (.int x2), some (.int y3), some (.int y4), some (.int y5), some (.int y6), some (.int ((y3 * 6) + y6)), some (.int r9)]) (le_s (le_s (le_s (le_s (le_s (le_s (le_s (le_s (le_s (le_e)))))))))) ?_
          exact pX7_search_139 hrc ha0 _ _ _ _ _ _ _ h ih
      · replace h := h.2 c
        refine r_goto (pc := 60) (tgt := 158) dX7_search_60 (by decide) ?_
        refine n_iinc (pc := 158) (x := y6) (w := 1) (L' := [some (.ref a0), some (.int x1), some (.int x2), some (.int y3), some (.int y4), some (.int y5), some (.int (y6 + 1)), none, none]) dX7_search_158 rfl (by decide) rfl (by decide) rfl ?_
        refine r_goto (pc := 161) (tgt := 43) dX7_search_161 (by decide) ?_
        refine n_L (L' := [some (.ref a0), some (.int x1), some (.int x2), some (.int y3), some (.int y4), some (.int y5), some (.int (y6 + 1)), none, none]) (le_s (le_s (le_s (le_s (le_s (le_s (le_s (le_n (le_n (le_e)))))))))) ?_
        exact ih _ _ _ _ _ h
def wfX7_search (rc : Nat → Int32 → Int32 → gS → (Int32 → gS → Prop) → Prop) (a0 : Nat) (x1 : Int32) (x2 : Int32) (s : gS) (Q : Int32 → gS → Prop) : Prop := (x1 < 0 → Q 0 s) ∧ (¬ (x1 < 0) → ((gi s a0 1) ≤ x1 → Q 0 s) ∧ (¬ ((gi s a0 1) ≤ x1) → (x1 < 6 → vp_in x1 6 ∧ (vp_in x1 6 ∧ (vp_in (gi s (a0 + 1) (ix x1)) 6 ∧ (∃ n43, wX7_search_43 rc a0 x1 x2 Q n43 (gi s (a0 + 1) (ix x1)) (gi s (a0 + 40 + 1 + (ix x1)) (ix (gi s (a0 + 1) (ix x1)))) 0 0 s)))) ∧ (¬ (x1 < 6) → Q 0 s)))
set_option maxRecDepth 20000 in
theorem spfX7_search {l : Launch} {dd : Nat} {rc : Nat → Int32 → Int32 → gS → (Int32 → gS → Prop) → Prop} {a0 : Nat} {x1 : Int32} {x2 : Int32} (hrc : ∀ (a0 : Nat) (x1 : Int32) (x2 : Int32) (ha0 : isSo a0) (s : gS) (Q : Int32 → gS → Prop), rc a0 x1 x2 s Q → Ct l mX7_search (dd + 3) 0 0 [.ref a0, .int x1, .int x2] (nrm s) (q_i Q)) (ha0 : isSo a0) {s : gS} {Q : Int32 → gS → Prop} (h : wfX7_search rc a0 x1 x2 s Q) : Ct l mX7_search (dd + 4) 0 0 [.ref a0, .int x1, .int x2] (nrm s) (q_i Q) := by
  refine Ct.of (by decide) (Nat.le_of_ble_eq_true rfl) (fun X => ?_)
  refine n_L (L' := [some (.ref a0), some (.int x1), some (.int x2), none, none, none, none, none, none]) (le_s (le_s (le_s (le_p (le_p (le_p (le_p (le_p (le_p (le_e)))))))))) ?_
  refine r_iload_n (pc := 0) (x := x1) dX7_search_0 rfl ?_
  refine r_if_lt (pc := 1) (tgt := 18) dX7_search_1 (by decide) (fun c => ?_) (fun c => ?_)
  · replace h := h.1 c
    refine r_iconst (pc := 18) (v := 0) dX7_search_18 (by decide) ?_
    exact n_iret (pc := 19) dX7_search_19 rfl (Nat.le_refl _) (Nat.le_refl _) h
  · replace h := h.2 c
    refine r_iload_n (pc := 4) (x := x1) dX7_search_4 rfl ?_
    refine r_aload_n (pc := 5) (x := a0) dX7_search_5 rfl ?_
    refine n_getI (pc := 6) (j := 1) dX7_search_6 fl_RX7_15 (lt_So ha0) (sh_So ha0) rfl rfl ?_
    refine r_icmp_ge (pc := 9) (tgt := 18) dX7_search_9 (by decide) (fun c => ?_) (fun c => ?_)
    · replace h := h.1 c
      refine r_iconst (pc := 18) (v := 0) dX7_search_18 (by decide) ?_
      exact n_iret (pc := 19) dX7_search_19 rfl (Nat.le_refl _) (Nat.le_refl _) h
    · replace h := h.2 c
      refine r_iload_n (pc := 12) (x := x1) dX7_search_12 rfl ?_
      refine r_bipush (pc := 13) (v := 6) dX7_search_13 (by decide) ?_
      refine r_icmp_lt (pc := 15) (tgt := 20) dX7_search_15 (by decide) (fun c => ?_) (fun c => ?_)
      · replace h := h.1 c
        refine r_aload_n (pc := 20) (x := a0) dX7_search_20 rfl ?_
        refine n_getR (pc := 21) (j := 0) (q := (a0 + 1)) dX7_search_21 fl_RX7_9 (lt_So ha0) (sh_So ha0) rfl rfl (rf_So_0 ha0) ?_
        refine r_iload_n (pc := 24) (x := x1) dX7_search_24 rfl ?_
        obtain ⟨b1, h⟩ := h
        refine n_iald (pc := 25) (j := (ix x1)) dX7_search_25 (lt_So_1 ha0) (sh_So_1 ha0) b1 rfl ?_
        refine r_istore_n (pc := 26) (L' := [some (.ref a0), some (.int x1), some (.int x2), some (.int (gi s (a0 + 1) (ix x1))), none, none, none, none, none]) dX7_search_26 rfl (by decide) rfl ?_
        refine r_aload_n (pc := 27) (x := a0) dX7_search_27 rfl ?_
        refine n_getR (pc := 28) (j := 4) (q := (a0 + 40)) dX7_search_28 fl_RX7_27 (lt_So ha0) (sh_So ha0) rfl rfl (rf_So_4 ha0) ?_
        refine r_iload_n (pc := 31) (x := x1) dX7_search_31 rfl ?_
        obtain ⟨b2, h⟩ := h
        refine n_aald (pc := 32) (j := (ix x1)) (q := (a0 + 40 + 1 + (ix x1))) dX7_search_32 (lt_So_40 ha0) (sh_So_40 ha0) b2 rfl (ro_So_40 ha0 (vp_lt b2)) ?_
        refine r_iload_n (pc := 33) (x := gi s (a0 + 1) (ix x1)) dX7_search_33 rfl ?_
        obtain ⟨b3, h⟩ := h
        refine n_iald (pc := 34) (j := (ix (gi s (a0 + 1) (ix x1)))) dX7_search_34 (lr_So_40 ha0 (vp_lt b2)) (sr_So_40 ha0 (vp_lt b2)) b3 rfl ?_
        refine r_istore (pc := 35) (L' := [some (.ref a0), some (.int x1), some (.int x2), some (.int (gi s (a0 + 1) (ix x1))), some (.int (gi s (a0 + 40 + 1 + (ix x1)) (ix (gi s (a0 + 1) (ix x1))))), none, none, none, none]) dX7_search_35 rfl (by decide) rfl ?_
        refine r_iconst (pc := 37) (v := 0) dX7_search_37 (by decide) ?_
        refine r_istore (pc := 38) (L' := [some (.ref a0), some (.int x1), some (.int x2), some (.int (gi s (a0 + 1) (ix x1))), some (.int (gi s (a0 + 40 + 1 + (ix x1)) (ix (gi s (a0 + 1) (ix x1))))), some (.int 0), none, none, none]) dX7_search_38 rfl (by decide) rfl ?_
        refine r_iconst (pc := 40) (v := 0) dX7_search_40 (by decide) ?_
        refine r_istore (pc := 41) (L' := [some (.ref a0), some (.int x1), some (.int x2), some (.int (gi s (a0 + 1) (ix x1))), some (.int (gi s (a0 + 40 + 1 + (ix x1)) (ix (gi s (a0 + 1) (ix x1))))), some (.int 0), some (.int 0), none, none]) dX7_search_41 rfl (by decide) rfl ?_
        refine n_L (L' := [some (.ref a0), some (.int x1), some (.int x2), some (.int (gi s (a0 + 1) (ix x1))), some (.int (gi s (a0 + 40 + 1 + (ix x1)) (ix (gi s (a0 + 1) (ix x1))))), some (.int 0), some (.int 0), none, none]) (le_s (le_s (le_s (le_s (le_s (le_s (le_s (le_n (le_n (le_e)))))))))) ?_
        obtain ⟨n, h⟩ := h
        exact pX7_search_43 hrc ha0 n _ _ _ _ _ h 
      · replace h := h.2 c
        refine r_iconst (pc := 18) (v := 0) dX7_search_18 (by decide) ?_
        exact n_iret (pc := 19) dX7_search_19 rfl (Nat.le_refl _) (Nat.le_refl _) h
def wpX7_search : Nat → Nat → Int32 → Int32 → gS → (Int32 → gS → Prop) → Prop
  | 0, _, _, _, _, _ => False
  | d + 1, a0, x1, x2, s, Q => wfX7_search (fun a0 x1 x2 s Q => wpX7_search d a0 x1 x2 s Q) a0 x1 x2 s Q
set_option maxRecDepth 20000 in
theorem spX7_search {l : Launch} (d : Nat) : ∀ {a0 : Nat} {x1 : Int32} {x2 : Int32} (ha0 : isSo a0) {s : gS} {Q : Int32 → gS → Prop} (h : wpX7_search d a0 x1 x2 s Q), Ct l mX7_search (1 * d + 3) 0 0 [.ref a0, .int x1, .int x2] (nrm s) (q_i Q) := by
  induction d with
  | zero => intro _ _ _ _ _ _; exact (fun h => h.elim)
  | succ d ih =>
    intro a0 x1 x2 ha0 s Q h
    have e : 1 * (d + 1) + 3 = 1 * d + 4 := by omega
    rw [e]
    exact spfX7_search (dd := 1 * d) (fun _ _ _ ha0 _ _ h => ih ha0 h) ha0 h
def wX7_solve_60 (a0 : Nat) (a1 : Nat) (Q : gS → Prop)  : Nat → Int32 → gS → Prop
  | 0, _, _ => False
  | n + 1, y2, s => wpX8_orders a1 s (fun r4 s4 => (r4 ≤ y2 → wpX7_search 8 a0 0 0 s4 (fun r5 s5 => Q (wi s5 a0 8 r5))) ∧ (¬ (r4 ≤ y2) → wpX8_code a1 y2 s4 (fun r6 s6 => wpX7_heed a0 a1 r6 s6 (fun s7 => wX7_solve_60 a0 a1 Q n (y2 + 1) s7))))
set_option maxRecDepth 20000 in
theorem pX7_solve_60 {l : Launch} {X : gX} {a0 : Nat} {a1 : Nat} (ha0 : isSo a0) (ha1 : isSt a1) {Q : gS → Prop}  : ∀ (n : Nat) (y2 : Int32) (s : gS) (h : wX7_solve_60 a0 a1 Q n y2 s) , Gw l mX7_solve (g_rm 12 0 0) X 60 [some (.ref a0), some (.ref a1), some (.int y2)] [] (nrm s) 0 0 (g_Z X (q_v Q) 0 0) := by
  intro n
  induction n with
  | zero => intro y2 s h; exact h.elim
  | succ n ih0 =>
    intro y2 s h 
    have ih : ∀ (y2 : Int32) (s : gS), wX7_solve_60 a0 a1 Q n y2 s → Gw l mX7_solve (g_rm 12 0 0) X 60 [some (.ref a0), some (.ref a1), some (.int y2)] [] (nrm s) 0 0 (g_Z X (q_v Q) 0 0) := fun y2 s h => ih0 y2 s h 
    refine r_iload_n (pc := 60) (x := y2) dX7_solve_60 rfl ?_
    refine r_aload_n (pc := 61) (x := a1) dX7_solve_61 rfl ?_
    refine n_Vi0 (pc := 62) (S0 := [.int y2]) (spX8_orders ha1 h) gmX8_orders selX8_orders lk_RX7_55 dX7_solve_62 rfl (lt_St ha1) (sh_St ha1) ⟨rfl, by decide⟩ rfl ⟨Nat.le_of_ble_eq_true rfl, Nat.le_of_ble_eq_true rfl⟩ (Nat.le_of_ble_eq_true rfl) ⟨Nat.zero_le _, Nat.zero_le _⟩ (fun r4 s4 h => ?_)
    refine r_icmp_ge (pc := 65) (tgt := 84) dX7_solve_65 (by decide) (fun c => ?_) (fun c => ?_)
    · replace h := h.1 c
      refine r_aload_n (pc := 84) (x := a0) dX7_solve_84 rfl ?_
      refine r_aload_n (pc := 85) (x := a0) dX7_solve_85 rfl ?_
      refine r_iconst (pc := 86) (v := 0) dX7_solve_86 (by decide) ?_
      refine r_iconst (pc := 87) (v := 0) dX7_solve_87 (by decide) ?_
      refine n_Vi0 (pc := 88) (S0 := [.ref a0]) (spX7_search 8 ha0 h) gmX7_search selX7_search lk_RX7_66 dX7_solve_88 rfl (lt_So ha0) (sh_So ha0) ⟨rfl, by decide⟩ rfl ⟨Nat.le_of_ble_eq_true rfl, Nat.le_of_ble_eq_true rfl⟩ (Nat.le_of_ble_eq_true rfl) ⟨Nat.zero_le _, Nat.zero_le _⟩ (fun r5 s5 h => ?_)
      refine n_putI (pc := 91) (j := 8) dX7_solve_91 fl_RX7_39 fw_7_8 (lt_So ha0) (sh_So ha0) rfl rfl ?_
      exact n_vret (pc := 94) dX7_solve_94 rfl (Nat.le_refl _) (Nat.le_refl _) h
    · replace h := h.2 c
      refine r_aload_n (pc := 68) (x := a0) dX7_solve_68 rfl ?_
      refine r_aload_n (pc := 69) (x := a1) dX7_solve_69 rfl ?_
      refine r_aload_n (pc := 70) (x := a1) dX7_solve_70 rfl ?_
      refine r_iload_n (pc := 71) (x := y2) dX7_solve_71 rfl ?_
      refine n_Vi0 (pc := 72) (S0 := [.ref a1, .ref a0]) (spX8_code ha1 h) gmX8_code selX8_code lk_RX7_59 dX7_solve_72 rfl (lt_St ha1) (sh_St ha1) ⟨rfl, by decide⟩ rfl ⟨Nat.le_of_ble_eq_true rfl, Nat.le_of_ble_eq_true rfl⟩ (Nat.le_of_ble_eq_true rfl) ⟨Nat.zero_le _, Nat.zero_le _⟩ (fun r6 s6 h => ?_)
      refine n_Vv0 (pc := 75) (S0 := []) (spX7_heed ha0 ha1 h) gmX7_heed selX7_heed lk_RX7_63 dX7_solve_75 rfl (lt_So ha0) (sh_So ha0) ⟨rfl, by decide⟩ rfl ⟨Nat.le_of_ble_eq_true rfl, Nat.le_of_ble_eq_true rfl⟩ (Nat.le_of_ble_eq_true rfl) ⟨Nat.zero_le _, Nat.zero_le _⟩ (fun s7 h => ?_)
      refine n_iinc (pc := 78) (x := y2) (w := 1) (L' := [some (.ref a0), some (.ref a1), some (.int (y2 + 1))]) dX7_solve_78 rfl (by decide) rfl (by decide) rfl ?_
      refine r_goto (pc := 81) (tgt := 60) dX7_solve_81 (by decide) ?_
      refine n_L (L' := [some (.ref a0), some (.ref a1), some (.int (y2 + 1))]) (le_s (le_s (le_s (le_e)))) ?_
      exact ih _ _ h
def wX7_solve_12 (a0 : Nat) (a1 : Nat) (Q : gS → Prop)  : Nat → Int32 → gS → Prop
  | 0, _, _ => False
  | n + 1, y2, s => (6 ≤ y2 → ∃ n60, wX7_solve_60 a0 a1 Q n60 0 s) ∧ (¬ (6 ≤ y2) → wpX7_layOut a0 a1 y2 s (fun s1 => wpX8_isTold a1 y2 s1 (fun r2 s2 => (r2 = 0 → wX7_solve_12 a0 a1 Q n (y2 + 1) s2) ∧ (¬ (r2 = 0) → vp_in (gi s2 a0 1) 6 ∧ (wX7_solve_12 a0 a1 Q n (y2 + 1) (wi (wi s2 (a0 + 1) (ix (gi s2 a0 1)) y2) a0 1 ((gi (wi s2 (a0 + 1) (ix (gi s2 a0 1)) y2) a0 1) + 1)))))))
set_option maxRecDepth 20000 in
theorem pX7_solve_12 {l : Launch} {X : gX} {a0 : Nat} {a1 : Nat} (ha0 : isSo a0) (ha1 : isSt a1) {Q : gS → Prop}  : ∀ (n : Nat) (y2 : Int32) (s : gS) (h : wX7_solve_12 a0 a1 Q n y2 s) , Gw l mX7_solve (g_rm 12 0 0) X 12 [some (.ref a0), some (.ref a1), some (.int y2)] [] (nrm s) 0 0 (g_Z X (q_v Q) 0 0) := by
  intro n
  induction n with
  | zero => intro y2 s h; exact h.elim
  | succ n ih0 =>
    intro y2 s h 
    have ih : ∀ (y2 : Int32) (s : gS), wX7_solve_12 a0 a1 Q n y2 s → Gw l mX7_solve (g_rm 12 0 0) X 12 [some (.ref a0), some (.ref a1), some (.int y2)] [] (nrm s) 0 0 (g_Z X (q_v Q) 0 0) := fun y2 s h => ih0 y2 s h 
    refine r_iload_n (pc := 12) (x := y2) dX7_solve_12 rfl ?_
    refine r_bipush (pc := 13) (v := 6) dX7_solve_13 (by decide) ?_
    refine r_icmp_ge (pc := 15) (tgt := 58) dX7_solve_15 (by decide) (fun c => ?_) (fun c => ?_)
    · replace h := h.1 c
      refine r_iconst (pc := 58) (v := 0) dX7_solve_58 (by decide) ?_
      refine r_istore_n (pc := 59) (L' := [some (.ref a0), some (.ref a1), some (.int 0)]) dX7_solve_59 rfl (by decide) rfl ?_
      refine n_L (L' := [some (.ref a0), some (.ref a1), some (.int 0)]) (le_s (le_s (le_s (le_e)))) ?_
      obtain ⟨n, h⟩ := h
      exact pX7_solve_60 ha0 ha1 n _ _ h 
    · replace h := h.2 c
      refine r_aload_n (pc := 18) (x := a0) dX7_solve_18 rfl ?_
      refine r_aload_n (pc := 19) (x := a1) dX7_solve_19 rfl ?_
      refine r_iload_n (pc := 20) (x := y2) dX7_solve_20 rfl ?_
      refine n_Vv0 (pc := 21) (S0 := []) (spX7_layOut ha0 ha1 h) gmX7_layOut selX7_layOut lk_RX7_45 dX7_solve_21 rfl (lt_So ha0) (sh_So ha0) ⟨rfl, by decide⟩ rfl ⟨Nat.le_of_ble_eq_true rfl, Nat.le_of_ble_eq_true rfl⟩ (Nat.le_of_ble_eq_true rfl) ⟨Nat.zero_le _, Nat.zero_le _⟩ (fun s1 h => ?_)
      refine r_aload_n (pc := 24) (x := a1) dX7_solve_24 rfl ?_
      refine r_iload_n (pc := 25) (x := y2) dX7_solve_25 rfl ?_
      refine n_Vi0 (pc := 26) (S0 := []) (spX8_isTold ha1 h) gmX8_isTold selX8_isTold lk_RX7_49 dX7_solve_26 rfl (lt_St ha1) (sh_St ha1) ⟨rfl, by decide⟩ rfl ⟨Nat.le_of_ble_eq_true rfl, Nat.le_of_ble_eq_true rfl⟩ (Nat.le_of_ble_eq_true rfl) ⟨Nat.zero_le _, Nat.zero_le _⟩ (fun r2 s2 h => ?_)
      refine r_if_eq (pc := 29) (tgt := 52) dX7_solve_29 (by decide) (fun c => ?_) (fun c => ?_)
      · replace h := h.1 c
        refine n_iinc (pc := 52) (x := y2) (w := 1) (L' := [some (.ref a0), some (.ref a1), some (.int (y2 + 1))]) dX7_solve_52 rfl (by decide) rfl (by decide) rfl ?_
        refine r_goto (pc := 55) (tgt := 12) dX7_solve_55 (by decide) ?_
        refine n_L (L' := [some (.ref a0), some (.ref a1), some (.int (y2 + 1))]) (le_s (le_s (le_s (le_e)))) ?_
        exact ih _ _ h
      · replace h := h.2 c
        refine r_aload_n (pc := 32) (x := a0) dX7_solve_32 rfl ?_
        refine n_getR (pc := 33) (j := 0) (q := (a0 + 1)) dX7_solve_33 fl_RX7_9 (lt_So ha0) (sh_So ha0) rfl rfl (rf_So_0 ha0) ?_
        refine r_aload_n (pc := 36) (x := a0) dX7_solve_36 rfl ?_
        refine n_getI (pc := 37) (j := 1) dX7_solve_37 fl_RX7_15 (lt_So ha0) (sh_So ha0) rfl rfl ?_
        refine r_iload_n (pc := 40) (x := y2) dX7_solve_40 rfl ?_
        obtain ⟨b3, h⟩ := h
        refine n_iast (pc := 41) (j := (ix (gi s2 a0 1))) dX7_solve_41 (lt_So_1 ha0) (sh_So_1 ha0) b3 rfl ?_
        refine r_aload_n (pc := 42) (x := a0) dX7_solve_42 rfl ?_
        refine r_dup (pc := 43) dX7_solve_43 rfl ?_
        refine n_getI (pc := 44) (j := 1) dX7_solve_44 fl_RX7_15 (lt_So ha0) (sh_So ha0) rfl rfl ?_
        refine r_iconst (pc := 47) (v := 1) dX7_solve_47 (by decide) ?_
        refine r_iadd (pc := 48) dX7_solve_48 ?_
        refine n_putI (pc := 49) (j := 1) dX7_solve_49 fl_RX7_15 fw_7_1 (lt_So ha0) (sh_So ha0) rfl rfl ?_
        refine n_iinc (pc := 52) (x := y2) (w := 1) (L' := [some (.ref a0), some (.ref a1), some (.int (y2 + 1))]) dX7_solve_52 rfl (by decide) rfl (by decide) rfl ?_
        refine r_goto (pc := 55) (tgt := 12) dX7_solve_55 (by decide) ?_
        refine n_L (L' := [some (.ref a0), some (.ref a1), some (.int (y2 + 1))]) (le_s (le_s (le_s (le_e)))) ?_
        exact ih _ _ h
def wpX7_solve (a0 : Nat) (a1 : Nat) (s : gS) (Q : gS → Prop) : Prop := ∃ n12, wX7_solve_12 a0 a1 Q n12 0 (wi (wi s a0 1 0) a0 9 0)
set_option maxRecDepth 20000 in
theorem spX7_solve {l : Launch} {a0 : Nat} {a1 : Nat} (ha0 : isSo a0) (ha1 : isSt a1) {s : gS} {Q : gS → Prop} (h : wpX7_solve a0 a1 s Q) : Ct l mX7_solve 12 0 0 [.ref a0, .ref a1] (nrm s) (q_v Q) := by
  refine Ct.of (by decide) (Nat.le_of_ble_eq_true rfl) (fun X => ?_)
  refine n_L (L' := [some (.ref a0), some (.ref a1), none]) (le_s (le_s (le_p (le_e)))) ?_
  refine r_aload_n (pc := 0) (x := a0) dX7_solve_0 rfl ?_
  refine r_iconst (pc := 1) (v := 0) dX7_solve_1 (by decide) ?_
  refine n_putI (pc := 2) (j := 1) dX7_solve_2 fl_RX7_15 fw_7_1 (lt_So ha0) (sh_So ha0) rfl rfl ?_
  refine r_aload_n (pc := 5) (x := a0) dX7_solve_5 rfl ?_
  refine r_iconst (pc := 6) (v := 0) dX7_solve_6 (by decide) ?_
  refine n_putI (pc := 7) (j := 9) dX7_solve_7 fl_RX7_42 fw_7_9 (lt_So ha0) (sh_So ha0) rfl rfl ?_
  refine r_iconst (pc := 10) (v := 0) dX7_solve_10 (by decide) ?_
  refine r_istore_n (pc := 11) (L' := [some (.ref a0), some (.ref a1), some (.int 0)]) dX7_solve_11 rfl (by decide) rfl ?_
  refine n_L (L' := [some (.ref a0), some (.ref a1), some (.int 0)]) (le_s (le_s (le_s (le_e)))) ?_
  obtain ⟨n, h⟩ := h
  exact pX7_solve_12 ha0 ha1 n _ _ h 
def wpX7_bestReading (a0 : Nat) (x1 : Int32) (s : gS) (Q : Int32 → gS → Prop) : Prop := (x1 < 0 → Q (-1) s) ∧ (¬ (x1 < 0) → (6 ≤ x1 → Q (-1) s) ∧ (¬ (6 ≤ x1) → vp_in x1 6 ∧ (Q (gi s (a0 + 48) (ix x1)) s)))
set_option maxRecDepth 20000 in
theorem spX7_bestReading {l : Launch} {a0 : Nat} {x1 : Int32} (ha0 : isSo a0) {s : gS} {Q : Int32 → gS → Prop} (h : wpX7_bestReading a0 x1 s Q) : Ct l mX7_bestReading 1 0 0 [.ref a0, .int x1] (nrm s) (q_i Q) := by
  refine Ct.of (by decide) (Nat.le_of_ble_eq_true rfl) (fun X => ?_)
  refine n_L (L' := [some (.ref a0), some (.int x1)]) (le_s (le_s (le_e))) ?_
  refine r_iload_n (pc := 0) (x := x1) dX7_bestReading_0 rfl ?_
  refine r_if_lt (pc := 1) (tgt := 19) dX7_bestReading_1 (by decide) (fun c => ?_) (fun c => ?_)
  · replace h := h.1 c
    refine r_iconst (pc := 19) (v := (-1)) dX7_bestReading_19 (by decide) ?_
    exact n_iret (pc := 20) dX7_bestReading_20 rfl (Nat.le_refl _) (Nat.le_refl _) h
  · replace h := h.2 c
    refine r_iload_n (pc := 4) (x := x1) dX7_bestReading_4 rfl ?_
    refine r_bipush (pc := 5) (v := 6) dX7_bestReading_5 (by decide) ?_
    refine r_icmp_ge (pc := 7) (tgt := 19) dX7_bestReading_7 (by decide) (fun c => ?_) (fun c => ?_)
    · replace h := h.1 c
      refine r_iconst (pc := 19) (v := (-1)) dX7_bestReading_19 (by decide) ?_
      exact n_iret (pc := 20) dX7_bestReading_20 rfl (Nat.le_refl _) (Nat.le_refl _) h
    · replace h := h.2 c
      refine r_aload_n (pc := 10) (x := a0) dX7_bestReading_10 rfl ?_
      refine n_getR (pc := 11) (j := 6) (q := (a0 + 48)) dX7_bestReading_11 fl_RX7_33 (lt_So ha0) (sh_So ha0) rfl rfl (rf_So_6 ha0) ?_
      refine r_iload_n (pc := 14) (x := x1) dX7_bestReading_14 rfl ?_
      obtain ⟨b1, h⟩ := h
      refine n_iald (pc := 15) (j := (ix x1)) dX7_bestReading_15 (lt_So_48 ha0) (sh_So_48 ha0) b1 rfl ?_
      refine r_goto (pc := 16) (tgt := 20) dX7_bestReading_16 (by decide) ?_
      exact n_iret (pc := 20) dX7_bestReading_20 rfl (Nat.le_refl _) (Nat.le_refl _) h
def wX7_leftBits_16 (a0 : Nat) (x1 : Int32) (Q : Int32 → gS → Prop)  : Nat → Int32 → Int32 → gS → Prop
  | 0, _, _, _ => False
  | n + 1, y2, y3, s => (6 ≤ y3 → Q y2 s) ∧ (¬ (6 ≤ y3) → vp_in ((x1 * 6) + y3) 36 ∧ (((gi s (a0 + 49) (ix ((x1 * 6) + y3))) ≤ 0 → wX7_leftBits_16 a0 x1 Q n y2 (y3 + 1) s) ∧ (¬ ((gi s (a0 + 49) (ix ((x1 * 6) + y3))) ≤ 0) → wX7_leftBits_16 a0 x1 Q n (y2 ||| (jshl 1 y3)) (y3 + 1) s)))
set_option maxRecDepth 20000 in
theorem pX7_leftBits_16 {l : Launch} {X : gX} {a0 : Nat} {x1 : Int32} (ha0 : isSo a0) {Q : Int32 → gS → Prop}  : ∀ (n : Nat) (y2 : Int32) (y3 : Int32) (s : gS) (h : wX7_leftBits_16 a0 x1 Q n y2 y3 s) , Gw l mX7_leftBits (g_rm 1 0 0) X 16 [some (.ref a0), some (.int x1), some (.int y2), some (.int y3)] [] (nrm s) 0 0 (g_Z X (q_i Q) 0 0) := by
  intro n
  induction n with
  | zero => intro y2 y3 s h; exact h.elim
  | succ n ih0 =>
    intro y2 y3 s h 
    have ih : ∀ (y2 : Int32) (y3 : Int32) (s : gS), wX7_leftBits_16 a0 x1 Q n y2 y3 s → Gw l mX7_leftBits (g_rm 1 0 0) X 16 [some (.ref a0), some (.int x1), some (.int y2), some (.int y3)] [] (nrm s) 0 0 (g_Z X (q_i Q) 0 0) := fun y2 y3 s h => ih0 y2 y3 s h 
    refine r_iload_n (pc := 16) (x := y3) dX7_leftBits_16 rfl ?_
    refine r_bipush (pc := 17) (v := 6) dX7_leftBits_17 (by decide) ?_
    refine r_icmp_ge (pc := 19) (tgt := 48) dX7_leftBits_19 (by decide) (fun c => ?_) (fun c => ?_)
    · replace h := h.1 c
      refine r_iload_n (pc := 48) (x := y2) dX7_leftBits_48 rfl ?_
      exact n_iret (pc := 49) dX7_leftBits_49 rfl (Nat.le_refl _) (Nat.le_refl _) h
    · replace h := h.2 c
      refine r_aload_n (pc := 22) (x := a0) dX7_leftBits_22 rfl ?_
      refine n_getR (pc := 23) (j := 7) (q := (a0 + 49)) dX7_leftBits_23 fl_RX7_36 (lt_So ha0) (sh_So ha0) rfl rfl (rf_So_7 ha0) ?_
      refine r_iload_n (pc := 26) (x := x1) dX7_leftBits_26 rfl ?_
      refine r_bipush (pc := 27) (v := 6) dX7_leftBits_27 (by decide) ?_
      refine r_imul (pc := 29) dX7_leftBits_29 ?_
      refine r_iload_n (pc := 30) (x := y3) dX7_leftBits_30 rfl ?_
      refine r_iadd (pc := 31) dX7_leftBits_31 ?_
      obtain ⟨b1, h⟩ := h
      refine n_iald (pc := 32) (j := (ix ((x1 * 6) + y3))) dX7_leftBits_32 (lt_So_49 ha0) (sh_So_49 ha0) b1 rfl ?_
      refine r_if_le (pc := 33) (tgt := 42) dX7_leftBits_33 (by decide) (fun c => ?_) (fun c => ?_)
      · replace h := h.1 c
        refine n_iinc (pc := 42) (x := y3) (w := 1) (L' := [some (.ref a0), some (.int x1), some (.int y2), some (.int (y3 + 1))]) dX7_leftBits_42 rfl (by decide) rfl (by decide) rfl ?_
        refine r_goto (pc := 45) (tgt := 16) dX7_leftBits_45 (by decide) ?_
        refine n_L (L' := [some (.ref a0), some (.int x1), some (.int y2), some (.int (y3 + 1))]) (le_s (le_s (le_s (le_s (le_e))))) ?_
        exact ih _ _ _ h
      · replace h := h.2 c
        refine r_iload_n (pc := 36) (x := y2) dX7_leftBits_36 rfl ?_
        refine r_iconst (pc := 37) (v := 1) dX7_leftBits_37 (by decide) ?_
        refine r_iload_n (pc := 38) (x := y3) dX7_leftBits_38 rfl ?_
        refine n_ishl (pc := 39) dX7_leftBits_39 ?_
        refine r_ior (pc := 40) dX7_leftBits_40 ?_
        refine r_istore_n (pc := 41) (L' := [some (.ref a0), some (.int x1), some (.int (y2 ||| (jshl 1 y3))), some (.int y3)]) dX7_leftBits_41 rfl (by decide) rfl ?_
        refine n_iinc (pc := 42) (x := y3) (w := 1) (L' := [some (.ref a0), some (.int x1), some (.int (y2 ||| (jshl 1 y3))), some (.int (y3 + 1))]) dX7_leftBits_42 rfl (by decide) rfl (by decide) rfl ?_
        refine r_goto (pc := 45) (tgt := 16) dX7_leftBits_45 (by decide) ?_
        refine n_L (L' := [some (.ref a0), some (.int x1), some (.int (y2 ||| (jshl 1 y3))), some (.int (y3 + 1))]) (le_s (le_s (le_s (le_s (le_e))))) ?_
        exact ih _ _ _ h
def wpX7_leftBits (a0 : Nat) (x1 : Int32) (s : gS) (Q : Int32 → gS → Prop) : Prop := (x1 < 0 → Q 0 s) ∧ (¬ (x1 < 0) → (x1 < 6 → ∃ n16, wX7_leftBits_16 a0 x1 Q n16 0 0 s) ∧ (¬ (x1 < 6) → Q 0 s))
set_option maxRecDepth 20000 in
theorem spX7_leftBits {l : Launch} {a0 : Nat} {x1 : Int32} (ha0 : isSo a0) {s : gS} {Q : Int32 → gS → Prop} (h : wpX7_leftBits a0 x1 s Q) : Ct l mX7_leftBits 1 0 0 [.ref a0, .int x1] (nrm s) (q_i Q) := by
  refine Ct.of (by decide) (Nat.le_of_ble_eq_true rfl) (fun X => ?_)
  refine n_L (L' := [some (.ref a0), some (.int x1), none, none]) (le_s (le_s (le_p (le_p (le_e))))) ?_
  refine r_iload_n (pc := 0) (x := x1) dX7_leftBits_0 rfl ?_
  refine r_if_lt (pc := 1) (tgt := 10) dX7_leftBits_1 (by decide) (fun c => ?_) (fun c => ?_)
  · replace h := h.1 c
    refine r_iconst (pc := 10) (v := 0) dX7_leftBits_10 (by decide) ?_
    exact n_iret (pc := 11) dX7_leftBits_11 rfl (Nat.le_refl _) (Nat.le_refl _) h
  · replace h := h.2 c
    refine r_iload_n (pc := 4) (x := x1) dX7_leftBits_4 rfl ?_
    refine r_bipush (pc := 5) (v := 6) dX7_leftBits_5 (by decide) ?_
    refine r_icmp_lt (pc := 7) (tgt := 12) dX7_leftBits_7 (by decide) (fun c => ?_) (fun c => ?_)
    · replace h := h.1 c
      refine r_iconst (pc := 12) (v := 0) dX7_leftBits_12 (by decide) ?_
      refine r_istore_n (pc := 13) (L' := [some (.ref a0), some (.int x1), some (.int 0), none]) dX7_leftBits_13 rfl (by decide) rfl ?_
      refine r_iconst (pc := 14) (v := 0) dX7_leftBits_14 (by decide) ?_
      refine r_istore_n (pc := 15) (L' := [some (.ref a0), some (.int x1), some (.int 0), some (.int 0)]) dX7_leftBits_15 rfl (by decide) rfl ?_
      refine n_L (L' := [some (.ref a0), some (.int x1), some (.int 0), some (.int 0)]) (le_s (le_s (le_s (le_s (le_e))))) ?_
      obtain ⟨n, h⟩ := h
      exact pX7_leftBits_16 ha0 n _ _ _ h 
    · replace h := h.2 c
      refine r_iconst (pc := 10) (v := 0) dX7_leftBits_10 (by decide) ?_
      exact n_iret (pc := 11) dX7_leftBits_11 rfl (Nat.le_refl _) (Nat.le_refl _) h
def wpX7_hasOpenQuestion (a0 : Nat) (x1 : Int32) (s : gS) (Q : Int32 → gS → Prop) : Prop := wpX7_leftBits a0 x1 s (fun r1 s1 => wpJ6_bitCount_0f7a4 r1 s1 (fun r2 s2 => (r2 ≤ 1 → Q 0 s2) ∧ (¬ (r2 ≤ 1) → Q 1 s2)))
set_option maxRecDepth 20000 in
theorem spX7_hasOpenQuestion {l : Launch} {a0 : Nat} {x1 : Int32} (ha0 : isSo a0) {s : gS} {Q : Int32 → gS → Prop} (h : wpX7_hasOpenQuestion a0 x1 s Q) : Ct l mX7_hasOpenQuestion 2 0 0 [.ref a0, .int x1] (nrm s) (q_i Q) := by
  refine Ct.of (by decide) (Nat.le_of_ble_eq_true rfl) (fun X => ?_)
  refine n_L (L' := [some (.ref a0), some (.int x1)]) (le_s (le_s (le_e))) ?_
  refine r_aload_n (pc := 0) (x := a0) dX7_hasOpenQuestion_0 rfl ?_
  refine r_iload_n (pc := 1) (x := x1) dX7_hasOpenQuestion_1 rfl ?_
  refine n_Vi0 (pc := 2) (S0 := []) (spX7_leftBits ha0 h) gmX7_leftBits selX7_leftBits lk_RX7_99 dX7_hasOpenQuestion_2 rfl (lt_So ha0) (sh_So ha0) ⟨rfl, by decide⟩ rfl ⟨Nat.le_of_ble_eq_true rfl, Nat.le_of_ble_eq_true rfl⟩ (Nat.le_of_ble_eq_true rfl) ⟨Nat.zero_le _, Nat.zero_le _⟩ (fun r1 s1 h => ?_)
  refine n_Si0 (pc := 5) (S0 := []) (spJ6_bitCount_0f7a4 h) gmJ6_bitCount_0f7a4 lk_RX7_102 dX7_hasOpenQuestion_5 rfl rfl ⟨Nat.le_of_ble_eq_true rfl, Nat.le_of_ble_eq_true rfl⟩ (Nat.le_of_ble_eq_true rfl) ⟨Nat.zero_le _, Nat.zero_le _⟩ (fun r2 s2 h => ?_)
  refine r_iconst (pc := 8) (v := 1) dX7_hasOpenQuestion_8 (by decide) ?_
  refine r_icmp_le (pc := 9) (tgt := 16) dX7_hasOpenQuestion_9 (by decide) (fun c => ?_) (fun c => ?_)
  · replace h := h.1 c
    refine r_iconst (pc := 16) (v := 0) dX7_hasOpenQuestion_16 (by decide) ?_
    exact n_zret (pc := 17) dX7_hasOpenQuestion_17 rfl (by decide) (Nat.le_refl _) (Nat.le_refl _) h
  · replace h := h.2 c
    refine r_iconst (pc := 12) (v := 1) dX7_hasOpenQuestion_12 (by decide) ?_
    refine r_goto (pc := 13) (tgt := 17) dX7_hasOpenQuestion_13 (by decide) ?_
    exact n_zret (pc := 17) dX7_hasOpenQuestion_17 rfl (by decide) (Nat.le_refl _) (Nat.le_refl _) h
def wX7_leftOfAll_4 (a0 : Nat) (Q : Int32 → gS → Prop)  : Nat → Int32 → Int32 → gS → Prop
  | 0, _, _, _ => False
  | n + 1, y1, y2, s => (36 ≤ y2 → Q y1 s) ∧ (¬ (36 ≤ y2) → vp_in y2 36 ∧ (((gi s (a0 + 49) (ix y2)) ≤ 0 → wX7_leftOfAll_4 a0 Q n (y1 + 0) (y2 + 1) s) ∧ (¬ ((gi s (a0 + 49) (ix y2)) ≤ 0) → wX7_leftOfAll_4 a0 Q n (y1 + 1) (y2 + 1) s)))
set_option maxRecDepth 20000 in
theorem pX7_leftOfAll_4 {l : Launch} {X : gX} {a0 : Nat} (ha0 : isSo a0) {Q : Int32 → gS → Prop}  : ∀ (n : Nat) (y1 : Int32) (y2 : Int32) (s : gS) (h : wX7_leftOfAll_4 a0 Q n y1 y2 s) , Gw l mX7_leftOfAll (g_rm 1 0 0) X 4 [some (.ref a0), some (.int y1), some (.int y2)] [] (nrm s) 0 0 (g_Z X (q_i Q) 0 0) := by
  intro n
  induction n with
  | zero => intro y1 y2 s h; exact h.elim
  | succ n ih0 =>
    intro y1 y2 s h 
    have ih : ∀ (y1 : Int32) (y2 : Int32) (s : gS), wX7_leftOfAll_4 a0 Q n y1 y2 s → Gw l mX7_leftOfAll (g_rm 1 0 0) X 4 [some (.ref a0), some (.int y1), some (.int y2)] [] (nrm s) 0 0 (g_Z X (q_i Q) 0 0) := fun y1 y2 s h => ih0 y1 y2 s h 
    refine r_iload_n (pc := 4) (x := y2) dX7_leftOfAll_4 rfl ?_
    refine r_bipush (pc := 5) (v := 36) dX7_leftOfAll_5 (by decide) ?_
    refine r_icmp_ge (pc := 7) (tgt := 33) dX7_leftOfAll_7 (by decide) (fun c => ?_) (fun c => ?_)
    · replace h := h.1 c
      refine r_iload_n (pc := 33) (x := y1) dX7_leftOfAll_33 rfl ?_
      exact n_iret (pc := 34) dX7_leftOfAll_34 rfl (Nat.le_refl _) (Nat.le_refl _) h
    · replace h := h.2 c
      refine r_iload_n (pc := 10) (x := y1) dX7_leftOfAll_10 rfl ?_
      refine r_aload_n (pc := 11) (x := a0) dX7_leftOfAll_11 rfl ?_
      refine n_getR (pc := 12) (j := 7) (q := (a0 + 49)) dX7_leftOfAll_12 fl_RX7_36 (lt_So ha0) (sh_So ha0) rfl rfl (rf_So_7 ha0) ?_
      refine r_iload_n (pc := 15) (x := y2) dX7_leftOfAll_15 rfl ?_
      obtain ⟨b1, h⟩ := h
      refine n_iald (pc := 16) (j := (ix y2)) dX7_leftOfAll_16 (lt_So_49 ha0) (sh_So_49 ha0) b1 rfl ?_
      refine r_if_le (pc := 17) (tgt := 24) dX7_leftOfAll_17 (by decide) (fun c => ?_) (fun c => ?_)
      · replace h := h.1 c
        refine r_iconst (pc := 24) (v := 0) dX7_leftOfAll_24 (by decide) ?_
        refine r_iadd (pc := 25) dX7_leftOfAll_25 ?_
        refine r_istore_n (pc := 26) (L' := [some (.ref a0), some (.int (y1 + 0)), some (.int y2)]) dX7_leftOfAll_26 rfl (by decide) rfl ?_
        refine n_iinc (pc := 27) (x := y2) (w := 1) (L' := [some (.ref a0), some (.int (y1 + 0)), some (.int (y2 + 1))]) dX7_leftOfAll_27 rfl (by decide) rfl (by decide) rfl ?_
        refine r_goto (pc := 30) (tgt := 4) dX7_leftOfAll_30 (by decide) ?_
        refine n_L (L' := [some (.ref a0), some (.int (y1 + 0)), some (.int (y2 + 1))]) (le_s (le_s (le_s (le_e)))) ?_
        exact ih _ _ _ h
      · replace h := h.2 c
        refine r_iconst (pc := 20) (v := 1) dX7_leftOfAll_20 (by decide) ?_
        refine r_goto (pc := 21) (tgt := 25) dX7_leftOfAll_21 (by decide) ?_
        refine r_iadd (pc := 25) dX7_leftOfAll_25 ?_
        refine r_istore_n (pc := 26) (L' := [some (.ref a0), some (.int (y1 + 1)), some (.int y2)]) dX7_leftOfAll_26 rfl (by decide) rfl ?_
        refine n_iinc (pc := 27) (x := y2) (w := 1) (L' := [some (.ref a0), some (.int (y1 + 1)), some (.int (y2 + 1))]) dX7_leftOfAll_27 rfl (by decide) rfl (by decide) rfl ?_
        refine r_goto (pc := 30) (tgt := 4) dX7_leftOfAll_30 (by decide) ?_
        refine n_L (L' := [some (.ref a0), some (.int (y1 + 1)), some (.int (y2 + 1))]) (le_s (le_s (le_s (le_e)))) ?_
        exact ih _ _ _ h
def wpX7_leftOfAll (a0 : Nat) (s : gS) (Q : Int32 → gS → Prop) : Prop := ∃ n4, wX7_leftOfAll_4 a0 Q n4 0 0 s
set_option maxRecDepth 20000 in
theorem spX7_leftOfAll {l : Launch} {a0 : Nat} (ha0 : isSo a0) {s : gS} {Q : Int32 → gS → Prop} (h : wpX7_leftOfAll a0 s Q) : Ct l mX7_leftOfAll 1 0 0 [.ref a0] (nrm s) (q_i Q) := by
  refine Ct.of (by decide) (Nat.le_of_ble_eq_true rfl) (fun X => ?_)
  refine n_L (L' := [some (.ref a0), none, none]) (le_s (le_p (le_p (le_e)))) ?_
  refine r_iconst (pc := 0) (v := 0) dX7_leftOfAll_0 (by decide) ?_
  refine r_istore_n (pc := 1) (L' := [some (.ref a0), some (.int 0), none]) dX7_leftOfAll_1 rfl (by decide) rfl ?_
  refine r_iconst (pc := 2) (v := 0) dX7_leftOfAll_2 (by decide) ?_
  refine r_istore_n (pc := 3) (L' := [some (.ref a0), some (.int 0), some (.int 0)]) dX7_leftOfAll_3 rfl (by decide) rfl ?_
  refine n_L (L' := [some (.ref a0), some (.int 0), some (.int 0)]) (le_s (le_s (le_s (le_e)))) ?_
  obtain ⟨n, h⟩ := h
  exact pX7_leftOfAll_4 ha0 n _ _ _ h 
def wX7_mostWithOneReading_16 (a0 : Nat) (x1 : Int32) (Q : Int32 → gS → Prop)  : Nat → Int32 → Int32 → gS → Prop
  | 0, _, _, _ => False
  | n + 1, y2, y3, s => (6 ≤ y3 → Q y2 s) ∧ (¬ (6 ≤ y3) → vp_in ((x1 * 6) + y3) 36 ∧ (wX7_mostWithOneReading_16 a0 x1 Q n (jmax y2 (gi s (a0 + 49) (ix ((x1 * 6) + y3)))) (y3 + 1) s))
set_option maxRecDepth 20000 in
theorem pX7_mostWithOneReading_16 {l : Launch} {X : gX} {a0 : Nat} {x1 : Int32} (ha0 : isSo a0) {Q : Int32 → gS → Prop}  : ∀ (n : Nat) (y2 : Int32) (y3 : Int32) (s : gS) (h : wX7_mostWithOneReading_16 a0 x1 Q n y2 y3 s) , Gw l mX7_mostWithOneReading (g_rm 2 0 0) X 16 [some (.ref a0), some (.int x1), some (.int y2), some (.int y3)] [] (nrm s) 0 0 (g_Z X (q_i Q) 0 0) := by
  intro n
  induction n with
  | zero => intro y2 y3 s h; exact h.elim
  | succ n ih0 =>
    intro y2 y3 s h 
    have ih : ∀ (y2 : Int32) (y3 : Int32) (s : gS), wX7_mostWithOneReading_16 a0 x1 Q n y2 y3 s → Gw l mX7_mostWithOneReading (g_rm 2 0 0) X 16 [some (.ref a0), some (.int x1), some (.int y2), some (.int y3)] [] (nrm s) 0 0 (g_Z X (q_i Q) 0 0) := fun y2 y3 s h => ih0 y2 y3 s h 
    refine r_iload_n (pc := 16) (x := y3) dX7_mostWithOneReading_16 rfl ?_
    refine r_bipush (pc := 17) (v := 6) dX7_mostWithOneReading_17 (by decide) ?_
    refine r_icmp_ge (pc := 19) (tgt := 44) dX7_mostWithOneReading_19 (by decide) (fun c => ?_) (fun c => ?_)
    · replace h := h.1 c
      refine r_iload_n (pc := 44) (x := y2) dX7_mostWithOneReading_44 rfl ?_
      exact n_iret (pc := 45) dX7_mostWithOneReading_45 rfl (Nat.le_refl _) (Nat.le_refl _) h
    · replace h := h.2 c
      refine r_iload_n (pc := 22) (x := y2) dX7_mostWithOneReading_22 rfl ?_
      refine r_aload_n (pc := 23) (x := a0) dX7_mostWithOneReading_23 rfl ?_
      refine n_getR (pc := 24) (j := 7) (q := (a0 + 49)) dX7_mostWithOneReading_24 fl_RX7_36 (lt_So ha0) (sh_So ha0) rfl rfl (rf_So_7 ha0) ?_
      refine r_iload_n (pc := 27) (x := x1) dX7_mostWithOneReading_27 rfl ?_
      refine r_bipush (pc := 28) (v := 6) dX7_mostWithOneReading_28 (by decide) ?_
      refine r_imul (pc := 30) dX7_mostWithOneReading_30 ?_
      refine r_iload_n (pc := 31) (x := y3) dX7_mostWithOneReading_31 rfl ?_
      refine r_iadd (pc := 32) dX7_mostWithOneReading_32 ?_
      obtain ⟨b1, h⟩ := h
      refine n_iald (pc := 33) (j := (ix ((x1 * 6) + y3))) dX7_mostWithOneReading_33 (lt_So_49 ha0) (sh_So_49 ha0) b1 rfl ?_
      refine n_max (pc := 34) dX7_mostWithOneReading_34 lk_RX7_107 ⟨Nat.le_of_ble_eq_true rfl, Nat.le_of_ble_eq_true rfl⟩ ⟨Nat.zero_le _, Nat.zero_le _⟩ ?_
      refine r_istore_n (pc := 37) (L' := [some (.ref a0), some (.int x1), some (.int (jmax y2 (gi s (a0 + 49) (ix ((x1 * 6) + y3))))), some (.int y3)]) dX7_mostWithOneReading_37 rfl (by decide) rfl ?_
      refine n_iinc (pc := 38) (x := y3) (w := 1) (L' := [some (.ref a0), some (.int x1), some (.int (jmax y2 (gi s (a0 + 49) (ix ((x1 * 6) + y3))))), some (.int (y3 + 1))]) dX7_mostWithOneReading_38 rfl (by decide) rfl (by decide) rfl ?_
      refine r_goto (pc := 41) (tgt := 16) dX7_mostWithOneReading_41 (by decide) ?_
      refine n_L (L' := [some (.ref a0), some (.int x1), some (.int (jmax y2 (gi s (a0 + 49) (ix ((x1 * 6) + y3))))), some (.int (y3 + 1))]) (le_s (le_s (le_s (le_s (le_e))))) ?_
      exact ih _ _ _ h
def wpX7_mostWithOneReading (a0 : Nat) (x1 : Int32) (s : gS) (Q : Int32 → gS → Prop) : Prop := (x1 < 0 → Q 0 s) ∧ (¬ (x1 < 0) → (x1 < 6 → ∃ n16, wX7_mostWithOneReading_16 a0 x1 Q n16 0 0 s) ∧ (¬ (x1 < 6) → Q 0 s))
set_option maxRecDepth 20000 in
theorem spX7_mostWithOneReading {l : Launch} {a0 : Nat} {x1 : Int32} (ha0 : isSo a0) {s : gS} {Q : Int32 → gS → Prop} (h : wpX7_mostWithOneReading a0 x1 s Q) : Ct l mX7_mostWithOneReading 2 0 0 [.ref a0, .int x1] (nrm s) (q_i Q) := by
  refine Ct.of (by decide) (Nat.le_of_ble_eq_true rfl) (fun X => ?_)
  refine n_L (L' := [some (.ref a0), some (.int x1), none, none]) (le_s (le_s (le_p (le_p (le_e))))) ?_
  refine r_iload_n (pc := 0) (x := x1) dX7_mostWithOneReading_0 rfl ?_
  refine r_if_lt (pc := 1) (tgt := 10) dX7_mostWithOneReading_1 (by decide) (fun c => ?_) (fun c => ?_)
  · replace h := h.1 c
    refine r_iconst (pc := 10) (v := 0) dX7_mostWithOneReading_10 (by decide) ?_
    exact n_iret (pc := 11) dX7_mostWithOneReading_11 rfl (Nat.le_refl _) (Nat.le_refl _) h
  · replace h := h.2 c
    refine r_iload_n (pc := 4) (x := x1) dX7_mostWithOneReading_4 rfl ?_
    refine r_bipush (pc := 5) (v := 6) dX7_mostWithOneReading_5 (by decide) ?_
    refine r_icmp_lt (pc := 7) (tgt := 12) dX7_mostWithOneReading_7 (by decide) (fun c => ?_) (fun c => ?_)
    · replace h := h.1 c
      refine r_iconst (pc := 12) (v := 0) dX7_mostWithOneReading_12 (by decide) ?_
      refine r_istore_n (pc := 13) (L' := [some (.ref a0), some (.int x1), some (.int 0), none]) dX7_mostWithOneReading_13 rfl (by decide) rfl ?_
      refine r_iconst (pc := 14) (v := 0) dX7_mostWithOneReading_14 (by decide) ?_
      refine r_istore_n (pc := 15) (L' := [some (.ref a0), some (.int x1), some (.int 0), some (.int 0)]) dX7_mostWithOneReading_15 rfl (by decide) rfl ?_
      refine n_L (L' := [some (.ref a0), some (.int x1), some (.int 0), some (.int 0)]) (le_s (le_s (le_s (le_s (le_e))))) ?_
      obtain ⟨n, h⟩ := h
      exact pX7_mostWithOneReading_16 ha0 n _ _ _ h 
    · replace h := h.2 c
      refine r_iconst (pc := 10) (v := 0) dX7_mostWithOneReading_10 (by decide) ?_
      exact n_iret (pc := 11) dX7_mostWithOneReading_11 rfl (Nat.le_refl _) (Nat.le_refl _) h
def wX8_keepOnlyLeft_18 (a0 : Nat) (a1 : Nat) (Q : Int32 → gS → Prop)  : Nat → Int32 → Int32 → gS → Prop
  | 0, _, _, _ => False
  | n + 1, y2, y3, s => (6 ≤ y3 → (¬ y2 = 0 → Q y2 s) ∧ (y2 = 0 → Q (-2) s)) ∧ (¬ (6 ≤ y3) → wpX7_leftBits a1 y3 s (fun r1 s1 => vp_in (20 + y3) 170 ∧ (wpJ6_bitCount_0f7a4 ((gi s1 (a0 + 1) (ix (20 + y3))) &&& (r1 ^^^ (-1))) s1 (fun r3 s3 => vp_in (20 + y3) 170 ∧ (vp_in (20 + y3) 170 ∧ (wX8_keepOnlyLeft_18 a0 a1 Q n (y2 + r3) (y3 + 1) (wi s3 (a0 + 1) (ix (20 + y3)) ((gi s3 (a0 + 1) (ix (20 + y3))) &&& r1))))))))
set_option maxRecDepth 20000 in
theorem pX8_keepOnlyLeft_18 {l : Launch} {X : gX} {a0 : Nat} {a1 : Nat} (ha0 : isSt a0) (ha1 : isSo a1) {Q : Int32 → gS → Prop}  : ∀ (n : Nat) (y2 : Int32) (y3 : Int32) (s : gS) (h : wX8_keepOnlyLeft_18 a0 a1 Q n y2 y3 s) , Gw l mX8_keepOnlyLeft (g_rm 2 0 0) X 18 [some (.ref a0), some (.ref a1), some (.int y2), some (.int y3), none] [] (nrm s) 0 0 (g_Z X (q_i Q) 0 0) := by
  intro n
  induction n with
  | zero => intro y2 y3 s h; exact h.elim
  | succ n ih0 =>
    intro y2 y3 s h 
    have ih : ∀ (y2 : Int32) (y3 : Int32) (s : gS), wX8_keepOnlyLeft_18 a0 a1 Q n y2 y3 s → Gw l mX8_keepOnlyLeft (g_rm 2 0 0) X 18 [some (.ref a0), some (.ref a1), some (.int y2), some (.int y3), none] [] (nrm s) 0 0 (g_Z X (q_i Q) 0 0) := fun y2 y3 s h => ih0 y2 y3 s h 
    refine r_iload_n (pc := 18) (x := y3) dX8_keepOnlyLeft_18 rfl ?_
    refine r_bipush (pc := 19) (v := 6) dX8_keepOnlyLeft_19 (by decide) ?_
    refine r_icmp_ge (pc := 21) (tgt := 71) dX8_keepOnlyLeft_21 (by decide) (fun c => ?_) (fun c => ?_)
    · replace h := h.1 c
      refine r_iload_n (pc := 71) (x := y2) dX8_keepOnlyLeft_71 rfl ?_
      refine r_if_ne (pc := 72) (tgt := 80) dX8_keepOnlyLeft_72 (by decide) (fun c => ?_) (fun c => ?_)
      · replace h := h.1 c
        refine r_iload_n (pc := 80) (x := y2) dX8_keepOnlyLeft_80 rfl ?_
        exact n_iret (pc := 81) dX8_keepOnlyLeft_81 rfl (Nat.le_refl _) (Nat.le_refl _) h
      · replace h := h.2 c
        refine r_bipush (pc := 75) (v := (-2)) dX8_keepOnlyLeft_75 (by decide) ?_
        refine r_goto (pc := 77) (tgt := 81) dX8_keepOnlyLeft_77 (by decide) ?_
        exact n_iret (pc := 81) dX8_keepOnlyLeft_81 rfl (Nat.le_refl _) (Nat.le_refl _) h
    · replace h := h.2 c
      refine r_aload_n (pc := 24) (x := a1) dX8_keepOnlyLeft_24 rfl ?_
      refine r_iload_n (pc := 25) (x := y3) dX8_keepOnlyLeft_25 rfl ?_
      refine n_Vi0 (pc := 26) (S0 := []) (spX7_leftBits ha1 h) gmX7_leftBits selX7_leftBits lk_RX8_83 dX8_keepOnlyLeft_26 rfl (lt_So ha1) (sh_So ha1) ⟨rfl, by decide⟩ rfl ⟨Nat.le_of_ble_eq_true rfl, Nat.le_of_ble_eq_true rfl⟩ (Nat.le_of_ble_eq_true rfl) ⟨Nat.zero_le _, Nat.zero_le _⟩ (fun r1 s1 h => ?_)
      refine r_istore (pc := 29) (L' := [some (.ref a0), some (.ref a1), some (.int y2), some (.int y3), some (.int r1)]) dX8_keepOnlyLeft_29 rfl (by decide) rfl ?_
      refine r_iload_n (pc := 31) (x := y2) dX8_keepOnlyLeft_31 rfl ?_
      refine r_aload_n (pc := 32) (x := a0) dX8_keepOnlyLeft_32 rfl ?_
      refine n_getR (pc := 33) (j := 0) (q := (a0 + 1)) dX8_keepOnlyLeft_33 fl_RX8_11 (lt_St ha0) (sh_St ha0) rfl rfl (rf_St_0 ha0) ?_
      refine r_bipush (pc := 36) (v := 20) dX8_keepOnlyLeft_36 (by decide) ?_
      refine r_iload_n (pc := 38) (x := y3) dX8_keepOnlyLeft_38 rfl ?_
      refine r_iadd (pc := 39) dX8_keepOnlyLeft_39 ?_
      obtain ⟨b2, h⟩ := h
      refine n_iald (pc := 40) (j := (ix (20 + y3))) dX8_keepOnlyLeft_40 (lt_St_1 ha0) (sh_St_1 ha0) b2 rfl ?_
      refine r_iload (pc := 41) (x := r1) dX8_keepOnlyLeft_41 rfl ?_
      refine r_iconst (pc := 43) (v := (-1)) dX8_keepOnlyLeft_43 (by decide) ?_
      refine r_ixor (pc := 44) dX8_keepOnlyLeft_44 ?_
      refine r_iand (pc := 45) dX8_keepOnlyLeft_45 ?_
      refine n_Si0 (pc := 46) (S0 := [.int y2]) (spJ6_bitCount_0f7a4 h) gmJ6_bitCount_0f7a4 lk_RX8_32 dX8_keepOnlyLeft_46 rfl rfl ⟨Nat.le_of_ble_eq_true rfl, Nat.le_of_ble_eq_true rfl⟩ (Nat.le_of_ble_eq_true rfl) ⟨Nat.zero_le _, Nat.zero_le _⟩ (fun r3 s3 h => ?_)
      refine r_iadd (pc := 49) dX8_keepOnlyLeft_49 ?_
      refine r_istore_n (pc := 50) (L' := [some (.ref a0), some (.ref a1), some (.int (y2 + r3)), some (.int y3), some (.int r1)]) dX8_keepOnlyLeft_50 rfl (by decide) rfl ?_
      refine r_aload_n (pc := 51) (x := a0) dX8_keepOnlyLeft_51 rfl ?_
      refine n_getR (pc := 52) (j := 0) (q := (a0 + 1)) dX8_keepOnlyLeft_52 fl_RX8_11 (lt_St ha0) (sh_St ha0) rfl rfl (rf_St_0 ha0) ?_
      refine r_bipush (pc := 55) (v := 20) dX8_keepOnlyLeft_55 (by decide) ?_
      refine r_iload_n (pc := 57) (x := y3) dX8_keepOnlyLeft_57 rfl ?_
      refine r_iadd (pc := 58) dX8_keepOnlyLeft_58 ?_
      refine r_dup2 (pc := 59) dX8_keepOnlyLeft_59 rfl rfl ?_
      obtain ⟨b4, h⟩ := h
      refine n_iald (pc := 60) (j := (ix (20 + y3))) dX8_keepOnlyLeft_60 (lt_St_1 ha0) (sh_St_1 ha0) b4 rfl ?_
      refine r_iload (pc := 61) (x := r1) dX8_keepOnlyLeft_61 rfl ?_
      refine r_iand (pc := 63) dX8_keepOnlyLeft_63 ?_
      obtain ⟨b5, h⟩ := h
      refine n_iast (pc := 64) (j := (ix (20 + y3))) dX8_keepOnlyLeft_64 (lt_St_1 ha0) (sh_St_1 ha0) b5 rfl ?_
      refine n_iinc (pc := 65) (x := y3) (w := 1) (L' := [some (.ref a0), some (.ref a1), some (.int (y2 + r3)), some (.int (y3 + 1)), some (.int r1)]) dX8_keepOnlyLeft_65 rfl (by decide) rfl (by decide) rfl ?_
      refine r_goto (pc := 68) (tgt := 18) dX8_keepOnlyLeft_68 (by decide) ?_
      refine n_L (L' := [some (.ref a0), some (.ref a1), some (.int (y2 + r3)), some (.int (y3 + 1)), none]) (le_s (le_s (le_s (le_s (le_n (le_e)))))) ?_
      exact ih _ _ _ h
def wpX8_keepOnlyLeft (a0 : Nat) (a1 : Nat) (s : gS) (Q : Int32 → gS → Prop) : Prop := (¬ (gi s a1 8) = 0 → ∃ n18, wX8_keepOnlyLeft_18 a0 a1 Q n18 0 0 s) ∧ ((gi s a1 8) = 0 → Q (-3) s)
set_option maxRecDepth 20000 in
theorem spX8_keepOnlyLeft {l : Launch} {a0 : Nat} {a1 : Nat} (ha0 : isSt a0) (ha1 : isSo a1) {s : gS} {Q : Int32 → gS → Prop} (h : wpX8_keepOnlyLeft a0 a1 s Q) : Ct l mX8_keepOnlyLeft 2 0 0 [.ref a0, .ref a1] (nrm s) (q_i Q) := by
  refine Ct.of (by decide) (Nat.le_of_ble_eq_true rfl) (fun X => ?_)
  refine n_L (L' := [some (.ref a0), some (.ref a1), none, none, none]) (le_s (le_s (le_p (le_p (le_p (le_e)))))) ?_
  refine r_aload_n (pc := 0) (x := a1) dX8_keepOnlyLeft_0 rfl ?_
  refine r_ifnull (pc := 1) dX8_keepOnlyLeft_1 ?_
  refine r_aload_n (pc := 4) (x := a1) dX8_keepOnlyLeft_4 rfl ?_
  refine n_getI (pc := 5) (j := 8) dX8_keepOnlyLeft_5 fl_RX8_78 (lt_So ha1) (sh_So ha1) rfl rfl ?_
  refine r_if_ne (pc := 8) (tgt := 14) dX8_keepOnlyLeft_8 (by decide) (fun c => ?_) (fun c => ?_)
  · replace h := h.1 c
    refine r_iconst (pc := 14) (v := 0) dX8_keepOnlyLeft_14 (by decide) ?_
    refine r_istore_n (pc := 15) (L' := [some (.ref a0), some (.ref a1), some (.int 0), none, none]) dX8_keepOnlyLeft_15 rfl (by decide) rfl ?_
    refine r_iconst (pc := 16) (v := 0) dX8_keepOnlyLeft_16 (by decide) ?_
    refine r_istore_n (pc := 17) (L' := [some (.ref a0), some (.ref a1), some (.int 0), some (.int 0), none]) dX8_keepOnlyLeft_17 rfl (by decide) rfl ?_
    refine n_L (L' := [some (.ref a0), some (.ref a1), some (.int 0), some (.int 0), none]) (le_s (le_s (le_s (le_s (le_n (le_e)))))) ?_
    obtain ⟨n, h⟩ := h
    exact pX8_keepOnlyLeft_18 ha0 ha1 n _ _ _ h 
  · replace h := h.2 c
    refine r_bipush (pc := 11) (v := (-3)) dX8_keepOnlyLeft_11 (by decide) ?_
    exact n_iret (pc := 13) dX8_keepOnlyLeft_13 rfl (Nat.le_refl _) (Nat.le_refl _) h
