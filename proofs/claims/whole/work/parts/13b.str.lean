/-! Strings: length() and charAt() of those that the environment knows -/
theorem kSv : Cond.fieldLink "java/lang/String" 9 "java/lang/String" "value" "[B" ∈ g_TB := g_in7 25 (by decide +kernel) rfl
theorem kSc : Cond.fieldLink "java/lang/String" 15 "java/lang/String" "coder" "B" ∈ g_TB := g_in7 26 (by decide +kernel) rfl
theorem kSp : Cond.fieldLink "java/lang/String" 38 "java/lang/String" "COMPACT_STRINGS" "Z" ∈ g_TB := g_in2 119 (by decide +kernel) rfl
theorem kSf : Cond.fieldLink "java/lang/String" 1053 "jdk/internal/util/Preconditions" "SIOOBE_FORMATTER" "Ljava/util/function/BiFunction;" ∈ g_TB := g_in2 135 (by decide +kernel) rfl
def sl (a : Nat) : Int32 := Int32.ofNat (g_sb a).length
def sch (a j : Nat) : Int32 := (((g_sb a).getD j 0 &&& 255).toUInt32 % 65536).toInt32
section STR
variable {l : Launch} {mt mt' : gMt} {R : Room} {X : gX} {pc : Nat} {L L' : List (Option Value)} {S S0 : List Value} {M : gMem} {s : gS} {k n : Nat} {Z : State → Prop} {a : Nat} {Q : Option Value → gMem → Prop}
theorem r_gval (hd : decode mt.2.1 pc = .ok (.getfield 9, 3)) (hc : mt.1.cls = "java/lang/String") (ha : a ∈ (g_E X).2.2.2.2.1) (kk : Gw l mt R X (pc + 3) L (.ref (a + 1000) :: S) M k n Z) : Gw l mt R X pc L (.ref a :: S) M k n Z := by
  intro ok H locs ls hl hP hD hS
  have hown := ok.2.2.2.1
  rw [hc] at hown
  exact vk_getf ok.1 ok.2.1 (ok.2.2.2.2.2.2.2.2.2.2.2.1 a ha).2.2.1 hS hown (ok.2.2.2.2.1 _ kSv) (fun _ h => h) hd (kk ok H locs ls hl hP hD hS)
theorem r_gcod (hd : decode mt.2.1 pc = .ok (.getfield 15, 3)) (hc : mt.1.cls = "java/lang/String") (ha : a ∈ (g_E X).2.2.2.2.1) (kk : Gw l mt R X (pc + 3) L (.int 0 :: S) M k n Z) : Gw l mt R X pc L (.ref a :: S) M k n Z := by
  intro ok H locs ls hl hP hD hS
  have hown := ok.2.2.2.1
  rw [hc] at hown
  exact vk_getf ok.1 ok.2.1 (ok.2.2.2.2.2.2.2.2.2.2.2.1 a ha).2.1 hS hown (ok.2.2.2.2.1 _ kSc) (fun _ h => h) hd (kk ok H locs ls hl hP hD hS)
theorem r_comp (hd : decode mt.2.1 pc = .ok (.getstatic 38, 3)) (hc : mt.1.cls = "java/lang/String") (kk : Gw l mt R X (pc + 3) L (.int 1 :: S) M k n Z) : Gw l mt R X pc L S M k n Z := by
  intro ok H locs ls hl hP hD hS
  have hown := ok.2.2.2.1
  rw [hc] at hown
  exact va_gets ok.1 ok.2.1 ok.2.2.2.2.2.2.2.2.2.2.2.2.1 hS hown (ok.2.2.2.2.1 _ kSp) (fun _ h => h) hd (kk ok H locs ls hl hP hD hS)
theorem r_fmt (hd : decode mt.2.1 pc = .ok (.getstatic 1053, 3)) (hc : mt.1.cls = "java/lang/String") (kk : ∀ v : Value, v = .null ∨ v = .ref 960 → Gw l mt R X (pc + 3) L (v :: S) M k n Z) : Gw l mt R X pc L S M k n Z := by
  intro ok H locs ls hl hP hD hS
  have hown := ok.2.2.2.1
  rw [hc] at hown
  rcases ok.2.2.2.2.2.2.2.2.2.2.2.2.2.2.2.2.2.2.1 with h | h
  · exact va_gets ok.1 ok.2.1 h hS hown (ok.2.2.2.2.1 _ kSf) (fun _ h => h) hd (kk .null (Or.inl rfl) ok H locs ls hl hP hD hS)
  · exact va_gets ok.1 ok.2.1 h hS hown (ok.2.2.2.2.1 _ kSf) (fun _ h => h) hd (kk (.ref 960) (Or.inr rfl) ok H locs ls hl hP hD hS)
theorem r_salen (hd : decode mt.2.1 pc = .ok (.arraylength, 1)) (ha : a ∈ (g_E X).2.2.2.2.1) (kk : Gw l mt R X (pc + 1) L (.int (sl a) :: S) M k n Z) : Gw l mt R X pc L (.ref (a + 1000) :: S) M k n Z := by
  intro ok H locs ls hl hP hD hS
  exact va_tlen ok.1 ok.2.1 (ok.2.2.2.2.2.2.2.2.2.2.2.1 a ha).2.2.2 hS rfl hd (kk ok H locs ls hl hP hD hS)
theorem r_sbald {i : Int32} (hd : decode mt.2.1 pc = .ok (.baload, 1)) (ha : a ∈ (g_E X).2.2.2.2.1) (hi : vp_in i (g_sb a).length) (kk : Gw l mt R X (pc + 1) L (.int ((g_sb a).getD (ix i) 0) :: S) M k n Z) : Gw l mt R X pc L (.int i :: .ref (a + 1000) :: S) M k n Z := by
  intro ok H locs ls hl hP hD hS
  exact va_tb ok.1 ok.2.1 (ok.2.2.2.2.2.2.2.2.2.2.2.1 a ha).2.2.2 hS hi rfl hd (kk ok H locs ls hl hP hD hS)
theorem c_coder (hQ : Q (some (.int 0)) M) : CtS l mJ0_coder_7d493 1 0 0 a [.ref a] M Q := by
  refine CtS.of (by decide) (Nat.le_of_ble_eq_true rfl) (fun X ha => ?_)
  refine n_L (L' := [some (.ref a)]) (le_s le_e) ?_
  refine r_comp (pc := 0) dJ0_coder_7d493_0 rfl ?_
  refine r_if_eq (pc := 3) (tgt := 13) dJ0_coder_7d493_3 (by decide) (fun c => absurd c (by decide)) (fun c => ?_)
  refine r_aload_n (pc := 6) (x := a) dJ0_coder_7d493_6 rfl ?_
  refine r_gcod (pc := 7) dJ0_coder_7d493_7 rfl ha ?_
  refine r_goto (pc := 10) (tgt := 14) dJ0_coder_7d493_10 (by decide) ?_
  exact r_zret (pc := 14) (ty := .byte) dJ0_coder_7d493_14 rfl rfl (Nat.le_refl _) (Nat.le_refl _) hQ
theorem c_isLat (hQ : Q (some (.int 1)) M) : CtS l mJ0_isLatin1_aae02 1 0 0 a [.ref a] M Q := by
  refine CtS.of (by decide) (Nat.le_of_ble_eq_true rfl) (fun X ha => ?_)
  refine n_L (L' := [some (.ref a)]) (le_s le_e) ?_
  refine r_comp (pc := 0) dJ0_isLatin1_aae02_0 rfl ?_
  refine r_if_eq (pc := 3) (tgt := 17) dJ0_isLatin1_aae02_3 (by decide) (fun c => absurd c (by decide)) (fun c => ?_)
  refine r_aload_n (pc := 6) (x := a) dJ0_isLatin1_aae02_6 rfl ?_
  refine r_gcod (pc := 7) dJ0_isLatin1_aae02_7 rfl ha ?_
  refine r_if_ne (pc := 10) (tgt := 17) dJ0_isLatin1_aae02_10 (by decide) (fun c => absurd rfl c) (fun c => ?_)
  refine r_iconst (pc := 13) (v := 1) dJ0_isLatin1_aae02_13 (by decide) ?_
  refine r_goto (pc := 14) (tgt := 18) dJ0_isLatin1_aae02_14 (by decide) ?_
  exact r_zret (pc := 18) (ty := .boolean) dJ0_isLatin1_aae02_18 rfl rfl (Nat.le_refl _) (Nat.le_refl _) hQ
theorem c_len (hQ : Q (some (.int (sl a))) M) : CtS l mJ0_length_8abf5 2 0 0 a [.ref a] M Q := by
  refine CtS.of (by decide) (Nat.le_of_ble_eq_true rfl) (fun X ha => ?_)
  refine n_L (L' := [some (.ref a)]) (le_s le_e) ?_
  refine r_aload_n (pc := 0) (x := a) dJ0_length_8abf5_0 rfl ?_
  refine r_gval (pc := 1) dJ0_length_8abf5_1 rfl ha ?_
  refine r_salen (pc := 4) dJ0_length_8abf5_4 ha ?_
  refine r_aload_n (pc := 5) (x := a) dJ0_length_8abf5_5 rfl ?_
  refine r_callVs (pc := 6) (S0 := [.int (sl a)]) (vs := []) (Q' := fun v M' => v = some (.int 0) ∧ M' = M) (c_coder ⟨rfl, rfl⟩ (g_E X) ha) gmJ0_coder_7d493 selJ0_coder_7d493 lk_RJ0_335 dJ0_length_8abf5_6 rfl ha rfl rfl ⟨Nat.le_of_ble_eq_true rfl, Nat.le_of_ble_eq_true rfl⟩ (Nat.le_of_ble_eq_true rfl) ⟨Nat.zero_le _, Nat.zero_le _⟩ (fun v M' h => ?_)
  obtain ⟨rfl, rfl⟩ := h
  refine r_ishr (pc := 9) dJ0_length_8abf5_9 ?_
  rw [sb_shr0]
  exact r_iret (pc := 10) dJ0_length_8abf5_10 rfl (Nat.le_refl _) (Nat.le_refl _) hQ
theorem c_pci {i m : Int32} {v : Value} (hv : v = .null ∨ v = .ref 960) (h0 : ¬ i < 0) (h1 : i < m) (hQ : Q (some (.int i)) M) : Ct l mJ3_checkIndex_8e157 1 0 0 [.int i, .int m, v] M Q := by
  rcases hv with rfl | rfl <;>
  · refine Ct.of (by decide) (Nat.le_of_ble_eq_true rfl) (fun X => ?_)
    refine n_L (L' := [some (.int i), some (.int m), none]) (le_s (le_s (le_n le_e))) ?_
    refine r_iload_n (pc := 0) (x := i) dJ3_checkIndex_8e157_0 rfl ?_
    refine r_if_lt (pc := 1) (tgt := 9) dJ3_checkIndex_8e157_1 (by decide) (fun c => absurd c h0) (fun c => ?_)
    refine r_iload_n (pc := 4) (x := i) dJ3_checkIndex_8e157_4 rfl ?_
    refine r_iload_n (pc := 5) (x := m) dJ3_checkIndex_8e157_5 rfl ?_
    refine r_icmp_lt (pc := 6) (tgt := 16) dJ3_checkIndex_8e157_6 (by decide) (fun c => ?_) (fun c => absurd h1 c)
    refine r_iload_n (pc := 16) (x := i) dJ3_checkIndex_8e157_16 rfl ?_
    exact r_iret (pc := 17) dJ3_checkIndex_8e157_17 rfl (Nat.le_refl _) (Nat.le_refl _) hQ
theorem c_sci {i m : Int32} (h0 : ¬ i < 0) (h1 : i < m) (hQ : Q none M) : Ct l mJ0_checkIndex_df160 2 0 0 [.int i, .int m] M Q := by
  refine Ct.of (by decide) (Nat.le_of_ble_eq_true rfl) (fun X => ?_)
  refine n_L (L' := [some (.int i), some (.int m)]) (le_s (le_s le_e)) ?_
  refine r_iload_n (pc := 0) (x := i) dJ0_checkIndex_df160_0 rfl ?_
  refine r_iload_n (pc := 1) (x := m) dJ0_checkIndex_df160_1 rfl ?_
  refine r_fmt (pc := 2) dJ0_checkIndex_df160_2 rfl (fun v hv => ?_)
  refine r_callS (pc := 5) (S0 := []) (vs := [.int i, .int m, v]) (Q' := fun v M' => v = some (.int i) ∧ M' = M) (c_pci hv h0 h1 ⟨rfl, rfl⟩) gmJ3_checkIndex_8e157 lk_RJ0_1059 dJ0_checkIndex_df160_5 rfl rfl ⟨Nat.le_of_ble_eq_true rfl, Nat.le_of_ble_eq_true rfl⟩ (Nat.le_of_ble_eq_true rfl) ⟨Nat.zero_le _, Nat.zero_le _⟩ (fun v M' h => ?_)
  obtain ⟨rfl, rfl⟩ := h
  refine r_pop (pc := 8) dJ0_checkIndex_df160_8 rfl ?_
  exact r_vret (pc := 9) dJ0_checkIndex_df160_9 rfl (Nat.le_refl _) (Nat.le_refl _) hQ
theorem sc_n (b : Int32) : narrow .char (.int ((b &&& 255).toUInt32 % 65536).toInt32) = .int ((b &&& 255).toUInt32 % 65536).toInt32 := pk_nc _
theorem sl_lt {i : Int32} (h : vp_in i (g_sb a).length) (hl : (g_sb a).length < 2 ^ 31) : ¬ i < 0 ∧ i < sl a := by
  obtain ⟨j, hj, rfl⟩ := vp_in_of h hl
  exact ⟨nI_pos (by omega), nI_lt hj hl⟩
theorem c_l1ch {i : Int32} (hi : vp_in i (g_sb a).length) (hl : (g_sb a).length < 2 ^ 31) (hQ : Q (some (.int (sch a (ix i)))) M) : CtS l mJ1_charAt_3b067 3 0 0 a [.ref (a + 1000), .int i] M Q := by
  refine CtS.of (by decide) (Nat.le_of_ble_eq_true rfl) (fun X ha => ?_)
  refine n_L (L' := [some (.ref (a + 1000)), some (.int i)]) (le_s (le_s le_e)) ?_
  refine r_iload_n (pc := 0) (x := i) dJ1_charAt_3b067_0 rfl ?_
  refine r_aload_n (pc := 1) (x := a + 1000) dJ1_charAt_3b067_1 rfl ?_
  refine r_salen (pc := 2) dJ1_charAt_3b067_2 ha ?_
  refine r_callS (pc := 3) (S0 := []) (vs := [.int i, .int (sl a)]) (Q' := fun v M' => v = none ∧ M' = M) (c_sci (sl_lt hi hl).1 (sl_lt hi hl).2 ⟨rfl, rfl⟩) gmJ0_checkIndex_df160 lk_RJ1_9 dJ1_charAt_3b067_3 rfl rfl ⟨Nat.le_of_ble_eq_true rfl, Nat.le_of_ble_eq_true rfl⟩ (Nat.le_of_ble_eq_true rfl) ⟨Nat.zero_le _, Nat.zero_le _⟩ (fun v M' h => ?_)
  obtain ⟨rfl, rfl⟩ := h
  refine r_aload_n (pc := 6) (x := a + 1000) dJ1_charAt_3b067_6 rfl ?_
  refine r_iload_n (pc := 7) (x := i) dJ1_charAt_3b067_7 rfl ?_
  refine r_sbald (pc := 8) dJ1_charAt_3b067_8 ha hi ?_
  refine r_sipush (pc := 9) (v := 255) dJ1_charAt_3b067_9 (by decide) ?_
  refine r_iand (pc := 12) dJ1_charAt_3b067_12 ?_
  refine r_i2c (pc := 13) dJ1_charAt_3b067_13 ?_
  exact r_zret (pc := 14) (ty := .char) dJ1_charAt_3b067_14 rfl (sc_n _) (Nat.le_refl _) (Nat.le_refl _) hQ
theorem c_char {i : Int32} (hi : vp_in i (g_sb a).length) (hl : (g_sb a).length < 2 ^ 31) (hQ : Q (some (.int (sch a (ix i)))) M) : CtS l mJ0_charAt_5068e 4 0 0 a [.ref a, .int i] M Q := by
  refine CtS.of (by decide) (Nat.le_of_ble_eq_true rfl) (fun X ha => ?_)
  refine n_L (L' := [some (.ref a), some (.int i)]) (le_s (le_s le_e)) ?_
  refine r_aload_n (pc := 0) (x := a) dJ0_charAt_5068e_0 rfl ?_
  refine r_callVs (pc := 1) (S0 := []) (vs := []) (Q' := fun v M' => v = some (.int 1) ∧ M' = M) (c_isLat ⟨rfl, rfl⟩ (g_E X) ha) gmJ0_isLatin1_aae02 selJ0_isLatin1_aae02 lk_RJ0_492 dJ0_charAt_5068e_1 rfl ha rfl rfl ⟨Nat.le_of_ble_eq_true rfl, Nat.le_of_ble_eq_true rfl⟩ (Nat.le_of_ble_eq_true rfl) ⟨Nat.zero_le _, Nat.zero_le _⟩ (fun v M' h => ?_)
  obtain ⟨rfl, rfl⟩ := h
  refine r_if_eq (pc := 4) (tgt := 16) dJ0_charAt_5068e_4 (by decide) (fun c => absurd c (by decide)) (fun c => ?_)
  refine r_aload_n (pc := 7) (x := a) dJ0_charAt_5068e_7 rfl ?_
  refine r_gval (pc := 8) dJ0_charAt_5068e_8 rfl ha ?_
  refine r_iload_n (pc := 11) (x := i) dJ0_charAt_5068e_11 rfl ?_
  refine r_callS0 (pc := 12) (S0 := []) (vs := [.ref (a + 1000), .int i]) (Q' := fun v M'' => v = some (.int (sch a (ix i))) ∧ M'' = M') (c_l1ch hi hl ⟨rfl, rfl⟩ (g_E X) ha) gmJ1_charAt_3b067 lk_RJ0_495 dJ0_charAt_5068e_12 rfl rfl ⟨Nat.le_of_ble_eq_true rfl, Nat.le_of_ble_eq_true rfl⟩ (Nat.le_of_ble_eq_true rfl) ⟨Nat.zero_le _, Nat.zero_le _⟩ (fun v M'' h => ?_)
  obtain ⟨rfl, rfl⟩ := h
  exact r_zret (pc := 15) (ty := .char) dJ0_charAt_5068e_15 rfl (sc_n _) (Nat.le_refl _) (Nat.le_refl _) hQ
theorem g_sb_lt (a : Nat) : (g_sb a).length < 2 ^ 31 := by
  have e : ∀ x ∈ g_tx, x.length < 200 := by decide +kernel
  have e2 : ∀ i : Nat, (g_tx.getD i []).length < 200 := by
    intro i
    rw [List.getD_eq_getElem?_getD]
    cases h : g_tx[i]? with
    | none => simp
    | some x => exact e x (List.mem_of_getElem? h)
  unfold g_sb
  split
  · have := e2 (a - 1000); omega
  · have h1 := e2 ((a - 3000) / 20)
    simp only [List.length_take, List.length_drop]
    omega
theorem g_known (ok : g_ok mt X) (hh : a ∈ g_cs ∨ a ∈ (g_E X).2.2.2.2.1) : a ∈ (g_E X).2.2.2.2.1 := hh.elim (fun h => ok.2.2.2.2.2.2.2.2.2.2.2.2.2.2.2.2.2.1 a h) id
theorem n_slen {idx : Nat} (hd : decode mt.2.1 pc = .ok (.invokevirtual idx, 3)) (hk : Cond.methodLink mt.1.cls idx mJ0_length_8abf5.1 ∈ g_TB) (hR : 3 ≤ R.frames ∧ 100 ≤ R.locals) (hw : (S.map fun v => v.category).sum ≤ 8) (hf : k ≤ R.cells ∧ n ≤ R.slots) (hh : a ∈ g_cs ∨ a ∈ (g_E X).2.2.2.2.1) (kk : Gw l mt R X (pc + 3) L (.int (sl a) :: S) M k n Z) : Gw l mt R X pc L (.ref a :: S) M k n Z := by
  intro ok
  have ha := g_known ok hh
  exact r_callVs (vs := []) (Q' := fun v M' => v = some (.int (sl a)) ∧ M' = M) (c_len ⟨rfl, rfl⟩ (g_E X) ha) gmJ0_length_8abf5 selJ0_length_8abf5 hk hd rfl ha rfl rfl ⟨by omega, by show 8 + (1 + 11) + 40 * 2 ≤ _; omega⟩ hw hf (fun v M' h => by obtain ⟨rfl, rfl⟩ := h; exact kk) ok
theorem n_schar {idx : Nat} {i : Int32} (hd : decode mt.2.1 pc = .ok (.invokevirtual idx, 3)) (hk : Cond.methodLink mt.1.cls idx mJ0_charAt_5068e.1 ∈ g_TB) (hR : 5 ≤ R.frames ∧ 181 ≤ R.locals) (hw : (S.map fun v => v.category).sum ≤ 8) (hf : k ≤ R.cells ∧ n ≤ R.slots) (hh : a ∈ g_cs ∨ a ∈ (g_E X).2.2.2.2.1) (hi : vp_in i (g_sb a).length) (kk : Gw l mt R X (pc + 3) L (.int (sch a (ix i)) :: S) M k n Z) : Gw l mt R X pc L (.int i :: .ref a :: S) M k n Z := by
  intro ok
  have ha := g_known ok hh
  exact r_callVs (vs := [.int i]) (Q' := fun v M' => v = some (.int (sch a (ix i))) ∧ M' = M) (c_char hi (g_sb_lt a) ⟨rfl, rfl⟩ (g_E X) ha) gmJ0_charAt_5068e selJ0_charAt_5068e hk hd rfl ha rfl rfl ⟨by omega, by show 8 + (2 + 11) + 40 * 4 ≤ _; omega⟩ hw hf (fun v M' h => by obtain ⟨rfl, rfl⟩ := h; exact kk) ok
theorem n_Vi0S {Q' : Int32 → gS → Prop} {idx na d' w a ci nf : Nat} {vs : List Value} (hC : CtS l mt' d' 0 0 w (.ref a :: vs) (nrm s) (q_i Q')) (hh : w ∈ g_cs ∨ w ∈ (g_E X).2.2.2.2.1) (hm : g_mv mt' na) (hsel : Cond.selects mt'.1.cls mt'.1 mt'.1 ∈ g_TB) (hk : Cond.methodLink mt.1.cls idx mt'.1 ∈ g_TB) (hd : decode mt.2.1 pc = .ok (.invokevirtual idx, 3)) (hn : vs.length = na) (ha : a < 193) (hs : shpS a = (ci, nf)) (hci : (g_cl[ci]?).map (fun q => q.1) = some mt'.1.cls ∧ ci < 100) (hSe : S = vs.reverse ++ .ref a :: S0) (hR : d' + 1 ≤ R.frames ∧ 8 + (mt'.2.2.1 + 11) + 40 * d' ≤ R.locals) (hw : (S0.map fun v => v.category).sum ≤ 8) (hf : k ≤ R.cells ∧ n ≤ R.slots) (kk : ∀ r s', Q' r s' → Gw l mt R X (pc + 3) L (.int r :: S0) (nrm s') k n Z) : Gw l mt R X pc L S (nrm s) k n Z := fun ok => r_callV0 (hC (g_E X) (g_known ok hh)) hm hsel hk hd hn ha hs hci hSe hR hw hf (e_i (P := fun v M => Gw l mt R X (pc + 3) L (v.toList ++ S0) M k n Z) kk) ok
theorem n_Vv0S {Q' : gS → Prop} {idx na d' w a ci nf : Nat} {vs : List Value} (hC : CtS l mt' d' 0 0 w (.ref a :: vs) (nrm s) (q_v Q')) (hh : w ∈ g_cs ∨ w ∈ (g_E X).2.2.2.2.1) (hm : g_mv mt' na) (hsel : Cond.selects mt'.1.cls mt'.1 mt'.1 ∈ g_TB) (hk : Cond.methodLink mt.1.cls idx mt'.1 ∈ g_TB) (hd : decode mt.2.1 pc = .ok (.invokevirtual idx, 3)) (hn : vs.length = na) (ha : a < 193) (hs : shpS a = (ci, nf)) (hci : (g_cl[ci]?).map (fun q => q.1) = some mt'.1.cls ∧ ci < 100) (hSe : S = vs.reverse ++ .ref a :: S0) (hR : d' + 1 ≤ R.frames ∧ 8 + (mt'.2.2.1 + 11) + 40 * d' ≤ R.locals) (hw : (S0.map fun v => v.category).sum ≤ 8) (hf : k ≤ R.cells ∧ n ≤ R.slots) (kk : ∀ s', Q' s' → Gw l mt R X (pc + 3) L S0 (nrm s') k n Z) : Gw l mt R X pc L S (nrm s) k n Z := fun ok => r_callV0 (hC (g_E X) (g_known ok hh)) hm hsel hk hd hn ha hs hci hSe hR hw hf (e_v (P := fun v M => Gw l mt R X (pc + 3) L (v.toList ++ S0) M k n Z) kk) ok
end STR
