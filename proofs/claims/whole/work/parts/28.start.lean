/-! THE LAW'S START: new ProseDates, new ProseDatesModel, new long[1] -/
def g_rb (M : gMem) : Prop := ∀ a j, 40 ≤ j → M.2.2.1 a j = none
theorem g_rb_nw {M : gMem} {kd len : Nat} (h : g_rb M) : g_rb (g_nw M kd len) := by
  intro a j hj
  by_cases e : a = M.1
  · simp [g_nw, e]
  · simp [g_nw, e, h a j hj]
theorem g_rb_si {M : gMem} {a i : Nat} {v : Int32} (h : g_rb M) : g_rb (g_si M a i v) := h
theorem g_rb_sr {M : gMem} {a i : Nat} {v : Option Nat} (h : g_rb M) (hi : i < 40) : g_rb (g_sr M a i v) := by
  intro x j hj
  show g_up M.2.2.1 a i v x j = none
  rw [g_up_e, if_neg (fun q => by omega)]
  exact h x j hj
theorem g_rb_gr {M : gMem} {N K : Nat} (h : g_rb M) (hN : N ≤ 40) : g_rb (g_gr M N K) := by
  intro a j hj
  by_cases e : a = M.1
  · simp [g_gr, e]
    omega
  · by_cases e2 : M.1 < a
    · simp [g_gr, e, e2]
    · simp [g_gr, e, e2, h a j hj]
theorem rb0 : g_rb Mk0 := fun _ _ _ => rfl
theorem rb1 : g_rb Mk1 := g_rb_nw rb0
theorem rb2 : g_rb Mk2 := g_rb_nw rb1
theorem rb3 : g_rb Mk3 := g_rb_nw rb2
theorem rb4 : g_rb Mk4 := g_rb_sr rb3 (by decide)
theorem rb5 : g_rb Mk5 := g_rb_si rb4
theorem rb6 : g_rb Mk6 := g_rb_sr rb5 (by decide)
theorem rb7 : g_rb Mk7 := g_rb_nw rb6
theorem rb8 : g_rb Mk8 := g_rb_nw rb7
theorem rb9 : g_rb Mk9 := g_rb_nw rb8
theorem rb10 : g_rb Mk10 := g_rb_sr rb9 (by decide)
theorem rb11 : g_rb Mk11 := g_rb_nw rb10
theorem rb12 : g_rb Mk12 := g_rb_sr rb11 (by decide)
theorem rb13 : g_rb Mk13 := g_rb_si rb12
theorem rb14 : g_rb Mk14 := g_rb_si rb13
theorem rb15 : g_rb Mk15 := g_rb_si rb14
theorem rb16 : g_rb Mk16 := g_rb_sr rb15 (by decide)
theorem rb17 : g_rb Mk17 := g_rb_nw rb16
theorem rb18 : g_rb Mk18 := g_rb_sr rb17 (by decide)
theorem rb19 : g_rb Mk19 := g_rb_si rb18
theorem rb20 : g_rb Mk20 := g_rb_nw rb19
theorem rb21 : g_rb Mk21 := g_rb_sr rb20 (by decide)
theorem rb22 : g_rb Mk22 := g_rb_si rb21
theorem rb23 : g_rb Mk23 := g_rb_sr rb22 (by decide)
theorem rb24 : g_rb Mk24 := g_rb_nw rb23
theorem rb25 : g_rb Mk25 := g_rb_nw rb24
theorem rb26 : g_rb Mk26 := g_rb_nw rb25
theorem rb27 : g_rb Mk27 := g_rb_sr rb26 (by decide)
theorem rb28 : g_rb Mk28 := g_rb_si rb27
theorem rb29 : g_rb Mk29 := g_rb_si rb28
theorem rb30 : g_rb Mk30 := g_rb_sr rb29 (by decide)
theorem rb31 : g_rb Mk31 := g_rb_nw rb30
theorem rb32 : g_rb Mk32 := g_rb_nw rb31
theorem rb33 : g_rb Mk33 := g_rb_sr rb32 (by decide)
theorem rb34 : g_rb Mk34 := g_rb_si rb33
theorem rb35 : g_rb Mk35 := g_rb_si rb34
theorem rb36 : g_rb Mk36 := g_rb_sr rb35 (by decide)
theorem rb37 : g_rb Mk37 := g_rb_nw rb36
theorem rb38 : g_rb Mk38 := g_rb_nw rb37
theorem rb39 : g_rb Mk39 := g_rb_sr rb38 (by decide)
theorem rb40 : g_rb Mk40 := g_rb_si rb39
theorem rb41 : g_rb Mk41 := g_rb_si rb40
theorem rb42 : g_rb Mk42 := g_rb_sr rb41 (by decide)
theorem rb43 : g_rb Mk43 := g_rb_nw rb42
theorem rb44 : g_rb Mk44 := g_rb_nw rb43
theorem rb45 : g_rb Mk45 := g_rb_sr rb44 (by decide)
theorem rb46 : g_rb Mk46 := g_rb_si rb45
theorem rb47 : g_rb Mk47 := g_rb_si rb46
theorem rb48 : g_rb Mk48 := g_rb_sr rb47 (by decide)
theorem rb49 : g_rb Mk49 := g_rb_sr rb48 (by decide)
theorem rb50 : g_rb Mk50 := g_rb_nw rb49
theorem rb51 : g_rb Mk51 := g_rb_nw rb50
theorem rb52 : g_rb Mk52 := g_rb_sr rb51 (by decide)
theorem rb53 : g_rb Mk53 := g_rb_si rb52
theorem rb54 : g_rb Mk54 := g_rb_sr rb53 (by decide)
theorem rb55 : g_rb Mk55 := g_rb_nw rb54
theorem rb56 : g_rb Mk56 := g_rb_nw rb55
theorem rb57 : g_rb Mk57 := g_rb_sr rb56 (by decide)
theorem rb58 : g_rb Mk58 := g_rb_si rb57
theorem rb59 : g_rb Mk59 := g_rb_sr rb58 (by decide)
theorem rb60 : g_rb Mk60 := g_rb_nw rb59
theorem rb61 : g_rb Mk61 := g_rb_nw rb60
theorem rb62 : g_rb Mk62 := g_rb_sr rb61 (by decide)
theorem rb63 : g_rb Mk63 := g_rb_si rb62
theorem rb64 : g_rb Mk64 := g_rb_sr rb63 (by decide)
theorem rb65 : g_rb Mk65 := g_rb_nw rb64
theorem rb66 : g_rb Mk66 := g_rb_sr rb65 (by decide)
theorem rb67 : g_rb Mk67 := g_rb_nw rb66
theorem rb68 : g_rb Mk68 := g_rb_gr rb67 (by decide)
theorem rb69 : g_rb Mk69 := g_rb_sr rb68 (by decide)
theorem rb70 : g_rb Mk70 := g_rb_si rb69
theorem rb71 : g_rb Mk71 := g_rb_si rb70
theorem rb72 : g_rb Mk72 := g_rb_sr rb71 (by decide)
theorem rb73 : g_rb Mk73 := g_rb_gr rb72 (by decide)
theorem rb74 : g_rb Mk74 := g_rb_sr rb73 (by decide)
theorem rb75 : g_rb Mk75 := g_rb_si rb74
theorem rb76 : g_rb Mk76 := g_rb_nw rb75
theorem rb77 : g_rb Mk77 := g_rb_nw rb76
theorem rb78 : g_rb Mk78 := g_rb_sr rb77 (by decide)
theorem rb79 : g_rb Mk79 := g_rb_si rb78
theorem rb80 : g_rb Mk80 := g_rb_nw rb79
theorem rb81 : g_rb Mk81 := g_rb_sr rb80 (by decide)
theorem rb82 : g_rb Mk82 := g_rb_gr rb81 (by decide)
theorem rb83 : g_rb Mk83 := g_rb_sr rb82 (by decide)
theorem rb84 : g_rb Mk84 := g_rb_gr rb83 (by decide)
theorem rb85 : g_rb Mk85 := g_rb_sr rb84 (by decide)
theorem rb86 : g_rb Mk86 := g_rb_nw rb85
theorem rb87 : g_rb Mk87 := g_rb_sr rb86 (by decide)
theorem rb88 : g_rb Mk88 := g_rb_nw rb87
theorem rb89 : g_rb Mk89 := g_rb_sr rb88 (by decide)
theorem rb90 : g_rb Mk90 := g_rb_nw rb89
theorem rb91 : g_rb Mk91 := g_rb_sr rb90 (by decide)
theorem rb92 : g_rb Mk92 := g_rb_si rb91
theorem rb93 : g_rb Mk93 := g_rb_si rb92
theorem rb94 : g_rb Mk94 := g_rb_sr rb93 (by decide)
theorem rb95 : g_rb Mk95 := g_rb_nw rb94
theorem rb96 : g_rb Mk96 := g_rb_nw rb95
theorem rb97 : g_rb Mk97 := g_rb_sr rb96 (by decide)
theorem rb98 : g_rb Mk98 := g_rb_si rb97
theorem rb99 : g_rb Mk99 := g_rb_nw rb98
theorem rb100 : g_rb Mk100 := g_rb_sr rb99 (by decide)
theorem rb101 : g_rb Mk101 := g_rb_gr rb100 (by decide)
theorem rb102 : g_rb Mk102 := g_rb_sr rb101 (by decide)
theorem rb103 : g_rb Mk103 := g_rb_gr rb102 (by decide)
theorem rb104 : g_rb Mk104 := g_rb_sr rb103 (by decide)
theorem rb105 : g_rb Mk105 := g_rb_nw rb104
theorem rb106 : g_rb Mk106 := g_rb_sr rb105 (by decide)
theorem rb107 : g_rb Mk107 := g_rb_nw rb106
theorem rb108 : g_rb Mk108 := g_rb_sr rb107 (by decide)
theorem rb109 : g_rb Mk109 := g_rb_nw rb108
theorem rb110 : g_rb Mk110 := g_rb_sr rb109 (by decide)
theorem rb111 : g_rb Mk111 := g_rb_si rb110
theorem rb112 : g_rb Mk112 := g_rb_si rb111
theorem rb113 : g_rb Mk113 := g_rb_sr rb112 (by decide)
theorem rb114 : g_rb Mk114 := g_rb_nw rb113
theorem rb115 : g_rb Mk115 := g_rb_gr rb114 (by decide)
theorem rb116 : g_rb Mk116 := g_rb_sr rb115 (by decide)
theorem rb117 : g_rb Mk117 := g_rb_nw rb116
theorem rb118 : g_rb Mk118 := g_rb_sr rb117 (by decide)
theorem rb119 : g_rb Mk119 := g_rb_si rb118
theorem rb120 : g_rb Mk120 := g_rb_si rb119
theorem rb121 : g_rb Mk121 := g_rb_sr rb120 (by decide)
theorem rb122 : g_rb Mk122 := g_rb_si rb121
theorem rb123 : g_rb Mk123 := g_rb_nw rb122
theorem rb124 : g_rb Mk124 := g_rb_nw rb123
theorem rb125 : g_rb Mk125 := g_rb_sr rb124 (by decide)
theorem rb126 : g_rb Mk126 := g_rb_nw rb125
theorem rb127 : g_rb Mk127 := g_rb_sr rb126 (by decide)
theorem rb128 : g_rb Mk128 := g_rb_nw rb127
theorem rb129 : g_rb Mk129 := g_rb_sr rb128 (by decide)
theorem rb130 : g_rb Mk130 := g_rb_nw rb129
theorem rb131 : g_rb Mk131 := g_rb_sr rb130 (by decide)
theorem rb132 : g_rb Mk132 := g_rb_nw rb131
theorem rb133 : g_rb Mk133 := g_rb_sr rb132 (by decide)
theorem rb134 : g_rb Mk134 := g_rb_nw rb133
theorem rb135 : g_rb Mk135 := g_rb_sr rb134 (by decide)
theorem rb136 : g_rb Mk136 := g_rb_nw rb135
theorem rb137 : g_rb Mk137 := g_rb_sr rb136 (by decide)
theorem rb138 : g_rb Mk138 := g_rb_nw rb137
theorem rb139 : g_rb Mk139 := g_rb_sr rb138 (by decide)
theorem rb140 : g_rb Mk140 := g_rb_nw rb139
theorem rb141 : g_rb Mk141 := g_rb_sr rb140 (by decide)
theorem rb142 : g_rb Mk142 := g_rb_nw rb141
theorem rb143 : g_rb Mk143 := g_rb_sr rb142 (by decide)
theorem rb144 : g_rb Mk144 := g_rb_nw rb143
theorem rb145 : g_rb Mk145 := g_rb_sr rb144 (by decide)
theorem rb146 : g_rb Mk146 := g_rb_nw rb145
theorem rb147 : g_rb Mk147 := g_rb_sr rb146 (by decide)
theorem rb148 : g_rb Mk148 := g_rb_nw rb147
theorem rb149 : g_rb Mk149 := g_rb_sr rb148 (by decide)
theorem rb150 : g_rb Mk150 := g_rb_nw rb149
theorem rb151 : g_rb Mk151 := g_rb_sr rb150 (by decide)
theorem rb152 : g_rb Mk152 := g_rb_si rb151
theorem rb153 : g_rb Mk153 := g_rb_si rb152
theorem rb154 : g_rb Mk154 := g_rb_si rb153
theorem rb155 : g_rb Mk155 := g_rb_si rb154
theorem rb156 : g_rb Mk156 := g_rb_si rb155
theorem rb157 : g_rb Mk157 := g_rb_si rb156
theorem rb158 : g_rb Mk158 := g_rb_si rb157
theorem rb159 : g_rb Mk159 := g_rb_nw rb158
def s0 : gS := (Mk159.2.2.2.1, Mk159.2.2.2.2, (12, 14, 16))
theorem sh_fin : ∀ a, a < 193 → Mk159.2.1 a = shpS a := by decide +kernel
def g_need (a : Nat) : Nat := if (shpS a).1 < 100 then (shpS a).2 else if (shpS a).1 = 104 then 40 else 0
theorem rf_fin : ∀ a, a < 193 → ∀ j, j < g_need a → Mk159.2.2.1 a j = mrS (12, 14, 16) a j := by decide +kernel
theorem ou_fin : ∀ a, a < 193 → (shpS a).1 = 104 → g_rfT.lookup a = none ∧ g_out a ≤ 40 ∧ a ≠ 9 := by decide +kernel
theorem cnt_fin : Mk159.1 = 193 := by decide +kernel
theorem cell_fin (cA : Nat → ClassId) (ad : Nat → Nat) (a : Nat) (ha : a < 193) : g_cell cA ad Mk159 a = g_cell cA ad (nrm s0) a := by
  have e1 : Mk159.2.1 a = (nrm s0).2.1 a := sh_fin a ha
  have e2 : Mk159.2.2.2.1 = (nrm s0).2.2.2.1 := rfl
  have e3 : Mk159.2.2.2.2 = (nrm s0).2.2.2.2 := rfl
  have hr := rf_fin a ha
  have ho := ou_fin a ha
  have hb : ∀ j, 40 ≤ j → Mk159.2.2.1 a j = none := rb159 a
  obtain ⟨M, hM⟩ : ∃ M, M = Mk159 := ⟨_, rfl⟩
  rw [← hM] at e1 e2 e3 hr hb ⊢
  obtain ⟨k, n⟩ : ∃ kn, kn = shpS a := ⟨_, rfl⟩
  have e0 : (nrm s0).2.1 a = shpS a := rfl
  by_cases h1 : (shpS a).1 < 100
  · rw [g_cell_o (M := M) (k := (shpS a).1) (n := (shpS a).2) (by rw [e1, e0]) h1, g_cell_o (M := nrm s0) (k := (shpS a).1) (n := (shpS a).2) e0 h1]
    congr 2
    apply List.map_congr_left
    intro j hj
    have hj := List.mem_range.mp hj
    have := hr j (by simp [g_need, h1]; exact hj)
    show g_fv ad M a _ j = g_fv ad (nrm s0) a _ j
    unfold g_fv
    rw [this, e2]
    rfl
  · by_cases h2 : (shpS a).1 = 104
    · rw [g_cell_q (M := M) (n := (shpS a).2) (by rw [e1, e0, ← h2]), g_cell_q (M := nrm s0) (n := (shpS a).2) (by rw [e0, ← h2])]
      congr 7
      funext j
      have : M.2.2.1 a j = mrS (12, 14, 16) a j := by
        by_cases h3 : j < 40
        · exact hr j (by simp [g_need, h2]; exact h3)
        · rw [hb j (by omega)]
          obtain ⟨o1, o2, o3⟩ := ho h2
          unfold mrS
          rw [if_neg o3, if_neg (by omega)]
          simp [g_rf, o1]
      rw [this]
      rfl
    · unfold g_cell
      rw [e1, e2, e3]
      rw [e0]
      simp only [if_neg h1, if_neg h2]
theorem ws_fin (cA : Nat → ClassId) (ad : Nat → Nat) : g_ws cA ad Mk159 = g_ws cA ad (nrm s0) := by
  unfold g_ws
  rw [cnt_fin]
  apply List.map_congr_left
  intro a ha
  rw [cell_fin cA ad a (List.mem_range.mp ha)]
theorem r_ws {l : Launch} {mt : gMt} {R : Room} {X : gX} {pc : Nat} {L : List (Option Value)} {S : List Value} {M M' : gMem} {k n : Nat} {Z : State → Prop} (he : g_ws (g_cA X) (g_ad X) M = g_ws (g_cA X) (g_ad X) M') (kk : Gw l mt R X pc L S M' k n Z) : Gw l mt R X pc L S M k n Z := by
  intro ok H locs ls hl hP hD hS
  have hP' : va_P (g_D X) g_cl (g_w X M') H := by show va_P _ _ (g_ws _ _ M') H; rw [← he]; exact hP
  have hD' : va_D (g_A X) (g_w X M') := by show va_D _ (g_ws _ _ M'); rw [← he]; exact hD
  exact kk ok H locs ls hl hP' hD' hS
set_option maxRecDepth 20000 in
set_option maxHeartbeats 4000000 in
theorem pL_law_0 {l : Launch} {X : gX} {Z : State → Prop} {Ln : Nat} {xs : Nat → Int32} (hst : l.stackTraces = false) (hsc : (g_E X).2.2.2.2.2.1 = Ln ∧ (g_E X).2.2.2.2.2.2 = xs) (hret : ∀ (ad : Nat → Nat) (pc : Nat) (L : List (Option Value)) (M : gMem) (k n : Nat), decode mL_law.2.1 pc = .ok (.ireturn, 1) → k ≤ 601024 → n ≤ 7293034 → Gw l mL_law room_1 (g_xa X ad) pc L [.int 1] M k n Z) (hss : g_ssOk X) (hAO : va_AOA .int (g_s X)) (h : ∃ n, wL_law_23 Ln xs () n 300000 0 s0) : Gw l mL_law room_1 X 0 [some (.ref 950), none, none, none, none, none, none, none] [] Mk0 0 0 Z := by
  refine r_new (pc := 0) (M := Mk0) (ci := 11) (N := 14) dL_law_0 mk_RL_8 (by decide) bd0 hss (by decide) (by decide) ⟨Nat.le_of_ble_eq_true rfl, Nat.le_of_ble_eq_true rfl⟩ (fun ad1 hg1 => ?_)
  show Gw _ _ _ (g_xa X ad1) 3 [some (.ref 950), none, none, none, none, none, none, none] [.ref 0] Mk1 1 14 _
  refine r_dup (pc := 3) dL_law_3 rfl ?_
  refine r_callI (pc := 4) (M := Mk1) (S0 := [.ref 0]) (vs := []) cA1 giX11_init lk_RL_19 dL_law_4 rfl hAO (by decide +kernel) hss (by decide +kernel) (by decide +kernel) rfl ⟨Nat.le_of_ble_eq_true rfl, Nat.le_of_ble_eq_true rfl⟩ (Nat.le_of_ble_eq_true rfl) ⟨Nat.le_of_ble_eq_true rfl, Nat.le_of_ble_eq_true rfl⟩ (fun ad2 v M' hg2 hq => ?_)
  obtain ⟨rfl, rfl⟩ := hq
  show Gw _ _ _ (g_xa X ad2) 7 [some (.ref 950), none, none, none, none, none, none, none] [.ref 0] Mk122 177 5401 _
  refine r_astore_n (pc := 7) (L' := [some (.ref 950), some (.ref 0), none, none, none, none, none, none]) dL_law_7 rfl (by decide) rfl ?_
  refine r_new (pc := 8) (M := Mk122) (ci := 12) (N := 31) dL_law_8 mk_RL_20 (by decide +kernel) bd122 hss (by decide +kernel) (by decide +kernel) ⟨Nat.le_of_ble_eq_true rfl, Nat.le_of_ble_eq_true rfl⟩ (fun ad3 hg3 => ?_)
  show Gw _ _ _ (g_xa X ad3) 11 [some (.ref 950), some (.ref 0), none, none, none, none, none, none] [.ref 177] Mk123 178 5432 _
  refine r_dup (pc := 11) dL_law_11 rfl ?_
  refine r_callI (pc := 12) (M := Mk123) (S0 := [.ref 177]) (vs := []) cA17 giX12_init lk_RL_22 dL_law_12 rfl hAO (by decide +kernel) hss (by decide +kernel) (by decide +kernel) rfl ⟨Nat.le_of_ble_eq_true rfl, Nat.le_of_ble_eq_true rfl⟩ (Nat.le_of_ble_eq_true rfl) ⟨Nat.le_of_ble_eq_true rfl, Nat.le_of_ble_eq_true rfl⟩ (fun ad4 v M' hg4 hq => ?_)
  obtain ⟨rfl, rfl⟩ := hq
  show Gw _ _ _ (g_xa X ad4) 15 [some (.ref 950), some (.ref 0), none, none, none, none, none, none] [.ref 177] Mk158 192 12882 _
  refine r_astore_n (pc := 15) (L' := [some (.ref 950), some (.ref 0), some (.ref 177), none, none, none, none, none]) dL_law_15 rfl (by decide) rfl ?_
  refine r_iconst (pc := 16) (v := 1) dL_law_16 (by decide) ?_
  refine r_newa (pc := 17) (M := Mk158) (N := 1) dL_law_17 g_al (by decide) (by decide) (by decide) (by decide +kernel) bd158 hss (by decide +kernel) (by decide +kernel) ⟨Nat.le_of_ble_eq_true rfl, Nat.le_of_ble_eq_true rfl⟩ (fun ad5 hg5 => ?_)
  show Gw _ _ _ (g_xa X ad5) 19 [some (.ref 950), some (.ref 0), some (.ref 177), none, none, none, none, none] [.ref 192] Mk159 193 12883 _
  refine r_astore_n (pc := 19) (L' := [some (.ref 950), some (.ref 0), some (.ref 177), some (.ref 192), none, none, none, none]) dL_law_19 rfl (by decide) rfl ?_
  refine r_iconst (pc := 20) (v := 0) dL_law_20 (by decide) ?_
  refine r_istore (pc := 21) (L' := [some (.ref 950), some (.ref 0), some (.ref 177), some (.ref 192), some (.int 0), none, none, none]) dL_law_21 rfl (by decide) rfl ?_
  refine r_ws (ws_fin _ _) ?_
  obtain ⟨n, h⟩ := h
  exact pL_law_23 (X := g_xa X ad5) hst hsc (hret ad5) n 300000 0 s0 h 193 12883 (by decide) (by decide)
