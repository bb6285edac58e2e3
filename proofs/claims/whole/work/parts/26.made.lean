/-! what the constructors make, memory by memory -/
theorem g_tr {X : gX} {ad1 ad2 : Nat → Nat} {n m : Nat} (hnm : n ≤ m) (h1 : ∀ a, a < n ∨ 500 ≤ a → ad1 a = g_ad X a) (h2 : ∀ a, a < m ∨ 500 ≤ a → ad2 a = ad1 a) : ∀ a, a < n ∨ 500 ≤ a → ad2 a = g_ad X a := fun a ha => (h2 a (by omega)).trans (h1 a ha)
theorem mk_RX11_7 : g_mk RX11 7 9 2 := ⟨RX9, TX9, tyX9, rfl, by decide, inG_9, tyX9_ok, by decide, g_in1 34 (by decide +kernel) rfl, g_in1 35 (by decide +kernel) rfl, g_in1 2 (by decide +kernel) rfl⟩
theorem mk_RX11_16 : g_mk RX11 16 4 5 := ⟨RX4, TX4, tyX4, rfl, by decide, inG_4, tyX4_ok, by decide, g_in1 50 (by decide +kernel) rfl, g_in1 51 (by decide +kernel) rfl, g_in1 3 (by decide +kernel) rfl⟩
theorem mk_RX11_23 : g_mk RX11 23 2 4 := ⟨RX2, TX2, tyX2, rfl, by decide, inG_2, tyX2_ok, by decide, g_in1 97 (by decide +kernel) rfl, g_in1 98 (by decide +kernel) rfl, g_in1 5 (by decide +kernel) rfl⟩
theorem mk_RX11_30 : g_mk RX11 30 6 2 := ⟨RX6, TX6, tyX6, rfl, by decide, inG_6, tyX6_ok, by decide, g_in1 138 (by decide +kernel) rfl, g_in1 139 (by decide +kernel) rfl, g_in1 7 (by decide +kernel) rfl⟩
theorem mk_RX11_37 : g_mk RX11 37 8 1 := ⟨RX8, TX8, tyX8, rfl, by decide, inG_8, tyX8_ok, by decide, g_in1 152 (by decide +kernel) rfl, g_in1 153 (by decide +kernel) rfl, g_in1 8 (by decide +kernel) rfl⟩
theorem mk_RX11_51 : g_mk RX11 51 3 3 := ⟨RX3, TX3, tyX3, rfl, by decide, inG_3, tyX3_ok, by decide, g_in1 163 (by decide +kernel) rfl, g_in1 164 (by decide +kernel) rfl, g_in1 9 (by decide +kernel) rfl⟩
theorem mk_RX11_67 : g_mk RX11 67 7 10 := ⟨RX7, TX7, tyX7, rfl, by decide, inG_7, tyX7_ok, by decide, g_in1 183 (by decide +kernel) rfl, g_in1 184 (by decide +kernel) rfl, g_in1 10 (by decide +kernel) rfl⟩
theorem mk_RX11_77 : g_mk RX11 77 1 4 := ⟨RX1, TX1, tyX1, rfl, by decide, inG_1, tyX1_ok, by decide, g_in1 224 (by decide +kernel) rfl, g_in1 225 (by decide +kernel) rfl, g_in1 11 (by decide +kernel) rfl⟩
theorem mk_RX2_9 : g_mk RX2 9 5 3 := ⟨RX5, TX5, tyX5, rfl, by decide, inG_5, tyX5_ok, by decide, g_in1 103 (by decide +kernel) rfl, g_in1 104 (by decide +kernel) rfl, g_in1 6 (by decide +kernel) rfl⟩
theorem mk_RX4_9 : g_mk RX4 9 10 5 := ⟨RX10, TX10, tyX10, rfl, by decide, inG_10, tyX10_ok, by decide, g_in1 56 (by decide +kernel) rfl, g_in1 57 (by decide +kernel) rfl, g_in1 4 (by decide +kernel) rfl⟩
theorem mk_RL_8 : g_mk RL 8 11 14 := ⟨RX11, TX11, tyX11, rfl, by decide, inG_11, tyX11_ok, by decide, g_in1 26 (by decide +kernel) rfl, g_in1 27 (by decide +kernel) rfl, g_in1 1 (by decide +kernel) rfl⟩
theorem mk_RL_20 : g_mk RL 20 12 31 := ⟨RX12, TX12, tyX12, rfl, by decide, inG_12, tyX12_ok, by decide, g_in5 164 (by decide +kernel) rfl, g_in5 165 (by decide +kernel) rfl, g_in1 12 (by decide +kernel) rfl⟩
theorem fT_11_6 : g_fw 11 6 true (.array .int) := by
  intro C T N h
  cases h
  exact ⟨rfl, by decide, ⟨tyX11, tyX11_ok⟩, nmX11⟩
theorem fT_11_12 : g_fw 11 12 true (.object "ProseDates$Culprits") := by
  intro C T N h
  cases h
  exact ⟨rfl, by decide, ⟨tyX11, tyX11_ok⟩, nmX11⟩
theorem fT_11_8 : g_fw 11 8 true (.array (.array .int)) := by
  intro C T N h
  cases h
  exact ⟨rfl, by decide, ⟨tyX11, tyX11_ok⟩, nmX11⟩
theorem fT_11_2 : g_fw 11 2 true (.object "ProseDates$Meaning") := by
  intro C T N h
  cases h
  exact ⟨rfl, by decide, ⟨tyX11, tyX11_ok⟩, nmX11⟩
theorem fT_11_4 : g_fw 11 4 true (.object "ProseDates$Story") := by
  intro C T N h
  cases h
  exact ⟨rfl, by decide, ⟨tyX11, tyX11_ok⟩, nmX11⟩
theorem fT_11_10 : g_fw 11 10 true (.object "ProseDates$Solver") := by
  intro C T N h
  cases h
  exact ⟨rfl, by decide, ⟨tyX11, tyX11_ok⟩, nmX11⟩
theorem fT_11_7 : g_fw 11 7 true (.object "ProseDates$Past") := by
  intro C T N h
  cases h
  exact ⟨rfl, by decide, ⟨tyX11, tyX11_ok⟩, nmX11⟩
theorem fT_11_1 : g_fw 11 1 true (.object "ProseDates$Phrase") := by
  intro C T N h
  cases h
  exact ⟨rfl, by decide, ⟨tyX11, tyX11_ok⟩, nmX11⟩
theorem fT_11_3 : g_fw 11 3 true (.object "ProseDates$Row") := by
  intro C T N h
  cases h
  exact ⟨rfl, by decide, ⟨tyX11, tyX11_ok⟩, nmX11⟩
theorem fT_11_0 : g_fw 11 0 true (.object "ProseDates$Text") := by
  intro C T N h
  cases h
  exact ⟨rfl, by decide, ⟨tyX11, tyX11_ok⟩, nmX11⟩
theorem fT_11_5 : g_fw 11 5 true (.object "ProseDates$Story") := by
  intro C T N h
  cases h
  exact ⟨rfl, by decide, ⟨tyX11, tyX11_ok⟩, nmX11⟩
theorem fT_11_11 : g_fw 11 11 true (.object "ProseDates$Solver") := by
  intro C T N h
  cases h
  exact ⟨rfl, by decide, ⟨tyX11, tyX11_ok⟩, nmX11⟩
theorem fT_1_0 : g_fw 1 0 true (.array (.array .int)) := by
  intro C T N h
  cases h
  exact ⟨rfl, by decide, ⟨tyX1, tyX1_ok⟩, nmX1⟩
theorem fT_1_1 : g_fw 1 1 true (.array .int) := by
  intro C T N h
  cases h
  exact ⟨rfl, by decide, ⟨tyX1, tyX1_ok⟩, nmX1⟩
theorem fT_2_0 : g_fw 2 0 true (.object "ProseDates$Readings") := by
  intro C T N h
  cases h
  exact ⟨rfl, by decide, ⟨tyX2, tyX2_ok⟩, nmX2⟩
theorem fT_3_0 : g_fw 3 0 true (.array (.array .int)) := by
  intro C T N h
  cases h
  exact ⟨rfl, by decide, ⟨tyX3, tyX3_ok⟩, nmX3⟩
theorem fT_4_3 : g_fw 4 3 true (.array .int) := by
  intro C T N h
  cases h
  exact ⟨rfl, by decide, ⟨tyX4, tyX4_ok⟩, nmX4⟩
theorem fT_4_1 : g_fw 4 1 true (.array .int) := by
  intro C T N h
  cases h
  exact ⟨rfl, by decide, ⟨tyX4, tyX4_ok⟩, nmX4⟩
theorem fT_4_0 : g_fw 4 0 true (.object "ProseDates$Words") := by
  intro C T N h
  cases h
  exact ⟨rfl, by decide, ⟨tyX4, tyX4_ok⟩, nmX4⟩
theorem fT_5_0 : g_fw 5 0 true (.array .int) := by
  intro C T N h
  cases h
  exact ⟨rfl, by decide, ⟨tyX5, tyX5_ok⟩, nmX5⟩
theorem fT_6_0 : g_fw 6 0 true (.array .int) := by
  intro C T N h
  cases h
  exact ⟨rfl, by decide, ⟨tyX6, tyX6_ok⟩, nmX6⟩
theorem fT_7_3 : g_fw 7 3 true (.array (.array .int)) := by
  intro C T N h
  cases h
  exact ⟨rfl, by decide, ⟨tyX7, tyX7_ok⟩, nmX7⟩
theorem fT_7_6 : g_fw 7 6 true (.array .int) := by
  intro C T N h
  cases h
  exact ⟨rfl, by decide, ⟨tyX7, tyX7_ok⟩, nmX7⟩
theorem fT_7_7 : g_fw 7 7 true (.array .int) := by
  intro C T N h
  cases h
  exact ⟨rfl, by decide, ⟨tyX7, tyX7_ok⟩, nmX7⟩
theorem fT_7_5 : g_fw 7 5 true (.array .int) := by
  intro C T N h
  cases h
  exact ⟨rfl, by decide, ⟨tyX7, tyX7_ok⟩, nmX7⟩
theorem fT_7_0 : g_fw 7 0 true (.array .int) := by
  intro C T N h
  cases h
  exact ⟨rfl, by decide, ⟨tyX7, tyX7_ok⟩, nmX7⟩
theorem fT_7_4 : g_fw 7 4 true (.array (.array .int)) := by
  intro C T N h
  cases h
  exact ⟨rfl, by decide, ⟨tyX7, tyX7_ok⟩, nmX7⟩
theorem fT_7_2 : g_fw 7 2 true (.array .int) := by
  intro C T N h
  cases h
  exact ⟨rfl, by decide, ⟨tyX7, tyX7_ok⟩, nmX7⟩
theorem fT_8_0 : g_fw 8 0 true (.array .int) := by
  intro C T N h
  cases h
  exact ⟨rfl, by decide, ⟨tyX8, tyX8_ok⟩, nmX8⟩
theorem fT_9_0 : g_fw 9 0 true (.array .int) := by
  intro C T N h
  cases h
  exact ⟨rfl, by decide, ⟨tyX9, tyX9_ok⟩, nmX9⟩
theorem fT_10_1 : g_fw 10 1 true (.array .int) := by
  intro C T N h
  cases h
  exact ⟨rfl, by decide, ⟨tyX10, tyX10_ok⟩, nmX10⟩
theorem fT_10_0 : g_fw 10 0 true (.array .int) := by
  intro C T N h
  cases h
  exact ⟨rfl, by decide, ⟨tyX10, tyX10_ok⟩, nmX10⟩
theorem fT_12_27 : g_fw 12 27 true (.array .int) := by
  intro C T N h
  cases h
  exact ⟨rfl, by decide, ⟨tyX12, tyX12_ok⟩, nmX12⟩
theorem fT_12_23 : g_fw 12 23 true (.array .int) := by
  intro C T N h
  cases h
  exact ⟨rfl, by decide, ⟨tyX12, tyX12_ok⟩, nmX12⟩
theorem fT_12_20 : g_fw 12 20 true (.array .int) := by
  intro C T N h
  cases h
  exact ⟨rfl, by decide, ⟨tyX12, tyX12_ok⟩, nmX12⟩
theorem fT_12_19 : g_fw 12 19 true (.array .int) := by
  intro C T N h
  cases h
  exact ⟨rfl, by decide, ⟨tyX12, tyX12_ok⟩, nmX12⟩
theorem fT_12_13 : g_fw 12 13 true (.array .int) := by
  intro C T N h
  cases h
  exact ⟨rfl, by decide, ⟨tyX12, tyX12_ok⟩, nmX12⟩
theorem fT_12_30 : g_fw 12 30 true (.array .boolean) := by
  intro C T N h
  cases h
  exact ⟨rfl, by decide, ⟨tyX12, tyX12_ok⟩, nmX12⟩
theorem fT_12_29 : g_fw 12 29 true (.array .int) := by
  intro C T N h
  cases h
  exact ⟨rfl, by decide, ⟨tyX12, tyX12_ok⟩, nmX12⟩
theorem fT_12_0 : g_fw 12 0 true (.array .int) := by
  intro C T N h
  cases h
  exact ⟨rfl, by decide, ⟨tyX12, tyX12_ok⟩, nmX12⟩
theorem fT_12_16 : g_fw 12 16 true (.array .int) := by
  intro C T N h
  cases h
  exact ⟨rfl, by decide, ⟨tyX12, tyX12_ok⟩, nmX12⟩
theorem fT_12_3 : g_fw 12 3 true (.array .long) := by
  intro C T N h
  cases h
  exact ⟨rfl, by decide, ⟨tyX12, tyX12_ok⟩, nmX12⟩
theorem fT_12_22 : g_fw 12 22 true (.array .int) := by
  intro C T N h
  cases h
  exact ⟨rfl, by decide, ⟨tyX12, tyX12_ok⟩, nmX12⟩
theorem fT_12_1 : g_fw 12 1 true (.array .byte) := by
  intro C T N h
  cases h
  exact ⟨rfl, by decide, ⟨tyX12, tyX12_ok⟩, nmX12⟩
theorem fT_12_24 : g_fw 12 24 true (.array .int) := by
  intro C T N h
  cases h
  exact ⟨rfl, by decide, ⟨tyX12, tyX12_ok⟩, nmX12⟩
theorem fT_12_25 : g_fw 12 25 true (.array .int) := by
  intro C T N h
  cases h
  exact ⟨rfl, by decide, ⟨tyX12, tyX12_ok⟩, nmX12⟩
theorem ol_RX1_3 : Cond.methodLink RX1 3 Lib.objectInit ∈ g_TB := g_in1 229 (by decide +kernel) rfl
theorem ol_RX10_3 : Cond.methodLink RX10 3 Lib.objectInit ∈ g_TB := g_in1 61 (by decide +kernel) rfl
theorem ol_RX11_1 : Cond.methodLink RX11 1 Lib.objectInit ∈ g_TB := g_in1 31 (by decide +kernel) rfl
theorem ol_RX12_3 : Cond.methodLink RX12 3 Lib.objectInit ∈ g_TB := g_in5 169 (by decide +kernel) rfl
theorem ol_RX2_3 : Cond.methodLink RX2 3 Lib.objectInit ∈ g_TB := g_in1 102 (by decide +kernel) rfl
theorem ol_RX3_1 : Cond.methodLink RX3 1 Lib.objectInit ∈ g_TB := g_in1 168 (by decide +kernel) rfl
theorem ol_RX4_3 : Cond.methodLink RX4 3 Lib.objectInit ∈ g_TB := g_in1 55 (by decide +kernel) rfl
theorem ol_RX5_3 : Cond.methodLink RX5 3 Lib.objectInit ∈ g_TB := g_in1 108 (by decide +kernel) rfl
theorem ol_RX6_3 : Cond.methodLink RX6 3 Lib.objectInit ∈ g_TB := g_in1 143 (by decide +kernel) rfl
theorem ol_RX7_3 : Cond.methodLink RX7 3 Lib.objectInit ∈ g_TB := g_in1 188 (by decide +kernel) rfl
theorem ol_RX8_5 : Cond.methodLink RX8 5 Lib.objectInit ∈ g_TB := g_in1 157 (by decide +kernel) rfl
theorem ol_RX9_3 : Cond.methodLink RX9 3 Lib.objectInit ∈ g_TB := g_in1 39 (by decide +kernel) rfl
theorem cl_RX1_11 : Cond.classLink RX1 11 "[[I" ∈ g_TB := g_in1 230 (by decide +kernel) rfl
theorem cl_RX11_58 : Cond.classLink RX11 58 "[[I" ∈ g_TB := g_in1 182 (by decide +kernel) rfl
theorem cl_RX3_11 : Cond.classLink RX3 11 "[[I" ∈ g_TB := g_in1 169 (by decide +kernel) rfl
theorem cl_RX7_22 : Cond.classLink RX7 22 "[[I" ∈ g_TB := g_in1 189 (by decide +kernel) rfl
theorem giX1_init : g_mi mX1_init 0 := ⟨gmX1_init.1, gmX1_init.2.1, gmX1_init.2.2.1, gmX1_init.2.2.2, rfl, rfl⟩
theorem giX2_init : g_mi mX2_init 0 := ⟨gmX2_init.1, gmX2_init.2.1, gmX2_init.2.2.1, gmX2_init.2.2.2, rfl, rfl⟩
theorem giX3_init : g_mi mX3_init 0 := ⟨gmX3_init.1, gmX3_init.2.1, gmX3_init.2.2.1, gmX3_init.2.2.2, rfl, rfl⟩
theorem giX4_init : g_mi mX4_init 0 := ⟨gmX4_init.1, gmX4_init.2.1, gmX4_init.2.2.1, gmX4_init.2.2.2, rfl, rfl⟩
theorem giX5_init : g_mi mX5_init 0 := ⟨gmX5_init.1, gmX5_init.2.1, gmX5_init.2.2.1, gmX5_init.2.2.2, rfl, rfl⟩
theorem giX6_init : g_mi mX6_init 0 := ⟨gmX6_init.1, gmX6_init.2.1, gmX6_init.2.2.1, gmX6_init.2.2.2, rfl, rfl⟩
theorem giX7_init : g_mi mX7_init 0 := ⟨gmX7_init.1, gmX7_init.2.1, gmX7_init.2.2.1, gmX7_init.2.2.2, rfl, rfl⟩
theorem giX8_init : g_mi mX8_init 0 := ⟨gmX8_init.1, gmX8_init.2.1, gmX8_init.2.2.1, gmX8_init.2.2.2, rfl, rfl⟩
theorem giX9_init : g_mi mX9_init 0 := ⟨gmX9_init.1, gmX9_init.2.1, gmX9_init.2.2.1, gmX9_init.2.2.2, rfl, rfl⟩
theorem giX10_init : g_mi mX10_init 0 := ⟨gmX10_init.1, gmX10_init.2.1, gmX10_init.2.2.1, gmX10_init.2.2.2, rfl, rfl⟩
theorem giX11_init : g_mi mX11_init 0 := ⟨gmX11_init.1, gmX11_init.2.1, gmX11_init.2.2.1, gmX11_init.2.2.2, rfl, rfl⟩
theorem giX12_init : g_mi mX12_init 0 := ⟨gmX12_init.1, gmX12_init.2.1, gmX12_init.2.2.1, gmX12_init.2.2.2, rfl, rfl⟩
theorem g_ai : g_aty 100 .int .int 0 (fun N => (N, .inl (fun _ => 0))) := ⟨rfl, fun _ => rfl, fun _ _ => rfl, fun cA ad M N => by rw [g_cell_i (k := 100) (n := N) (by simp [g_nw]) (by omega)]; simp [g_nw], g_in1 49 (by decide +kernel) rfl, by decide, fun _ h => by cases h⟩
theorem g_ab : g_aty 101 .byte .byte 1 (fun N => (N, .inl (fun _ => 0))) := ⟨rfl, fun _ => rfl, fun _ _ => rfl, fun cA ad M N => by rw [g_cell_i (k := 101) (n := N) (by simp [g_nw]) (by omega)]; simp [g_nw], g_in3 189 (by decide +kernel) rfl, by decide, fun _ h => by cases h⟩
theorem g_az : g_aty 102 .boolean .boolean 2 (fun N => (N, .inl (fun _ => 0))) := ⟨rfl, fun _ => rfl, fun _ _ => rfl, fun cA ad M N => by rw [g_cell_i (k := 102) (n := N) (by simp [g_nw]) (by omega)]; simp [g_nw], g_in6 25 (by decide +kernel) rfl, by decide, fun _ h => by cases h⟩
theorem g_al : g_aty 103 .long .long 3 (fun N => (N, .inr (.inl (fun _ => 0)))) := ⟨rfl, fun _ => rfl, fun _ _ => rfl, fun cA ad M N => by rw [g_cell_l (n := N) (by simp [g_nw])]; simp [g_nw], g_in6 24 (by decide +kernel) rfl, by decide, fun _ h => by cases h⟩
def Mk0 : gMem := (0, fun _ => (100, 0), fun _ _ => none, fun _ _ => 0, fun _ _ => 0)
theorem bd0 : g_bd Mk0 := fun _ _ _ ha _ => absurd ha (Nat.not_lt_zero _)
def Mk1 : gMem := g_nw Mk0 11 14
theorem bd1 : g_bd Mk1 := g_bd_nw bd0
def Mk2 : gMem := g_nw Mk1 9 2
theorem bd2 : g_bd Mk2 := g_bd_nw bd1
def Mk3 : gMem := g_nw Mk2 100 80
theorem bd3 : g_bd Mk3 := g_bd_nw bd2
def Mk4 : gMem := g_sr Mk3 1 0 (some 2)
theorem bd4 : g_bd Mk4 := g_bd_sr bd3 (by decide +kernel)
def Mk5 : gMem := g_si Mk4 1 1 0
theorem bd5 : g_bd Mk5 := g_bd_si bd4
def Mk6 : gMem := g_sr Mk5 0 0 (some 1)
theorem bd6 : g_bd Mk6 := g_bd_sr bd5 (by decide +kernel)
def Mk7 : gMem := g_nw Mk6 4 5
theorem bd7 : g_bd Mk7 := g_bd_nw bd6
def Mk8 : gMem := g_nw Mk7 10 5
theorem bd8 : g_bd Mk8 := g_bd_nw bd7
def Mk9 : gMem := g_nw Mk8 100 81
theorem bd9 : g_bd Mk9 := g_bd_nw bd8
def Mk10 : gMem := g_sr Mk9 4 0 (some 5)
theorem bd10 : g_bd Mk10 := g_bd_sr bd9 (by decide +kernel)
def Mk11 : gMem := g_nw Mk10 100 81
theorem bd11 : g_bd Mk11 := g_bd_nw bd10
def Mk12 : gMem := g_sr Mk11 4 1 (some 6)
theorem bd12 : g_bd Mk12 := g_bd_sr bd11 (by decide +kernel)
def Mk13 : gMem := g_si Mk12 4 2 0
theorem bd13 : g_bd Mk13 := g_bd_si bd12
def Mk14 : gMem := g_si Mk13 4 3 41
theorem bd14 : g_bd Mk14 := g_bd_si bd13
def Mk15 : gMem := g_si Mk14 4 4 0
theorem bd15 : g_bd Mk15 := g_bd_si bd14
def Mk16 : gMem := g_sr Mk15 3 0 (some 4)
theorem bd16 : g_bd Mk16 := g_bd_sr bd15 (by decide +kernel)
def Mk17 : gMem := g_nw Mk16 100 320
theorem bd17 : g_bd Mk17 := g_bd_nw bd16
def Mk18 : gMem := g_sr Mk17 3 1 (some 7)
theorem bd18 : g_bd Mk18 := g_bd_sr bd17 (by decide +kernel)
def Mk19 : gMem := g_si Mk18 3 2 0
theorem bd19 : g_bd Mk19 := g_bd_si bd18
def Mk20 : gMem := g_nw Mk19 100 320
theorem bd20 : g_bd Mk20 := g_bd_nw bd19
def Mk21 : gMem := g_sr Mk20 3 3 (some 8)
theorem bd21 : g_bd Mk21 := g_bd_sr bd20 (by decide +kernel)
def Mk22 : gMem := g_si Mk21 3 4 0
theorem bd22 : g_bd Mk22 := g_bd_si bd21
def Mk23 : gMem := g_sr Mk22 0 1 (some 3)
theorem bd23 : g_bd Mk23 := g_bd_sr bd22 (by decide +kernel)
def Mk24 : gMem := g_nw Mk23 2 4
theorem bd24 : g_bd Mk24 := g_bd_nw bd23
def Mk25 : gMem := g_nw Mk24 5 3
theorem bd25 : g_bd Mk25 := g_bd_nw bd24
def Mk26 : gMem := g_nw Mk25 100 24
theorem bd26 : g_bd Mk26 := g_bd_nw bd25
def Mk27 : gMem := g_sr Mk26 10 0 (some 11)
theorem bd27 : g_bd Mk27 := g_bd_sr bd26 (by decide +kernel)
def Mk28 : gMem := g_si Mk27 10 1 0
theorem bd28 : g_bd Mk28 := g_bd_si bd27
def Mk29 : gMem := g_si Mk28 10 2 0
theorem bd29 : g_bd Mk29 := g_bd_si bd28
def Mk30 : gMem := g_sr Mk29 9 0 (some 10)
theorem bd30 : g_bd Mk30 := g_bd_sr bd29 (by decide +kernel)
def Mk31 : gMem := g_nw Mk30 5 3
theorem bd31 : g_bd Mk31 := g_bd_nw bd30
def Mk32 : gMem := g_nw Mk31 100 24
theorem bd32 : g_bd Mk32 := g_bd_nw bd31
def Mk33 : gMem := g_sr Mk32 12 0 (some 13)
theorem bd33 : g_bd Mk33 := g_bd_sr bd32 (by decide +kernel)
def Mk34 : gMem := g_si Mk33 12 1 0
theorem bd34 : g_bd Mk34 := g_bd_si bd33
def Mk35 : gMem := g_si Mk34 12 2 0
theorem bd35 : g_bd Mk35 := g_bd_si bd34
def Mk36 : gMem := g_sr Mk35 9 1 (some 12)
theorem bd36 : g_bd Mk36 := g_bd_sr bd35 (by decide +kernel)
def Mk37 : gMem := g_nw Mk36 5 3
theorem bd37 : g_bd Mk37 := g_bd_nw bd36
def Mk38 : gMem := g_nw Mk37 100 24
theorem bd38 : g_bd Mk38 := g_bd_nw bd37
def Mk39 : gMem := g_sr Mk38 14 0 (some 15)
theorem bd39 : g_bd Mk39 := g_bd_sr bd38 (by decide +kernel)
def Mk40 : gMem := g_si Mk39 14 1 0
theorem bd40 : g_bd Mk40 := g_bd_si bd39
def Mk41 : gMem := g_si Mk40 14 2 0
theorem bd41 : g_bd Mk41 := g_bd_si bd40
def Mk42 : gMem := g_sr Mk41 9 2 (some 14)
theorem bd42 : g_bd Mk42 := g_bd_sr bd41 (by decide +kernel)
def Mk43 : gMem := g_nw Mk42 5 3
theorem bd43 : g_bd Mk43 := g_bd_nw bd42
def Mk44 : gMem := g_nw Mk43 100 24
theorem bd44 : g_bd Mk44 := g_bd_nw bd43
def Mk45 : gMem := g_sr Mk44 16 0 (some 17)
theorem bd45 : g_bd Mk45 := g_bd_sr bd44 (by decide +kernel)
def Mk46 : gMem := g_si Mk45 16 1 0
theorem bd46 : g_bd Mk46 := g_bd_si bd45
def Mk47 : gMem := g_si Mk46 16 2 0
theorem bd47 : g_bd Mk47 := g_bd_si bd46
def Mk48 : gMem := g_sr Mk47 9 3 (some 16)
theorem bd48 : g_bd Mk48 := g_bd_sr bd47 (by decide +kernel)
def Mk49 : gMem := g_sr Mk48 0 2 (some 9)
theorem bd49 : g_bd Mk49 := g_bd_sr bd48 (by decide +kernel)
def Mk50 : gMem := g_nw Mk49 6 2
theorem bd50 : g_bd Mk50 := g_bd_nw bd49
def Mk51 : gMem := g_nw Mk50 100 24
theorem bd51 : g_bd Mk51 := g_bd_nw bd50
def Mk52 : gMem := g_sr Mk51 18 0 (some 19)
theorem bd52 : g_bd Mk52 := g_bd_sr bd51 (by decide +kernel)
def Mk53 : gMem := g_si Mk52 18 1 0
theorem bd53 : g_bd Mk53 := g_bd_si bd52
def Mk54 : gMem := g_sr Mk53 0 3 (some 18)
theorem bd54 : g_bd Mk54 := g_bd_sr bd53 (by decide +kernel)
def Mk55 : gMem := g_nw Mk54 8 1
theorem bd55 : g_bd Mk55 := g_bd_nw bd54
def Mk56 : gMem := g_nw Mk55 100 170
theorem bd56 : g_bd Mk56 := g_bd_nw bd55
def Mk57 : gMem := g_sr Mk56 20 0 (some 21)
theorem bd57 : g_bd Mk57 := g_bd_sr bd56 (by decide +kernel)
def Mk58 : gMem := g_si Mk57 21 0 3000
theorem bd58 : g_bd Mk58 := g_bd_si bd57
def Mk59 : gMem := g_sr Mk58 0 4 (some 20)
theorem bd59 : g_bd Mk59 := g_bd_sr bd58 (by decide +kernel)
def Mk60 : gMem := g_nw Mk59 8 1
theorem bd60 : g_bd Mk60 := g_bd_nw bd59
def Mk61 : gMem := g_nw Mk60 100 170
theorem bd61 : g_bd Mk61 := g_bd_nw bd60
def Mk62 : gMem := g_sr Mk61 22 0 (some 23)
theorem bd62 : g_bd Mk62 := g_bd_sr bd61 (by decide +kernel)
def Mk63 : gMem := g_si Mk62 23 0 3000
theorem bd63 : g_bd Mk63 := g_bd_si bd62
def Mk64 : gMem := g_sr Mk63 0 5 (some 22)
theorem bd64 : g_bd Mk64 := g_bd_sr bd63 (by decide +kernel)
def Mk65 : gMem := g_nw Mk64 100 170
theorem bd65 : g_bd Mk65 := g_bd_nw bd64
def Mk66 : gMem := g_sr Mk65 0 6 (some 24)
theorem bd66 : g_bd Mk66 := g_bd_sr bd65 (by decide +kernel)
def Mk67 : gMem := g_nw Mk66 3 3
theorem bd67 : g_bd Mk67 := g_bd_nw bd66
def Mk68 : gMem := g_gr Mk67 8 170
theorem bd68 : g_bd Mk68 := g_bd_gr bd67
def Mk69 : gMem := g_sr Mk68 25 0 (some 26)
theorem bd69 : g_bd Mk69 := g_bd_sr bd68 (by decide +kernel)
def Mk70 : gMem := g_si Mk69 25 1 0
theorem bd70 : g_bd Mk70 := g_bd_si bd69
def Mk71 : gMem := g_si Mk70 25 2 0
theorem bd71 : g_bd Mk71 := g_bd_si bd70
def Mk72 : gMem := g_sr Mk71 0 7 (some 25)
theorem bd72 : g_bd Mk72 := g_bd_sr bd71 (by decide +kernel)
def Mk73 : gMem := g_gr Mk72 2 170
theorem bd73 : g_bd Mk73 := g_bd_gr bd72
def Mk74 : gMem := g_sr Mk73 0 8 (some 35)
theorem bd74 : g_bd Mk74 := g_bd_sr bd73 (by decide +kernel)
def Mk75 : gMem := g_si Mk74 0 9 0
theorem bd75 : g_bd Mk75 := g_bd_si bd74
def Mk76 : gMem := g_nw Mk75 7 10
theorem bd76 : g_bd Mk76 := g_bd_nw bd75
def Mk77 : gMem := g_nw Mk76 100 6
theorem bd77 : g_bd Mk77 := g_bd_nw bd76
def Mk78 : gMem := g_sr Mk77 38 0 (some 39)
theorem bd78 : g_bd Mk78 := g_bd_sr bd77 (by decide +kernel)
def Mk79 : gMem := g_si Mk78 38 1 0
theorem bd79 : g_bd Mk79 := g_bd_si bd78
def Mk80 : gMem := g_nw Mk79 100 36
theorem bd80 : g_bd Mk80 := g_bd_nw bd79
def Mk81 : gMem := g_sr Mk80 38 2 (some 40)
theorem bd81 : g_bd Mk81 := g_bd_sr bd80 (by decide +kernel)
def Mk82 : gMem := g_gr Mk81 36 6
theorem bd82 : g_bd Mk82 := g_bd_gr bd81
def Mk83 : gMem := g_sr Mk82 38 3 (some 41)
theorem bd83 : g_bd Mk83 := g_bd_sr bd82 (by decide +kernel)
def Mk84 : gMem := g_gr Mk83 6 6
theorem bd84 : g_bd Mk84 := g_bd_gr bd83
def Mk85 : gMem := g_sr Mk84 38 4 (some 78)
theorem bd85 : g_bd Mk85 := g_bd_sr bd84 (by decide +kernel)
def Mk86 : gMem := g_nw Mk85 100 6
theorem bd86 : g_bd Mk86 := g_bd_nw bd85
def Mk87 : gMem := g_sr Mk86 38 5 (some 85)
theorem bd87 : g_bd Mk87 := g_bd_sr bd86 (by decide +kernel)
def Mk88 : gMem := g_nw Mk87 100 6
theorem bd88 : g_bd Mk88 := g_bd_nw bd87
def Mk89 : gMem := g_sr Mk88 38 6 (some 86)
theorem bd89 : g_bd Mk89 := g_bd_sr bd88 (by decide +kernel)
def Mk90 : gMem := g_nw Mk89 100 36
theorem bd90 : g_bd Mk90 := g_bd_nw bd89
def Mk91 : gMem := g_sr Mk90 38 7 (some 87)
theorem bd91 : g_bd Mk91 := g_bd_sr bd90 (by decide +kernel)
def Mk92 : gMem := g_si Mk91 38 8 0
theorem bd92 : g_bd Mk92 := g_bd_si bd91
def Mk93 : gMem := g_si Mk92 38 9 0
theorem bd93 : g_bd Mk93 := g_bd_si bd92
def Mk94 : gMem := g_sr Mk93 0 10 (some 38)
theorem bd94 : g_bd Mk94 := g_bd_sr bd93 (by decide +kernel)
def Mk95 : gMem := g_nw Mk94 7 10
theorem bd95 : g_bd Mk95 := g_bd_nw bd94
def Mk96 : gMem := g_nw Mk95 100 6
theorem bd96 : g_bd Mk96 := g_bd_nw bd95
def Mk97 : gMem := g_sr Mk96 88 0 (some 89)
theorem bd97 : g_bd Mk97 := g_bd_sr bd96 (by decide +kernel)
def Mk98 : gMem := g_si Mk97 88 1 0
theorem bd98 : g_bd Mk98 := g_bd_si bd97
def Mk99 : gMem := g_nw Mk98 100 36
theorem bd99 : g_bd Mk99 := g_bd_nw bd98
def Mk100 : gMem := g_sr Mk99 88 2 (some 90)
theorem bd100 : g_bd Mk100 := g_bd_sr bd99 (by decide +kernel)
def Mk101 : gMem := g_gr Mk100 36 6
theorem bd101 : g_bd Mk101 := g_bd_gr bd100
def Mk102 : gMem := g_sr Mk101 88 3 (some 91)
theorem bd102 : g_bd Mk102 := g_bd_sr bd101 (by decide +kernel)
def Mk103 : gMem := g_gr Mk102 6 6
theorem bd103 : g_bd Mk103 := g_bd_gr bd102
def Mk104 : gMem := g_sr Mk103 88 4 (some 128)
theorem bd104 : g_bd Mk104 := g_bd_sr bd103 (by decide +kernel)
def Mk105 : gMem := g_nw Mk104 100 6
theorem bd105 : g_bd Mk105 := g_bd_nw bd104
def Mk106 : gMem := g_sr Mk105 88 5 (some 135)
theorem bd106 : g_bd Mk106 := g_bd_sr bd105 (by decide +kernel)
def Mk107 : gMem := g_nw Mk106 100 6
theorem bd107 : g_bd Mk107 := g_bd_nw bd106
def Mk108 : gMem := g_sr Mk107 88 6 (some 136)
theorem bd108 : g_bd Mk108 := g_bd_sr bd107 (by decide +kernel)
def Mk109 : gMem := g_nw Mk108 100 36
theorem bd109 : g_bd Mk109 := g_bd_nw bd108
def Mk110 : gMem := g_sr Mk109 88 7 (some 137)
theorem bd110 : g_bd Mk110 := g_bd_sr bd109 (by decide +kernel)
def Mk111 : gMem := g_si Mk110 88 8 0
theorem bd111 : g_bd Mk111 := g_bd_si bd110
def Mk112 : gMem := g_si Mk111 88 9 0
theorem bd112 : g_bd Mk112 := g_bd_si bd111
def Mk113 : gMem := g_sr Mk112 0 11 (some 88)
theorem bd113 : g_bd Mk113 := g_bd_sr bd112 (by decide +kernel)
def Mk114 : gMem := g_nw Mk113 1 4
theorem bd114 : g_bd Mk114 := g_bd_nw bd113
def Mk115 : gMem := g_gr Mk114 36 36
theorem bd115 : g_bd Mk115 := g_bd_gr bd114
def Mk116 : gMem := g_sr Mk115 138 0 (some 139)
theorem bd116 : g_bd Mk116 := g_bd_sr bd115 (by decide +kernel)
def Mk117 : gMem := g_nw Mk116 100 6
theorem bd117 : g_bd Mk117 := g_bd_nw bd116
def Mk118 : gMem := g_sr Mk117 138 1 (some 176)
theorem bd118 : g_bd Mk118 := g_bd_sr bd117 (by decide +kernel)
def Mk119 : gMem := g_si Mk118 138 2 0
theorem bd119 : g_bd Mk119 := g_bd_si bd118
def Mk120 : gMem := g_si Mk119 138 3 0
theorem bd120 : g_bd Mk120 := g_bd_si bd119
def Mk121 : gMem := g_sr Mk120 0 12 (some 138)
theorem bd121 : g_bd Mk121 := g_bd_sr bd120 (by decide +kernel)
def Mk122 : gMem := g_si Mk121 0 13 0
theorem bd122 : g_bd Mk122 := g_bd_si bd121
def Mk123 : gMem := g_nw Mk122 12 31
theorem bd123 : g_bd Mk123 := g_bd_nw bd122
def Mk124 : gMem := g_nw Mk123 100 218
theorem bd124 : g_bd Mk124 := g_bd_nw bd123
def Mk125 : gMem := g_sr Mk124 177 0 (some 178)
theorem bd125 : g_bd Mk125 := g_bd_sr bd124 (by decide +kernel)
def Mk126 : gMem := g_nw Mk125 101 80
theorem bd126 : g_bd Mk126 := g_bd_nw bd125
def Mk127 : gMem := g_sr Mk126 177 1 (some 179)
theorem bd127 : g_bd Mk127 := g_bd_sr bd126 (by decide +kernel)
def Mk128 : gMem := g_nw Mk127 103 64
theorem bd128 : g_bd Mk128 := g_bd_nw bd127
def Mk129 : gMem := g_sr Mk128 177 3 (some 180)
theorem bd129 : g_bd Mk129 := g_bd_sr bd128 (by decide +kernel)
def Mk130 : gMem := g_nw Mk129 100 4096
theorem bd130 : g_bd Mk130 := g_bd_nw bd129
def Mk131 : gMem := g_sr Mk130 177 13 (some 181)
theorem bd131 : g_bd Mk131 := g_bd_sr bd130 (by decide +kernel)
def Mk132 : gMem := g_nw Mk131 100 6
theorem bd132 : g_bd Mk132 := g_bd_nw bd131
def Mk133 : gMem := g_sr Mk132 177 16 (some 182)
theorem bd133 : g_bd Mk133 := g_bd_sr bd132 (by decide +kernel)
def Mk134 : gMem := g_nw Mk133 100 36
theorem bd134 : g_bd Mk134 := g_bd_nw bd133
def Mk135 : gMem := g_sr Mk134 177 19 (some 183)
theorem bd135 : g_bd Mk135 := g_bd_sr bd134 (by decide +kernel)
def Mk136 : gMem := g_nw Mk135 100 6
theorem bd136 : g_bd Mk136 := g_bd_nw bd135
def Mk137 : gMem := g_sr Mk136 177 20 (some 184)
theorem bd137 : g_bd Mk137 := g_bd_sr bd136 (by decide +kernel)
def Mk138 : gMem := g_nw Mk137 100 6
theorem bd138 : g_bd Mk138 := g_bd_nw bd137
def Mk139 : gMem := g_sr Mk138 177 22 (some 185)
theorem bd139 : g_bd Mk139 := g_bd_sr bd138 (by decide +kernel)
def Mk140 : gMem := g_nw Mk139 100 218
theorem bd140 : g_bd Mk140 := g_bd_nw bd139
def Mk141 : gMem := g_sr Mk140 177 23 (some 186)
theorem bd141 : g_bd Mk141 := g_bd_sr bd140 (by decide +kernel)
def Mk142 : gMem := g_nw Mk141 100 1744
theorem bd142 : g_bd Mk142 := g_bd_nw bd141
def Mk143 : gMem := g_sr Mk142 177 24 (some 187)
theorem bd143 : g_bd Mk143 := g_bd_sr bd142 (by decide +kernel)
def Mk144 : gMem := g_nw Mk143 100 218
theorem bd144 : g_bd Mk144 := g_bd_nw bd143
def Mk145 : gMem := g_sr Mk144 177 25 (some 188)
theorem bd145 : g_bd Mk145 := g_bd_sr bd144 (by decide +kernel)
def Mk146 : gMem := g_nw Mk145 100 320
theorem bd146 : g_bd Mk146 := g_bd_nw bd145
def Mk147 : gMem := g_sr Mk146 177 27 (some 189)
theorem bd147 : g_bd Mk147 := g_bd_sr bd146 (by decide +kernel)
def Mk148 : gMem := g_nw Mk147 100 436
theorem bd148 : g_bd Mk148 := g_bd_nw bd147
def Mk149 : gMem := g_sr Mk148 177 29 (some 190)
theorem bd149 : g_bd Mk149 := g_bd_sr bd148 (by decide +kernel)
def Mk150 : gMem := g_nw Mk149 102 2
theorem bd150 : g_bd Mk150 := g_bd_nw bd149
def Mk151 : gMem := g_sr Mk150 177 30 (some 191)
theorem bd151 : g_bd Mk151 := g_bd_sr bd150 (by decide +kernel)
def Mk152 : gMem := g_si Mk151 178 0 3000
theorem bd152 : g_bd Mk152 := g_bd_si bd151
def Mk153 : gMem := g_si Mk152 178 2 (-1)
theorem bd153 : g_bd Mk153 := g_bd_si bd152
def Mk154 : gMem := g_si Mk153 178 3 (-1)
theorem bd154 : g_bd Mk154 := g_bd_si bd153
def Mk155 : gMem := g_si Mk154 178 4 (-1)
theorem bd155 : g_bd Mk155 := g_bd_si bd154
def Mk156 : gMem := g_si Mk155 178 5 (-1)
theorem bd156 : g_bd Mk156 := g_bd_si bd155
def Mk157 : gMem := g_si Mk156 178 6 (-1)
theorem bd157 : g_bd Mk157 := g_bd_si bd156
def Mk158 : gMem := g_si Mk157 178 7 (-1)
theorem bd158 : g_bd Mk158 := g_bd_si bd157
def Mk159 : gMem := g_nw Mk158 103 1
theorem bd159 : g_bd Mk159 := g_bd_nw bd158
set_option maxRecDepth 20000 in
theorem cA2 {l : Launch} : CtA l mX9_init 1 1 80 [.ref 1] Mk2 (fun v M' => v = none ∧ M' = Mk5) := by
  refine CtA.of (by decide) (Nat.le_of_ble_eq_true rfl) (fun X hss hAO => ?_)
  have hg0 : ∀ a, a < 2 ∨ 500 ≤ a → g_ad X a = g_ad X a := fun _ _ => rfl
  refine n_L (L' := [some (.ref 1)]) (le_s (le_e)) ?_
  show Gw _ _ _ (g_xa X (g_ad X)) 0 _ [] Mk2 0 0 (g_ZA X 2 _ _ _)
  refine r_aload_n (pc := 0) (x := 1) dX9_init_0 rfl ?_
  refine r_objI (pc := 1) dX9_init_1 ol_RX9_3 ⟨Nat.le_of_ble_eq_true rfl, Nat.le_of_ble_eq_true rfl⟩ ?_
  refine r_aload_n (pc := 4) (x := 1) dX9_init_4 rfl ?_
  refine r_bipush (pc := 5) (v := 80) dX9_init_5 (by decide) ?_
  refine r_newa (pc := 7) (M := Mk2) (N := 80) dX9_init_7 g_ai (by decide) (by decide) (by decide) (by decide +kernel) bd2 hss (by decide +kernel) (by decide +kernel) ⟨Nat.le_of_ble_eq_true rfl, Nat.le_of_ble_eq_true rfl⟩ (fun ad1 hg1 => ?_)
  replace hg1 := g_tr (n := 2) (by decide +kernel) hg0 hg1
  show Gw _ _ _ (g_xa X ad1) 9 [some (.ref 1)] [.ref 2, .ref 1] Mk3 1 80 _
  refine r_putFR (pc := 9) (M := Mk3) (nf := 2) dX9_init_9 fl_RX9_9 fT_9_0 (Or.inr ⟨_, rfl⟩) rfl rfl (by decide +kernel) (by decide +kernel) rfl rfl ?_
  show Gw _ _ _ _ 12 [some (.ref 1)] [] Mk4 1 80 _
  refine r_aload_n (pc := 12) (x := 1) dX9_init_12 rfl ?_
  refine r_iconst (pc := 13) (v := 0) dX9_init_13 (by decide) ?_
  refine r_putI (pc := 14) (M := Mk4) (nf := 2) dX9_init_14 fl_RX9_15 fw_9_1 (by decide +kernel) (by decide +kernel) rfl rfl ?_
  show Gw _ _ _ _ 17 [some (.ref 1)] [] Mk5 1 80 _
  exact r_vretA (pc := 17) dX9_init_17 rfl (Nat.le_refl _) (Nat.le_refl _) hg1 ⟨rfl, rfl⟩
set_option maxRecDepth 20000 in
theorem cA4 {l : Launch} : CtA l mX10_init 1 2 162 [.ref 4] Mk8 (fun v M' => v = none ∧ M' = Mk15) := by
  refine CtA.of (by decide) (Nat.le_of_ble_eq_true rfl) (fun X hss hAO => ?_)
  have hg0 : ∀ a, a < 5 ∨ 500 ≤ a → g_ad X a = g_ad X a := fun _ _ => rfl
  refine n_L (L' := [some (.ref 4)]) (le_s (le_e)) ?_
  show Gw _ _ _ (g_xa X (g_ad X)) 0 _ [] Mk8 0 0 (g_ZA X 5 _ _ _)
  refine r_aload_n (pc := 0) (x := 4) dX10_init_0 rfl ?_
  refine r_objI (pc := 1) dX10_init_1 ol_RX10_3 ⟨Nat.le_of_ble_eq_true rfl, Nat.le_of_ble_eq_true rfl⟩ ?_
  refine r_aload_n (pc := 4) (x := 4) dX10_init_4 rfl ?_
  refine r_bipush (pc := 5) (v := 81) dX10_init_5 (by decide) ?_
  refine r_newa (pc := 7) (M := Mk8) (N := 81) dX10_init_7 g_ai (by decide) (by decide) (by decide) (by decide +kernel) bd8 hss (by decide +kernel) (by decide +kernel) ⟨Nat.le_of_ble_eq_true rfl, Nat.le_of_ble_eq_true rfl⟩ (fun ad1 hg1 => ?_)
  replace hg1 := g_tr (n := 5) (by decide +kernel) hg0 hg1
  show Gw _ _ _ (g_xa X ad1) 9 [some (.ref 4)] [.ref 5, .ref 4] Mk9 1 81 _
  refine r_putFR (pc := 9) (M := Mk9) (nf := 5) dX10_init_9 fl_RX10_9 fT_10_0 (Or.inr ⟨_, rfl⟩) rfl rfl (by decide +kernel) (by decide +kernel) rfl rfl ?_
  show Gw _ _ _ _ 12 [some (.ref 4)] [] Mk10 1 81 _
  refine r_aload_n (pc := 12) (x := 4) dX10_init_12 rfl ?_
  refine r_bipush (pc := 13) (v := 81) dX10_init_13 (by decide) ?_
  refine r_newa (pc := 15) (M := Mk10) (N := 81) dX10_init_15 g_ai (by decide) (by decide) (by decide) (by decide +kernel) bd10 hss (by decide +kernel) (by decide +kernel) ⟨Nat.le_of_ble_eq_true rfl, Nat.le_of_ble_eq_true rfl⟩ (fun ad2 hg2 => ?_)
  replace hg2 := g_tr (n := 5) (by decide +kernel) hg1 hg2
  show Gw _ _ _ (g_xa X ad2) 17 [some (.ref 4)] [.ref 6, .ref 4] Mk11 2 162 _
  refine r_putFR (pc := 17) (M := Mk11) (nf := 5) dX10_init_17 fl_RX10_15 fT_10_1 (Or.inr ⟨_, rfl⟩) rfl rfl (by decide +kernel) (by decide +kernel) rfl rfl ?_
  show Gw _ _ _ _ 20 [some (.ref 4)] [] Mk12 2 162 _
  refine r_aload_n (pc := 20) (x := 4) dX10_init_20 rfl ?_
  refine r_iconst (pc := 21) (v := 0) dX10_init_21 (by decide) ?_
  refine r_putI (pc := 22) (M := Mk12) (nf := 5) dX10_init_22 fl_RX10_18 fw_10_2 (by decide +kernel) (by decide +kernel) rfl rfl ?_
  show Gw _ _ _ _ 25 [some (.ref 4)] [] Mk13 2 162 _
  refine r_aload_n (pc := 25) (x := 4) dX10_init_25 rfl ?_
  refine r_bipush (pc := 26) (v := 41) dX10_init_26 (by decide) ?_
  refine r_putI (pc := 28) (M := Mk13) (nf := 5) dX10_init_28 fl_RX10_22 fw_10_3 (by decide +kernel) (by decide +kernel) rfl rfl ?_
  show Gw _ _ _ _ 31 [some (.ref 4)] [] Mk14 2 162 _
  refine r_aload_n (pc := 31) (x := 4) dX10_init_31 rfl ?_
  refine r_iconst (pc := 32) (v := 0) dX10_init_32 (by decide) ?_
  refine r_putI (pc := 33) (M := Mk14) (nf := 5) dX10_init_33 fl_RX10_25 fw_10_4 (by decide +kernel) (by decide +kernel) rfl rfl ?_
  show Gw _ _ _ _ 36 [some (.ref 4)] [] Mk15 2 162 _
  exact r_vretA (pc := 36) dX10_init_36 rfl (Nat.le_refl _) (Nat.le_refl _) hg2 ⟨rfl, rfl⟩
set_option maxRecDepth 20000 in
theorem cA3 {l : Launch} : CtA l mX4_init 2 5 807 [.ref 3] Mk7 (fun v M' => v = none ∧ M' = Mk22) := by
  refine CtA.of (by decide) (Nat.le_of_ble_eq_true rfl) (fun X hss hAO => ?_)
  have hg0 : ∀ a, a < 4 ∨ 500 ≤ a → g_ad X a = g_ad X a := fun _ _ => rfl
  refine n_L (L' := [some (.ref 3)]) (le_s (le_e)) ?_
  show Gw _ _ _ (g_xa X (g_ad X)) 0 _ [] Mk7 0 0 (g_ZA X 4 _ _ _)
  refine r_aload_n (pc := 0) (x := 3) dX4_init_0 rfl ?_
  refine r_objI (pc := 1) dX4_init_1 ol_RX4_3 ⟨Nat.le_of_ble_eq_true rfl, Nat.le_of_ble_eq_true rfl⟩ ?_
  refine r_aload_n (pc := 4) (x := 3) dX4_init_4 rfl ?_
  refine r_new (pc := 5) (M := Mk7) dX4_init_5 mk_RX4_9 (by decide +kernel) bd7 hss (by decide +kernel) (by decide +kernel) ⟨Nat.le_of_ble_eq_true rfl, Nat.le_of_ble_eq_true rfl⟩ (fun ad1 hg1 => ?_)
  replace hg1 := g_tr (n := 4) (by decide +kernel) hg0 hg1
  show Gw _ _ _ (g_xa X ad1) 8 [some (.ref 3)] [.ref 4, .ref 3] Mk8 1 5 _
  refine r_dup (pc := 8) dX4_init_8 rfl ?_
  refine r_callIN (pc := 9) (M := Mk8) (S0 := [.ref 4, .ref 3]) (vs := []) (cA4) giX10_init lk_RX4_11 dX4_init_9 rfl hAO (by decide +kernel) hss (by decide +kernel) (by decide +kernel) rfl ⟨Nat.le_of_ble_eq_true rfl, Nat.le_of_ble_eq_true rfl⟩ (Nat.le_of_ble_eq_true rfl) ⟨Nat.le_of_ble_eq_true rfl, Nat.le_of_ble_eq_true rfl⟩ (fun ad2 v M9 hg2 h => ?_)
  obtain ⟨rfl, rfl⟩ := h
  replace hg2 := g_tr (n := 4) (by decide +kernel) hg1 hg2
  show Gw _ _ _ (g_xa X ad2) 12 [some (.ref 3)] [.ref 4, .ref 3] Mk15 3 167 _
  refine r_putFR (pc := 12) (M := Mk15) (nf := 5) dX4_init_12 fl_RX4_12 fT_4_0 (Or.inl ⟨_, rfl⟩) rfl rfl (by decide +kernel) (by decide +kernel) rfl rfl ?_
  show Gw _ _ _ _ 15 [some (.ref 3)] [] Mk16 3 167 _
  refine r_aload_n (pc := 15) (x := 3) dX4_init_15 rfl ?_
  refine r_sipush (pc := 16) (v := 320) dX4_init_16 (by decide) ?_
  refine r_newa (pc := 19) (M := Mk16) (N := 320) dX4_init_19 g_ai (by decide) (by decide) (by decide) (by decide +kernel) bd16 hss (by decide +kernel) (by decide +kernel) ⟨Nat.le_of_ble_eq_true rfl, Nat.le_of_ble_eq_true rfl⟩ (fun ad3 hg3 => ?_)
  replace hg3 := g_tr (n := 4) (by decide +kernel) hg2 hg3
  show Gw _ _ _ (g_xa X ad3) 21 [some (.ref 3)] [.ref 7, .ref 3] Mk17 4 487 _
  refine r_putFR (pc := 21) (M := Mk17) (nf := 5) dX4_init_21 fl_RX4_18 fT_4_1 (Or.inr ⟨_, rfl⟩) rfl rfl (by decide +kernel) (by decide +kernel) rfl rfl ?_
  show Gw _ _ _ _ 24 [some (.ref 3)] [] Mk18 4 487 _
  refine r_aload_n (pc := 24) (x := 3) dX4_init_24 rfl ?_
  refine r_iconst (pc := 25) (v := 0) dX4_init_25 (by decide) ?_
  refine r_putI (pc := 26) (M := Mk18) (nf := 5) dX4_init_26 fl_RX4_22 fw_4_2 (by decide +kernel) (by decide +kernel) rfl rfl ?_
  show Gw _ _ _ _ 29 [some (.ref 3)] [] Mk19 4 487 _
  refine r_aload_n (pc := 29) (x := 3) dX4_init_29 rfl ?_
  refine r_sipush (pc := 30) (v := 320) dX4_init_30 (by decide) ?_
  refine r_newa (pc := 33) (M := Mk19) (N := 320) dX4_init_33 g_ai (by decide) (by decide) (by decide) (by decide +kernel) bd19 hss (by decide +kernel) (by decide +kernel) ⟨Nat.le_of_ble_eq_true rfl, Nat.le_of_ble_eq_true rfl⟩ (fun ad4 hg4 => ?_)
  replace hg4 := g_tr (n := 4) (by decide +kernel) hg3 hg4
  show Gw _ _ _ (g_xa X ad4) 35 [some (.ref 3)] [.ref 8, .ref 3] Mk20 5 807 _
  refine r_putFR (pc := 35) (M := Mk20) (nf := 5) dX4_init_35 fl_RX4_26 fT_4_3 (Or.inr ⟨_, rfl⟩) rfl rfl (by decide +kernel) (by decide +kernel) rfl rfl ?_
  show Gw _ _ _ _ 38 [some (.ref 3)] [] Mk21 5 807 _
  refine r_aload_n (pc := 38) (x := 3) dX4_init_38 rfl ?_
  refine r_iconst (pc := 39) (v := 0) dX4_init_39 (by decide) ?_
  refine r_putI (pc := 40) (M := Mk21) (nf := 5) dX4_init_40 fl_RX4_29 fw_4_4 (by decide +kernel) (by decide +kernel) rfl rfl ?_
  show Gw _ _ _ _ 43 [some (.ref 3)] [] Mk22 5 807 _
  exact r_vretA (pc := 43) dX4_init_43 rfl (Nat.le_refl _) (Nat.le_refl _) hg4 ⟨rfl, rfl⟩
set_option maxRecDepth 20000 in
theorem cA6 {l : Launch} : CtA l mX5_init 1 1 24 [.ref 10] Mk25 (fun v M' => v = none ∧ M' = Mk29) := by
  refine CtA.of (by decide) (Nat.le_of_ble_eq_true rfl) (fun X hss hAO => ?_)
  have hg0 : ∀ a, a < 11 ∨ 500 ≤ a → g_ad X a = g_ad X a := fun _ _ => rfl
  refine n_L (L' := [some (.ref 10)]) (le_s (le_e)) ?_
  show Gw _ _ _ (g_xa X (g_ad X)) 0 _ [] Mk25 0 0 (g_ZA X 11 _ _ _)
  refine r_aload_n (pc := 0) (x := 10) dX5_init_0 rfl ?_
  refine r_objI (pc := 1) dX5_init_1 ol_RX5_3 ⟨Nat.le_of_ble_eq_true rfl, Nat.le_of_ble_eq_true rfl⟩ ?_
  refine r_aload_n (pc := 4) (x := 10) dX5_init_4 rfl ?_
  refine r_bipush (pc := 5) (v := 24) dX5_init_5 (by decide) ?_
  refine r_newa (pc := 7) (M := Mk25) (N := 24) dX5_init_7 g_ai (by decide) (by decide) (by decide) (by decide +kernel) bd25 hss (by decide +kernel) (by decide +kernel) ⟨Nat.le_of_ble_eq_true rfl, Nat.le_of_ble_eq_true rfl⟩ (fun ad1 hg1 => ?_)
  replace hg1 := g_tr (n := 11) (by decide +kernel) hg0 hg1
  show Gw _ _ _ (g_xa X ad1) 9 [some (.ref 10)] [.ref 11, .ref 10] Mk26 1 24 _
  refine r_putFR (pc := 9) (M := Mk26) (nf := 3) dX5_init_9 fl_RX5_9 fT_5_0 (Or.inr ⟨_, rfl⟩) rfl rfl (by decide +kernel) (by decide +kernel) rfl rfl ?_
  show Gw _ _ _ _ 12 [some (.ref 10)] [] Mk27 1 24 _
  refine r_aload_n (pc := 12) (x := 10) dX5_init_12 rfl ?_
  refine r_iconst (pc := 13) (v := 0) dX5_init_13 (by decide) ?_
  refine r_putI (pc := 14) (M := Mk27) (nf := 3) dX5_init_14 fl_RX5_15 fw_5_1 (by decide +kernel) (by decide +kernel) rfl rfl ?_
  show Gw _ _ _ _ 17 [some (.ref 10)] [] Mk28 1 24 _
  refine r_aload_n (pc := 17) (x := 10) dX5_init_17 rfl ?_
  refine r_iconst (pc := 18) (v := 0) dX5_init_18 (by decide) ?_
  refine r_putZ (pc := 19) (M := Mk28) (nf := 3) dX5_init_19 fl_RX5_19 fw_5_2 (by decide +kernel) (by decide +kernel) rfl rfl (by decide) ?_
  show Gw _ _ _ _ 22 [some (.ref 10)] [] Mk29 1 24 _
  exact r_vretA (pc := 22) dX5_init_22 rfl (Nat.le_refl _) (Nat.le_refl _) hg1 ⟨rfl, rfl⟩
set_option maxRecDepth 20000 in
theorem cA7 {l : Launch} : CtA l mX5_init 1 1 24 [.ref 12] Mk31 (fun v M' => v = none ∧ M' = Mk35) := by
  refine CtA.of (by decide) (Nat.le_of_ble_eq_true rfl) (fun X hss hAO => ?_)
  have hg0 : ∀ a, a < 13 ∨ 500 ≤ a → g_ad X a = g_ad X a := fun _ _ => rfl
  refine n_L (L' := [some (.ref 12)]) (le_s (le_e)) ?_
  show Gw _ _ _ (g_xa X (g_ad X)) 0 _ [] Mk31 0 0 (g_ZA X 13 _ _ _)
  refine r_aload_n (pc := 0) (x := 12) dX5_init_0 rfl ?_
  refine r_objI (pc := 1) dX5_init_1 ol_RX5_3 ⟨Nat.le_of_ble_eq_true rfl, Nat.le_of_ble_eq_true rfl⟩ ?_
  refine r_aload_n (pc := 4) (x := 12) dX5_init_4 rfl ?_
  refine r_bipush (pc := 5) (v := 24) dX5_init_5 (by decide) ?_
  refine r_newa (pc := 7) (M := Mk31) (N := 24) dX5_init_7 g_ai (by decide) (by decide) (by decide) (by decide +kernel) bd31 hss (by decide +kernel) (by decide +kernel) ⟨Nat.le_of_ble_eq_true rfl, Nat.le_of_ble_eq_true rfl⟩ (fun ad1 hg1 => ?_)
  replace hg1 := g_tr (n := 13) (by decide +kernel) hg0 hg1
  show Gw _ _ _ (g_xa X ad1) 9 [some (.ref 12)] [.ref 13, .ref 12] Mk32 1 24 _
  refine r_putFR (pc := 9) (M := Mk32) (nf := 3) dX5_init_9 fl_RX5_9 fT_5_0 (Or.inr ⟨_, rfl⟩) rfl rfl (by decide +kernel) (by decide +kernel) rfl rfl ?_
  show Gw _ _ _ _ 12 [some (.ref 12)] [] Mk33 1 24 _
  refine r_aload_n (pc := 12) (x := 12) dX5_init_12 rfl ?_
  refine r_iconst (pc := 13) (v := 0) dX5_init_13 (by decide) ?_
  refine r_putI (pc := 14) (M := Mk33) (nf := 3) dX5_init_14 fl_RX5_15 fw_5_1 (by decide +kernel) (by decide +kernel) rfl rfl ?_
  show Gw _ _ _ _ 17 [some (.ref 12)] [] Mk34 1 24 _
  refine r_aload_n (pc := 17) (x := 12) dX5_init_17 rfl ?_
  refine r_iconst (pc := 18) (v := 0) dX5_init_18 (by decide) ?_
  refine r_putZ (pc := 19) (M := Mk34) (nf := 3) dX5_init_19 fl_RX5_19 fw_5_2 (by decide +kernel) (by decide +kernel) rfl rfl (by decide) ?_
  show Gw _ _ _ _ 22 [some (.ref 12)] [] Mk35 1 24 _
  exact r_vretA (pc := 22) dX5_init_22 rfl (Nat.le_refl _) (Nat.le_refl _) hg1 ⟨rfl, rfl⟩
set_option maxRecDepth 20000 in
theorem cA8 {l : Launch} : CtA l mX5_init 1 1 24 [.ref 14] Mk37 (fun v M' => v = none ∧ M' = Mk41) := by
  refine CtA.of (by decide) (Nat.le_of_ble_eq_true rfl) (fun X hss hAO => ?_)
  have hg0 : ∀ a, a < 15 ∨ 500 ≤ a → g_ad X a = g_ad X a := fun _ _ => rfl
  refine n_L (L' := [some (.ref 14)]) (le_s (le_e)) ?_
  show Gw _ _ _ (g_xa X (g_ad X)) 0 _ [] Mk37 0 0 (g_ZA X 15 _ _ _)
  refine r_aload_n (pc := 0) (x := 14) dX5_init_0 rfl ?_
  refine r_objI (pc := 1) dX5_init_1 ol_RX5_3 ⟨Nat.le_of_ble_eq_true rfl, Nat.le_of_ble_eq_true rfl⟩ ?_
  refine r_aload_n (pc := 4) (x := 14) dX5_init_4 rfl ?_
  refine r_bipush (pc := 5) (v := 24) dX5_init_5 (by decide) ?_
  refine r_newa (pc := 7) (M := Mk37) (N := 24) dX5_init_7 g_ai (by decide) (by decide) (by decide) (by decide +kernel) bd37 hss (by decide +kernel) (by decide +kernel) ⟨Nat.le_of_ble_eq_true rfl, Nat.le_of_ble_eq_true rfl⟩ (fun ad1 hg1 => ?_)
  replace hg1 := g_tr (n := 15) (by decide +kernel) hg0 hg1
  show Gw _ _ _ (g_xa X ad1) 9 [some (.ref 14)] [.ref 15, .ref 14] Mk38 1 24 _
  refine r_putFR (pc := 9) (M := Mk38) (nf := 3) dX5_init_9 fl_RX5_9 fT_5_0 (Or.inr ⟨_, rfl⟩) rfl rfl (by decide +kernel) (by decide +kernel) rfl rfl ?_
  show Gw _ _ _ _ 12 [some (.ref 14)] [] Mk39 1 24 _
  refine r_aload_n (pc := 12) (x := 14) dX5_init_12 rfl ?_
  refine r_iconst (pc := 13) (v := 0) dX5_init_13 (by decide) ?_
  refine r_putI (pc := 14) (M := Mk39) (nf := 3) dX5_init_14 fl_RX5_15 fw_5_1 (by decide +kernel) (by decide +kernel) rfl rfl ?_
  show Gw _ _ _ _ 17 [some (.ref 14)] [] Mk40 1 24 _
  refine r_aload_n (pc := 17) (x := 14) dX5_init_17 rfl ?_
  refine r_iconst (pc := 18) (v := 0) dX5_init_18 (by decide) ?_
  refine r_putZ (pc := 19) (M := Mk40) (nf := 3) dX5_init_19 fl_RX5_19 fw_5_2 (by decide +kernel) (by decide +kernel) rfl rfl (by decide) ?_
  show Gw _ _ _ _ 22 [some (.ref 14)] [] Mk41 1 24 _
  exact r_vretA (pc := 22) dX5_init_22 rfl (Nat.le_refl _) (Nat.le_refl _) hg1 ⟨rfl, rfl⟩
set_option maxRecDepth 20000 in
theorem cA9 {l : Launch} : CtA l mX5_init 1 1 24 [.ref 16] Mk43 (fun v M' => v = none ∧ M' = Mk47) := by
  refine CtA.of (by decide) (Nat.le_of_ble_eq_true rfl) (fun X hss hAO => ?_)
  have hg0 : ∀ a, a < 17 ∨ 500 ≤ a → g_ad X a = g_ad X a := fun _ _ => rfl
  refine n_L (L' := [some (.ref 16)]) (le_s (le_e)) ?_
  show Gw _ _ _ (g_xa X (g_ad X)) 0 _ [] Mk43 0 0 (g_ZA X 17 _ _ _)
  refine r_aload_n (pc := 0) (x := 16) dX5_init_0 rfl ?_
  refine r_objI (pc := 1) dX5_init_1 ol_RX5_3 ⟨Nat.le_of_ble_eq_true rfl, Nat.le_of_ble_eq_true rfl⟩ ?_
  refine r_aload_n (pc := 4) (x := 16) dX5_init_4 rfl ?_
  refine r_bipush (pc := 5) (v := 24) dX5_init_5 (by decide) ?_
  refine r_newa (pc := 7) (M := Mk43) (N := 24) dX5_init_7 g_ai (by decide) (by decide) (by decide) (by decide +kernel) bd43 hss (by decide +kernel) (by decide +kernel) ⟨Nat.le_of_ble_eq_true rfl, Nat.le_of_ble_eq_true rfl⟩ (fun ad1 hg1 => ?_)
  replace hg1 := g_tr (n := 17) (by decide +kernel) hg0 hg1
  show Gw _ _ _ (g_xa X ad1) 9 [some (.ref 16)] [.ref 17, .ref 16] Mk44 1 24 _
  refine r_putFR (pc := 9) (M := Mk44) (nf := 3) dX5_init_9 fl_RX5_9 fT_5_0 (Or.inr ⟨_, rfl⟩) rfl rfl (by decide +kernel) (by decide +kernel) rfl rfl ?_
  show Gw _ _ _ _ 12 [some (.ref 16)] [] Mk45 1 24 _
  refine r_aload_n (pc := 12) (x := 16) dX5_init_12 rfl ?_
  refine r_iconst (pc := 13) (v := 0) dX5_init_13 (by decide) ?_
  refine r_putI (pc := 14) (M := Mk45) (nf := 3) dX5_init_14 fl_RX5_15 fw_5_1 (by decide +kernel) (by decide +kernel) rfl rfl ?_
  show Gw _ _ _ _ 17 [some (.ref 16)] [] Mk46 1 24 _
  refine r_aload_n (pc := 17) (x := 16) dX5_init_17 rfl ?_
  refine r_iconst (pc := 18) (v := 0) dX5_init_18 (by decide) ?_
  refine r_putZ (pc := 19) (M := Mk46) (nf := 3) dX5_init_19 fl_RX5_19 fw_5_2 (by decide +kernel) (by decide +kernel) rfl rfl (by decide) ?_
  show Gw _ _ _ _ 22 [some (.ref 16)] [] Mk47 1 24 _
  exact r_vretA (pc := 22) dX5_init_22 rfl (Nat.le_refl _) (Nat.le_refl _) hg1 ⟨rfl, rfl⟩
set_option maxRecDepth 20000 in
theorem cA5 {l : Launch} : CtA l mX2_init 2 8 108 [.ref 9] Mk24 (fun v M' => v = none ∧ M' = Mk48) := by
  refine CtA.of (by decide) (Nat.le_of_ble_eq_true rfl) (fun X hss hAO => ?_)
  have hg0 : ∀ a, a < 10 ∨ 500 ≤ a → g_ad X a = g_ad X a := fun _ _ => rfl
  refine n_L (L' := [some (.ref 9)]) (le_s (le_e)) ?_
  show Gw _ _ _ (g_xa X (g_ad X)) 0 _ [] Mk24 0 0 (g_ZA X 10 _ _ _)
  refine r_aload_n (pc := 0) (x := 9) dX2_init_0 rfl ?_
  refine r_objI (pc := 1) dX2_init_1 ol_RX2_3 ⟨Nat.le_of_ble_eq_true rfl, Nat.le_of_ble_eq_true rfl⟩ ?_
  refine r_aload_n (pc := 4) (x := 9) dX2_init_4 rfl ?_
  refine r_new (pc := 5) (M := Mk24) dX2_init_5 mk_RX2_9 (by decide +kernel) bd24 hss (by decide +kernel) (by decide +kernel) ⟨Nat.le_of_ble_eq_true rfl, Nat.le_of_ble_eq_true rfl⟩ (fun ad1 hg1 => ?_)
  replace hg1 := g_tr (n := 10) (by decide +kernel) hg0 hg1
  show Gw _ _ _ (g_xa X ad1) 8 [some (.ref 9)] [.ref 10, .ref 9] Mk25 1 3 _
  refine r_dup (pc := 8) dX2_init_8 rfl ?_
  refine r_callIN (pc := 9) (M := Mk25) (S0 := [.ref 10, .ref 9]) (vs := []) (cA6) giX5_init lk_RX2_11 dX2_init_9 rfl hAO (by decide +kernel) hss (by decide +kernel) (by decide +kernel) rfl ⟨Nat.le_of_ble_eq_true rfl, Nat.le_of_ble_eq_true rfl⟩ (Nat.le_of_ble_eq_true rfl) ⟨Nat.le_of_ble_eq_true rfl, Nat.le_of_ble_eq_true rfl⟩ (fun ad2 v M9 hg2 h => ?_)
  obtain ⟨rfl, rfl⟩ := h
  replace hg2 := g_tr (n := 10) (by decide +kernel) hg1 hg2
  show Gw _ _ _ (g_xa X ad2) 12 [some (.ref 9)] [.ref 10, .ref 9] Mk29 2 27 _
  refine r_putFR (pc := 12) (M := Mk29) (nf := 4) dX2_init_12 fl_RX2_12 fT_2_0 (Or.inl ⟨_, rfl⟩) rfl rfl (by decide +kernel) (by decide +kernel) rfl rfl ?_
  show Gw _ _ _ _ 15 [some (.ref 9)] [] Mk30 2 27 _
  refine r_aload_n (pc := 15) (x := 9) dX2_init_15 rfl ?_
  refine r_new (pc := 16) (M := Mk30) dX2_init_16 mk_RX2_9 (by decide +kernel) bd30 hss (by decide +kernel) (by decide +kernel) ⟨Nat.le_of_ble_eq_true rfl, Nat.le_of_ble_eq_true rfl⟩ (fun ad3 hg3 => ?_)
  replace hg3 := g_tr (n := 10) (by decide +kernel) hg2 hg3
  show Gw _ _ _ (g_xa X ad3) 19 [some (.ref 9)] [.ref 12, .ref 9] Mk31 3 30 _
  refine r_dup (pc := 19) dX2_init_19 rfl ?_
  refine r_callIN (pc := 20) (M := Mk31) (S0 := [.ref 12, .ref 9]) (vs := []) (cA7) giX5_init lk_RX2_11 dX2_init_20 rfl hAO (by decide +kernel) hss (by decide +kernel) (by decide +kernel) rfl ⟨Nat.le_of_ble_eq_true rfl, Nat.le_of_ble_eq_true rfl⟩ (Nat.le_of_ble_eq_true rfl) ⟨Nat.le_of_ble_eq_true rfl, Nat.le_of_ble_eq_true rfl⟩ (fun ad4 v M9 hg4 h => ?_)
  obtain ⟨rfl, rfl⟩ := h
  replace hg4 := g_tr (n := 10) (by decide +kernel) hg3 hg4
  show Gw _ _ _ (g_xa X ad4) 23 [some (.ref 9)] [.ref 12, .ref 9] Mk35 4 54 _
  refine r_putR (pc := 23) (M := Mk35) (nf := 4) dX2_init_23 fl_RX2_18 fw_2_1 (Or.inl ⟨_, rfl⟩) (by decide +kernel) (by decide +kernel) rfl rfl ?_
  show Gw _ _ _ _ 26 [some (.ref 9)] [] Mk36 4 54 _
  refine r_aload_n (pc := 26) (x := 9) dX2_init_26 rfl ?_
  refine r_new (pc := 27) (M := Mk36) dX2_init_27 mk_RX2_9 (by decide +kernel) bd36 hss (by decide +kernel) (by decide +kernel) ⟨Nat.le_of_ble_eq_true rfl, Nat.le_of_ble_eq_true rfl⟩ (fun ad5 hg5 => ?_)
  replace hg5 := g_tr (n := 10) (by decide +kernel) hg4 hg5
  show Gw _ _ _ (g_xa X ad5) 30 [some (.ref 9)] [.ref 14, .ref 9] Mk37 5 57 _
  refine r_dup (pc := 30) dX2_init_30 rfl ?_
  refine r_callIN (pc := 31) (M := Mk37) (S0 := [.ref 14, .ref 9]) (vs := []) (cA8) giX5_init lk_RX2_11 dX2_init_31 rfl hAO (by decide +kernel) hss (by decide +kernel) (by decide +kernel) rfl ⟨Nat.le_of_ble_eq_true rfl, Nat.le_of_ble_eq_true rfl⟩ (Nat.le_of_ble_eq_true rfl) ⟨Nat.le_of_ble_eq_true rfl, Nat.le_of_ble_eq_true rfl⟩ (fun ad6 v M9 hg6 h => ?_)
  obtain ⟨rfl, rfl⟩ := h
  replace hg6 := g_tr (n := 10) (by decide +kernel) hg5 hg6
  show Gw _ _ _ (g_xa X ad6) 34 [some (.ref 9)] [.ref 14, .ref 9] Mk41 6 81 _
  refine r_putR (pc := 34) (M := Mk41) (nf := 4) dX2_init_34 fl_RX2_21 fw_2_2 (Or.inl ⟨_, rfl⟩) (by decide +kernel) (by decide +kernel) rfl rfl ?_
  show Gw _ _ _ _ 37 [some (.ref 9)] [] Mk42 6 81 _
  refine r_aload_n (pc := 37) (x := 9) dX2_init_37 rfl ?_
  refine r_new (pc := 38) (M := Mk42) dX2_init_38 mk_RX2_9 (by decide +kernel) bd42 hss (by decide +kernel) (by decide +kernel) ⟨Nat.le_of_ble_eq_true rfl, Nat.le_of_ble_eq_true rfl⟩ (fun ad7 hg7 => ?_)
  replace hg7 := g_tr (n := 10) (by decide +kernel) hg6 hg7
  show Gw _ _ _ (g_xa X ad7) 41 [some (.ref 9)] [.ref 16, .ref 9] Mk43 7 84 _
  refine r_dup (pc := 41) dX2_init_41 rfl ?_
  refine r_callIN (pc := 42) (M := Mk43) (S0 := [.ref 16, .ref 9]) (vs := []) (cA9) giX5_init lk_RX2_11 dX2_init_42 rfl hAO (by decide +kernel) hss (by decide +kernel) (by decide +kernel) rfl ⟨Nat.le_of_ble_eq_true rfl, Nat.le_of_ble_eq_true rfl⟩ (Nat.le_of_ble_eq_true rfl) ⟨Nat.le_of_ble_eq_true rfl, Nat.le_of_ble_eq_true rfl⟩ (fun ad8 v M9 hg8 h => ?_)
  obtain ⟨rfl, rfl⟩ := h
  replace hg8 := g_tr (n := 10) (by decide +kernel) hg7 hg8
  show Gw _ _ _ (g_xa X ad8) 45 [some (.ref 9)] [.ref 16, .ref 9] Mk47 8 108 _
  refine r_putR (pc := 45) (M := Mk47) (nf := 4) dX2_init_45 fl_RX2_24 fw_2_3 (Or.inl ⟨_, rfl⟩) (by decide +kernel) (by decide +kernel) rfl rfl ?_
  show Gw _ _ _ _ 48 [some (.ref 9)] [] Mk48 8 108 _
  exact r_vretA (pc := 48) dX2_init_48 rfl (Nat.le_refl _) (Nat.le_refl _) hg8 ⟨rfl, rfl⟩
set_option maxRecDepth 20000 in
theorem cA10 {l : Launch} : CtA l mX6_init 1 1 24 [.ref 18] Mk50 (fun v M' => v = none ∧ M' = Mk53) := by
  refine CtA.of (by decide) (Nat.le_of_ble_eq_true rfl) (fun X hss hAO => ?_)
  have hg0 : ∀ a, a < 19 ∨ 500 ≤ a → g_ad X a = g_ad X a := fun _ _ => rfl
  refine n_L (L' := [some (.ref 18)]) (le_s (le_e)) ?_
  show Gw _ _ _ (g_xa X (g_ad X)) 0 _ [] Mk50 0 0 (g_ZA X 19 _ _ _)
  refine r_aload_n (pc := 0) (x := 18) dX6_init_0 rfl ?_
  refine r_objI (pc := 1) dX6_init_1 ol_RX6_3 ⟨Nat.le_of_ble_eq_true rfl, Nat.le_of_ble_eq_true rfl⟩ ?_
  refine r_aload_n (pc := 4) (x := 18) dX6_init_4 rfl ?_
  refine r_bipush (pc := 5) (v := 24) dX6_init_5 (by decide) ?_
  refine r_newa (pc := 7) (M := Mk50) (N := 24) dX6_init_7 g_ai (by decide) (by decide) (by decide) (by decide +kernel) bd50 hss (by decide +kernel) (by decide +kernel) ⟨Nat.le_of_ble_eq_true rfl, Nat.le_of_ble_eq_true rfl⟩ (fun ad1 hg1 => ?_)
  replace hg1 := g_tr (n := 19) (by decide +kernel) hg0 hg1
  show Gw _ _ _ (g_xa X ad1) 9 [some (.ref 18)] [.ref 19, .ref 18] Mk51 1 24 _
  refine r_putFR (pc := 9) (M := Mk51) (nf := 2) dX6_init_9 fl_RX6_9 fT_6_0 (Or.inr ⟨_, rfl⟩) rfl rfl (by decide +kernel) (by decide +kernel) rfl rfl ?_
  show Gw _ _ _ _ 12 [some (.ref 18)] [] Mk52 1 24 _
  refine r_aload_n (pc := 12) (x := 18) dX6_init_12 rfl ?_
  refine r_iconst (pc := 13) (v := 0) dX6_init_13 (by decide) ?_
  refine r_putI (pc := 14) (M := Mk52) (nf := 2) dX6_init_14 fl_RX6_15 fw_6_1 (by decide +kernel) (by decide +kernel) rfl rfl ?_
  show Gw _ _ _ _ 17 [some (.ref 18)] [] Mk53 1 24 _
  exact r_vretA (pc := 17) dX6_init_17 rfl (Nat.le_refl _) (Nat.le_refl _) hg1 ⟨rfl, rfl⟩
set_option maxRecDepth 20000 in
theorem cA11 {l : Launch} : CtA l mX8_init 1 1 170 [.ref 20] Mk55 (fun v M' => v = none ∧ M' = Mk58) := by
  refine CtA.of (by decide) (Nat.le_of_ble_eq_true rfl) (fun X hss hAO => ?_)
  have hg0 : ∀ a, a < 21 ∨ 500 ≤ a → g_ad X a = g_ad X a := fun _ _ => rfl
  refine n_L (L' := [some (.ref 20)]) (le_s (le_e)) ?_
  show Gw _ _ _ (g_xa X (g_ad X)) 0 _ [] Mk55 0 0 (g_ZA X 21 _ _ _)
  refine r_aload_n (pc := 0) (x := 20) dX8_init_0 rfl ?_
  refine r_objI (pc := 1) dX8_init_1 ol_RX8_5 ⟨Nat.le_of_ble_eq_true rfl, Nat.le_of_ble_eq_true rfl⟩ ?_
  refine r_aload_n (pc := 4) (x := 20) dX8_init_4 rfl ?_
  refine r_sipush (pc := 5) (v := 170) dX8_init_5 (by decide) ?_
  refine r_newa (pc := 8) (M := Mk55) (N := 170) dX8_init_8 g_ai (by decide) (by decide) (by decide) (by decide +kernel) bd55 hss (by decide +kernel) (by decide +kernel) ⟨Nat.le_of_ble_eq_true rfl, Nat.le_of_ble_eq_true rfl⟩ (fun ad1 hg1 => ?_)
  replace hg1 := g_tr (n := 21) (by decide +kernel) hg0 hg1
  show Gw _ _ _ (g_xa X ad1) 10 [some (.ref 20)] [.ref 21, .ref 20] Mk56 1 170 _
  refine r_putFR (pc := 10) (M := Mk56) (nf := 1) dX8_init_10 fl_RX8_11 fT_8_0 (Or.inr ⟨_, rfl⟩) rfl rfl (by decide +kernel) (by decide +kernel) rfl rfl ?_
  show Gw _ _ _ _ 13 [some (.ref 20)] [] Mk57 1 170 _
  refine r_aload_n (pc := 13) (x := 20) dX8_init_13 rfl ?_
  refine r_getR (pc := 14) (M := Mk57) (nf := 1) (q := 21) dX8_init_14 fl_RX8_11 (by decide +kernel) (by decide +kernel) rfl rfl (by decide +kernel) ?_
  refine r_iconst (pc := 17) (v := 0) dX8_init_17 (by decide) ?_
  refine r_sipush (pc := 18) (v := 3000) dX8_init_18 (by decide) ?_
  refine r_iast (pc := 21) (M := Mk57) (len := 170) dX8_init_21 (by decide +kernel) (by decide +kernel) (vp_inc (by decide)) ?_
  show Gw _ _ _ _ 22 [some (.ref 20)] [] Mk58 1 170 _
  exact r_vretA (pc := 22) dX8_init_22 rfl (Nat.le_refl _) (Nat.le_refl _) hg1 ⟨rfl, rfl⟩
set_option maxRecDepth 20000 in
theorem cA12 {l : Launch} : CtA l mX8_init 1 1 170 [.ref 22] Mk60 (fun v M' => v = none ∧ M' = Mk63) := by
  refine CtA.of (by decide) (Nat.le_of_ble_eq_true rfl) (fun X hss hAO => ?_)
  have hg0 : ∀ a, a < 23 ∨ 500 ≤ a → g_ad X a = g_ad X a := fun _ _ => rfl
  refine n_L (L' := [some (.ref 22)]) (le_s (le_e)) ?_
  show Gw _ _ _ (g_xa X (g_ad X)) 0 _ [] Mk60 0 0 (g_ZA X 23 _ _ _)
  refine r_aload_n (pc := 0) (x := 22) dX8_init_0 rfl ?_
  refine r_objI (pc := 1) dX8_init_1 ol_RX8_5 ⟨Nat.le_of_ble_eq_true rfl, Nat.le_of_ble_eq_true rfl⟩ ?_
  refine r_aload_n (pc := 4) (x := 22) dX8_init_4 rfl ?_
  refine r_sipush (pc := 5) (v := 170) dX8_init_5 (by decide) ?_
  refine r_newa (pc := 8) (M := Mk60) (N := 170) dX8_init_8 g_ai (by decide) (by decide) (by decide) (by decide +kernel) bd60 hss (by decide +kernel) (by decide +kernel) ⟨Nat.le_of_ble_eq_true rfl, Nat.le_of_ble_eq_true rfl⟩ (fun ad1 hg1 => ?_)
  replace hg1 := g_tr (n := 23) (by decide +kernel) hg0 hg1
  show Gw _ _ _ (g_xa X ad1) 10 [some (.ref 22)] [.ref 23, .ref 22] Mk61 1 170 _
  refine r_putFR (pc := 10) (M := Mk61) (nf := 1) dX8_init_10 fl_RX8_11 fT_8_0 (Or.inr ⟨_, rfl⟩) rfl rfl (by decide +kernel) (by decide +kernel) rfl rfl ?_
  show Gw _ _ _ _ 13 [some (.ref 22)] [] Mk62 1 170 _
  refine r_aload_n (pc := 13) (x := 22) dX8_init_13 rfl ?_
  refine r_getR (pc := 14) (M := Mk62) (nf := 1) (q := 23) dX8_init_14 fl_RX8_11 (by decide +kernel) (by decide +kernel) rfl rfl (by decide +kernel) ?_
  refine r_iconst (pc := 17) (v := 0) dX8_init_17 (by decide) ?_
  refine r_sipush (pc := 18) (v := 3000) dX8_init_18 (by decide) ?_
  refine r_iast (pc := 21) (M := Mk62) (len := 170) dX8_init_21 (by decide +kernel) (by decide +kernel) (vp_inc (by decide)) ?_
  show Gw _ _ _ _ 22 [some (.ref 22)] [] Mk63 1 170 _
  exact r_vretA (pc := 22) dX8_init_22 rfl (Nat.le_refl _) (Nat.le_refl _) hg1 ⟨rfl, rfl⟩
set_option maxRecDepth 20000 in
theorem cA13 {l : Launch} : CtA l mX3_init 1 9 1368 [.ref 25] Mk67 (fun v M' => v = none ∧ M' = Mk71) := by
  refine CtA.of (by decide) (Nat.le_of_ble_eq_true rfl) (fun X hss hAO => ?_)
  have hg0 : ∀ a, a < 26 ∨ 500 ≤ a → g_ad X a = g_ad X a := fun _ _ => rfl
  refine n_L (L' := [some (.ref 25)]) (le_s (le_e)) ?_
  show Gw _ _ _ (g_xa X (g_ad X)) 0 _ [] Mk67 0 0 (g_ZA X 26 _ _ _)
  refine r_aload_n (pc := 0) (x := 25) dX3_init_0 rfl ?_
  refine r_objI (pc := 1) dX3_init_1 ol_RX3_1 ⟨Nat.le_of_ble_eq_true rfl, Nat.le_of_ble_eq_true rfl⟩ ?_
  refine r_aload_n (pc := 4) (x := 25) dX3_init_4 rfl ?_
  refine r_bipush (pc := 5) (v := 8) dX3_init_5 (by decide) ?_
  refine r_sipush (pc := 7) (v := 170) dX3_init_7 (by decide) ?_
  refine r_mna (pc := 10) (M := Mk67) (N := 8) (K := 170) dX3_init_10 cl_RX3_11 hAO (by decide) (by decide) (by decide) (by decide) ⟨by decide, by decide⟩ (by decide +kernel) bd67 hss (by decide +kernel) (by decide +kernel) ⟨Nat.le_of_ble_eq_true rfl, Nat.le_of_ble_eq_true rfl⟩ (fun ad1 hg1 => ?_)
  replace hg1 := g_tr (n := 26) (by decide +kernel) hg0 hg1
  show Gw _ _ _ (g_xa X ad1) 14 [some (.ref 25)] [.ref 26, .ref 25] Mk68 9 1368 _
  refine r_putFR (pc := 14) (M := Mk68) (nf := 3) dX3_init_14 fl_RX3_13 fT_3_0 (Or.inr ⟨_, rfl⟩) rfl rfl (by decide +kernel) (by decide +kernel) rfl rfl ?_
  show Gw _ _ _ _ 17 [some (.ref 25)] [] Mk69 9 1368 _
  refine r_aload_n (pc := 17) (x := 25) dX3_init_17 rfl ?_
  refine r_iconst (pc := 18) (v := 0) dX3_init_18 (by decide) ?_
  refine r_putI (pc := 19) (M := Mk69) (nf := 3) dX3_init_19 fl_RX3_16 fw_3_1 (by decide +kernel) (by decide +kernel) rfl rfl ?_
  show Gw _ _ _ _ 22 [some (.ref 25)] [] Mk70 9 1368 _
  refine r_aload_n (pc := 22) (x := 25) dX3_init_22 rfl ?_
  refine r_iconst (pc := 23) (v := 0) dX3_init_23 (by decide) ?_
  refine r_putI (pc := 24) (M := Mk70) (nf := 3) dX3_init_24 fl_RX3_20 fw_3_2 (by decide +kernel) (by decide +kernel) rfl rfl ?_
  show Gw _ _ _ _ 27 [some (.ref 25)] [] Mk71 9 1368 _
  exact r_vretA (pc := 27) dX3_init_27 rfl (Nat.le_refl _) (Nat.le_refl _) hg1 ⟨rfl, rfl⟩
set_option maxRecDepth 20000 in
theorem cA14 {l : Launch} : CtA l mX7_init 1 49 384 [.ref 38] Mk76 (fun v M' => v = none ∧ M' = Mk93) := by
  refine CtA.of (by decide) (Nat.le_of_ble_eq_true rfl) (fun X hss hAO => ?_)
  have hg0 : ∀ a, a < 39 ∨ 500 ≤ a → g_ad X a = g_ad X a := fun _ _ => rfl
  refine n_L (L' := [some (.ref 38)]) (le_s (le_e)) ?_
  show Gw _ _ _ (g_xa X (g_ad X)) 0 _ [] Mk76 0 0 (g_ZA X 39 _ _ _)
  refine r_aload_n (pc := 0) (x := 38) dX7_init_0 rfl ?_
  refine r_objI (pc := 1) dX7_init_1 ol_RX7_3 ⟨Nat.le_of_ble_eq_true rfl, Nat.le_of_ble_eq_true rfl⟩ ?_
  refine r_aload_n (pc := 4) (x := 38) dX7_init_4 rfl ?_
  refine r_bipush (pc := 5) (v := 6) dX7_init_5 (by decide) ?_
  refine r_newa (pc := 7) (M := Mk76) (N := 6) dX7_init_7 g_ai (by decide) (by decide) (by decide) (by decide +kernel) bd76 hss (by decide +kernel) (by decide +kernel) ⟨Nat.le_of_ble_eq_true rfl, Nat.le_of_ble_eq_true rfl⟩ (fun ad1 hg1 => ?_)
  replace hg1 := g_tr (n := 39) (by decide +kernel) hg0 hg1
  show Gw _ _ _ (g_xa X ad1) 9 [some (.ref 38)] [.ref 39, .ref 38] Mk77 1 6 _
  refine r_putFR (pc := 9) (M := Mk77) (nf := 10) dX7_init_9 fl_RX7_9 fT_7_0 (Or.inr ⟨_, rfl⟩) rfl rfl (by decide +kernel) (by decide +kernel) rfl rfl ?_
  show Gw _ _ _ _ 12 [some (.ref 38)] [] Mk78 1 6 _
  refine r_aload_n (pc := 12) (x := 38) dX7_init_12 rfl ?_
  refine r_iconst (pc := 13) (v := 0) dX7_init_13 (by decide) ?_
  refine r_putI (pc := 14) (M := Mk78) (nf := 10) dX7_init_14 fl_RX7_15 fw_7_1 (by decide +kernel) (by decide +kernel) rfl rfl ?_
  show Gw _ _ _ _ 17 [some (.ref 38)] [] Mk79 1 6 _
  refine r_aload_n (pc := 17) (x := 38) dX7_init_17 rfl ?_
  refine r_bipush (pc := 18) (v := 36) dX7_init_18 (by decide) ?_
  refine r_newa (pc := 20) (M := Mk79) (N := 36) dX7_init_20 g_ai (by decide) (by decide) (by decide) (by decide +kernel) bd79 hss (by decide +kernel) (by decide +kernel) ⟨Nat.le_of_ble_eq_true rfl, Nat.le_of_ble_eq_true rfl⟩ (fun ad2 hg2 => ?_)
  replace hg2 := g_tr (n := 39) (by decide +kernel) hg1 hg2
  show Gw _ _ _ (g_xa X ad2) 22 [some (.ref 38)] [.ref 40, .ref 38] Mk80 2 42 _
  refine r_putFR (pc := 22) (M := Mk80) (nf := 10) dX7_init_22 fl_RX7_19 fT_7_2 (Or.inr ⟨_, rfl⟩) rfl rfl (by decide +kernel) (by decide +kernel) rfl rfl ?_
  show Gw _ _ _ _ 25 [some (.ref 38)] [] Mk81 2 42 _
  refine r_aload_n (pc := 25) (x := 38) dX7_init_25 rfl ?_
  refine r_bipush (pc := 26) (v := 36) dX7_init_26 (by decide) ?_
  refine r_bipush (pc := 28) (v := 6) dX7_init_28 (by decide) ?_
  refine r_mna (pc := 30) (M := Mk81) (N := 36) (K := 6) dX7_init_30 cl_RX7_22 hAO (by decide) (by decide) (by decide) (by decide) ⟨by decide, by decide⟩ (by decide +kernel) bd81 hss (by decide +kernel) (by decide +kernel) ⟨Nat.le_of_ble_eq_true rfl, Nat.le_of_ble_eq_true rfl⟩ (fun ad3 hg3 => ?_)
  replace hg3 := g_tr (n := 39) (by decide +kernel) hg2 hg3
  show Gw _ _ _ (g_xa X ad3) 34 [some (.ref 38)] [.ref 41, .ref 38] Mk82 39 294 _
  refine r_putFR (pc := 34) (M := Mk82) (nf := 10) dX7_init_34 fl_RX7_24 fT_7_3 (Or.inr ⟨_, rfl⟩) rfl rfl (by decide +kernel) (by decide +kernel) rfl rfl ?_
  show Gw _ _ _ _ 37 [some (.ref 38)] [] Mk83 39 294 _
  refine r_aload_n (pc := 37) (x := 38) dX7_init_37 rfl ?_
  refine r_bipush (pc := 38) (v := 6) dX7_init_38 (by decide) ?_
  refine r_bipush (pc := 40) (v := 6) dX7_init_40 (by decide) ?_
  refine r_mna (pc := 42) (M := Mk83) (N := 6) (K := 6) dX7_init_42 cl_RX7_22 hAO (by decide) (by decide) (by decide) (by decide) ⟨by decide, by decide⟩ (by decide +kernel) bd83 hss (by decide +kernel) (by decide +kernel) ⟨Nat.le_of_ble_eq_true rfl, Nat.le_of_ble_eq_true rfl⟩ (fun ad4 hg4 => ?_)
  replace hg4 := g_tr (n := 39) (by decide +kernel) hg3 hg4
  show Gw _ _ _ (g_xa X ad4) 46 [some (.ref 38)] [.ref 78, .ref 38] Mk84 46 336 _
  refine r_putFR (pc := 46) (M := Mk84) (nf := 10) dX7_init_46 fl_RX7_27 fT_7_4 (Or.inr ⟨_, rfl⟩) rfl rfl (by decide +kernel) (by decide +kernel) rfl rfl ?_
  show Gw _ _ _ _ 49 [some (.ref 38)] [] Mk85 46 336 _
  refine r_aload_n (pc := 49) (x := 38) dX7_init_49 rfl ?_
  refine r_bipush (pc := 50) (v := 6) dX7_init_50 (by decide) ?_
  refine r_newa (pc := 52) (M := Mk85) (N := 6) dX7_init_52 g_ai (by decide) (by decide) (by decide) (by decide +kernel) bd85 hss (by decide +kernel) (by decide +kernel) ⟨Nat.le_of_ble_eq_true rfl, Nat.le_of_ble_eq_true rfl⟩ (fun ad5 hg5 => ?_)
  replace hg5 := g_tr (n := 39) (by decide +kernel) hg4 hg5
  show Gw _ _ _ (g_xa X ad5) 54 [some (.ref 38)] [.ref 85, .ref 38] Mk86 47 342 _
  refine r_putFR (pc := 54) (M := Mk86) (nf := 10) dX7_init_54 fl_RX7_30 fT_7_5 (Or.inr ⟨_, rfl⟩) rfl rfl (by decide +kernel) (by decide +kernel) rfl rfl ?_
  show Gw _ _ _ _ 57 [some (.ref 38)] [] Mk87 47 342 _
  refine r_aload_n (pc := 57) (x := 38) dX7_init_57 rfl ?_
  refine r_bipush (pc := 58) (v := 6) dX7_init_58 (by decide) ?_
  refine r_newa (pc := 60) (M := Mk87) (N := 6) dX7_init_60 g_ai (by decide) (by decide) (by decide) (by decide +kernel) bd87 hss (by decide +kernel) (by decide +kernel) ⟨Nat.le_of_ble_eq_true rfl, Nat.le_of_ble_eq_true rfl⟩ (fun ad6 hg6 => ?_)
  replace hg6 := g_tr (n := 39) (by decide +kernel) hg5 hg6
  show Gw _ _ _ (g_xa X ad6) 62 [some (.ref 38)] [.ref 86, .ref 38] Mk88 48 348 _
  refine r_putFR (pc := 62) (M := Mk88) (nf := 10) dX7_init_62 fl_RX7_33 fT_7_6 (Or.inr ⟨_, rfl⟩) rfl rfl (by decide +kernel) (by decide +kernel) rfl rfl ?_
  show Gw _ _ _ _ 65 [some (.ref 38)] [] Mk89 48 348 _
  refine r_aload_n (pc := 65) (x := 38) dX7_init_65 rfl ?_
  refine r_bipush (pc := 66) (v := 36) dX7_init_66 (by decide) ?_
  refine r_newa (pc := 68) (M := Mk89) (N := 36) dX7_init_68 g_ai (by decide) (by decide) (by decide) (by decide +kernel) bd89 hss (by decide +kernel) (by decide +kernel) ⟨Nat.le_of_ble_eq_true rfl, Nat.le_of_ble_eq_true rfl⟩ (fun ad7 hg7 => ?_)
  replace hg7 := g_tr (n := 39) (by decide +kernel) hg6 hg7
  show Gw _ _ _ (g_xa X ad7) 70 [some (.ref 38)] [.ref 87, .ref 38] Mk90 49 384 _
  refine r_putFR (pc := 70) (M := Mk90) (nf := 10) dX7_init_70 fl_RX7_36 fT_7_7 (Or.inr ⟨_, rfl⟩) rfl rfl (by decide +kernel) (by decide +kernel) rfl rfl ?_
  show Gw _ _ _ _ 73 [some (.ref 38)] [] Mk91 49 384 _
  refine r_aload_n (pc := 73) (x := 38) dX7_init_73 rfl ?_
  refine r_iconst (pc := 74) (v := 0) dX7_init_74 (by decide) ?_
  refine r_putI (pc := 75) (M := Mk91) (nf := 10) dX7_init_75 fl_RX7_39 fw_7_8 (by decide +kernel) (by decide +kernel) rfl rfl ?_
  show Gw _ _ _ _ 78 [some (.ref 38)] [] Mk92 49 384 _
  refine r_aload_n (pc := 78) (x := 38) dX7_init_78 rfl ?_
  refine r_iconst (pc := 79) (v := 0) dX7_init_79 (by decide) ?_
  refine r_putI (pc := 80) (M := Mk92) (nf := 10) dX7_init_80 fl_RX7_42 fw_7_9 (by decide +kernel) (by decide +kernel) rfl rfl ?_
  show Gw _ _ _ _ 83 [some (.ref 38)] [] Mk93 49 384 _
  exact r_vretA (pc := 83) dX7_init_83 rfl (Nat.le_refl _) (Nat.le_refl _) hg7 ⟨rfl, rfl⟩
set_option maxRecDepth 20000 in
theorem cA15 {l : Launch} : CtA l mX7_init 1 49 384 [.ref 88] Mk95 (fun v M' => v = none ∧ M' = Mk112) := by
  refine CtA.of (by decide) (Nat.le_of_ble_eq_true rfl) (fun X hss hAO => ?_)
  have hg0 : ∀ a, a < 89 ∨ 500 ≤ a → g_ad X a = g_ad X a := fun _ _ => rfl
  refine n_L (L' := [some (.ref 88)]) (le_s (le_e)) ?_
  show Gw _ _ _ (g_xa X (g_ad X)) 0 _ [] Mk95 0 0 (g_ZA X 89 _ _ _)
  refine r_aload_n (pc := 0) (x := 88) dX7_init_0 rfl ?_
  refine r_objI (pc := 1) dX7_init_1 ol_RX7_3 ⟨Nat.le_of_ble_eq_true rfl, Nat.le_of_ble_eq_true rfl⟩ ?_
  refine r_aload_n (pc := 4) (x := 88) dX7_init_4 rfl ?_
  refine r_bipush (pc := 5) (v := 6) dX7_init_5 (by decide) ?_
  refine r_newa (pc := 7) (M := Mk95) (N := 6) dX7_init_7 g_ai (by decide) (by decide) (by decide) (by decide +kernel) bd95 hss (by decide +kernel) (by decide +kernel) ⟨Nat.le_of_ble_eq_true rfl, Nat.le_of_ble_eq_true rfl⟩ (fun ad1 hg1 => ?_)
  replace hg1 := g_tr (n := 89) (by decide +kernel) hg0 hg1
  show Gw _ _ _ (g_xa X ad1) 9 [some (.ref 88)] [.ref 89, .ref 88] Mk96 1 6 _
  refine r_putFR (pc := 9) (M := Mk96) (nf := 10) dX7_init_9 fl_RX7_9 fT_7_0 (Or.inr ⟨_, rfl⟩) rfl rfl (by decide +kernel) (by decide +kernel) rfl rfl ?_
  show Gw _ _ _ _ 12 [some (.ref 88)] [] Mk97 1 6 _
  refine r_aload_n (pc := 12) (x := 88) dX7_init_12 rfl ?_
  refine r_iconst (pc := 13) (v := 0) dX7_init_13 (by decide) ?_
  refine r_putI (pc := 14) (M := Mk97) (nf := 10) dX7_init_14 fl_RX7_15 fw_7_1 (by decide +kernel) (by decide +kernel) rfl rfl ?_
  show Gw _ _ _ _ 17 [some (.ref 88)] [] Mk98 1 6 _
  refine r_aload_n (pc := 17) (x := 88) dX7_init_17 rfl ?_
  refine r_bipush (pc := 18) (v := 36) dX7_init_18 (by decide) ?_
  refine r_newa (pc := 20) (M := Mk98) (N := 36) dX7_init_20 g_ai (by decide) (by decide) (by decide) (by decide +kernel) bd98 hss (by decide +kernel) (by decide +kernel) ⟨Nat.le_of_ble_eq_true rfl, Nat.le_of_ble_eq_true rfl⟩ (fun ad2 hg2 => ?_)
  replace hg2 := g_tr (n := 89) (by decide +kernel) hg1 hg2
  show Gw _ _ _ (g_xa X ad2) 22 [some (.ref 88)] [.ref 90, .ref 88] Mk99 2 42 _
  refine r_putFR (pc := 22) (M := Mk99) (nf := 10) dX7_init_22 fl_RX7_19 fT_7_2 (Or.inr ⟨_, rfl⟩) rfl rfl (by decide +kernel) (by decide +kernel) rfl rfl ?_
  show Gw _ _ _ _ 25 [some (.ref 88)] [] Mk100 2 42 _
  refine r_aload_n (pc := 25) (x := 88) dX7_init_25 rfl ?_
  refine r_bipush (pc := 26) (v := 36) dX7_init_26 (by decide) ?_
  refine r_bipush (pc := 28) (v := 6) dX7_init_28 (by decide) ?_
  refine r_mna (pc := 30) (M := Mk100) (N := 36) (K := 6) dX7_init_30 cl_RX7_22 hAO (by decide) (by decide) (by decide) (by decide) ⟨by decide, by decide⟩ (by decide +kernel) bd100 hss (by decide +kernel) (by decide +kernel) ⟨Nat.le_of_ble_eq_true rfl, Nat.le_of_ble_eq_true rfl⟩ (fun ad3 hg3 => ?_)
  replace hg3 := g_tr (n := 89) (by decide +kernel) hg2 hg3
  show Gw _ _ _ (g_xa X ad3) 34 [some (.ref 88)] [.ref 91, .ref 88] Mk101 39 294 _
  refine r_putFR (pc := 34) (M := Mk101) (nf := 10) dX7_init_34 fl_RX7_24 fT_7_3 (Or.inr ⟨_, rfl⟩) rfl rfl (by decide +kernel) (by decide +kernel) rfl rfl ?_
  show Gw _ _ _ _ 37 [some (.ref 88)] [] Mk102 39 294 _
  refine r_aload_n (pc := 37) (x := 88) dX7_init_37 rfl ?_
  refine r_bipush (pc := 38) (v := 6) dX7_init_38 (by decide) ?_
  refine r_bipush (pc := 40) (v := 6) dX7_init_40 (by decide) ?_
  refine r_mna (pc := 42) (M := Mk102) (N := 6) (K := 6) dX7_init_42 cl_RX7_22 hAO (by decide) (by decide) (by decide) (by decide) ⟨by decide, by decide⟩ (by decide +kernel) bd102 hss (by decide +kernel) (by decide +kernel) ⟨Nat.le_of_ble_eq_true rfl, Nat.le_of_ble_eq_true rfl⟩ (fun ad4 hg4 => ?_)
  replace hg4 := g_tr (n := 89) (by decide +kernel) hg3 hg4
  show Gw _ _ _ (g_xa X ad4) 46 [some (.ref 88)] [.ref 128, .ref 88] Mk103 46 336 _
  refine r_putFR (pc := 46) (M := Mk103) (nf := 10) dX7_init_46 fl_RX7_27 fT_7_4 (Or.inr ⟨_, rfl⟩) rfl rfl (by decide +kernel) (by decide +kernel) rfl rfl ?_
  show Gw _ _ _ _ 49 [some (.ref 88)] [] Mk104 46 336 _
  refine r_aload_n (pc := 49) (x := 88) dX7_init_49 rfl ?_
  refine r_bipush (pc := 50) (v := 6) dX7_init_50 (by decide) ?_
  refine r_newa (pc := 52) (M := Mk104) (N := 6) dX7_init_52 g_ai (by decide) (by decide) (by decide) (by decide +kernel) bd104 hss (by decide +kernel) (by decide +kernel) ⟨Nat.le_of_ble_eq_true rfl, Nat.le_of_ble_eq_true rfl⟩ (fun ad5 hg5 => ?_)
  replace hg5 := g_tr (n := 89) (by decide +kernel) hg4 hg5
  show Gw _ _ _ (g_xa X ad5) 54 [some (.ref 88)] [.ref 135, .ref 88] Mk105 47 342 _
  refine r_putFR (pc := 54) (M := Mk105) (nf := 10) dX7_init_54 fl_RX7_30 fT_7_5 (Or.inr ⟨_, rfl⟩) rfl rfl (by decide +kernel) (by decide +kernel) rfl rfl ?_
  show Gw _ _ _ _ 57 [some (.ref 88)] [] Mk106 47 342 _
  refine r_aload_n (pc := 57) (x := 88) dX7_init_57 rfl ?_
  refine r_bipush (pc := 58) (v := 6) dX7_init_58 (by decide) ?_
  refine r_newa (pc := 60) (M := Mk106) (N := 6) dX7_init_60 g_ai (by decide) (by decide) (by decide) (by decide +kernel) bd106 hss (by decide +kernel) (by decide +kernel) ⟨Nat.le_of_ble_eq_true rfl, Nat.le_of_ble_eq_true rfl⟩ (fun ad6 hg6 => ?_)
  replace hg6 := g_tr (n := 89) (by decide +kernel) hg5 hg6
  show Gw _ _ _ (g_xa X ad6) 62 [some (.ref 88)] [.ref 136, .ref 88] Mk107 48 348 _
  refine r_putFR (pc := 62) (M := Mk107) (nf := 10) dX7_init_62 fl_RX7_33 fT_7_6 (Or.inr ⟨_, rfl⟩) rfl rfl (by decide +kernel) (by decide +kernel) rfl rfl ?_
  show Gw _ _ _ _ 65 [some (.ref 88)] [] Mk108 48 348 _
  refine r_aload_n (pc := 65) (x := 88) dX7_init_65 rfl ?_
  refine r_bipush (pc := 66) (v := 36) dX7_init_66 (by decide) ?_
  refine r_newa (pc := 68) (M := Mk108) (N := 36) dX7_init_68 g_ai (by decide) (by decide) (by decide) (by decide +kernel) bd108 hss (by decide +kernel) (by decide +kernel) ⟨Nat.le_of_ble_eq_true rfl, Nat.le_of_ble_eq_true rfl⟩ (fun ad7 hg7 => ?_)
  replace hg7 := g_tr (n := 89) (by decide +kernel) hg6 hg7
  show Gw _ _ _ (g_xa X ad7) 70 [some (.ref 88)] [.ref 137, .ref 88] Mk109 49 384 _
  refine r_putFR (pc := 70) (M := Mk109) (nf := 10) dX7_init_70 fl_RX7_36 fT_7_7 (Or.inr ⟨_, rfl⟩) rfl rfl (by decide +kernel) (by decide +kernel) rfl rfl ?_
  show Gw _ _ _ _ 73 [some (.ref 88)] [] Mk110 49 384 _
  refine r_aload_n (pc := 73) (x := 88) dX7_init_73 rfl ?_
  refine r_iconst (pc := 74) (v := 0) dX7_init_74 (by decide) ?_
  refine r_putI (pc := 75) (M := Mk110) (nf := 10) dX7_init_75 fl_RX7_39 fw_7_8 (by decide +kernel) (by decide +kernel) rfl rfl ?_
  show Gw _ _ _ _ 78 [some (.ref 88)] [] Mk111 49 384 _
  refine r_aload_n (pc := 78) (x := 88) dX7_init_78 rfl ?_
  refine r_iconst (pc := 79) (v := 0) dX7_init_79 (by decide) ?_
  refine r_putI (pc := 80) (M := Mk111) (nf := 10) dX7_init_80 fl_RX7_42 fw_7_9 (by decide +kernel) (by decide +kernel) rfl rfl ?_
  show Gw _ _ _ _ 83 [some (.ref 88)] [] Mk112 49 384 _
  exact r_vretA (pc := 83) dX7_init_83 rfl (Nat.le_refl _) (Nat.le_refl _) hg7 ⟨rfl, rfl⟩
set_option maxRecDepth 20000 in
theorem cA16 {l : Launch} : CtA l mX1_init 1 38 1338 [.ref 138] Mk114 (fun v M' => v = none ∧ M' = Mk120) := by
  refine CtA.of (by decide) (Nat.le_of_ble_eq_true rfl) (fun X hss hAO => ?_)
  have hg0 : ∀ a, a < 139 ∨ 500 ≤ a → g_ad X a = g_ad X a := fun _ _ => rfl
  refine n_L (L' := [some (.ref 138)]) (le_s (le_e)) ?_
  show Gw _ _ _ (g_xa X (g_ad X)) 0 _ [] Mk114 0 0 (g_ZA X 139 _ _ _)
  refine r_aload_n (pc := 0) (x := 138) dX1_init_0 rfl ?_
  refine r_objI (pc := 1) dX1_init_1 ol_RX1_3 ⟨Nat.le_of_ble_eq_true rfl, Nat.le_of_ble_eq_true rfl⟩ ?_
  refine r_aload_n (pc := 4) (x := 138) dX1_init_4 rfl ?_
  refine r_bipush (pc := 5) (v := 36) dX1_init_5 (by decide) ?_
  refine r_bipush (pc := 7) (v := 36) dX1_init_7 (by decide) ?_
  refine r_mna (pc := 9) (M := Mk114) (N := 36) (K := 36) dX1_init_9 cl_RX1_11 hAO (by decide) (by decide) (by decide) (by decide) ⟨by decide, by decide⟩ (by decide +kernel) bd114 hss (by decide +kernel) (by decide +kernel) ⟨Nat.le_of_ble_eq_true rfl, Nat.le_of_ble_eq_true rfl⟩ (fun ad1 hg1 => ?_)
  replace hg1 := g_tr (n := 139) (by decide +kernel) hg0 hg1
  show Gw _ _ _ (g_xa X ad1) 13 [some (.ref 138)] [.ref 139, .ref 138] Mk115 37 1332 _
  refine r_putFR (pc := 13) (M := Mk115) (nf := 4) dX1_init_13 fl_RX1_13 fT_1_0 (Or.inr ⟨_, rfl⟩) rfl rfl (by decide +kernel) (by decide +kernel) rfl rfl ?_
  show Gw _ _ _ _ 16 [some (.ref 138)] [] Mk116 37 1332 _
  refine r_aload_n (pc := 16) (x := 138) dX1_init_16 rfl ?_
  refine r_bipush (pc := 17) (v := 6) dX1_init_17 (by decide) ?_
  refine r_newa (pc := 19) (M := Mk116) (N := 6) dX1_init_19 g_ai (by decide) (by decide) (by decide) (by decide +kernel) bd116 hss (by decide +kernel) (by decide +kernel) ⟨Nat.le_of_ble_eq_true rfl, Nat.le_of_ble_eq_true rfl⟩ (fun ad2 hg2 => ?_)
  replace hg2 := g_tr (n := 139) (by decide +kernel) hg1 hg2
  show Gw _ _ _ (g_xa X ad2) 21 [some (.ref 138)] [.ref 176, .ref 138] Mk117 38 1338 _
  refine r_putFR (pc := 21) (M := Mk117) (nf := 4) dX1_init_21 fl_RX1_16 fT_1_1 (Or.inr ⟨_, rfl⟩) rfl rfl (by decide +kernel) (by decide +kernel) rfl rfl ?_
  show Gw _ _ _ _ 24 [some (.ref 138)] [] Mk118 38 1338 _
  refine r_aload_n (pc := 24) (x := 138) dX1_init_24 rfl ?_
  refine r_iconst (pc := 25) (v := 0) dX1_init_25 (by decide) ?_
  refine r_putI (pc := 26) (M := Mk118) (nf := 4) dX1_init_26 fl_RX1_20 fw_1_2 (by decide +kernel) (by decide +kernel) rfl rfl ?_
  show Gw _ _ _ _ 29 [some (.ref 138)] [] Mk119 38 1338 _
  refine r_aload_n (pc := 29) (x := 138) dX1_init_29 rfl ?_
  refine r_iconst (pc := 30) (v := 0) dX1_init_30 (by decide) ?_
  refine r_putI (pc := 31) (M := Mk119) (nf := 4) dX1_init_31 fl_RX1_24 fw_1_3 (by decide +kernel) (by decide +kernel) rfl rfl ?_
  show Gw _ _ _ _ 34 [some (.ref 138)] [] Mk120 38 1338 _
  exact r_vretA (pc := 34) dX1_init_34 rfl (Nat.le_refl _) (Nat.le_refl _) hg2 ⟨rfl, rfl⟩
set_option maxRecDepth 20000 in
theorem cA1 {l : Launch} : CtA l mX11_init 3 176 5387 [.ref 0] Mk1 (fun v M' => v = none ∧ M' = Mk122) := by
  refine CtA.of (by decide) (Nat.le_of_ble_eq_true rfl) (fun X hss hAO => ?_)
  have hg0 : ∀ a, a < 1 ∨ 500 ≤ a → g_ad X a = g_ad X a := fun _ _ => rfl
  refine n_L (L' := [some (.ref 0)]) (le_s (le_e)) ?_
  show Gw _ _ _ (g_xa X (g_ad X)) 0 _ [] Mk1 0 0 (g_ZA X 1 _ _ _)
  refine r_aload_n (pc := 0) (x := 0) dX11_init_0 rfl ?_
  refine r_objI (pc := 1) dX11_init_1 ol_RX11_1 ⟨Nat.le_of_ble_eq_true rfl, Nat.le_of_ble_eq_true rfl⟩ ?_
  refine r_aload_n (pc := 4) (x := 0) dX11_init_4 rfl ?_
  refine r_new (pc := 5) (M := Mk1) dX11_init_5 mk_RX11_7 (by decide +kernel) bd1 hss (by decide +kernel) (by decide +kernel) ⟨Nat.le_of_ble_eq_true rfl, Nat.le_of_ble_eq_true rfl⟩ (fun ad1 hg1 => ?_)
  replace hg1 := g_tr (n := 1) (by decide +kernel) hg0 hg1
  show Gw _ _ _ (g_xa X ad1) 8 [some (.ref 0)] [.ref 1, .ref 0] Mk2 1 2 _
  refine r_dup (pc := 8) dX11_init_8 rfl ?_
  refine r_callIN (pc := 9) (M := Mk2) (S0 := [.ref 1, .ref 0]) (vs := []) (cA2) giX9_init lk_RX11_9 dX11_init_9 rfl hAO (by decide +kernel) hss (by decide +kernel) (by decide +kernel) rfl ⟨Nat.le_of_ble_eq_true rfl, Nat.le_of_ble_eq_true rfl⟩ (Nat.le_of_ble_eq_true rfl) ⟨Nat.le_of_ble_eq_true rfl, Nat.le_of_ble_eq_true rfl⟩ (fun ad2 v M9 hg2 h => ?_)
  obtain ⟨rfl, rfl⟩ := h
  replace hg2 := g_tr (n := 1) (by decide +kernel) hg1 hg2
  show Gw _ _ _ (g_xa X ad2) 12 [some (.ref 0)] [.ref 1, .ref 0] Mk5 2 82 _
  refine r_putFR (pc := 12) (M := Mk5) (nf := 14) dX11_init_12 fl_RX11_10 fT_11_0 (Or.inl ⟨_, rfl⟩) rfl rfl (by decide +kernel) (by decide +kernel) rfl rfl ?_
  show Gw _ _ _ _ 15 [some (.ref 0)] [] Mk6 2 82 _
  refine r_aload_n (pc := 15) (x := 0) dX11_init_15 rfl ?_
  refine r_new (pc := 16) (M := Mk6) dX11_init_16 mk_RX11_16 (by decide +kernel) bd6 hss (by decide +kernel) (by decide +kernel) ⟨Nat.le_of_ble_eq_true rfl, Nat.le_of_ble_eq_true rfl⟩ (fun ad3 hg3 => ?_)
  replace hg3 := g_tr (n := 1) (by decide +kernel) hg2 hg3
  show Gw _ _ _ (g_xa X ad3) 19 [some (.ref 0)] [.ref 3, .ref 0] Mk7 3 87 _
  refine r_dup (pc := 19) dX11_init_19 rfl ?_
  refine r_callIN (pc := 20) (M := Mk7) (S0 := [.ref 3, .ref 0]) (vs := []) (cA3) giX4_init lk_RX11_18 dX11_init_20 rfl hAO (by decide +kernel) hss (by decide +kernel) (by decide +kernel) rfl ⟨Nat.le_of_ble_eq_true rfl, Nat.le_of_ble_eq_true rfl⟩ (Nat.le_of_ble_eq_true rfl) ⟨Nat.le_of_ble_eq_true rfl, Nat.le_of_ble_eq_true rfl⟩ (fun ad4 v M9 hg4 h => ?_)
  obtain ⟨rfl, rfl⟩ := h
  replace hg4 := g_tr (n := 1) (by decide +kernel) hg3 hg4
  show Gw _ _ _ (g_xa X ad4) 23 [some (.ref 0)] [.ref 3, .ref 0] Mk22 8 894 _
  refine r_putFR (pc := 23) (M := Mk22) (nf := 14) dX11_init_23 fl_RX11_19 fT_11_1 (Or.inl ⟨_, rfl⟩) rfl rfl (by decide +kernel) (by decide +kernel) rfl rfl ?_
  show Gw _ _ _ _ 26 [some (.ref 0)] [] Mk23 8 894 _
  refine r_aload_n (pc := 26) (x := 0) dX11_init_26 rfl ?_
  refine r_new (pc := 27) (M := Mk23) dX11_init_27 mk_RX11_23 (by decide +kernel) bd23 hss (by decide +kernel) (by decide +kernel) ⟨Nat.le_of_ble_eq_true rfl, Nat.le_of_ble_eq_true rfl⟩ (fun ad5 hg5 => ?_)
  replace hg5 := g_tr (n := 1) (by decide +kernel) hg4 hg5
  show Gw _ _ _ (g_xa X ad5) 30 [some (.ref 0)] [.ref 9, .ref 0] Mk24 9 898 _
  refine r_dup (pc := 30) dX11_init_30 rfl ?_
  refine r_callIN (pc := 31) (M := Mk24) (S0 := [.ref 9, .ref 0]) (vs := []) (cA5) giX2_init lk_RX11_25 dX11_init_31 rfl hAO (by decide +kernel) hss (by decide +kernel) (by decide +kernel) rfl ⟨Nat.le_of_ble_eq_true rfl, Nat.le_of_ble_eq_true rfl⟩ (Nat.le_of_ble_eq_true rfl) ⟨Nat.le_of_ble_eq_true rfl, Nat.le_of_ble_eq_true rfl⟩ (fun ad6 v M9 hg6 h => ?_)
  obtain ⟨rfl, rfl⟩ := h
  replace hg6 := g_tr (n := 1) (by decide +kernel) hg5 hg6
  show Gw _ _ _ (g_xa X ad6) 34 [some (.ref 0)] [.ref 9, .ref 0] Mk48 17 1006 _
  refine r_putFR (pc := 34) (M := Mk48) (nf := 14) dX11_init_34 fl_RX11_26 fT_11_2 (Or.inl ⟨_, rfl⟩) rfl rfl (by decide +kernel) (by decide +kernel) rfl rfl ?_
  show Gw _ _ _ _ 37 [some (.ref 0)] [] Mk49 17 1006 _
  refine r_aload_n (pc := 37) (x := 0) dX11_init_37 rfl ?_
  refine r_new (pc := 38) (M := Mk49) dX11_init_38 mk_RX11_30 (by decide +kernel) bd49 hss (by decide +kernel) (by decide +kernel) ⟨Nat.le_of_ble_eq_true rfl, Nat.le_of_ble_eq_true rfl⟩ (fun ad7 hg7 => ?_)
  replace hg7 := g_tr (n := 1) (by decide +kernel) hg6 hg7
  show Gw _ _ _ (g_xa X ad7) 41 [some (.ref 0)] [.ref 18, .ref 0] Mk50 18 1008 _
  refine r_dup (pc := 41) dX11_init_41 rfl ?_
  refine r_callIN (pc := 42) (M := Mk50) (S0 := [.ref 18, .ref 0]) (vs := []) (cA10) giX6_init lk_RX11_32 dX11_init_42 rfl hAO (by decide +kernel) hss (by decide +kernel) (by decide +kernel) rfl ⟨Nat.le_of_ble_eq_true rfl, Nat.le_of_ble_eq_true rfl⟩ (Nat.le_of_ble_eq_true rfl) ⟨Nat.le_of_ble_eq_true rfl, Nat.le_of_ble_eq_true rfl⟩ (fun ad8 v M9 hg8 h => ?_)
  obtain ⟨rfl, rfl⟩ := h
  replace hg8 := g_tr (n := 1) (by decide +kernel) hg7 hg8
  show Gw _ _ _ (g_xa X ad8) 45 [some (.ref 0)] [.ref 18, .ref 0] Mk53 19 1032 _
  refine r_putFR (pc := 45) (M := Mk53) (nf := 14) dX11_init_45 fl_RX11_33 fT_11_3 (Or.inl ⟨_, rfl⟩) rfl rfl (by decide +kernel) (by decide +kernel) rfl rfl ?_
  show Gw _ _ _ _ 48 [some (.ref 0)] [] Mk54 19 1032 _
  refine r_aload_n (pc := 48) (x := 0) dX11_init_48 rfl ?_
  refine r_new (pc := 49) (M := Mk54) dX11_init_49 mk_RX11_37 (by decide +kernel) bd54 hss (by decide +kernel) (by decide +kernel) ⟨Nat.le_of_ble_eq_true rfl, Nat.le_of_ble_eq_true rfl⟩ (fun ad9 hg9 => ?_)
  replace hg9 := g_tr (n := 1) (by decide +kernel) hg8 hg9
  show Gw _ _ _ (g_xa X ad9) 52 [some (.ref 0)] [.ref 20, .ref 0] Mk55 20 1033 _
  refine r_dup (pc := 52) dX11_init_52 rfl ?_
  refine r_callI (pc := 53) (M := Mk55) (S0 := [.ref 20, .ref 0]) (vs := []) (cA11) giX8_init lk_RX11_39 dX11_init_53 rfl hAO (by decide +kernel) hss (by decide +kernel) (by decide +kernel) rfl ⟨Nat.le_of_ble_eq_true rfl, Nat.le_of_ble_eq_true rfl⟩ (Nat.le_of_ble_eq_true rfl) ⟨Nat.le_of_ble_eq_true rfl, Nat.le_of_ble_eq_true rfl⟩ (fun ad10 v M9 hg10 h => ?_)
  obtain ⟨rfl, rfl⟩ := h
  replace hg10 := g_tr (n := 1) (by decide +kernel) hg9 hg10
  show Gw _ _ _ (g_xa X ad10) 56 [some (.ref 0)] [.ref 20, .ref 0] Mk58 21 1203 _
  refine r_putFR (pc := 56) (M := Mk58) (nf := 14) dX11_init_56 fl_RX11_40 fT_11_4 (Or.inl ⟨_, rfl⟩) rfl rfl (by decide +kernel) (by decide +kernel) rfl rfl ?_
  show Gw _ _ _ _ 59 [some (.ref 0)] [] Mk59 21 1203 _
  refine r_aload_n (pc := 59) (x := 0) dX11_init_59 rfl ?_
  refine r_new (pc := 60) (M := Mk59) dX11_init_60 mk_RX11_37 (by decide +kernel) bd59 hss (by decide +kernel) (by decide +kernel) ⟨Nat.le_of_ble_eq_true rfl, Nat.le_of_ble_eq_true rfl⟩ (fun ad11 hg11 => ?_)
  replace hg11 := g_tr (n := 1) (by decide +kernel) hg10 hg11
  show Gw _ _ _ (g_xa X ad11) 63 [some (.ref 0)] [.ref 22, .ref 0] Mk60 22 1204 _
  refine r_dup (pc := 63) dX11_init_63 rfl ?_
  refine r_callI (pc := 64) (M := Mk60) (S0 := [.ref 22, .ref 0]) (vs := []) (cA12) giX8_init lk_RX11_39 dX11_init_64 rfl hAO (by decide +kernel) hss (by decide +kernel) (by decide +kernel) rfl ⟨Nat.le_of_ble_eq_true rfl, Nat.le_of_ble_eq_true rfl⟩ (Nat.le_of_ble_eq_true rfl) ⟨Nat.le_of_ble_eq_true rfl, Nat.le_of_ble_eq_true rfl⟩ (fun ad12 v M9 hg12 h => ?_)
  obtain ⟨rfl, rfl⟩ := h
  replace hg12 := g_tr (n := 1) (by decide +kernel) hg11 hg12
  show Gw _ _ _ (g_xa X ad12) 67 [some (.ref 0)] [.ref 22, .ref 0] Mk63 23 1374 _
  refine r_putFR (pc := 67) (M := Mk63) (nf := 14) dX11_init_67 fl_RX11_44 fT_11_5 (Or.inl ⟨_, rfl⟩) rfl rfl (by decide +kernel) (by decide +kernel) rfl rfl ?_
  show Gw _ _ _ _ 70 [some (.ref 0)] [] Mk64 23 1374 _
  refine r_aload_n (pc := 70) (x := 0) dX11_init_70 rfl ?_
  refine r_sipush (pc := 71) (v := 170) dX11_init_71 (by decide) ?_
  refine r_newa (pc := 74) (M := Mk64) (N := 170) dX11_init_74 g_ai (by decide) (by decide) (by decide) (by decide +kernel) bd64 hss (by decide +kernel) (by decide +kernel) ⟨Nat.le_of_ble_eq_true rfl, Nat.le_of_ble_eq_true rfl⟩ (fun ad13 hg13 => ?_)
  replace hg13 := g_tr (n := 1) (by decide +kernel) hg12 hg13
  show Gw _ _ _ (g_xa X ad13) 76 [some (.ref 0)] [.ref 24, .ref 0] Mk65 24 1544 _
  refine r_putFR (pc := 76) (M := Mk65) (nf := 14) dX11_init_76 fl_RX11_47 fT_11_6 (Or.inr ⟨_, rfl⟩) rfl rfl (by decide +kernel) (by decide +kernel) rfl rfl ?_
  show Gw _ _ _ _ 79 [some (.ref 0)] [] Mk66 24 1544 _
  refine r_aload_n (pc := 79) (x := 0) dX11_init_79 rfl ?_
  refine r_new (pc := 80) (M := Mk66) dX11_init_80 mk_RX11_51 (by decide +kernel) bd66 hss (by decide +kernel) (by decide +kernel) ⟨Nat.le_of_ble_eq_true rfl, Nat.le_of_ble_eq_true rfl⟩ (fun ad14 hg14 => ?_)
  replace hg14 := g_tr (n := 1) (by decide +kernel) hg13 hg14
  show Gw _ _ _ (g_xa X ad14) 83 [some (.ref 0)] [.ref 25, .ref 0] Mk67 25 1547 _
  refine r_dup (pc := 83) dX11_init_83 rfl ?_
  refine r_callIN (pc := 84) (M := Mk67) (S0 := [.ref 25, .ref 0]) (vs := []) (cA13) giX3_init lk_RX11_53 dX11_init_84 rfl hAO (by decide +kernel) hss (by decide +kernel) (by decide +kernel) rfl ⟨Nat.le_of_ble_eq_true rfl, Nat.le_of_ble_eq_true rfl⟩ (Nat.le_of_ble_eq_true rfl) ⟨Nat.le_of_ble_eq_true rfl, Nat.le_of_ble_eq_true rfl⟩ (fun ad15 v M9 hg15 h => ?_)
  obtain ⟨rfl, rfl⟩ := h
  replace hg15 := g_tr (n := 1) (by decide +kernel) hg14 hg15
  show Gw _ _ _ (g_xa X ad15) 87 [some (.ref 0)] [.ref 25, .ref 0] Mk71 34 2915 _
  refine r_putFR (pc := 87) (M := Mk71) (nf := 14) dX11_init_87 fl_RX11_54 fT_11_7 (Or.inl ⟨_, rfl⟩) rfl rfl (by decide +kernel) (by decide +kernel) rfl rfl ?_
  show Gw _ _ _ _ 90 [some (.ref 0)] [] Mk72 34 2915 _
  refine r_aload_n (pc := 90) (x := 0) dX11_init_90 rfl ?_
  refine r_iconst (pc := 91) (v := 2) dX11_init_91 (by decide) ?_
  refine r_sipush (pc := 92) (v := 170) dX11_init_92 (by decide) ?_
  refine r_mna (pc := 95) (M := Mk72) (N := 2) (K := 170) dX11_init_95 cl_RX11_58 hAO (by decide) (by decide) (by decide) (by decide) ⟨by decide, by decide⟩ (by decide +kernel) bd72 hss (by decide +kernel) (by decide +kernel) ⟨Nat.le_of_ble_eq_true rfl, Nat.le_of_ble_eq_true rfl⟩ (fun ad16 hg16 => ?_)
  replace hg16 := g_tr (n := 1) (by decide +kernel) hg15 hg16
  show Gw _ _ _ (g_xa X ad16) 99 [some (.ref 0)] [.ref 35, .ref 0] Mk73 37 3257 _
  refine r_putFR (pc := 99) (M := Mk73) (nf := 14) dX11_init_99 fl_RX11_60 fT_11_8 (Or.inr ⟨_, rfl⟩) rfl rfl (by decide +kernel) (by decide +kernel) rfl rfl ?_
  show Gw _ _ _ _ 102 [some (.ref 0)] [] Mk74 37 3257 _
  refine r_aload_n (pc := 102) (x := 0) dX11_init_102 rfl ?_
  refine r_iconst (pc := 103) (v := 0) dX11_init_103 (by decide) ?_
  refine r_putI (pc := 104) (M := Mk74) (nf := 14) dX11_init_104 fl_RX11_63 fw_11_9 (by decide +kernel) (by decide +kernel) rfl rfl ?_
  show Gw _ _ _ _ 107 [some (.ref 0)] [] Mk75 37 3257 _
  refine r_aload_n (pc := 107) (x := 0) dX11_init_107 rfl ?_
  refine r_new (pc := 108) (M := Mk75) dX11_init_108 mk_RX11_67 (by decide +kernel) bd75 hss (by decide +kernel) (by decide +kernel) ⟨Nat.le_of_ble_eq_true rfl, Nat.le_of_ble_eq_true rfl⟩ (fun ad17 hg17 => ?_)
  replace hg17 := g_tr (n := 1) (by decide +kernel) hg16 hg17
  show Gw _ _ _ (g_xa X ad17) 111 [some (.ref 0)] [.ref 38, .ref 0] Mk76 38 3267 _
  refine r_dup (pc := 111) dX11_init_111 rfl ?_
  refine r_callIN (pc := 112) (M := Mk76) (S0 := [.ref 38, .ref 0]) (vs := []) (cA14) giX7_init lk_RX11_69 dX11_init_112 rfl hAO (by decide +kernel) hss (by decide +kernel) (by decide +kernel) rfl ⟨Nat.le_of_ble_eq_true rfl, Nat.le_of_ble_eq_true rfl⟩ (Nat.le_of_ble_eq_true rfl) ⟨Nat.le_of_ble_eq_true rfl, Nat.le_of_ble_eq_true rfl⟩ (fun ad18 v M9 hg18 h => ?_)
  obtain ⟨rfl, rfl⟩ := h
  replace hg18 := g_tr (n := 1) (by decide +kernel) hg17 hg18
  show Gw _ _ _ (g_xa X ad18) 115 [some (.ref 0)] [.ref 38, .ref 0] Mk93 87 3651 _
  refine r_putFR (pc := 115) (M := Mk93) (nf := 14) dX11_init_115 fl_RX11_70 fT_11_10 (Or.inl ⟨_, rfl⟩) rfl rfl (by decide +kernel) (by decide +kernel) rfl rfl ?_
  show Gw _ _ _ _ 118 [some (.ref 0)] [] Mk94 87 3651 _
  refine r_aload_n (pc := 118) (x := 0) dX11_init_118 rfl ?_
  refine r_new (pc := 119) (M := Mk94) dX11_init_119 mk_RX11_67 (by decide +kernel) bd94 hss (by decide +kernel) (by decide +kernel) ⟨Nat.le_of_ble_eq_true rfl, Nat.le_of_ble_eq_true rfl⟩ (fun ad19 hg19 => ?_)
  replace hg19 := g_tr (n := 1) (by decide +kernel) hg18 hg19
  show Gw _ _ _ (g_xa X ad19) 122 [some (.ref 0)] [.ref 88, .ref 0] Mk95 88 3661 _
  refine r_dup (pc := 122) dX11_init_122 rfl ?_
  refine r_callIN (pc := 123) (M := Mk95) (S0 := [.ref 88, .ref 0]) (vs := []) (cA15) giX7_init lk_RX11_69 dX11_init_123 rfl hAO (by decide +kernel) hss (by decide +kernel) (by decide +kernel) rfl ⟨Nat.le_of_ble_eq_true rfl, Nat.le_of_ble_eq_true rfl⟩ (Nat.le_of_ble_eq_true rfl) ⟨Nat.le_of_ble_eq_true rfl, Nat.le_of_ble_eq_true rfl⟩ (fun ad20 v M9 hg20 h => ?_)
  obtain ⟨rfl, rfl⟩ := h
  replace hg20 := g_tr (n := 1) (by decide +kernel) hg19 hg20
  show Gw _ _ _ (g_xa X ad20) 126 [some (.ref 0)] [.ref 88, .ref 0] Mk112 137 4045 _
  refine r_putFR (pc := 126) (M := Mk112) (nf := 14) dX11_init_126 fl_RX11_74 fT_11_11 (Or.inl ⟨_, rfl⟩) rfl rfl (by decide +kernel) (by decide +kernel) rfl rfl ?_
  show Gw _ _ _ _ 129 [some (.ref 0)] [] Mk113 137 4045 _
  refine r_aload_n (pc := 129) (x := 0) dX11_init_129 rfl ?_
  refine r_new (pc := 130) (M := Mk113) dX11_init_130 mk_RX11_77 (by decide +kernel) bd113 hss (by decide +kernel) (by decide +kernel) ⟨Nat.le_of_ble_eq_true rfl, Nat.le_of_ble_eq_true rfl⟩ (fun ad21 hg21 => ?_)
  replace hg21 := g_tr (n := 1) (by decide +kernel) hg20 hg21
  show Gw _ _ _ (g_xa X ad21) 133 [some (.ref 0)] [.ref 138, .ref 0] Mk114 138 4049 _
  refine r_dup (pc := 133) dX11_init_133 rfl ?_
  refine r_callIN (pc := 134) (M := Mk114) (S0 := [.ref 138, .ref 0]) (vs := []) (cA16) giX1_init lk_RX11_79 dX11_init_134 rfl hAO (by decide +kernel) hss (by decide +kernel) (by decide +kernel) rfl ⟨Nat.le_of_ble_eq_true rfl, Nat.le_of_ble_eq_true rfl⟩ (Nat.le_of_ble_eq_true rfl) ⟨Nat.le_of_ble_eq_true rfl, Nat.le_of_ble_eq_true rfl⟩ (fun ad22 v M9 hg22 h => ?_)
  obtain ⟨rfl, rfl⟩ := h
  replace hg22 := g_tr (n := 1) (by decide +kernel) hg21 hg22
  show Gw _ _ _ (g_xa X ad22) 137 [some (.ref 0)] [.ref 138, .ref 0] Mk120 176 5387 _
  refine r_putFR (pc := 137) (M := Mk120) (nf := 14) dX11_init_137 fl_RX11_80 fT_11_12 (Or.inl ⟨_, rfl⟩) rfl rfl (by decide +kernel) (by decide +kernel) rfl rfl ?_
  show Gw _ _ _ _ 140 [some (.ref 0)] [] Mk121 176 5387 _
  refine r_aload_n (pc := 140) (x := 0) dX11_init_140 rfl ?_
  refine r_iconst (pc := 141) (v := 0) dX11_init_141 (by decide) ?_
  refine r_putZ (pc := 142) (M := Mk121) (nf := 14) dX11_init_142 fl_RX11_84 fw_11_13 (by decide +kernel) (by decide +kernel) rfl rfl (by decide) ?_
  show Gw _ _ _ _ 145 [some (.ref 0)] [] Mk122 176 5387 _
  exact r_vretA (pc := 145) dX11_init_145 rfl (Nat.le_refl _) (Nat.le_refl _) hg22 ⟨rfl, rfl⟩
set_option maxRecDepth 20000 in
theorem cA17 {l : Launch} : CtA l mX12_init 1 14 7450 [.ref 177] Mk123 (fun v M' => v = none ∧ M' = Mk158) := by
  refine CtA.of (by decide) (Nat.le_of_ble_eq_true rfl) (fun X hss hAO => ?_)
  have hg0 : ∀ a, a < 178 ∨ 500 ≤ a → g_ad X a = g_ad X a := fun _ _ => rfl
  refine n_L (L' := [some (.ref 177), none]) (le_s (le_p (le_e))) ?_
  show Gw _ _ _ (g_xa X (g_ad X)) 0 _ [] Mk123 0 0 (g_ZA X 178 _ _ _)
  refine r_aload_n (pc := 0) (x := 177) dX12_init_0 rfl ?_
  refine r_objI (pc := 1) dX12_init_1 ol_RX12_3 ⟨Nat.le_of_ble_eq_true rfl, Nat.le_of_ble_eq_true rfl⟩ ?_
  refine r_aload_n (pc := 4) (x := 177) dX12_init_4 rfl ?_
  refine r_sipush (pc := 5) (v := 218) dX12_init_5 (by decide) ?_
  refine r_newa (pc := 8) (M := Mk123) (N := 218) dX12_init_8 g_ai (by decide) (by decide) (by decide) (by decide +kernel) bd123 hss (by decide +kernel) (by decide +kernel) ⟨Nat.le_of_ble_eq_true rfl, Nat.le_of_ble_eq_true rfl⟩ (fun ad1 hg1 => ?_)
  replace hg1 := g_tr (n := 178) (by decide +kernel) hg0 hg1
  show Gw _ _ _ (g_xa X ad1) 10 [some (.ref 177), none] [.ref 178, .ref 177] Mk124 1 218 _
  refine r_putFR (pc := 10) (M := Mk124) (nf := 31) dX12_init_10 fl_RX12_9 fT_12_0 (Or.inr ⟨_, rfl⟩) rfl rfl (by decide +kernel) (by decide +kernel) rfl rfl ?_
  show Gw _ _ _ _ 13 [some (.ref 177), none] [] Mk125 1 218 _
  refine r_aload_n (pc := 13) (x := 177) dX12_init_13 rfl ?_
  refine r_bipush (pc := 14) (v := 80) dX12_init_14 (by decide) ?_
  refine r_newa (pc := 16) (M := Mk125) (N := 80) dX12_init_16 g_ab (by decide) (by decide) (by decide) (by decide +kernel) bd125 hss (by decide +kernel) (by decide +kernel) ⟨Nat.le_of_ble_eq_true rfl, Nat.le_of_ble_eq_true rfl⟩ (fun ad2 hg2 => ?_)
  replace hg2 := g_tr (n := 178) (by decide +kernel) hg1 hg2
  show Gw _ _ _ (g_xa X ad2) 18 [some (.ref 177), none] [.ref 179, .ref 177] Mk126 2 298 _
  refine r_putFR (pc := 18) (M := Mk126) (nf := 31) dX12_init_18 fl_RX12_13 fT_12_1 (Or.inr ⟨_, rfl⟩) rfl rfl (by decide +kernel) (by decide +kernel) rfl rfl ?_
  show Gw _ _ _ _ 21 [some (.ref 177), none] [] Mk127 2 298 _
  refine r_aload_n (pc := 21) (x := 177) dX12_init_21 rfl ?_
  refine r_bipush (pc := 22) (v := 64) dX12_init_22 (by decide) ?_
  refine r_newa (pc := 24) (M := Mk127) (N := 64) dX12_init_24 g_al (by decide) (by decide) (by decide) (by decide +kernel) bd127 hss (by decide +kernel) (by decide +kernel) ⟨Nat.le_of_ble_eq_true rfl, Nat.le_of_ble_eq_true rfl⟩ (fun ad3 hg3 => ?_)
  replace hg3 := g_tr (n := 178) (by decide +kernel) hg2 hg3
  show Gw _ _ _ (g_xa X ad3) 26 [some (.ref 177), none] [.ref 180, .ref 177] Mk128 3 362 _
  refine r_putFR (pc := 26) (M := Mk128) (nf := 31) dX12_init_26 fl_RX12_17 fT_12_3 (Or.inr ⟨_, rfl⟩) rfl rfl (by decide +kernel) (by decide +kernel) rfl rfl ?_
  show Gw _ _ _ _ 29 [some (.ref 177), none] [] Mk129 3 362 _
  refine r_aload_n (pc := 29) (x := 177) dX12_init_29 rfl ?_
  refine r_sipush (pc := 30) (v := 4096) dX12_init_30 (by decide) ?_
  refine r_newa (pc := 33) (M := Mk129) (N := 4096) dX12_init_33 g_ai (by decide) (by decide) (by decide) (by decide +kernel) bd129 hss (by decide +kernel) (by decide +kernel) ⟨Nat.le_of_ble_eq_true rfl, Nat.le_of_ble_eq_true rfl⟩ (fun ad4 hg4 => ?_)
  replace hg4 := g_tr (n := 178) (by decide +kernel) hg3 hg4
  show Gw _ _ _ (g_xa X ad4) 35 [some (.ref 177), none] [.ref 181, .ref 177] Mk130 4 4458 _
  refine r_putFR (pc := 35) (M := Mk130) (nf := 31) dX12_init_35 fl_RX12_21 fT_12_13 (Or.inr ⟨_, rfl⟩) rfl rfl (by decide +kernel) (by decide +kernel) rfl rfl ?_
  show Gw _ _ _ _ 38 [some (.ref 177), none] [] Mk131 4 4458 _
  refine r_aload_n (pc := 38) (x := 177) dX12_init_38 rfl ?_
  refine r_bipush (pc := 39) (v := 6) dX12_init_39 (by decide) ?_
  refine r_newa (pc := 41) (M := Mk131) (N := 6) dX12_init_41 g_ai (by decide) (by decide) (by decide) (by decide +kernel) bd131 hss (by decide +kernel) (by decide +kernel) ⟨Nat.le_of_ble_eq_true rfl, Nat.le_of_ble_eq_true rfl⟩ (fun ad5 hg5 => ?_)
  replace hg5 := g_tr (n := 178) (by decide +kernel) hg4 hg5
  show Gw _ _ _ (g_xa X ad5) 43 [some (.ref 177), none] [.ref 182, .ref 177] Mk132 5 4464 _
  refine r_putFR (pc := 43) (M := Mk132) (nf := 31) dX12_init_43 fl_RX12_24 fT_12_16 (Or.inr ⟨_, rfl⟩) rfl rfl (by decide +kernel) (by decide +kernel) rfl rfl ?_
  show Gw _ _ _ _ 46 [some (.ref 177), none] [] Mk133 5 4464 _
  refine r_aload_n (pc := 46) (x := 177) dX12_init_46 rfl ?_
  refine r_bipush (pc := 47) (v := 36) dX12_init_47 (by decide) ?_
  refine r_newa (pc := 49) (M := Mk133) (N := 36) dX12_init_49 g_ai (by decide) (by decide) (by decide) (by decide +kernel) bd133 hss (by decide +kernel) (by decide +kernel) ⟨Nat.le_of_ble_eq_true rfl, Nat.le_of_ble_eq_true rfl⟩ (fun ad6 hg6 => ?_)
  replace hg6 := g_tr (n := 178) (by decide +kernel) hg5 hg6
  show Gw _ _ _ (g_xa X ad6) 51 [some (.ref 177), none] [.ref 183, .ref 177] Mk134 6 4500 _
  refine r_putFR (pc := 51) (M := Mk134) (nf := 31) dX12_init_51 fl_RX12_27 fT_12_19 (Or.inr ⟨_, rfl⟩) rfl rfl (by decide +kernel) (by decide +kernel) rfl rfl ?_
  show Gw _ _ _ _ 54 [some (.ref 177), none] [] Mk135 6 4500 _
  refine r_aload_n (pc := 54) (x := 177) dX12_init_54 rfl ?_
  refine r_bipush (pc := 55) (v := 6) dX12_init_55 (by decide) ?_
  refine r_newa (pc := 57) (M := Mk135) (N := 6) dX12_init_57 g_ai (by decide) (by decide) (by decide) (by decide +kernel) bd135 hss (by decide +kernel) (by decide +kernel) ⟨Nat.le_of_ble_eq_true rfl, Nat.le_of_ble_eq_true rfl⟩ (fun ad7 hg7 => ?_)
  replace hg7 := g_tr (n := 178) (by decide +kernel) hg6 hg7
  show Gw _ _ _ (g_xa X ad7) 59 [some (.ref 177), none] [.ref 184, .ref 177] Mk136 7 4506 _
  refine r_putFR (pc := 59) (M := Mk136) (nf := 31) dX12_init_59 fl_RX12_30 fT_12_20 (Or.inr ⟨_, rfl⟩) rfl rfl (by decide +kernel) (by decide +kernel) rfl rfl ?_
  show Gw _ _ _ _ 62 [some (.ref 177), none] [] Mk137 7 4506 _
  refine r_aload_n (pc := 62) (x := 177) dX12_init_62 rfl ?_
  refine r_bipush (pc := 63) (v := 6) dX12_init_63 (by decide) ?_
  refine r_newa (pc := 65) (M := Mk137) (N := 6) dX12_init_65 g_ai (by decide) (by decide) (by decide) (by decide +kernel) bd137 hss (by decide +kernel) (by decide +kernel) ⟨Nat.le_of_ble_eq_true rfl, Nat.le_of_ble_eq_true rfl⟩ (fun ad8 hg8 => ?_)
  replace hg8 := g_tr (n := 178) (by decide +kernel) hg7 hg8
  show Gw _ _ _ (g_xa X ad8) 67 [some (.ref 177), none] [.ref 185, .ref 177] Mk138 8 4512 _
  refine r_putFR (pc := 67) (M := Mk138) (nf := 31) dX12_init_67 fl_RX12_33 fT_12_22 (Or.inr ⟨_, rfl⟩) rfl rfl (by decide +kernel) (by decide +kernel) rfl rfl ?_
  show Gw _ _ _ _ 70 [some (.ref 177), none] [] Mk139 8 4512 _
  refine r_aload_n (pc := 70) (x := 177) dX12_init_70 rfl ?_
  refine r_sipush (pc := 71) (v := 218) dX12_init_71 (by decide) ?_
  refine r_newa (pc := 74) (M := Mk139) (N := 218) dX12_init_74 g_ai (by decide) (by decide) (by decide) (by decide +kernel) bd139 hss (by decide +kernel) (by decide +kernel) ⟨Nat.le_of_ble_eq_true rfl, Nat.le_of_ble_eq_true rfl⟩ (fun ad9 hg9 => ?_)
  replace hg9 := g_tr (n := 178) (by decide +kernel) hg8 hg9
  show Gw _ _ _ (g_xa X ad9) 76 [some (.ref 177), none] [.ref 186, .ref 177] Mk140 9 4730 _
  refine r_putFR (pc := 76) (M := Mk140) (nf := 31) dX12_init_76 fl_RX12_36 fT_12_23 (Or.inr ⟨_, rfl⟩) rfl rfl (by decide +kernel) (by decide +kernel) rfl rfl ?_
  show Gw _ _ _ _ 79 [some (.ref 177), none] [] Mk141 9 4730 _
  refine r_aload_n (pc := 79) (x := 177) dX12_init_79 rfl ?_
  refine r_sipush (pc := 80) (v := 1744) dX12_init_80 (by decide) ?_
  refine r_newa (pc := 83) (M := Mk141) (N := 1744) dX12_init_83 g_ai (by decide) (by decide) (by decide) (by decide +kernel) bd141 hss (by decide +kernel) (by decide +kernel) ⟨Nat.le_of_ble_eq_true rfl, Nat.le_of_ble_eq_true rfl⟩ (fun ad10 hg10 => ?_)
  replace hg10 := g_tr (n := 178) (by decide +kernel) hg9 hg10
  show Gw _ _ _ (g_xa X ad10) 85 [some (.ref 177), none] [.ref 187, .ref 177] Mk142 10 6474 _
  refine r_putFR (pc := 85) (M := Mk142) (nf := 31) dX12_init_85 fl_RX12_39 fT_12_24 (Or.inr ⟨_, rfl⟩) rfl rfl (by decide +kernel) (by decide +kernel) rfl rfl ?_
  show Gw _ _ _ _ 88 [some (.ref 177), none] [] Mk143 10 6474 _
  refine r_aload_n (pc := 88) (x := 177) dX12_init_88 rfl ?_
  refine r_sipush (pc := 89) (v := 218) dX12_init_89 (by decide) ?_
  refine r_newa (pc := 92) (M := Mk143) (N := 218) dX12_init_92 g_ai (by decide) (by decide) (by decide) (by decide +kernel) bd143 hss (by decide +kernel) (by decide +kernel) ⟨Nat.le_of_ble_eq_true rfl, Nat.le_of_ble_eq_true rfl⟩ (fun ad11 hg11 => ?_)
  replace hg11 := g_tr (n := 178) (by decide +kernel) hg10 hg11
  show Gw _ _ _ (g_xa X ad11) 94 [some (.ref 177), none] [.ref 188, .ref 177] Mk144 11 6692 _
  refine r_putFR (pc := 94) (M := Mk144) (nf := 31) dX12_init_94 fl_RX12_42 fT_12_25 (Or.inr ⟨_, rfl⟩) rfl rfl (by decide +kernel) (by decide +kernel) rfl rfl ?_
  show Gw _ _ _ _ 97 [some (.ref 177), none] [] Mk145 11 6692 _
  refine r_aload_n (pc := 97) (x := 177) dX12_init_97 rfl ?_
  refine r_sipush (pc := 98) (v := 320) dX12_init_98 (by decide) ?_
  refine r_newa (pc := 101) (M := Mk145) (N := 320) dX12_init_101 g_ai (by decide) (by decide) (by decide) (by decide +kernel) bd145 hss (by decide +kernel) (by decide +kernel) ⟨Nat.le_of_ble_eq_true rfl, Nat.le_of_ble_eq_true rfl⟩ (fun ad12 hg12 => ?_)
  replace hg12 := g_tr (n := 178) (by decide +kernel) hg11 hg12
  show Gw _ _ _ (g_xa X ad12) 103 [some (.ref 177), none] [.ref 189, .ref 177] Mk146 12 7012 _
  refine r_putFR (pc := 103) (M := Mk146) (nf := 31) dX12_init_103 fl_RX12_45 fT_12_27 (Or.inr ⟨_, rfl⟩) rfl rfl (by decide +kernel) (by decide +kernel) rfl rfl ?_
  show Gw _ _ _ _ 106 [some (.ref 177), none] [] Mk147 12 7012 _
  refine r_aload_n (pc := 106) (x := 177) dX12_init_106 rfl ?_
  refine r_sipush (pc := 107) (v := 436) dX12_init_107 (by decide) ?_
  refine r_newa (pc := 110) (M := Mk147) (N := 436) dX12_init_110 g_ai (by decide) (by decide) (by decide) (by decide +kernel) bd147 hss (by decide +kernel) (by decide +kernel) ⟨Nat.le_of_ble_eq_true rfl, Nat.le_of_ble_eq_true rfl⟩ (fun ad13 hg13 => ?_)
  replace hg13 := g_tr (n := 178) (by decide +kernel) hg12 hg13
  show Gw _ _ _ (g_xa X ad13) 112 [some (.ref 177), none] [.ref 190, .ref 177] Mk148 13 7448 _
  refine r_putFR (pc := 112) (M := Mk148) (nf := 31) dX12_init_112 fl_RX12_48 fT_12_29 (Or.inr ⟨_, rfl⟩) rfl rfl (by decide +kernel) (by decide +kernel) rfl rfl ?_
  show Gw _ _ _ _ 115 [some (.ref 177), none] [] Mk149 13 7448 _
  refine r_aload_n (pc := 115) (x := 177) dX12_init_115 rfl ?_
  refine r_iconst (pc := 116) (v := 2) dX12_init_116 (by decide) ?_
  refine r_newa (pc := 117) (M := Mk149) (N := 2) dX12_init_117 g_az (by decide) (by decide) (by decide) (by decide +kernel) bd149 hss (by decide +kernel) (by decide +kernel) ⟨Nat.le_of_ble_eq_true rfl, Nat.le_of_ble_eq_true rfl⟩ (fun ad14 hg14 => ?_)
  replace hg14 := g_tr (n := 178) (by decide +kernel) hg13 hg14
  show Gw _ _ _ (g_xa X ad14) 119 [some (.ref 177), none] [.ref 191, .ref 177] Mk150 14 7450 _
  refine r_putFR (pc := 119) (M := Mk150) (nf := 31) dX12_init_119 fl_RX12_51 fT_12_30 (Or.inr ⟨_, rfl⟩) rfl rfl (by decide +kernel) (by decide +kernel) rfl rfl ?_
  show Gw _ _ _ _ 122 [some (.ref 177), none] [] Mk151 14 7450 _
  refine r_aload_n (pc := 122) (x := 177) dX12_init_122 rfl ?_
  refine r_getR (pc := 123) (M := Mk151) (nf := 31) (q := 178) dX12_init_123 fl_RX12_9 (by decide +kernel) (by decide +kernel) rfl rfl (by decide +kernel) ?_
  refine r_iconst (pc := 126) (v := 0) dX12_init_126 (by decide) ?_
  refine r_sipush (pc := 127) (v := 3000) dX12_init_127 (by decide) ?_
  refine r_iast (pc := 130) (M := Mk151) (len := 218) dX12_init_130 (by decide +kernel) (by decide +kernel) (vp_inc (by decide)) ?_
  show Gw _ _ _ _ 131 [some (.ref 177), none] [] Mk152 14 7450 _
  refine r_iconst (pc := 131) (v := 0) dX12_init_131 (by decide) ?_
  refine r_istore_n (pc := 132) (L' := [some (.ref 177), some (.int 0)]) dX12_init_132 rfl (by decide) rfl ?_
  refine r_iload_n (pc := 133) (x := 0) dX12_init_133 rfl ?_
  refine r_bipush (pc := 134) (v := 6) dX12_init_134 (by decide) ?_
  refine r_icmp_ge (pc := 136) (tgt := 154) dX12_init_136 (by decide) (fun c => absurd c (by decide)) (fun c => ?_)
  refine r_aload_n (pc := 139) (x := 177) dX12_init_139 rfl ?_
  refine r_getR (pc := 140) (M := Mk152) (nf := 31) (q := 178) dX12_init_140 fl_RX12_9 (by decide +kernel) (by decide +kernel) rfl rfl (by decide +kernel) ?_
  refine r_iconst (pc := 143) (v := 2) dX12_init_143 (by decide) ?_
  refine r_iload_n (pc := 144) (x := 0) dX12_init_144 rfl ?_
  refine r_iadd (pc := 145) dX12_init_145 ?_
  show Gw _ _ _ _ _ _ (.int 2 :: _) _ _ _ _
  refine r_iconst (pc := 146) (v := (-1)) dX12_init_146 (by decide) ?_
  refine r_iast (pc := 147) (M := Mk152) (len := 218) dX12_init_147 (by decide +kernel) (by decide +kernel) (vp_inc (by decide)) ?_
  show Gw _ _ _ _ 148 [some (.ref 177), some (.int 0)] [] Mk153 14 7450 _
  refine r_iinc (pc := 148) (x := 0) (v := 1) (L' := [some (.ref 177), some (.int 1)]) dX12_init_148 rfl (by decide) rfl (by decide) rfl ?_
  refine r_goto (pc := 151) (tgt := 133) dX12_init_151 (by decide) ?_
  refine r_iload_n (pc := 133) (x := 1) dX12_init_133 rfl ?_
  refine r_bipush (pc := 134) (v := 6) dX12_init_134 (by decide) ?_
  refine r_icmp_ge (pc := 136) (tgt := 154) dX12_init_136 (by decide) (fun c => absurd c (by decide)) (fun c => ?_)
  refine r_aload_n (pc := 139) (x := 177) dX12_init_139 rfl ?_
  refine r_getR (pc := 140) (M := Mk153) (nf := 31) (q := 178) dX12_init_140 fl_RX12_9 (by decide +kernel) (by decide +kernel) rfl rfl (by decide +kernel) ?_
  refine r_iconst (pc := 143) (v := 2) dX12_init_143 (by decide) ?_
  refine r_iload_n (pc := 144) (x := 1) dX12_init_144 rfl ?_
  refine r_iadd (pc := 145) dX12_init_145 ?_
  show Gw _ _ _ _ _ _ (.int 3 :: _) _ _ _ _
  refine r_iconst (pc := 146) (v := (-1)) dX12_init_146 (by decide) ?_
  refine r_iast (pc := 147) (M := Mk153) (len := 218) dX12_init_147 (by decide +kernel) (by decide +kernel) (vp_inc (by decide)) ?_
  show Gw _ _ _ _ 148 [some (.ref 177), some (.int 1)] [] Mk154 14 7450 _
  refine r_iinc (pc := 148) (x := 1) (v := 2) (L' := [some (.ref 177), some (.int 2)]) dX12_init_148 rfl (by decide) rfl (by decide) rfl ?_
  refine r_goto (pc := 151) (tgt := 133) dX12_init_151 (by decide) ?_
  refine r_iload_n (pc := 133) (x := 2) dX12_init_133 rfl ?_
  refine r_bipush (pc := 134) (v := 6) dX12_init_134 (by decide) ?_
  refine r_icmp_ge (pc := 136) (tgt := 154) dX12_init_136 (by decide) (fun c => absurd c (by decide)) (fun c => ?_)
  refine r_aload_n (pc := 139) (x := 177) dX12_init_139 rfl ?_
  refine r_getR (pc := 140) (M := Mk154) (nf := 31) (q := 178) dX12_init_140 fl_RX12_9 (by decide +kernel) (by decide +kernel) rfl rfl (by decide +kernel) ?_
  refine r_iconst (pc := 143) (v := 2) dX12_init_143 (by decide) ?_
  refine r_iload_n (pc := 144) (x := 2) dX12_init_144 rfl ?_
  refine r_iadd (pc := 145) dX12_init_145 ?_
  show Gw _ _ _ _ _ _ (.int 4 :: _) _ _ _ _
  refine r_iconst (pc := 146) (v := (-1)) dX12_init_146 (by decide) ?_
  refine r_iast (pc := 147) (M := Mk154) (len := 218) dX12_init_147 (by decide +kernel) (by decide +kernel) (vp_inc (by decide)) ?_
  show Gw _ _ _ _ 148 [some (.ref 177), some (.int 2)] [] Mk155 14 7450 _
  refine r_iinc (pc := 148) (x := 2) (v := 3) (L' := [some (.ref 177), some (.int 3)]) dX12_init_148 rfl (by decide) rfl (by decide) rfl ?_
  refine r_goto (pc := 151) (tgt := 133) dX12_init_151 (by decide) ?_
  refine r_iload_n (pc := 133) (x := 3) dX12_init_133 rfl ?_
  refine r_bipush (pc := 134) (v := 6) dX12_init_134 (by decide) ?_
  refine r_icmp_ge (pc := 136) (tgt := 154) dX12_init_136 (by decide) (fun c => absurd c (by decide)) (fun c => ?_)
  refine r_aload_n (pc := 139) (x := 177) dX12_init_139 rfl ?_
  refine r_getR (pc := 140) (M := Mk155) (nf := 31) (q := 178) dX12_init_140 fl_RX12_9 (by decide +kernel) (by decide +kernel) rfl rfl (by decide +kernel) ?_
  refine r_iconst (pc := 143) (v := 2) dX12_init_143 (by decide) ?_
  refine r_iload_n (pc := 144) (x := 3) dX12_init_144 rfl ?_
  refine r_iadd (pc := 145) dX12_init_145 ?_
  show Gw _ _ _ _ _ _ (.int 5 :: _) _ _ _ _
  refine r_iconst (pc := 146) (v := (-1)) dX12_init_146 (by decide) ?_
  refine r_iast (pc := 147) (M := Mk155) (len := 218) dX12_init_147 (by decide +kernel) (by decide +kernel) (vp_inc (by decide)) ?_
  show Gw _ _ _ _ 148 [some (.ref 177), some (.int 3)] [] Mk156 14 7450 _
  refine r_iinc (pc := 148) (x := 3) (v := 4) (L' := [some (.ref 177), some (.int 4)]) dX12_init_148 rfl (by decide) rfl (by decide) rfl ?_
  refine r_goto (pc := 151) (tgt := 133) dX12_init_151 (by decide) ?_
  refine r_iload_n (pc := 133) (x := 4) dX12_init_133 rfl ?_
  refine r_bipush (pc := 134) (v := 6) dX12_init_134 (by decide) ?_
  refine r_icmp_ge (pc := 136) (tgt := 154) dX12_init_136 (by decide) (fun c => absurd c (by decide)) (fun c => ?_)
  refine r_aload_n (pc := 139) (x := 177) dX12_init_139 rfl ?_
  refine r_getR (pc := 140) (M := Mk156) (nf := 31) (q := 178) dX12_init_140 fl_RX12_9 (by decide +kernel) (by decide +kernel) rfl rfl (by decide +kernel) ?_
  refine r_iconst (pc := 143) (v := 2) dX12_init_143 (by decide) ?_
  refine r_iload_n (pc := 144) (x := 4) dX12_init_144 rfl ?_
  refine r_iadd (pc := 145) dX12_init_145 ?_
  show Gw _ _ _ _ _ _ (.int 6 :: _) _ _ _ _
  refine r_iconst (pc := 146) (v := (-1)) dX12_init_146 (by decide) ?_
  refine r_iast (pc := 147) (M := Mk156) (len := 218) dX12_init_147 (by decide +kernel) (by decide +kernel) (vp_inc (by decide)) ?_
  show Gw _ _ _ _ 148 [some (.ref 177), some (.int 4)] [] Mk157 14 7450 _
  refine r_iinc (pc := 148) (x := 4) (v := 5) (L' := [some (.ref 177), some (.int 5)]) dX12_init_148 rfl (by decide) rfl (by decide) rfl ?_
  refine r_goto (pc := 151) (tgt := 133) dX12_init_151 (by decide) ?_
  refine r_iload_n (pc := 133) (x := 5) dX12_init_133 rfl ?_
  refine r_bipush (pc := 134) (v := 6) dX12_init_134 (by decide) ?_
  refine r_icmp_ge (pc := 136) (tgt := 154) dX12_init_136 (by decide) (fun c => absurd c (by decide)) (fun c => ?_)
  refine r_aload_n (pc := 139) (x := 177) dX12_init_139 rfl ?_
  refine r_getR (pc := 140) (M := Mk157) (nf := 31) (q := 178) dX12_init_140 fl_RX12_9 (by decide +kernel) (by decide +kernel) rfl rfl (by decide +kernel) ?_
  refine r_iconst (pc := 143) (v := 2) dX12_init_143 (by decide) ?_
  refine r_iload_n (pc := 144) (x := 5) dX12_init_144 rfl ?_
  refine r_iadd (pc := 145) dX12_init_145 ?_
  show Gw _ _ _ _ _ _ (.int 7 :: _) _ _ _ _
  refine r_iconst (pc := 146) (v := (-1)) dX12_init_146 (by decide) ?_
  refine r_iast (pc := 147) (M := Mk157) (len := 218) dX12_init_147 (by decide +kernel) (by decide +kernel) (vp_inc (by decide)) ?_
  show Gw _ _ _ _ 148 [some (.ref 177), some (.int 5)] [] Mk158 14 7450 _
  refine r_iinc (pc := 148) (x := 5) (v := 6) (L' := [some (.ref 177), some (.int 6)]) dX12_init_148 rfl (by decide) rfl (by decide) rfl ?_
  refine r_goto (pc := 151) (tgt := 133) dX12_init_151 (by decide) ?_
  refine r_iload_n (pc := 133) (x := 6) dX12_init_133 rfl ?_
  refine r_bipush (pc := 134) (v := 6) dX12_init_134 (by decide) ?_
  refine r_icmp_ge (pc := 136) (tgt := 154) dX12_init_136 (by decide) (fun c => ?_) (fun c => absurd (by decide) c)
  exact r_vretA (pc := 154) dX12_init_154 rfl (Nat.le_refl _) (Nat.le_refl _) hg14 ⟨rfl, rfl⟩
