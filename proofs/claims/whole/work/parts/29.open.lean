/-! THE LAW'S ENTRY: the environment out of the statement's premises -/
def g_tm (i : Nat) : Term := .string (g_SR.getD i ("", 0, "", 0)).1 (g_SR.getD i ("", 0, "", 0)).2.1
def g_wS (i : Nat) : List Cond := [.exactly (g_tm i) "java/lang/String", .eq (.field (g_tm i) "java/lang/String" "coder" "B") (.int 0), .arrayOf (.field (g_tm i) "java/lang/String" "value" "[B") .byte, .eq (.length (.field (g_tm i) "java/lang/String" "value" "[B")) (.int (Int32.ofNat (g_tx.getD i []).length))] ++ (List.range (g_tx.getD i []).length).map (fun j => .eq (.elem (.field (g_tm i) "java/lang/String" "value" "[B") (.int (Int32.ofNat j))) (.int ((g_tx.getD i []).getD j 0)))
def g_fl0 : List Cond := flatC (Jvm.Cond.and given_1 narrow_1)
theorem g_wS_1 : (List.range 15).flatMap g_wS = (g_fl0.drop 39).take 372 := by decide +kernel
theorem g_wS_2 : ((List.range 11).map (fun i => 15 + i)).flatMap g_wS = (g_fl0.drop 420).take 122 := by decide +kernel
theorem g_wS_in {i : Nat} (hi : i < 26) {w : Cond} (hw : w ∈ g_wS i) : w ∈ g_fl0 := by
  by_cases h : i < 15
  · have h1 : w ∈ (List.range 15).flatMap g_wS := List.mem_flatMap.mpr ⟨i, List.mem_range.mpr h, hw⟩
    rw [g_wS_1] at h1
    exact List.mem_of_mem_drop (List.mem_of_mem_take h1)
  · have h1 : w ∈ ((List.range 11).map (fun i => 15 + i)).flatMap g_wS := List.mem_flatMap.mpr ⟨i, List.mem_map.mpr ⟨i - 15, List.mem_range.mpr (by omega), by omega⟩, hw⟩
    rw [g_wS_2] at h1
    exact List.mem_of_mem_drop (List.mem_of_mem_take h1)
theorem g_Sof {args : Array Value} {s : State} {A : Nat → Prop} (hA : ∀ a : Nat, a < s.heap.size → ¬ A a) (hf : ∀ w ∈ g_fl0, w.before args s = true) : ∃ ad : Nat → Nat × Nat, ∀ i, i < 26 → (g_tm i).eval args s none [] s = some (.ref (ad i).1) ∧ va_O "java/lang/String" (ad i).1 A s s.heap ∧ va_OF "java/lang/String" "coder" "B" (.int 0) (ad i).1 A s s.heap ∧ va_OF "java/lang/String" "value" "[B" (.ref (ad i).2) (ad i).1 A s s.heap ∧ va_T .byte (ad i).2 (g_tx.getD i []).length (fun j => .int ((g_tx.getD i []).getD j 0)) A s s.heap := by
  have h0 : ∀ i : Nat, ∃ q : Nat × Nat, i < 26 → (g_tm i).eval args s none [] s = some (.ref q.1) ∧ va_O "java/lang/String" q.1 A s s.heap ∧ va_OF "java/lang/String" "coder" "B" (.int 0) q.1 A s s.heap ∧ va_OF "java/lang/String" "value" "[B" (.ref q.2) q.1 A s s.heap ∧ va_T .byte q.2 (g_tx.getD i []).length (fun j => .int ((g_tx.getD i []).getD j 0)) A s s.heap := by
    intro i
    by_cases hi : i < 26
    · have hw : ∀ w ∈ g_wS i, w.before args s = true := fun w h => hf w (g_wS_in hi h)
      have hlen : ∀ i, i < 26 → (g_tx.getD i []).length < 2 ^ 31 := by decide +kernel
      obtain ⟨a, c, cA, kA, q1, q2, q3, q4, q5, q6, -⟩ := Cond.exactly_spec (args := args) (first := s) (o := none) (s := s) (idx := []) (t := g_tm i) (cls := "java/lang/String") (hw _ (by unfold g_wS; simp))
      obtain ⟨t, ht, hT⟩ := va_Tof (tm := .field (g_tm i) "java/lang/String" "value" "[B") (ty := .byte) (f := fun j => .int ((g_tx.getD i []).getD j 0)) (A := A) (hlen i hi) (hw _ (by unfold g_wS; simp)) (va_eqt (hw _ (by unfold g_wS; simp))) (fun j hj => va_eqt (hw _ (List.mem_append_right _ (List.mem_map.mpr ⟨j, List.mem_range.mpr hj, rfl⟩)))) hA
      exact ⟨(a, t), fun _ => ⟨q1, ⟨cA, q3, q5, by rw [q6]; exact q2, hA a (Array.getElem?_eq_some_iff.mp q3).1⟩, vk_OFof q1 (va_eqt (hw _ (by unfold g_wS; simp))) hA, vk_OFof q1 ht hA, hT⟩⟩
    · exact ⟨(0, 0), fun h => absurd h hi⟩
  exact Classical.axiomOfChoice h0
theorem sr_0 : Cond.stringRef "ProseDates$Words" 64 "day week month year mon tue wed thu fri sat sun jan feb mar apr may jun jul aug sep oct nov dec early mid late first last today tomorrow yesterday in this next of after before ago to or " ∈ lw_tbl := g_mem2 110 (by decide +kernel)
theorem sr_1 : Cond.stringRef "ProseDates" 191 "no such reading, or another what" ∈ lw_tbl := g_mem5 126 (by decide +kernel)
theorem sr_2 : Cond.stringRef "ProseDates" 335 "the row has no such number" ∈ lw_tbl := g_mem5 159 (by decide +kernel)
theorem sr_3 : Cond.stringRef "ProseDatesModel" 168 "day" ∈ lw_tbl := g_mem6 163 (by decide +kernel)
theorem sr_4 : Cond.stringRef "ProseDatesModel" 170 "week" ∈ lw_tbl := g_mem6 170 (by decide +kernel)
theorem sr_5 : Cond.stringRef "ProseDatesModel" 172 "month" ∈ lw_tbl := g_mem6 171 (by decide +kernel)
theorem sr_6 : Cond.stringRef "ProseDatesModel" 174 "year" ∈ lw_tbl := g_mem6 172 (by decide +kernel)
theorem sr_7 : Cond.stringRef "ProseDatesModel" 272 "ago" ∈ lw_tbl := g_mem6 174 (by decide +kernel)
theorem sr_8 : Cond.stringRef "ProseDatesModel" 277 "after" ∈ lw_tbl := g_mem6 195 (by decide +kernel)
theorem sr_9 : Cond.stringRef "ProseDatesModel" 279 "before" ∈ lw_tbl := g_mem6 196 (by decide +kernel)
theorem sr_10 : Cond.stringRef "ProseDatesModel" 212 "early" ∈ lw_tbl := g_mem6 209 (by decide +kernel)
theorem sr_11 : Cond.stringRef "ProseDatesModel" 214 "mid" ∈ lw_tbl := g_mem6 210 (by decide +kernel)
theorem sr_12 : Cond.stringRef "ProseDatesModel" 216 "late" ∈ lw_tbl := g_mem6 211 (by decide +kernel)
theorem sr_13 : Cond.stringRef "ProseDatesModel" 221 "first" ∈ lw_tbl := g_mem6 216 (by decide +kernel)
theorem sr_14 : Cond.stringRef "ProseDatesModel" 182 "montuewedthufrisatsun" ∈ lw_tbl := g_mem6 221 (by decide +kernel)
theorem sr_15 : Cond.stringRef "ProseDatesModel" 293 "of" ∈ lw_tbl := g_mem7 70 (by decide +kernel)
theorem sr_16 : Cond.stringRef "ProseDatesModel" 230 "today" ∈ lw_tbl := g_mem7 75 (by decide +kernel)
theorem sr_17 : Cond.stringRef "ProseDatesModel" 235 "tomorrow" ∈ lw_tbl := g_mem7 76 (by decide +kernel)
theorem sr_18 : Cond.stringRef "ProseDatesModel" 237 "yesterday" ∈ lw_tbl := g_mem7 77 (by decide +kernel)
theorem sr_19 : Cond.stringRef "ProseDatesModel" 239 "in" ∈ lw_tbl := g_mem7 78 (by decide +kernel)
theorem sr_20 : Cond.stringRef "ProseDatesModel" 243 "this" ∈ lw_tbl := g_mem7 83 (by decide +kernel)
theorem sr_21 : Cond.stringRef "ProseDatesModel" 248 "next" ∈ lw_tbl := g_mem7 91 (by decide +kernel)
theorem sr_22 : Cond.stringRef "ProseDatesModel" 253 "last" ∈ lw_tbl := g_mem7 99 (by decide +kernel)
theorem sr_23 : Cond.stringRef "ProseDatesModel" 261 "janfebmaraprmayjunjulaugsepoctnovdec" ∈ lw_tbl := g_mem7 111 (by decide +kernel)
theorem sr_24 : Cond.stringRef "ProseDatesModel" 311 "to" ∈ lw_tbl := g_mem7 120 (by decide +kernel)
theorem sr_25 : Cond.stringRef "ProseDatesModel" 316 "or" ∈ lw_tbl := g_mem7 121 (by decide +kernel)
theorem sr_all : ∀ q ∈ g_SR, Cond.stringRef q.1 q.2.1 q.2.2.1 ∈ lw_tbl := List.forall_mem_cons.mpr ⟨sr_0, List.forall_mem_cons.mpr ⟨sr_1, List.forall_mem_cons.mpr ⟨sr_2, List.forall_mem_cons.mpr ⟨sr_3, List.forall_mem_cons.mpr ⟨sr_4, List.forall_mem_cons.mpr ⟨sr_5, List.forall_mem_cons.mpr ⟨sr_6, List.forall_mem_cons.mpr ⟨sr_7, List.forall_mem_cons.mpr ⟨sr_8, List.forall_mem_cons.mpr ⟨sr_9, List.forall_mem_cons.mpr ⟨sr_10, List.forall_mem_cons.mpr ⟨sr_11, List.forall_mem_cons.mpr ⟨sr_12, List.forall_mem_cons.mpr ⟨sr_13, List.forall_mem_cons.mpr ⟨sr_14, List.forall_mem_cons.mpr ⟨sr_15, List.forall_mem_cons.mpr ⟨sr_16, List.forall_mem_cons.mpr ⟨sr_17, List.forall_mem_cons.mpr ⟨sr_18, List.forall_mem_cons.mpr ⟨sr_19, List.forall_mem_cons.mpr ⟨sr_20, List.forall_mem_cons.mpr ⟨sr_21, List.forall_mem_cons.mpr ⟨sr_22, List.forall_mem_cons.mpr ⟨sr_23, List.forall_mem_cons.mpr ⟨sr_24, List.forall_mem_cons.mpr ⟨sr_25, fun _ h => absurd h List.not_mem_nil⟩⟩⟩⟩⟩⟩⟩⟩⟩⟩⟩⟩⟩⟩⟩⟩⟩⟩⟩⟩⟩⟩⟩⟩⟩⟩
theorem sr_num : ∀ i, i < 26 → (g_SR.getD i ("", 0, "", 0)).2.2.2 = i := by decide
theorem g_Kn {args : Array Value} {s : State} (hts : ∀ w ∈ lw_tbl, w.before args s = true) : ∃ D : va_G, ∀ (c : Nat) (q : vw_C), g_cl[c]? = some q → u_Kn s q.1 q.2.1 q.2.2 (D.1 c) (D.2 c) := by
  have hG : ∀ w ∈ g_TB, w.before args s = true := fun w hw => hts w (List.mem_filter.mp hw).1
  obtain ⟨c0, i0, k0⟩ := u_known (n := 4) hG inG_0 (hts (Cond.instantiable RJ0 4) (g_mem7 2 (by decide +kernel)))
  obtain ⟨c1, i1, k1⟩ := u_known (n := 4) hG inG_1 (hts (Cond.instantiable RX1 4) (g_mem1 225 (by decide +kernel)))
  obtain ⟨c2, i2, k2⟩ := u_known (n := 4) hG inG_2 (hts (Cond.instantiable RX2 4) (g_mem1 98 (by decide +kernel)))
  obtain ⟨c3, i3, k3⟩ := u_known (n := 3) hG inG_3 (hts (Cond.instantiable RX3 3) (g_mem1 164 (by decide +kernel)))
  obtain ⟨c4, i4, k4⟩ := u_known (n := 5) hG inG_4 (hts (Cond.instantiable RX4 5) (g_mem1 51 (by decide +kernel)))
  obtain ⟨c5, i5, k5⟩ := u_known (n := 3) hG inG_5 (hts (Cond.instantiable RX5 3) (g_mem1 104 (by decide +kernel)))
  obtain ⟨c6, i6, k6⟩ := u_known (n := 2) hG inG_6 (hts (Cond.instantiable RX6 2) (g_mem1 139 (by decide +kernel)))
  obtain ⟨c7, i7, k7⟩ := u_known (n := 10) hG inG_7 (hts (Cond.instantiable RX7 10) (g_mem1 184 (by decide +kernel)))
  obtain ⟨c8, i8, k8⟩ := u_known (n := 1) hG inG_8 (hts (Cond.instantiable RX8 1) (g_mem1 153 (by decide +kernel)))
  obtain ⟨c9, i9, k9⟩ := u_known (n := 2) hG inG_9 (hts (Cond.instantiable RX9 2) (g_mem1 35 (by decide +kernel)))
  obtain ⟨c10, i10, k10⟩ := u_known (n := 5) hG inG_10 (hts (Cond.instantiable RX10 5) (g_mem1 57 (by decide +kernel)))
  obtain ⟨c11, i11, k11⟩ := u_known (n := 14) hG inG_11 (hts (Cond.instantiable RX11 14) (g_mem1 27 (by decide +kernel)))
  obtain ⟨c12, i12, k12⟩ := u_known (n := 31) hG inG_12 (hts (Cond.instantiable RX12 31) (g_mem5 165 (by decide +kernel)))
  refine ⟨(fun c => [c0, c1, c2, c3, c4, c5, c6, c7, c8, c9, c10, c11, c12].getD c c0, fun c => [i0, i1, i2, i3, i4, i5, i6, i7, i8, i9, i10, i11, i12].getD c i0), ?_⟩
  intro c q hq
  match c, hq with
  | 0, hq => cases hq; exact k0
  | 1, hq => cases hq; exact k1
  | 2, hq => cases hq; exact k2
  | 3, hq => cases hq; exact k3
  | 4, hq => cases hq; exact k4
  | 5, hq => cases hq; exact k5
  | 6, hq => cases hq; exact k6
  | 7, hq => cases hq; exact k7
  | 8, hq => cases hq; exact k8
  | 9, hq => cases hq; exact k9
  | 10, hq => cases hq; exact k10
  | 11, hq => cases hq; exact k11
  | 12, hq => cases hq; exact k12
  | n + 13, hq => simp at hq
theorem g_Ar {args : Array Value} {s : State} {ty : FieldType} (h : (Cond.arrayClass ty).before args s = true) : ∃ cA : ClassId, ArrOfT s cA ty ∧ s.vm.findClass ("[" ++ ty.toString) = some cA := by
  obtain ⟨cA, kA, comp, h1, h2, h3⟩ := Cond.arrayClass_spec h
  exact ⟨cA, fun N z => ⟨(fun k h => by cases h), kA, h2, comp, h3⟩, h1⟩
theorem g_ArO {args : Array Value} {s : State} {ty : FieldType} (h : (Cond.arrayOver (.array ty)).before args s = true) : ∃ cA : ClassId, ArrOfT s cA (.array ty) ∧ s.vm.findClass ("[" ++ (FieldType.array ty).toString) = some cA := by
  obtain ⟨comp, cA, kA, h1, h2, h3, h4⟩ := Cond.arrayOver_specA h
  exact ⟨cA, fun N z => ⟨(fun k h => by cases h), kA, h2, comp, h3⟩, h4⟩
theorem g_nw_tab : ∀ w ∈ g_NW, w.onTables = true := by
  intro w hw
  have hn := (List.mem_filter.mp hw).2
  cases w <;> first | rfl | (exfalso; revert hn; simp [g_nest])
theorem g_Days {args : Array Value} {s : State} {A : Nat → Prop} (hA : ∀ a : Nat, a < s.heap.size → ¬ A a) (hf : ∀ w ∈ g_fl0, w.before args s = true) : ∃ t : Nat, (Term.static "ProseDates$Calendar" "DAYS_AHEAD" "[I").eval args s none [] s = some (.ref t) ∧ va_T .int t 12 (fun j => .int (g_days.getD j 0)) A s s.heap := by
  have h12 : ∀ j, j < 12 → Cond.eq (.elem (.static "ProseDates$Calendar" "DAYS_AHEAD" "[I") (.int (Int32.ofNat j))) (.int (g_days.getD j 0)) ∈ g_fl0 := by decide +kernel
  exact va_Tof (by decide) (hf (Cond.arrayOf (.static "ProseDates$Calendar" "DAYS_AHEAD" "[I") .int) (by decide +kernel)) (va_eqt (hf (Cond.eq (.length (.static "ProseDates$Calendar" "DAYS_AHEAD" "[I")) (.int 12)) (by decide +kernel))) (fun j hj => va_eqt (hf _ (h12 j hj))) hA
set_option maxHeartbeats 4000000 in
theorem g_open {b : Nat} {s : State} {L : Nat} {xs : Nat → Int32} (hts : ∀ w ∈ lw_tbl, w.before #[Value.ref b] s = true) (hgv : (Jvm.Cond.and given_1 narrow_1).before #[Value.ref b] s = true) (hX : va_X b L xs s s.heap) (hb : b < s.heap.size) : ∃ E : gEnv, E.2.2.1 950 = b ∧ E.2.2.2 = ((fun q => s.heap.size ≤ q), g_cs, L, xs) ∧ va_K E.1 g_cl (g_tys E.2.1) s ∧ g_C E s s.heap ∧ va_AOA .int s := by
  have hf : ∀ w ∈ g_fl0, w.before #[Value.ref b] s = true := flat_of_before _ hgv
  have hA : ∀ a : Nat, a < s.heap.size → ¬ (fun q => s.heap.size ≤ q) a := fun a h1 h2 => absurd (Nat.lt_of_lt_of_le h1 h2) (Nat.lt_irrefl _)
  obtain ⟨adS, hS⟩ := g_Sof hA hf
  obtain ⟨D, hD⟩ := g_Kn hts
  obtain ⟨tD, hD1, hD2⟩ := g_Days hA hf
  obtain ⟨a0, p0, q0⟩ := g_Ar (hts (Jvm.Cond.arrayClass Jvm.ClassFile.FieldType.int) (g_mem1 49 (by decide +kernel)))
  obtain ⟨a1, p1, q1⟩ := g_Ar (hts (Jvm.Cond.arrayClass Jvm.ClassFile.FieldType.byte) (g_mem3 189 (by decide +kernel)))
  obtain ⟨a2, p2, q2⟩ := g_Ar (hts (Jvm.Cond.arrayClass Jvm.ClassFile.FieldType.boolean) (g_mem6 25 (by decide +kernel)))
  obtain ⟨a3, p3, q3⟩ := g_Ar (hts (Jvm.Cond.arrayClass Jvm.ClassFile.FieldType.long) (g_mem6 24 (by decide +kernel)))
  have hov := (hts (Jvm.Cond.arrayOver (Jvm.ClassFile.FieldType.array Jvm.ClassFile.FieldType.int)) (g_mem1 170 (by decide +kernel)))
  obtain ⟨a4, p4, q4⟩ := g_ArO hov
  have hF := va_Zqof (A := fun q => s.heap.size ≤ q) (hts (Jvm.Cond.laysStatic "jdk/internal/util/Preconditions" "SIOOBE_FORMATTER" "Ljava/util/function/BiFunction;") (g_mem2 136 (by decide +kernel))) (hts (Jvm.Cond.initialized "jdk/internal/util/Preconditions") (g_mem1 15 (by decide +kernel))) (hf (Cond.isRef (.static "jdk/internal/util/Preconditions" "SIOOBE_FORMATTER" "Ljava/util/function/BiFunction;")) (by decide +kernel)) hA
  obtain ⟨t9, h9⟩ : ∃ t9 : Nat, va_Z "jdk/internal/util/Preconditions" "SIOOBE_FORMATTER" "Ljava/util/function/BiFunction;" .null (fun q => s.heap.size ≤ q) s s.heap ∨ va_Z "jdk/internal/util/Preconditions" "SIOOBE_FORMATTER" "Ljava/util/function/BiFunction;" (.ref t9) (fun q => s.heap.size ≤ q) s s.heap := by
    rcases hF with h | ⟨t, h⟩
    · exact ⟨0, Or.inl h⟩
    · exact ⟨t, Or.inr h⟩
  have z1 := va_Zof (A := fun q => s.heap.size ≤ q) (hts (Jvm.Cond.laysStatic "java/lang/String" "COMPACT_STRINGS" "Z") (g_mem2 120 (by decide +kernel))) (hts (Jvm.Cond.initialized "java/lang/String") (g_mem1 13 (by decide +kernel))) (va_eqi (hf (Cond.eq (.static "java/lang/String" "COMPACT_STRINGS" "Z") (.int 1)) (by decide +kernel))) hA
  have z2 := va_Zref (A := fun q => s.heap.size ≤ q) (hts (Jvm.Cond.laysStatic "ProseDates$Calendar" "DAYS_AHEAD" "[I") (g_mem3 59 (by decide +kernel))) (hts (Jvm.Cond.initialized "ProseDates$Calendar") (g_mem1 17 (by decide +kernel))) hD1 hA
  have z3 := vx_Zqof (A := fun q => s.heap.size ≤ q) (hts (Jvm.Cond.laysStatic "java/lang/Throwable" "UNASSIGNED_STACK" "[Ljava/lang/StackTraceElement;") (g_mem5 114 (by decide +kernel))) (hts (Jvm.Cond.initialized "java/lang/Throwable") (g_mem1 21 (by decide +kernel))) (hf (Cond.isRef (.static "java/lang/Throwable" "UNASSIGNED_STACK" "[Ljava/lang/StackTraceElement;")) (by decide +kernel)) hA
  have z4 := vx_Zqof (A := fun q => s.heap.size ≤ q) (hts (Jvm.Cond.laysStatic "java/lang/Throwable" "SUPPRESSED_SENTINEL" "Ljava/util/List;") (g_mem5 116 (by decide +kernel))) (hts (Jvm.Cond.initialized "java/lang/Throwable") (g_mem1 21 (by decide +kernel))) (hf (Cond.isRef (.static "java/lang/Throwable" "SUPPRESSED_SENTINEL" "Ljava/util/List;")) (by decide +kernel)) hA
  obtain ⟨ad, e9, e5, e6, eK, eV⟩ : ∃ ad : Nat → Nat, ad 900 = tD ∧ ad 950 = b ∧ ad 960 = t9 ∧ (∀ i, i < 26 → ad (1000 + i) = (adS i).1) ∧ (∀ i, i < 26 → ad (1000 + i + 1000) = (adS i).2) := by
    refine ⟨fun a => if a = 900 then tD else if a = 950 then b else if a = 960 then t9 else if a < 2000 then (adS (a - 1000)).1 else (adS (a - 2000)).2, rfl, rfl, rfl, fun i hi => ?_, fun i hi => ?_⟩
    · simp only [show ¬ 1000 + i = 900 by omega, show ¬ 1000 + i = 950 by omega, show ¬ 1000 + i = 960 by omega, show 1000 + i < 2000 by omega, if_false, if_true, Nat.add_sub_cancel_left]
    · simp only [show ¬ 1000 + i + 1000 = 900 by omega, show ¬ 1000 + i + 1000 = 950 by omega, show ¬ 1000 + i + 1000 = 960 by omega, show ¬ 1000 + i + 1000 < 2000 by omega, if_false]
      rw [show 1000 + i + 1000 - 2000 = i by omega]
  refine ⟨(D, (fun k => [a0, a1, a2, a3, a4].getD (k - 100) a0), ad, (fun q => s.heap.size ≤ q), g_cs, L, xs), e5, rfl, ⟨hD, fun k q hq => ?_⟩, ⟨fun w hw => va_Nw.of (g_nw_tab w hw) (hts w (List.mem_filter.mp hw).1), fun q hq => ?_, fun a ha => ?_, z1, ?_, ?_, ⟨?_, ?_, ?_⟩, fun q h => h, fun a h => h, ?_, z3, z4⟩, va_AOA.of hov⟩
  · match k, hq with
    | 0, hq => cases hq; exact ⟨p0, q0⟩
    | 1, hq => cases hq; exact ⟨p1, q1⟩
    | 2, hq => cases hq; exact ⟨p2, q2⟩
    | 3, hq => cases hq; exact ⟨p3, q3⟩
    | 4, hq => cases hq; exact ⟨p4, q4⟩
    | n + 5, hq => simp at hq
  · obtain ⟨i, hi0, hqi⟩ := List.getElem_of_mem hq
    have hi : i < 26 := hi0
    have e : g_SR.getD i ("", 0, "", 0) = q := by rw [List.getD_eq_getElem?_getD, List.getElem?_eq_getElem hi0, hqi]; rfl
    have hn := sr_num i hi
    have ht := (hS i hi).1
    unfold g_tm at ht
    rw [e] at hn ht
    refine vk_R.of (hts _ (sr_all q hq)) ?_
    show _ = some (Value.ref (ad (1000 + q.2.2.2)))
    rw [hn, eK i hi]
    exact ht
  · obtain ⟨i, hi, rfl⟩ := List.mem_map.mp ha
    have hi := List.mem_range.mp hi
    have e : g_sb (1000 + i) = g_tx.getD i [] := by unfold g_sb; rw [if_pos (by omega), Nat.add_sub_cancel_left]
    obtain ⟨-, h2, h3, h4, h5⟩ := hS i hi
    rw [e]
    show va_O _ (ad (1000 + i)) _ _ _ ∧ va_OF _ _ _ _ (ad (1000 + i)) _ _ _ ∧ va_OF _ _ _ (.ref (ad (1000 + i + 1000))) (ad (1000 + i)) _ _ _ ∧ va_T _ (ad (1000 + i + 1000)) _ _ _ _ _
    rw [eK i hi, eV i hi]
    exact ⟨h2, h3, h4, h5⟩
  · show va_Z _ _ _ (.ref (ad 900)) _ _ _
    rw [e9]
    exact z2
  · show va_T _ (ad 900) _ _ _ _ _
    rw [e9]
    exact hD2
  · show va_X (ad 950) L xs _ _
    rw [e5]
    exact hX
  · show ¬ s.heap.size ≤ ad 950
    rw [e5]
    omega
  · show ad 950 < s.heap.size
    rw [e5]
    exact hb
  · show _ ∨ va_Z _ _ _ (.ref (ad 960)) _ _ _
    rw [e6]
    exact h9
