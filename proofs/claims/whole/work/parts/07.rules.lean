/-! environment and context, by their places -/
abbrev g_D (X : gX) : va_G := X.2.2.2.2.2.2.2.2.1
abbrev g_cA (X : gX) : Nat → ClassId := X.2.2.2.2.2.2.2.2.2.1
abbrev g_ad (X : gX) : Nat → Nat := X.2.2.2.2.2.2.2.2.2.2.1
abbrev g_A (X : gX) : Nat → Prop := X.2.2.2.2.2.2.2.2.2.2.2.1
abbrev g_E (X : gX) : gEnv := X.2.2.2.2.2.2.2.2
abbrev g_s (X : gX) : State := X.2.2.1
abbrev g_m (X : gX) : MethodId := X.2.2.2.1
abbrev g_args (X : gX) : Array Value := X.2.2.2.2.1
abbrev g_below (X : gX) : List Frame := X.2.2.2.2.2.1
abbrev g_meth (X : gX) : Method := X.2.2.2.2.2.2.1
abbrev g_c (X : gX) : Code := X.2.2.2.2.2.2.2.1
abbrev g_w (X : gX) (M : gMem) : va_W := g_ws (g_cA X) (g_ad X) M
/-- a String of the bytes bs at the number a, its row of bytes at a + 1000 -/
def g_Str (E : gEnv) (a : Nat) (bs : List Int32) (U : State) (H : Heap) : Prop := va_O "java/lang/String" (E.2.2.1 a) E.2.2.2.1 U H ∧ va_OF "java/lang/String" "coder" "B" (.int 0) (E.2.2.1 a) E.2.2.2.1 U H ∧ va_OF "java/lang/String" "value" "[B" (.ref (E.2.2.1 (a + 1000))) (E.2.2.1 a) E.2.2.2.1 U H ∧ va_T .byte (E.2.2.1 (a + 1000)) bs.length (fun j => .int (bs.getD j 0)) E.2.2.2.1 U H
theorem g_Str.moved {E : gEnv} {a : Nat} {bs : List Int32} {u U : State} {H : Heap} (hvm : u.vm.Alike U.vm) (h : g_Str E a bs u H) : g_Str E a bs U H := ⟨va_O.moved hvm h.1, va_OF.moved hvm h.2.1, va_OF.moved hvm h.2.2.1, va_T.moved hvm h.2.2.2⟩
theorem g_Str.kept {E : gEnv} {a : Nat} {bs : List Int32} {U : State} {H H1 : Heap} (h : g_Str E a bs U H) (hq : ∀ q : Nat, q < H.size → ¬ E.2.2.2.1 q → H1[q]? = H[q]?) : g_Str E a bs U H1 := ⟨h.1.kept hq, h.2.1.kept hq, h.2.2.1.kept hq, h.2.2.2.kept hq⟩
def g_nest : Cond → Bool
  | .fieldLinkNest _ _ _ _ _ _ => true
  | .methodLinkNest _ _ _ _ => true
  | .castable _ _ => true
  | .declares _ => true
  | _ => false
def g_NW : List Cond := lw_tbl.filter g_nest
theorem g_nwp {w : Cond} (i : Nat) (h : (k2_sels lw_privs)[i]? = some w) (hg : g_nest w = true) : w ∈ g_NW := List.mem_filter.mpr ⟨g_memp i h, hg⟩
theorem g_nw1 {w : Cond} (i : Nat) (h : tables_1_1[i]? = some w) (hg : g_nest w = true) : w ∈ g_NW := List.mem_filter.mpr ⟨g_mem1 i h, hg⟩
theorem g_nw2 {w : Cond} (i : Nat) (h : tables_1_2[i]? = some w) (hg : g_nest w = true) : w ∈ g_NW := List.mem_filter.mpr ⟨g_mem2 i h, hg⟩
theorem g_nw3 {w : Cond} (i : Nat) (h : tables_1_3[i]? = some w) (hg : g_nest w = true) : w ∈ g_NW := List.mem_filter.mpr ⟨g_mem3 i h, hg⟩
theorem g_nw4 {w : Cond} (i : Nat) (h : tables_1_4[i]? = some w) (hg : g_nest w = true) : w ∈ g_NW := List.mem_filter.mpr ⟨g_mem4 i h, hg⟩
theorem g_nw5 {w : Cond} (i : Nat) (h : tables_1_5[i]? = some w) (hg : g_nest w = true) : w ∈ g_NW := List.mem_filter.mpr ⟨g_mem5 i h, hg⟩
theorem g_nw6 {w : Cond} (i : Nat) (h : tables_1_6[i]? = some w) (hg : g_nest w = true) : w ∈ g_NW := List.mem_filter.mpr ⟨g_mem6 i h, hg⟩
theorem g_nw7 {w : Cond} (i : Nat) (h : tables_1_7[i]? = some w) (hg : g_nest w = true) : w ∈ g_NW := List.mem_filter.mpr ⟨g_mem7 i h, hg⟩
theorem g_nw8 {w : Cond} (i : Nat) (h : tables_1_8[i]? = some w) (hg : g_nest w = true) : w ∈ g_NW := List.mem_filter.mpr ⟨g_mem8 i h, hg⟩
/-- what stands in the heap and is never written: links of nest mates, String constants, static values, the script -/
def g_C (E : gEnv) (U : State) (H : Heap) : Prop :=
  (∀ w ∈ g_NW, va_Nw w U) ∧ (∀ q ∈ g_SR, vk_R q.1 q.2.1 q.2.2.1 (E.2.2.1 (1000 + q.2.2.2)) U) ∧ (∀ a ∈ E.2.2.2.2.1, g_Str E a (g_sb a) U H) ∧
  va_Z "java/lang/String" "COMPACT_STRINGS" "Z" (.int 1) E.2.2.2.1 U H ∧ va_Z "ProseDates$Calendar" "DAYS_AHEAD" "[I" (.ref (E.2.2.1 900)) E.2.2.2.1 U H ∧ va_T .int (E.2.2.1 900) 12 (fun j => .int (g_days.getD j 0)) E.2.2.2.1 U H ∧
  (va_X (E.2.2.1 950) E.2.2.2.2.2.1 E.2.2.2.2.2.2 U H ∧ ¬ E.2.2.2.1 (E.2.2.1 950) ∧ E.2.2.1 950 < H.size) ∧ (∀ q : Nat, H.size ≤ q → E.2.2.2.1 q) ∧ (∀ a ∈ g_cs, a ∈ E.2.2.2.2.1) ∧
  (va_Z "jdk/internal/util/Preconditions" "SIOOBE_FORMATTER" "Ljava/util/function/BiFunction;" .null E.2.2.2.1 U H ∨ va_Z "jdk/internal/util/Preconditions" "SIOOBE_FORMATTER" "Ljava/util/function/BiFunction;" (.ref (E.2.2.1 960)) E.2.2.2.1 U H) ∧
  vx_Zq Bundle.tN "UNASSIGNED_STACK" Bundle.steD E.2.2.2.1 U H ∧ vx_Zq Bundle.tN "SUPPRESSED_SENTINEL" Bundle.listD E.2.2.2.1 U H
theorem g_C.kept {E : gEnv} {U : State} {H H1 : Heap} (h : g_C E U H) (hz : H.size ≤ H1.size) (hq : ∀ q : Nat, q < H.size → ¬ E.2.2.2.1 q → H1[q]? = H[q]?) : g_C E U H1 := by
  obtain ⟨h1, h2, h3, h4, h5, h6, ⟨h7, h8, h9⟩, h10, h11, h12, h13, h14⟩ := h
  exact ⟨h1, h2, fun a ha => (h3 a ha).kept hq, h4.kept hq, h5.kept hq, h6.kept hq, ⟨h7.kept (hq _ h9 h8), h8, Nat.lt_of_lt_of_le h9 hz⟩, fun q hq' => h10 q (Nat.le_trans hz hq'), h11, h12.elim (fun h => Or.inl (h.kept hq)) (fun h => Or.inr (h.kept hq)), h13.kept hq, h14.kept hq⟩
theorem g_C.warm {E : gEnv} {s U : State} {H : Heap} (h : g_C E s H) (hW : s.WarmedH U.vm) : g_C E U H := by
  obtain ⟨h1, h2, h3, h4, h5, h6, ⟨h7, h8, h9⟩, h10, h11, h12, h13, h14⟩ := h
  refine ⟨fun w hw => ?_, fun q hq => (h2 q hq).warm hW, fun a ha => (h3 a ha).moved hW.alike, h4.moved hW.alike, h5.moved hW.alike, h6.moved hW.alike, ⟨h7.moved hW.alike, h8, h9⟩, h10, h11, h12.elim (fun h => Or.inl (h.moved hW.alike)) (fun h => Or.inr (h.moved hW.alike)), vx_Zq.moved hW.alike h13, vx_Zq.moved hW.alike h14⟩
  have hn := (List.mem_filter.mp hw).2
  have hz := h1 w hw
  cases w <;> first | (exact va_Nw.warmF hW hz) | (exact va_Nw.warmM hW hz) | (exact va_Nw.warmC hW hz) | (exact va_Nw.warmD hW hz) | (exfalso; revert hn; simp [g_nest])
def g_ok (mt : gMt) (X : gX) : Prop := X.1.tables.exec = Jvm.exec ∧ (g_c X).code = mt.2.1 ∧ (g_c X).maxLocals = mt.2.2.1 ∧ (g_s X).vm.findClass mt.1.cls = some (g_m X).cls ∧ (∀ w ∈ g_TB, w.before (g_args X) (g_s X) = true) ∧ (g_meth X).locks = false ∧ (g_meth X).sig.returnType = mt.2.2.2 ∧ (g_meth X).name = mt.1.name ∧ va_K (g_D X) g_cl (g_tys (g_cA X)) (g_s X) ∧ g_C (g_E X) (g_s X) (g_s X).heap
/-- the locals: what is listed is held -/
def g_lv (X : gX) (ls : Array Slot) (nL : Nat) (L : List (Option Value)) : Prop := ls.size = nL ∧ lv_wf ls ∧ ∀ (i : Nat) (v : Value), L[i]? = some (some v) → ls[i]? = some (.val (g_v (g_ad X) v))
/-- from this place on the machine comes to Z -/
def Gw (l : Launch) (mt : gMt) (R : Room) (X : gX) (pc : Nat) (L : List (Option Value)) (S : List Value) (M : gMem) (k n : Nat) (Z : State → Prop) : Prop :=
  g_ok mt X → ∀ (H : Heap) (locs : List Loc) (ls : Array Slot), g_lv X ls mt.2.2.1 L → va_P (g_D X) g_cl (g_w X M) H → va_D (g_A X) (g_w X M) → va_S (g_A X) (g_s X).heap H locs → W X.1 l X.2.1 R (g_s X) (g_m X) (g_args X) (g_below X) (g_meth X) (g_c X) H locs k n Z (F0 (g_m X) pc ls (S.map (g_v (g_ad X))))
section RULES
variable {l : Launch} {mt : gMt} {R : Room} {X : gX} {pc : Nat} {L L' : List (Option Value)} {S : List Value} {M : gMem} {k n : Nat} {Z : State → Prop}
theorem r_iconst {z : Int} {v : Int32} (hd : decode mt.2.1 pc = .ok (.iconst z, 1)) (hv : Int32.ofInt z = v) (kk : Gw l mt R X (pc + 1) L (.int v :: S) M k n Z) : Gw l mt R X pc L S M k n Z := fun ok H locs ls hl hP hD hS => lv_iconst ok.1 ok.2.1 hd hv (kk ok H locs ls hl hP hD hS)
theorem r_bipush {z : Int} {v : Int32} (hd : decode mt.2.1 pc = .ok (.bipush z, 2)) (hv : (Int8.ofInt z).toInt32 = v) (kk : Gw l mt R X (pc + 2) L (.int v :: S) M k n Z) : Gw l mt R X pc L S M k n Z := fun ok H locs ls hl hP hD hS => lv_bipush ok.1 ok.2.1 hd hv (kk ok H locs ls hl hP hD hS)
theorem r_sipush {z : Int} {v : Int32} (hd : decode mt.2.1 pc = .ok (.sipush z, 3)) (hv : (Int16.ofInt z).toInt32 = v) (kk : Gw l mt R X (pc + 3) L (.int v :: S) M k n Z) : Gw l mt R X pc L S M k n Z := fun ok H locs ls hl hP hD hS => lv_sipush ok.1 ok.2.1 hd hv (kk ok H locs ls hl hP hD hS)
theorem r_lconst {z : Fin 2} {v : Int64} (hd : decode mt.2.1 pc = .ok (.lconst z, 1)) (hv : Int64.ofNat (z : Nat) = v) (kk : Gw l mt R X (pc + 1) L (.long v :: S) M k n Z) : Gw l mt R X pc L S M k n Z := fun ok H locs ls hl hP hD hS => lv_lconst ok.1 ok.2.1 hd hv (kk ok H locs ls hl hP hD hS)
theorem r_ldci {index : Nat} {v : Int32} (hd : decode mt.2.1 pc = .ok (.ldc index, 2)) (hc : Cond.constant mt.1.cls index v ∈ g_TB) (kk : Gw l mt R X (pc + 2) L (.int v :: S) M k n Z) : Gw l mt R X pc L S M k n Z := fun ok H locs ls hl hP hD hS => lv_ldc ok.1 ok.2.1 ok.2.2.2.1 (ok.2.2.2.2.1 _ hc) hd (kk ok H locs ls hl hP hD hS)
theorem r_ldc2 {index : Nat} {v : Int64} (hd : decode mt.2.1 pc = .ok (.ldc2_w index, 3)) (hc : Cond.constantLong mt.1.cls index v ∈ g_TB) (kk : Gw l mt R X (pc + 3) L (.long v :: S) M k n Z) : Gw l mt R X pc L S M k n Z := fun ok H locs ls hl hP hD hS => lv_ldc2 ok.1 ok.2.1 ok.2.2.2.1 (ok.2.2.2.2.1 _ hc) hd (kk ok H locs ls hl hP hD hS)
theorem r_ldcS {index i : Nat} {tx : String} (hd : decode mt.2.1 pc = .ok (.ldc index, 2)) (hc : (mt.1.cls, index, tx, i) ∈ g_SR) (kk : Gw l mt R X (pc + 2) L (.ref (1000 + i) :: S) M k n Z) : Gw l mt R X pc L S M k n Z := fun ok H locs ls hl hP hD hS => va_ldcS ok.1 ok.2.1 ok.2.2.2.1 (ok.2.2.2.2.2.2.2.2.2.2.1 _ hc) hd (kk ok H locs ls hl hP hD hS)
theorem r_iload_n {i : Fin 4} {x : Int32} (hd : decode mt.2.1 pc = .ok (.iload_n i, 1)) (hi : L[(i : Nat)]? = some (some (.int x))) (kk : Gw l mt R X (pc + 1) L (.int x :: S) M k n Z) : Gw l mt R X pc L S M k n Z := fun ok H locs ls hl hP hD hS => lv_iload_n ok.1 ok.2.1 hd rfl (hl.2.2 _ _ hi) (kk ok H locs ls hl hP hD hS)
theorem r_iload {i : Nat} {x : Int32} (hd : decode mt.2.1 pc = .ok (.iload i, 2)) (hi : L[i]? = some (some (.int x))) (kk : Gw l mt R X (pc + 2) L (.int x :: S) M k n Z) : Gw l mt R X pc L S M k n Z := fun ok H locs ls hl hP hD hS => lv_iload ok.1 ok.2.1 hd (hl.2.2 _ _ hi) (kk ok H locs ls hl hP hD hS)
theorem r_lload_n {i : Fin 4} {x : Int64} (hd : decode mt.2.1 pc = .ok (.lload_n i, 1)) (hi : L[(i : Nat)]? = some (some (.long x))) (kk : Gw l mt R X (pc + 1) L (.long x :: S) M k n Z) : Gw l mt R X pc L S M k n Z := fun ok H locs ls hl hP hD hS => lv_lload_n ok.1 ok.2.1 hd rfl (hl.2.2 _ _ hi) (kk ok H locs ls hl hP hD hS)
theorem r_lload {i : Nat} {x : Int64} (hd : decode mt.2.1 pc = .ok (.lload i, 2)) (hi : L[i]? = some (some (.long x))) (kk : Gw l mt R X (pc + 2) L (.long x :: S) M k n Z) : Gw l mt R X pc L S M k n Z := fun ok H locs ls hl hP hD hS => lv_lload ok.1 ok.2.1 hd (hl.2.2 _ _ hi) (kk ok H locs ls hl hP hD hS)
theorem r_aload_n {i : Fin 4} {x : Nat} (hd : decode mt.2.1 pc = .ok (.aload_n i, 1)) (hi : L[(i : Nat)]? = some (some (.ref x))) (kk : Gw l mt R X (pc + 1) L (.ref x :: S) M k n Z) : Gw l mt R X pc L S M k n Z := fun ok H locs ls hl hP hD hS => lv_aload_n ok.1 ok.2.1 hd rfl (hl.2.2 _ _ hi) (kk ok H locs ls hl hP hD hS)
theorem r_aload {i : Nat} {x : Nat} (hd : decode mt.2.1 pc = .ok (.aload i, 2)) (hi : L[i]? = some (some (.ref x))) (kk : Gw l mt R X (pc + 2) L (.ref x :: S) M k n Z) : Gw l mt R X pc L S M k n Z := fun ok H locs ls hl hP hD hS => lv_aload ok.1 ok.2.1 hd (hl.2.2 _ _ hi) (kk ok H locs ls hl hP hD hS)
/-- no long begins just ahead of place i -/
def g_nl (L : List (Option Value)) : Nat → Bool
  | 0 => true
  | i + 1 => match L[i]? with
    | some (some (.long _)) => false
    | some (some (.double _)) => false
    | _ => true
def g_lvl (X : gX) (L : List (Option Value)) : List (Nat × Value) := (List.range L.length).filterMap (fun i => ((L[i]?).getD none).map (fun v => (i, g_v (g_ad X) v)))
theorem g_lvl_mem {i : Nat} {v : Value} (h : L[i]? = some (some v)) : (i, g_v (g_ad X) v) ∈ g_lvl X L := by
  have hi : i < L.length := (List.getElem?_eq_some_iff.mp h).1
  exact List.mem_filterMap.mpr ⟨i, List.mem_range.mpr hi, by rw [h]; rfl⟩
theorem g_lvl_of {q : Nat × Value} (h : q ∈ g_lvl X L) : ∃ v, L[q.1]? = some (some v) ∧ q.2 = g_v (g_ad X) v := by
  obtain ⟨i, hi, he⟩ := List.mem_filterMap.mp h
  have hi2 := List.mem_range.mp hi
  cases hL : L[i]? with
  | none => rw [hL] at he; simp at he
  | some o =>
    rw [hL] at he
    cases o with
    | none => simp at he
    | some v =>
      simp at he
      subst he
      exact ⟨v, hL, rfl⟩
theorem g_lv_has {ls : Array Slot} {nL : Nat} (h : g_lv X ls nL L) : lv_has ls nL (g_lvl X L) := by
  refine ⟨h.1, h.2.1, fun q hq => ?_⟩
  obtain ⟨v, h1, h2⟩ := g_lvl_of hq
  rw [h2]
  exact h.2.2 _ _ h1
theorem g_v_cat (ad : Nat → Nat) (v : Value) : (g_v ad v).category = v.category := by cases v <;> rfl
theorem g_nl_ok {i j : Nat} {v : Value} (hn : g_nl L i = true) (hj : L[j]? = some (some v)) (he : j + 1 = i) : ¬ v.category = 2 := by
  subst he
  simp only [g_nl, hj] at hn
  cases v <;> simp_all [Value.category]
theorem g_lv_set {ls' : Array Slot} {nL i : Nat} {v : Value} (hn : g_nl L i = true) (hL : L.set i (some v) = L') (h : lv_has ls' nL ((i, g_v (g_ad X) v) :: (g_lvl X L).filter (fun q => !(q.1 == i) && !(q.1 + 1 == i && q.2.category == 2)))) : g_lv X ls' nL L' := by
  refine ⟨h.1, h.2.1, fun j u hj => ?_⟩
  subst hL
  rw [List.getElem?_set] at hj
  by_cases e : i = j
  · subst e
    simp at hj
    obtain ⟨-, hj⟩ := hj
    subst hj
    exact h.2.2 _ List.mem_cons_self
  · rw [if_neg e] at hj
    refine h.2.2 (j, g_v (g_ad X) u) (List.mem_cons_of_mem _ (List.mem_filter.mpr ⟨g_lvl_mem hj, ?_⟩))
    have e2 : ¬ j = i := fun q => e q.symm
    by_cases e3 : j + 1 = i
    · have := g_nl_ok hn hj e3
      simp [e2, g_v_cat, this]
    · simp [e2, e3]
theorem r_istore_n {i : Fin 4} {x : Int32} (hd : decode mt.2.1 pc = .ok (.istore_n i, 1)) (hL : L.set (i : Nat) (some (.int x)) = L') (hi : (i : Nat) < mt.2.2.1) (hn : g_nl L (i : Nat) = true) (kk : Gw l mt R X (pc + 1) L' S M k n Z) : Gw l mt R X pc L (.int x :: S) M k n Z := fun ok H locs ls hl hP hD hS => lv_istore_n ok.1 ok.2.1 hd rfl (g_lv_has hl) hi rfl (fun ls' h => kk ok H locs ls' (g_lv_set (v := .int x) hn hL h) hP hD hS)
theorem r_istore {i : Nat} {x : Int32} (hd : decode mt.2.1 pc = .ok (.istore i, 2)) (hL : L.set i (some (.int x)) = L') (hi : i < mt.2.2.1) (hn : g_nl L i = true) (kk : Gw l mt R X (pc + 2) L' S M k n Z) : Gw l mt R X pc L (.int x :: S) M k n Z := fun ok H locs ls hl hP hD hS => lv_istore ok.1 ok.2.1 hd (g_lv_has hl) hi rfl (fun ls' h => kk ok H locs ls' (g_lv_set (v := .int x) hn hL h) hP hD hS)
theorem r_astore_n {i : Fin 4} {x : Nat} (hd : decode mt.2.1 pc = .ok (.astore_n i, 1)) (hL : L.set (i : Nat) (some (.ref x)) = L') (hi : (i : Nat) < mt.2.2.1) (hn : g_nl L (i : Nat) = true) (kk : Gw l mt R X (pc + 1) L' S M k n Z) : Gw l mt R X pc L (.ref x :: S) M k n Z := fun ok H locs ls hl hP hD hS => lv_astore_n ok.1 ok.2.1 hd rfl (g_lv_has hl) hi rfl (fun ls' h => kk ok H locs ls' (g_lv_set (v := .ref x) hn hL h) hP hD hS)
theorem r_astore {i : Nat} {x : Nat} (hd : decode mt.2.1 pc = .ok (.astore i, 2)) (hL : L.set i (some (.ref x)) = L') (hi : i < mt.2.2.1) (hn : g_nl L i = true) (kk : Gw l mt R X (pc + 2) L' S M k n Z) : Gw l mt R X pc L (.ref x :: S) M k n Z := fun ok H locs ls hl hP hD hS => lv_astore ok.1 ok.2.1 hd (g_lv_has hl) hi rfl (fun ls' h => kk ok H locs ls' (g_lv_set (v := .ref x) hn hL h) hP hD hS)
theorem r_iinc {i : Nat} {z : Int} {x v : Int32} (hd : decode mt.2.1 pc = .ok (.iinc i z, 3)) (hx : L[i]? = some (some (.int x))) (hv : x + Int32.ofInt z = v) (hL : L.set i (some (.int v)) = L') (hi : i < mt.2.2.1) (hn : g_nl L i = true) (kk : Gw l mt R X (pc + 3) L' S M k n Z) : Gw l mt R X pc L S M k n Z := fun ok H locs ls hl hP hD hS => by
  obtain ⟨j, hj⟩ := List.getElem?_of_mem (g_lvl_mem (X := X) hx)
  exact lv_iinc ok.1 ok.2.1 hd (g_lv_has hl) hj hv hi rfl (fun ls' h => kk ok H locs ls' (g_lv_set (v := .int v) hn hL h) hP hD hS)
theorem r_iadd {x y : Int32} (hd : decode mt.2.1 pc = .ok (.iadd, 1)) (kk : Gw l mt R X (pc + 1) L (.int (x + y) :: S) M k n Z) : Gw l mt R X pc L (.int y :: .int x :: S) M k n Z := fun ok H locs ls hl hP hD hS => lv_iadd ok.1 ok.2.1 hd (kk ok H locs ls hl hP hD hS)
theorem r_isub {x y : Int32} (hd : decode mt.2.1 pc = .ok (.isub, 1)) (kk : Gw l mt R X (pc + 1) L (.int (x - y) :: S) M k n Z) : Gw l mt R X pc L (.int y :: .int x :: S) M k n Z := fun ok H locs ls hl hP hD hS => lv_isub ok.1 ok.2.1 hd (kk ok H locs ls hl hP hD hS)
theorem r_imul {x y : Int32} (hd : decode mt.2.1 pc = .ok (.imul, 1)) (kk : Gw l mt R X (pc + 1) L (.int (x * y) :: S) M k n Z) : Gw l mt R X pc L (.int y :: .int x :: S) M k n Z := fun ok H locs ls hl hP hD hS => lv_imul ok.1 ok.2.1 hd (kk ok H locs ls hl hP hD hS)
theorem r_iand {x y : Int32} (hd : decode mt.2.1 pc = .ok (.iand, 1)) (kk : Gw l mt R X (pc + 1) L (.int (x &&& y) :: S) M k n Z) : Gw l mt R X pc L (.int y :: .int x :: S) M k n Z := fun ok H locs ls hl hP hD hS => lv_iand ok.1 ok.2.1 hd (kk ok H locs ls hl hP hD hS)
theorem r_ior {x y : Int32} (hd : decode mt.2.1 pc = .ok (.ior, 1)) (kk : Gw l mt R X (pc + 1) L (.int (x ||| y) :: S) M k n Z) : Gw l mt R X pc L (.int y :: .int x :: S) M k n Z := fun ok H locs ls hl hP hD hS => lv_ior ok.1 ok.2.1 hd (kk ok H locs ls hl hP hD hS)
theorem r_ixor {x y : Int32} (hd : decode mt.2.1 pc = .ok (.ixor, 1)) (kk : Gw l mt R X (pc + 1) L (.int (x ^^^ y) :: S) M k n Z) : Gw l mt R X pc L (.int y :: .int x :: S) M k n Z := fun ok H locs ls hl hP hD hS => lv_ixor ok.1 ok.2.1 hd (kk ok H locs ls hl hP hD hS)
theorem r_ishl {x y : Int32} (hd : decode mt.2.1 pc = .ok (.ishl, 1)) (kk : Gw l mt R X (pc + 1) L (.int (x <<< (y &&& 31)) :: S) M k n Z) : Gw l mt R X pc L (.int y :: .int x :: S) M k n Z := fun ok H locs ls hl hP hD hS => lv_ishl ok.1 ok.2.1 hd (kk ok H locs ls hl hP hD hS)
theorem r_ishr {x y : Int32} (hd : decode mt.2.1 pc = .ok (.ishr, 1)) (kk : Gw l mt R X (pc + 1) L (.int (x >>> (y &&& 31)) :: S) M k n Z) : Gw l mt R X pc L (.int y :: .int x :: S) M k n Z := fun ok H locs ls hl hP hD hS => lv_ishr ok.1 ok.2.1 hd (kk ok H locs ls hl hP hD hS)
theorem r_iushr {x y : Int32} (hd : decode mt.2.1 pc = .ok (.iushr, 1)) (kk : Gw l mt R X (pc + 1) L (.int (x.toUInt32 >>> (y.toUInt32 &&& Int32.toUInt32 31)).toInt32 :: S) M k n Z) : Gw l mt R X pc L (.int y :: .int x :: S) M k n Z := fun ok H locs ls hl hP hD hS => lv_iushr ok.1 ok.2.1 hd rfl (kk ok H locs ls hl hP hD hS)
theorem r_idiv {x y : Int32} (hd : decode mt.2.1 pc = .ok (.idiv, 1)) (hy : ¬ y = 0) (kk : Gw l mt R X (pc + 1) L (.int (x / y) :: S) M k n Z) : Gw l mt R X pc L (.int y :: .int x :: S) M k n Z := fun ok H locs ls hl hP hD hS => lv_idiv ok.1 ok.2.1 hd hy (kk ok H locs ls hl hP hD hS)
theorem r_irem {x y : Int32} (hd : decode mt.2.1 pc = .ok (.irem, 1)) (hy : ¬ y = 0) (kk : Gw l mt R X (pc + 1) L (.int (x - x / y * y) :: S) M k n Z) : Gw l mt R X pc L (.int y :: .int x :: S) M k n Z := fun ok H locs ls hl hP hD hS => lv_irem ok.1 ok.2.1 hd hy (kk ok H locs ls hl hP hD hS)
theorem r_ineg {x : Int32} (hd : decode mt.2.1 pc = .ok (.ineg, 1)) (kk : Gw l mt R X (pc + 1) L (.int (-x) :: S) M k n Z) : Gw l mt R X pc L (.int x :: S) M k n Z := fun ok H locs ls hl hP hD hS => lv_ineg ok.1 ok.2.1 hd (kk ok H locs ls hl hP hD hS)
theorem r_i2l {x : Int32} (hd : decode mt.2.1 pc = .ok (.i2l, 1)) (kk : Gw l mt R X (pc + 1) L (.long x.toInt64 :: S) M k n Z) : Gw l mt R X pc L (.int x :: S) M k n Z := fun ok H locs ls hl hP hD hS => lv_i2l ok.1 ok.2.1 hd rfl (kk ok H locs ls hl hP hD hS)
theorem r_i2b {x : Int32} (hd : decode mt.2.1 pc = .ok (.i2b, 1)) (kk : Gw l mt R X (pc + 1) L (.int x.toInt8.toInt32 :: S) M k n Z) : Gw l mt R X pc L (.int x :: S) M k n Z := fun ok H locs ls hl hP hD hS => lv_i2b ok.1 ok.2.1 hd rfl (kk ok H locs ls hl hP hD hS)
theorem r_i2c {x : Int32} (hd : decode mt.2.1 pc = .ok (.i2c, 1)) (kk : Gw l mt R X (pc + 1) L (.int (x.toUInt32 % 65536).toInt32 :: S) M k n Z) : Gw l mt R X pc L (.int x :: S) M k n Z := fun ok H locs ls hl hP hD hS => lv_i2c ok.1 ok.2.1 hd rfl (kk ok H locs ls hl hP hD hS)
theorem r_dup {v : Value} (hd : decode mt.2.1 pc = .ok (.dup, 1)) (hv : v.category = 1) (kk : Gw l mt R X (pc + 1) L (v :: v :: S) M k n Z) : Gw l mt R X pc L (v :: S) M k n Z := fun ok H locs ls hl hP hD hS => lv_dup ok.1 ok.2.1 hd ((g_v_cat _ v).trans hv) (kk ok H locs ls hl hP hD hS)
theorem r_pop {v : Value} (hd : decode mt.2.1 pc = .ok (.pop, 1)) (hv : v.category = 1) (kk : Gw l mt R X (pc + 1) L S M k n Z) : Gw l mt R X pc L (v :: S) M k n Z := fun ok H locs ls hl hP hD hS => lv_pop ok.1 ok.2.1 hd ((g_v_cat _ v).trans hv) (kk ok H locs ls hl hP hD hS)
theorem r_dup_x1 {v u : Value} (hd : decode mt.2.1 pc = .ok (.dup_x1, 1)) (hv : v.category = 1) (hu : u.category = 1) (kk : Gw l mt R X (pc + 1) L (v :: u :: v :: S) M k n Z) : Gw l mt R X pc L (v :: u :: S) M k n Z := fun ok H locs ls hl hP hD hS => lv_dup_x1 ok.1 ok.2.1 hd ((g_v_cat _ v).trans hv) ((g_v_cat _ u).trans hu) (kk ok H locs ls hl hP hD hS)
theorem r_dup2 {v u : Value} (hd : decode mt.2.1 pc = .ok (.dup2, 1)) (hv : v.category = 1) (hu : u.category = 1) (kk : Gw l mt R X (pc + 1) L (v :: u :: v :: u :: S) M k n Z) : Gw l mt R X pc L (v :: u :: S) M k n Z := fun ok H locs ls hl hP hD hS => lv_dup2_11 ok.1 ok.2.1 hd ((g_v_cat _ v).trans hv) ((g_v_cat _ u).trans hu) (kk ok H locs ls hl hP hD hS)
theorem r_if_eq {x : Int32} {off : Int} {tgt : Nat} (hd : decode mt.2.1 pc = .ok (.ifCond .eq off, 3)) (ht : (pc : Int) + off = (tgt : Int)) (kt : x = 0 → Gw l mt R X tgt L S M k n Z) (kf : ¬ (x = 0) → Gw l mt R X (pc + 3) L S M k n Z) : Gw l mt R X pc L (.int x :: S) M k n Z := fun ok H locs ls hl hP hD hS => lv_if_eq ok.1 ok.2.1 hd ht (fun c => kt c ok H locs ls hl hP hD hS) (fun c => kf c ok H locs ls hl hP hD hS)
theorem r_if_ne {x : Int32} {off : Int} {tgt : Nat} (hd : decode mt.2.1 pc = .ok (.ifCond .ne off, 3)) (ht : (pc : Int) + off = (tgt : Int)) (kt : ¬ x = 0 → Gw l mt R X tgt L S M k n Z) (kf : x = 0 → Gw l mt R X (pc + 3) L S M k n Z) : Gw l mt R X pc L (.int x :: S) M k n Z := fun ok H locs ls hl hP hD hS => lv_if_ne ok.1 ok.2.1 hd ht (fun c => kt c ok H locs ls hl hP hD hS) (fun c => kf c ok H locs ls hl hP hD hS)
theorem r_if_lt {x : Int32} {off : Int} {tgt : Nat} (hd : decode mt.2.1 pc = .ok (.ifCond .lt off, 3)) (ht : (pc : Int) + off = (tgt : Int)) (kt : x < 0 → Gw l mt R X tgt L S M k n Z) (kf : ¬ (x < 0) → Gw l mt R X (pc + 3) L S M k n Z) : Gw l mt R X pc L (.int x :: S) M k n Z := fun ok H locs ls hl hP hD hS => lv_if_lt ok.1 ok.2.1 hd ht (fun c => kt c ok H locs ls hl hP hD hS) (fun c => kf c ok H locs ls hl hP hD hS)
theorem r_if_ge {x : Int32} {off : Int} {tgt : Nat} (hd : decode mt.2.1 pc = .ok (.ifCond .ge off, 3)) (ht : (pc : Int) + off = (tgt : Int)) (kt : 0 ≤ x → Gw l mt R X tgt L S M k n Z) (kf : ¬ (0 ≤ x) → Gw l mt R X (pc + 3) L S M k n Z) : Gw l mt R X pc L (.int x :: S) M k n Z := fun ok H locs ls hl hP hD hS => lv_if_ge ok.1 ok.2.1 hd ht (fun c => kt c ok H locs ls hl hP hD hS) (fun c => kf c ok H locs ls hl hP hD hS)
theorem r_if_gt {x : Int32} {off : Int} {tgt : Nat} (hd : decode mt.2.1 pc = .ok (.ifCond .gt off, 3)) (ht : (pc : Int) + off = (tgt : Int)) (kt : 0 < x → Gw l mt R X tgt L S M k n Z) (kf : ¬ (0 < x) → Gw l mt R X (pc + 3) L S M k n Z) : Gw l mt R X pc L (.int x :: S) M k n Z := fun ok H locs ls hl hP hD hS => lv_if_gt ok.1 ok.2.1 hd ht (fun c => kt c ok H locs ls hl hP hD hS) (fun c => kf c ok H locs ls hl hP hD hS)
theorem r_if_le {x : Int32} {off : Int} {tgt : Nat} (hd : decode mt.2.1 pc = .ok (.ifCond .le off, 3)) (ht : (pc : Int) + off = (tgt : Int)) (kt : x ≤ 0 → Gw l mt R X tgt L S M k n Z) (kf : ¬ (x ≤ 0) → Gw l mt R X (pc + 3) L S M k n Z) : Gw l mt R X pc L (.int x :: S) M k n Z := fun ok H locs ls hl hP hD hS => lv_if_le ok.1 ok.2.1 hd ht (fun c => kt c ok H locs ls hl hP hD hS) (fun c => kf c ok H locs ls hl hP hD hS)
theorem r_icmp_eq {x y : Int32} {off : Int} {tgt : Nat} (hd : decode mt.2.1 pc = .ok (.if_icmp .eq off, 3)) (ht : (pc : Int) + off = (tgt : Int)) (kt : x = y → Gw l mt R X tgt L S M k n Z) (kf : ¬ (x = y) → Gw l mt R X (pc + 3) L S M k n Z) : Gw l mt R X pc L (.int y :: .int x :: S) M k n Z := fun ok H locs ls hl hP hD hS => lv_icmp_eq ok.1 ok.2.1 hd ht (fun c => kt c ok H locs ls hl hP hD hS) (fun c => kf c ok H locs ls hl hP hD hS)
theorem r_icmp_ne {x y : Int32} {off : Int} {tgt : Nat} (hd : decode mt.2.1 pc = .ok (.if_icmp .ne off, 3)) (ht : (pc : Int) + off = (tgt : Int)) (kt : ¬ x = y → Gw l mt R X tgt L S M k n Z) (kf : x = y → Gw l mt R X (pc + 3) L S M k n Z) : Gw l mt R X pc L (.int y :: .int x :: S) M k n Z := fun ok H locs ls hl hP hD hS => lv_icmp_ne ok.1 ok.2.1 hd ht (fun c => kt c ok H locs ls hl hP hD hS) (fun c => kf c ok H locs ls hl hP hD hS)
theorem r_icmp_lt {x y : Int32} {off : Int} {tgt : Nat} (hd : decode mt.2.1 pc = .ok (.if_icmp .lt off, 3)) (ht : (pc : Int) + off = (tgt : Int)) (kt : x < y → Gw l mt R X tgt L S M k n Z) (kf : ¬ (x < y) → Gw l mt R X (pc + 3) L S M k n Z) : Gw l mt R X pc L (.int y :: .int x :: S) M k n Z := fun ok H locs ls hl hP hD hS => lv_icmp_lt ok.1 ok.2.1 hd ht (fun c => kt c ok H locs ls hl hP hD hS) (fun c => kf c ok H locs ls hl hP hD hS)
theorem r_icmp_ge {x y : Int32} {off : Int} {tgt : Nat} (hd : decode mt.2.1 pc = .ok (.if_icmp .ge off, 3)) (ht : (pc : Int) + off = (tgt : Int)) (kt : y ≤ x → Gw l mt R X tgt L S M k n Z) (kf : ¬ (y ≤ x) → Gw l mt R X (pc + 3) L S M k n Z) : Gw l mt R X pc L (.int y :: .int x :: S) M k n Z := fun ok H locs ls hl hP hD hS => lv_icmp_ge ok.1 ok.2.1 hd ht (fun c => kt c ok H locs ls hl hP hD hS) (fun c => kf c ok H locs ls hl hP hD hS)
theorem r_icmp_gt {x y : Int32} {off : Int} {tgt : Nat} (hd : decode mt.2.1 pc = .ok (.if_icmp .gt off, 3)) (ht : (pc : Int) + off = (tgt : Int)) (kt : y < x → Gw l mt R X tgt L S M k n Z) (kf : ¬ (y < x) → Gw l mt R X (pc + 3) L S M k n Z) : Gw l mt R X pc L (.int y :: .int x :: S) M k n Z := fun ok H locs ls hl hP hD hS => lv_icmp_gt ok.1 ok.2.1 hd ht (fun c => kt c ok H locs ls hl hP hD hS) (fun c => kf c ok H locs ls hl hP hD hS)
theorem r_icmp_le {x y : Int32} {off : Int} {tgt : Nat} (hd : decode mt.2.1 pc = .ok (.if_icmp .le off, 3)) (ht : (pc : Int) + off = (tgt : Int)) (kt : x ≤ y → Gw l mt R X tgt L S M k n Z) (kf : ¬ (x ≤ y) → Gw l mt R X (pc + 3) L S M k n Z) : Gw l mt R X pc L (.int y :: .int x :: S) M k n Z := fun ok H locs ls hl hP hD hS => lv_icmp_le ok.1 ok.2.1 hd ht (fun c => kt c ok H locs ls hl hP hD hS) (fun c => kf c ok H locs ls hl hP hD hS)
theorem r_goto {off : Int} {tgt : Nat} (hd : decode mt.2.1 pc = .ok (.goto off, 3)) (ht : (pc : Int) + off = (tgt : Int)) (kk : Gw l mt R X tgt L S M k n Z) : Gw l mt R X pc L S M k n Z := fun ok H locs ls hl hP hD hS => lv_goto ok.1 ok.2.1 hd ht (kk ok H locs ls hl hP hD hS)
theorem r_tableOut {dflt lo hi : Int} {offs : Array Int} {len : Nat} {x : Int32} {tgt : Nat} (hd : decode mt.2.1 pc = .ok (.tableswitch dflt lo hi offs, len)) (h : x.toInt < lo ∨ hi < x.toInt) (ht : (pc : Int) + dflt = (tgt : Int)) (kk : Gw l mt R X tgt L S M k n Z) : Gw l mt R X pc L (.int x :: S) M k n Z := fun ok H locs ls hl hP hD hS => lv_tableOut ok.1 ok.2.1 hd h ht (kk ok H locs ls hl hP hD hS)
theorem r_tableIn {dflt lo hi : Int} {offs : Array Int} {len : Nat} {x : Int32} {off : Int} {tgt : Nat} (hd : decode mt.2.1 pc = .ok (.tableswitch dflt lo hi offs, len)) (h1 : ¬ x.toInt < lo) (h2 : ¬ hi < x.toInt) (ho : offs[(x.toInt - lo).toNat]? = some off) (ht : (pc : Int) + off = (tgt : Int)) (kk : Gw l mt R X tgt L S M k n Z) : Gw l mt R X pc L (.int x :: S) M k n Z := fun ok H locs ls hl hP hD hS => lv_tableIn ok.1 ok.2.1 hd h1 h2 ho ht (kk ok H locs ls hl hP hD hS)
theorem r_lookup {dflt : Int} {ps : Array (Int × Int)} {len : Nat} {x : Int32} {off : Int} {tgt : Nat} (hd : decode mt.2.1 pc = .ok (.lookupswitch dflt ps, len)) (hp : (ps.toList.zip (ps.toList.drop 1)).all (fun (a, next) => a.1 < next.1) = true) (ho : Op.lookupswitch.offset ps.toList dflt x.toInt = off) (ht : (pc : Int) + off = (tgt : Int)) (kk : Gw l mt R X tgt L S M k n Z) : Gw l mt R X pc L (.int x :: S) M k n Z := fun ok H locs ls hl hP hD hS => lv_lookup ok.1 ok.2.1 hd hp ho ht (kk ok H locs ls hl hP hD hS)
end RULES
