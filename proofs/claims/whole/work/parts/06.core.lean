/-! THE LOGIC: one world for all methods. Objects and arrays have numbers (abstract addresses); gMem says what each holds. -/
/-- how many cells, their kinds and lengths, references, ints, longs -/
abbrev gMem : Type := Nat × (Nat → Nat × Nat) × (Nat → Nat → Option Nat) × (Nat → Nat → Int32) × (Nat → Nat → Int64)
/-- class numbers and slots, array classes, real addresses, the first new address, strings, the script -/
abbrev gEnv : Type := va_G × (Nat → ClassId) × (Nat → Nat) × (Nat → Prop) × List Nat × Nat × (Nat → Int32)
abbrev gMt : Type := MethodName × ByteArray × Nat × Option FieldType
abbrev gX : Type := Program × Env × State × MethodId × Array Value × List Frame × Method × Code × gEnv
abbrev g_cl : List vw_C := [(RJ0, TJ0, 4), (RX1, TX1, 4), (RX2, TX2, 4), (RX3, TX3, 3), (RX4, TX4, 5), (RX5, TX5, 3), (RX6, TX6, 2), (RX7, TX7, 10), (RX8, TX8, 1), (RX9, TX9, 2), (RX10, TX10, 5), (RX11, TX11, 14), (RX12, TX12, 31)]
def g_frT : List (List Bool) := [[true, false, false, false], [true, true, false, false], [true, true, true, true], [true, false, false], [true, true, false, true, false], [true, false, false], [true, false], [true, false, true, true, true, true, true, true, false, false], [true], [true, false], [true, true, false, false, false], [true, true, true, true, true, true, true, true, true, false, true, true, true, false], [true, true, false, true, false, false, false, false, false, false, false, false, false, true, false, false, true, false, false, true, true, false, true, true, true, true, false, true, false, true, true]]
/-- is field j of class k a reference -/
def g_fr (k j : Nat) : Bool := (g_frT.getD k []).getD j false
def g_up {α : Type} (f : Nat → Nat → α) (a i : Nat) (v : α) : Nat → Nat → α := fun x => if x = a then (fun j => if j = i then v else f a j) else f x
theorem g_up_s {α : Type} (f : Nat → Nat → α) (a i : Nat) (v : α) : g_up f a i v a i = v := by simp [g_up]
theorem g_up_a {α : Type} (f : Nat → Nat → α) {a x : Nat} (i : Nat) (v : α) (h : x ≠ a) : g_up f a i v x = f x := by simp [g_up, h]
theorem g_up_i {α : Type} (f : Nat → Nat → α) (a : Nat) {i j : Nat} (v : α) (h : j ≠ i) : g_up f a i v a j = f a j := by simp [g_up, h]
theorem g_up_e {α : Type} (f : Nat → Nat → α) (a i : Nat) (v : α) (x j : Nat) : g_up f a i v x j = if x = a ∧ j = i then v else f x j := by
  by_cases h : x = a
  · subst h
    by_cases h2 : j = i <;> simp [g_up, h2]
  · simp [g_up, h]
def g_v (ad : Nat → Nat) : Value → Value
  | .ref a => .ref (ad a)
  | v => v
def g_fv (ad : Nat → Nat) (M : gMem) (a k j : Nat) : Value := if g_fr k j = true then va_rf ((M.2.2.1 a j).map ad) else .int (M.2.2.2.1 a j)
def g_cell (cA : Nat → ClassId) (ad : Nat → Nat) (M : gMem) (a : Nat) : va_E :=
  if (M.2.1 a).1 < 100 then .inr ((M.2.1 a).1, (List.range (M.2.1 a).2).map (g_fv ad M a (M.2.1 a).1))
  else if (M.2.1 a).1 = 103 then .inl (cA 103, (M.2.1 a).2, .inr (.inl (M.2.2.2.2 a)))
  else if (M.2.1 a).1 = 104 then .inl (cA 104, (M.2.1 a).2, .inr (.inr (.inr (.inr (fun j => (M.2.2.1 a j).map ad)))))
  else .inl (cA (M.2.1 a).1, (M.2.1 a).2, .inl (M.2.2.2.1 a))
def g_ws (cA : Nat → ClassId) (ad : Nat → Nat) (M : gMem) : va_W := (List.range M.1).map (fun a => (ad a, g_cell cA ad M a))
abbrev g_tys (cA : Nat → ClassId) : List (ClassId × FieldType) := [(cA 100, .int), (cA 101, .byte), (cA 102, .boolean), (cA 103, .long), (cA 104, .array .int)]
theorem g_ws_at {cA : Nat → ClassId} {ad : Nat → Nat} {M : gMem} {a : Nat} (h : a < M.1) : (g_ws cA ad M)[a]? = some (ad a, g_cell cA ad M a) := by
  simp [g_ws, h]
theorem g_ws_set {cA : Nat → ClassId} {ad : Nat → Nat} {M M' : gMem} {a : Nat} {x : va_E} (hn : M'.1 = M.1) (hx : g_cell cA ad M' a = x) (ho : ∀ q, q ≠ a → g_cell cA ad M' q = g_cell cA ad M q) : (g_ws cA ad M).set a (ad a, x) = g_ws cA ad M' := by
  apply List.ext_getElem?
  intro i
  rw [List.getElem?_set]
  by_cases h : a = i
  · subst h
    by_cases h2 : a < M.1
    · simp [g_ws, hn, h2, hx]
    · simp [g_ws, hn, h2]
  · simp [g_ws, hn, h]
    by_cases hi : i < M.1
    · rw [List.getElem?_range hi]
      simp [ho i (fun q => h q.symm)]
    · simp [List.getElem?_eq_none, hi]
/-- the ints changed at one place -/
def g_si (M : gMem) (a i : Nat) (v : Int32) : gMem := (M.1, M.2.1, M.2.2.1, g_up M.2.2.2.1 a i v, M.2.2.2.2)
def g_sl (M : gMem) (a i : Nat) (v : Int64) : gMem := (M.1, M.2.1, M.2.2.1, M.2.2.2.1, g_up M.2.2.2.2 a i v)
def g_sr (M : gMem) (a i : Nat) (v : Option Nat) : gMem := (M.1, M.2.1, g_up M.2.2.1 a i v, M.2.2.2.1, M.2.2.2.2)
theorem g_cell_si {cA : Nat → ClassId} {ad : Nat → Nat} {M : gMem} {a i : Nat} {v : Int32} {q : Nat} (h : q ≠ a) : g_cell cA ad (g_si M a i v) q = g_cell cA ad M q := by
  have e : g_up M.2.2.2.1 a i v q = M.2.2.2.1 q := g_up_a _ _ _ h
  have e2 : g_fv ad (g_si M a i v) q = g_fv ad M q := by funext k j; simp [g_fv, g_si, e]
  simp [g_cell, e2]
  simp [g_si, e]
theorem g_cell_sl {cA : Nat → ClassId} {ad : Nat → Nat} {M : gMem} {a i : Nat} {v : Int64} {q : Nat} (h : q ≠ a) : g_cell cA ad (g_sl M a i v) q = g_cell cA ad M q := by
  have e : g_up M.2.2.2.2 a i v q = M.2.2.2.2 q := g_up_a _ _ _ h
  have e2 : g_fv ad (g_sl M a i v) q = g_fv ad M q := by funext k j; simp [g_fv, g_sl]
  unfold g_cell
  rw [e2]
  show (if (M.2.1 q).1 < 100 then _ else if (M.2.1 q).1 = 103 then (Sum.inl (cA 103, (M.2.1 q).2, Sum.inr (Sum.inl (g_up M.2.2.2.2 a i v q))) : va_E) else _) = _
  rw [e]
  rfl
theorem g_cell_sr {cA : Nat → ClassId} {ad : Nat → Nat} {M : gMem} {a i : Nat} {v : Option Nat} {q : Nat} (h : q ≠ a) : g_cell cA ad (g_sr M a i v) q = g_cell cA ad M q := by
  have e : g_up M.2.2.1 a i v q = M.2.2.1 q := g_up_a _ _ _ h
  have e2 : g_fv ad (g_sr M a i v) q = g_fv ad M q := by funext k j; simp [g_fv, g_sr, e]
  simp [g_cell, e2]
  simp [g_sr, e]
/-- the cell of an array of ints, bytes, booleans -/
theorem g_cell_i {cA : Nat → ClassId} {ad : Nat → Nat} {M : gMem} {a k n : Nat} (h : M.2.1 a = (k, n)) (hk : k = 100 ∨ k = 101 ∨ k = 102) : g_cell cA ad M a = .inl (cA k, n, .inl (M.2.2.2.1 a)) := by
  rcases hk with rfl | rfl | rfl <;> simp [g_cell, h]
theorem g_cell_l {cA : Nat → ClassId} {ad : Nat → Nat} {M : gMem} {a n : Nat} (h : M.2.1 a = (103, n)) : g_cell cA ad M a = .inl (cA 103, n, .inr (.inl (M.2.2.2.2 a))) := by
  simp [g_cell, h]
theorem g_cell_q {cA : Nat → ClassId} {ad : Nat → Nat} {M : gMem} {a n : Nat} (h : M.2.1 a = (104, n)) : g_cell cA ad M a = .inl (cA 104, n, .inr (.inr (.inr (.inr (fun j => (M.2.2.1 a j).map ad))))) := by
  simp [g_cell, h]
theorem g_cell_o {cA : Nat → ClassId} {ad : Nat → Nat} {M : gMem} {a k n : Nat} (h : M.2.1 a = (k, n)) (hk : k < 100) : g_cell cA ad M a = .inr (k, (List.range n).map (g_fv ad M a k)) := by
  simp [g_cell, h, hk]
theorem g_updI (f : Nat → Nat → Int32) (a i : Nat) (v : Int32) : g_up f a i v a = upd (f a) i v := by
  funext j; simp [g_up, upd]
theorem g_updL (f : Nat → Nat → Int64) (a i : Nat) (v : Int64) : g_up f a i v a = vp_updL (f a) i v := by
  funext j; simp [g_up, vp_updL]
theorem g_fset {ad : Nat → Nat} {M M' : gMem} {a k n j : Nat} {v : Value} (hj : j < n) (hv : g_fv ad M' a k j = v) (ho : ∀ i, i ≠ j → g_fv ad M' a k i = g_fv ad M a k i) : ((List.range n).map (g_fv ad M a k)).set j v = (List.range n).map (g_fv ad M' a k) := by
  apply List.ext_getElem?
  intro i
  rw [List.getElem?_set]
  by_cases h : j = i
  · subst h
    simp [hj, hv]
  · simp [h]
    by_cases hi : i < n
    · rw [List.getElem?_range hi]
      simp [ho i (fun q => h q.symm)]
    · simp [List.getElem?_eq_none, hi]
/-! constants of the tables, the words -/
def g_TB : List Cond := lw_tbl.filter goodWord
theorem g_in {w : Cond} (i : Nat) (h : lw_tbl[i]? = some w) (hg : goodWord w = true) : w ∈ g_TB := List.mem_filter.mpr ⟨List.mem_of_getElem? h, hg⟩
theorem g_gd {w : Cond} (h : w ∈ g_TB) : w ∈ g_TB ∧ ((w.onTables && w.keeps) = true ∨ ∃ ty, w = .arrayClass ty) := ⟨h, good_of_word (List.mem_filter.mp h).2⟩
/-- words of one list, all of them among the tables' -/
theorem g_ins (ws : List Cond) (ps : List Nat) (hp : ws = ps.filterMap (fun i => lw_tbl[i]?)) (h : ws.all goodWord = true) : ∀ w ∈ ws, w ∈ g_TB := by
  intro w hw
  have h1 := List.all_eq_true.mp h w hw
  rw [hp] at hw
  obtain ⟨i, -, hi⟩ := List.mem_filterMap.mp hw
  exact g_in i hi h1
/-! STRINGS: (class, pool entry, text, number) of each constant; the bytes by number -/
def g_SR : List (String × Nat × String × Nat) := [("ProseDates$Words", 64, "day week month year mon tue wed thu fri sat sun jan feb mar apr may jun jul aug sep oct nov dec early mid late first last today tomorrow yesterday in this next of after before ago to or ", 0), ("ProseDates", 191, "no such reading, or another what", 1), ("ProseDates", 335, "the row has no such number", 2), ("ProseDatesModel", 168, "day", 3), ("ProseDatesModel", 170, "week", 4), ("ProseDatesModel", 172, "month", 5), ("ProseDatesModel", 174, "year", 6), ("ProseDatesModel", 272, "ago", 7), ("ProseDatesModel", 277, "after", 8), ("ProseDatesModel", 279, "before", 9), ("ProseDatesModel", 212, "early", 10), ("ProseDatesModel", 214, "mid", 11), ("ProseDatesModel", 216, "late", 12), ("ProseDatesModel", 221, "first", 13), ("ProseDatesModel", 182, "montuewedthufrisatsun", 14), ("ProseDatesModel", 293, "of", 15), ("ProseDatesModel", 230, "today", 16), ("ProseDatesModel", 235, "tomorrow", 17), ("ProseDatesModel", 237, "yesterday", 18), ("ProseDatesModel", 239, "in", 19), ("ProseDatesModel", 243, "this", 20), ("ProseDatesModel", 248, "next", 21), ("ProseDatesModel", 253, "last", 22), ("ProseDatesModel", 261, "janfebmaraprmayjunjulaugsepoctnovdec", 23), ("ProseDatesModel", 311, "to", 24), ("ProseDatesModel", 316, "or", 25)]
def g_tx : List (List Int32) := [[100, 97, 121, 32, 119, 101, 101, 107, 32, 109, 111, 110, 116, 104, 32, 121, 101, 97, 114, 32, 109, 111, 110, 32, 116, 117, 101, 32, 119, 101, 100, 32, 116, 104, 117, 32, 102, 114, 105, 32, 115, 97, 116, 32, 115, 117, 110, 32, 106, 97, 110, 32, 102, 101, 98, 32, 109, 97, 114, 32, 97, 112, 114, 32, 109, 97, 121, 32, 106, 117, 110, 32, 106, 117, 108, 32, 97, 117, 103, 32, 115, 101, 112, 32, 111, 99, 116, 32, 110, 111, 118, 32, 100, 101, 99, 32, 101, 97, 114, 108, 121, 32, 109, 105, 100, 32, 108, 97, 116, 101, 32, 102, 105, 114, 115, 116, 32, 108, 97, 115, 116, 32, 116, 111, 100, 97, 121, 32, 116, 111, 109, 111, 114, 114, 111, 119, 32, 121, 101, 115, 116, 101, 114, 100, 97, 121, 32, 105, 110, 32, 116, 104, 105, 115, 32, 110, 101, 120, 116, 32, 111, 102, 32, 97, 102, 116, 101, 114, 32, 98, 101, 102, 111, 114, 101, 32, 97, 103, 111, 32, 116, 111, 32, 111, 114, 32], [110, 111, 32, 115, 117, 99, 104, 32, 114, 101, 97, 100, 105, 110, 103, 44, 32, 111, 114, 32, 97, 110, 111, 116, 104, 101, 114, 32, 119, 104, 97, 116], [116, 104, 101, 32, 114, 111, 119, 32, 104, 97, 115, 32, 110, 111, 32, 115, 117, 99, 104, 32, 110, 117, 109, 98, 101, 114], [100, 97, 121], [119, 101, 101, 107], [109, 111, 110, 116, 104], [121, 101, 97, 114], [97, 103, 111], [97, 102, 116, 101, 114], [98, 101, 102, 111, 114, 101], [101, 97, 114, 108, 121], [109, 105, 100], [108, 97, 116, 101], [102, 105, 114, 115, 116], [109, 111, 110, 116, 117, 101, 119, 101, 100, 116, 104, 117, 102, 114, 105, 115, 97, 116, 115, 117, 110], [111, 102], [116, 111, 100, 97, 121], [116, 111, 109, 111, 114, 114, 111, 119], [121, 101, 115, 116, 101, 114, 100, 97, 121], [105, 110], [116, 104, 105, 115], [110, 101, 120, 116], [108, 97, 115, 116], [106, 97, 110, 102, 101, 98, 109, 97, 114, 97, 112, 114, 109, 97, 121, 106, 117, 110, 106, 117, 108, 97, 117, 103, 115, 101, 112, 111, 99, 116, 110, 111, 118, 100, 101, 99], [116, 111], [111, 114]]
/-- constants at 1000 + i; three signs of one of them, from 3 k on, at 3000 + 20 i + k -/
def g_sb (a : Nat) : List Int32 := if a < 3000 then g_tx.getD (a - 1000) [] else ((g_tx.getD ((a - 3000) / 20) []).drop (3 * ((a - 3000) % 20))).take 3
def g_cs : List Nat := (List.range 26).map (fun i => 1000 + i)
def g_days : List Int32 := [0, 31, 59, 90, 120, 151, 181, 212, 243, 273, 304, 334]
theorem g_memp {w : Cond} (i : Nat) (h : (k2_sels lw_privs)[i]? = some w) : w ∈ lw_tbl := by
  unfold lw_tbl
  exact List.mem_append_left _ (List.mem_of_getElem? h)
theorem g_inp {w : Cond} (i : Nat) (h : (k2_sels lw_privs)[i]? = some w) (hg : goodWord w = true) : w ∈ g_TB := List.mem_filter.mpr ⟨g_memp i h, hg⟩
theorem g_mem1 {w : Cond} (i : Nat) (h : tables_1_1[i]? = some w) : w ∈ lw_tbl := by
  unfold lw_tbl tables_1
  exact List.mem_append_right _ (List.mem_append_left _ (List.mem_of_getElem? h))
theorem g_in1 {w : Cond} (i : Nat) (h : tables_1_1[i]? = some w) (hg : goodWord w = true) : w ∈ g_TB := List.mem_filter.mpr ⟨g_mem1 i h, hg⟩
theorem g_mem2 {w : Cond} (i : Nat) (h : tables_1_2[i]? = some w) : w ∈ lw_tbl := by
  unfold lw_tbl tables_1
  exact List.mem_append_right _ (List.mem_append_right _ (List.mem_append_left _ (List.mem_of_getElem? h)))
theorem g_in2 {w : Cond} (i : Nat) (h : tables_1_2[i]? = some w) (hg : goodWord w = true) : w ∈ g_TB := List.mem_filter.mpr ⟨g_mem2 i h, hg⟩
theorem g_mem3 {w : Cond} (i : Nat) (h : tables_1_3[i]? = some w) : w ∈ lw_tbl := by
  unfold lw_tbl tables_1
  exact List.mem_append_right _ (List.mem_append_right _ (List.mem_append_right _ (List.mem_append_left _ (List.mem_of_getElem? h))))
theorem g_in3 {w : Cond} (i : Nat) (h : tables_1_3[i]? = some w) (hg : goodWord w = true) : w ∈ g_TB := List.mem_filter.mpr ⟨g_mem3 i h, hg⟩
theorem g_mem4 {w : Cond} (i : Nat) (h : tables_1_4[i]? = some w) : w ∈ lw_tbl := by
  unfold lw_tbl tables_1
  exact List.mem_append_right _ (List.mem_append_right _ (List.mem_append_right _ (List.mem_append_right _ (List.mem_append_left _ (List.mem_of_getElem? h)))))
theorem g_in4 {w : Cond} (i : Nat) (h : tables_1_4[i]? = some w) (hg : goodWord w = true) : w ∈ g_TB := List.mem_filter.mpr ⟨g_mem4 i h, hg⟩
theorem g_mem5 {w : Cond} (i : Nat) (h : tables_1_5[i]? = some w) : w ∈ lw_tbl := by
  unfold lw_tbl tables_1
  exact List.mem_append_right _ (List.mem_append_right _ (List.mem_append_right _ (List.mem_append_right _ (List.mem_append_right _ (List.mem_append_left _ (List.mem_of_getElem? h))))))
theorem g_in5 {w : Cond} (i : Nat) (h : tables_1_5[i]? = some w) (hg : goodWord w = true) : w ∈ g_TB := List.mem_filter.mpr ⟨g_mem5 i h, hg⟩
theorem g_mem6 {w : Cond} (i : Nat) (h : tables_1_6[i]? = some w) : w ∈ lw_tbl := by
  unfold lw_tbl tables_1
  exact List.mem_append_right _ (List.mem_append_right _ (List.mem_append_right _ (List.mem_append_right _ (List.mem_append_right _ (List.mem_append_right _ (List.mem_append_left _ (List.mem_of_getElem? h)))))))
theorem g_in6 {w : Cond} (i : Nat) (h : tables_1_6[i]? = some w) (hg : goodWord w = true) : w ∈ g_TB := List.mem_filter.mpr ⟨g_mem6 i h, hg⟩
theorem g_mem7 {w : Cond} (i : Nat) (h : tables_1_7[i]? = some w) : w ∈ lw_tbl := by
  unfold lw_tbl tables_1
  exact List.mem_append_right _ (List.mem_append_right _ (List.mem_append_right _ (List.mem_append_right _ (List.mem_append_right _ (List.mem_append_right _ (List.mem_append_right _ (List.mem_append_left _ (List.mem_of_getElem? h))))))))
theorem g_in7 {w : Cond} (i : Nat) (h : tables_1_7[i]? = some w) (hg : goodWord w = true) : w ∈ g_TB := List.mem_filter.mpr ⟨g_mem7 i h, hg⟩
theorem g_mem8 {w : Cond} (i : Nat) (h : tables_1_8[i]? = some w) : w ∈ lw_tbl := by
  unfold lw_tbl tables_1
  exact List.mem_append_right _ (List.mem_append_right _ (List.mem_append_right _ (List.mem_append_right _ (List.mem_append_right _ (List.mem_append_right _ (List.mem_append_right _ (List.mem_append_right _ (List.mem_of_getElem? h))))))))
theorem g_in8 {w : Cond} (i : Nat) (h : tables_1_8[i]? = some w) (hg : goodWord w = true) : w ∈ g_TB := List.mem_filter.mpr ⟨g_mem8 i h, hg⟩
