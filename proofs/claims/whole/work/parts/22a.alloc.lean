/-! making cells: the numbers of new cells go on where M ends; the real addresses come with them -/
def va_AOA (ty : FieldType) (U : State) : Prop := (Cond.arrayOver (.array ty)).before #[] U = true
theorem va_AOA.use {ty : FieldType} {A : Array Value} {U : State} (h : va_AOA ty U) : (Cond.arrayOver (.array ty)).before A U = true := h
theorem va_AOA.of {ty : FieldType} {A : Array Value} {U : State} (h : (Cond.arrayOver (.array ty)).before A U = true) : va_AOA ty U := h
theorem va_AOA.moved {ty : FieldType} {u U : State} (hvm : u.vm.Alike U.vm) (h : va_AOA ty u) : va_AOA ty U := by
  have e := Cond.arrayOver_setVmC (args := #[]) (s := u) hvm (.array ty)
  have h2 : (Cond.arrayOver (.array ty)).before #[] (u.setVm U.vm) = true := by rw [e]; exact h
  exact h2
/-! ===== BEGIN new T[n][m]: the outer array a place, the inner ones among the pooled ===== -/
/-- f, but v at every address of l -/
def vr_up {α : Type} (f : Nat → α) (l : List Nat) (v : α) : Nat → α := fun a => if a ∈ l then v else f a
theorem vr_up_in {α : Type} {f : Nat → α} {l : List Nat} {v : α} {a : Nat} (h : a ∈ l) : vr_up f l v a = v := if_pos h
theorem vr_up_ne {α : Type} {f : Nat → α} {l : List Nat} {v : α} {a : Nat} (h : a ∉ l) : vr_up f l v a = f a := if_neg h
theorem vr_rows {L l : List Nat} {f : Nat → va_E} {e : va_E} (h : ∀ a, a ∈ l → a ∉ L) : va_pl L f ++ l.map (fun a => (a, e)) = va_pl (L ++ l) (vr_up f l e) := by
  unfold va_pl
  rw [List.map_append]
  congr 1
  · apply List.map_congr_left
    intro a ha
    rw [vr_up_ne (fun q => h a q ha)]
  · apply List.map_congr_left
    intro a ha
    rw [vr_up_in ha]
theorem vr_lay {X rows : va_W} {x : Nat × va_E} {pl : va_W} {D : va_G} {cl : List vw_C} {H : Heap} (hP : va_P D cl (((X ++ pl) ++ [x]) ++ rows) H) : va_P D cl ((X ++ [x]) ++ (pl ++ rows)) H := by
  rw [List.append_assoc (X ++ pl)] at hP
  have h := va_P.swap hP
  rw [← List.append_assoc X] at h
  have h2 := va_P.swap h
  rw [List.append_assoc (X ++ [x])] at h2
  exact h2
theorem vr_layD {X rows : va_W} {x : Nat × va_E} {pl : va_W} {A : Nat → Prop} (hD : va_D A (((X ++ pl) ++ [x]) ++ rows)) : va_D A ((X ++ [x]) ++ (pl ++ rows)) := by
  rw [List.append_assoc (X ++ pl)] at hD
  have h := va_D.swap hD
  rw [← List.append_assoc X] at h
  have h2 := va_D.swap h
  rw [List.append_assoc (X ++ [x])] at h2
  exact h2
theorem vr_outer (c : ClassId) (N h0 : Nat) : ∀ i : Nat, Jvm.Free.Multi.outerC c N h0 i = arrV c N (fun j => va_rf (if j < i then some (h0 + 1 + j) else none))
  | 0 => by
    show ({ cls := c, slots := Array.replicate N .null, vm := .none } : Cell) = _
    rw [arrV_new]
    refine congrArg (arrV c N) (funext fun j => ?_)
    simp [va_rf]
  | i + 1 => by
    show (Jvm.Free.Multi.outerC c N h0 i).setSlot i (.ref (h0 + 1 + i)) = _
    rw [vr_outer c N h0 i, arrV_store]
    refine congrArg (arrV c N) (funext fun j => ?_)
    by_cases e : j = i
    · subst e
      simp [updV, va_rf]
    · by_cases h : j < i
      · simp [updV, e, h, Nat.lt_succ_of_lt h]
      · simp [updV, e, h, show ¬ j < i + 1 by omega]
section VGM
variable {p : Program} {l : Launch} {e : Env} {R : Room} {s : State} {m : MethodId} {args : Array Value} {below : List Frame} {meth : Method} {c : Code} {H : Heap} {locs : List Loc} {cells slots : Nat} {Q : State → Prop}
variable {cc : ByteArray} {pc : Nat} {ls : Array Slot} {rest : List Value} {D : va_G} {cl : List vw_C} {A : Nat → Prop} {a : Nat} {tys : List (ClassId × FieldType)} {ws : va_W} {H0 : Heap}
theorem va_mna {X : va_W} {L : List Nat} {f : Nat → va_E} {cc : ByteArray} (hexec : p.tables.exec = Jvm.exec) (hb : c.code = cc) {own : String} {index : Nat} {ty : FieldType} {cy : ClassId} (hown : s.vm.findClass own = some m.cls) (hclink : (Cond.classLink own index ("[" ++ (FieldType.array ty).toString)).before args s = true) (hover : va_AOA ty s) (harr : (Cond.arrayClass ty).before args s = true) (hcy : s.vm.findClass (FieldType.array ty).toString = some cy)
    (hK : va_K D cl tys s) (hP : va_P D cl (X ++ va_pl L f) H) (hD : va_D A (X ++ va_pl L f)) (hS : va_S A H0 H locs) (hA : ∀ q, H0.size ≤ q → A q) {n k : Int32} {N' K' : Nat} {z : vp_A} (hn : ¬ n < 0) (hk : ¬ k < 0) (hN : n.toNatClampNeg = N') (hM : k.toNatClampNeg = K')
    (hb1 : N' * 4 ≤ 536870912) (hb2 : K' * componentBytes ty ≤ 536870912) (hb3 : K' ≤ 536870912) (hdf : fits ty (defaultValue ty) = true) (hdd : (defaultValue ty).isDefault = true) (hcells : cells + (1 + N') ≤ R.cells) (hslots : slots + (N' + N' * K') ≤ R.slots) (hz : ∀ c : ClassId, Jvm.Free.Multi.innerC c K' (defaultValue ty) = vp_cell c z) (hdg : decode cc pc = .ok (.multianewarray index 2, 4))
    (kk : ∀ (q : Nat) (r : Nat → Nat) (cA : ClassId) (H1 : Heap), (∀ i j : Nat, i < N' → j < N' → r i = r j → i = j) → (∀ i : Nat, i < N' → r i ∉ L) → va_K D cl (tys ++ [(cA, .array ty)]) s →
      va_P D cl ((X ++ [(q, .inl (cA, N', .inr (.inr (.inr (.inr (fun i => if i < N' then some (r i) else none))))))]) ++ va_pl (L ++ (List.range N').map r) (vr_up f ((List.range N').map r) (.inl (cy, z)))) H1 → va_D A ((X ++ [(q, .inl (cA, N', .inr (.inr (.inr (.inr (fun i => if i < N' then some (r i) else none))))))]) ++ va_pl (L ++ (List.range N').map r) (vr_up f ((List.range N').map r) (.inl (cy, z)))) → va_S A H0 H1 locs →
      W p l e R s m args below meth c H1 locs (cells + 1 + N') (slots + N' + N' * K') Q (F0 m (pc + 4) ls (.ref q :: rest))) : W p l e R s m args below meth c H locs cells slots Q (F0 m pc ls (.int k :: .int n :: rest)) := by
  subst hN
  subst hM
  intro T hT Xs
  obtain ⟨vm₁, cA, comp, -, fA, fC, hO, -, X', step⟩ := Xs.multianewarray2F hexec hown hclink (va_AOA.use hover) harr (g := F0 m pc ls (.int k :: .int n :: rest)) rfl (by rw [hb]; exact hdg) rfl hn hk hb1 hb2 hb3 hdf hdd hcells hslots
  have ec : some cy = some comp := hcy.symm.trans fC
  cases ec
  generalize hF : Jvm.Free.Multi.fill (T.setVm vm₁) cA cy n.toNatClampNeg k.toNatClampNeg (defaultValue ty) n.toNatClampNeg = F at X' step
  have hTh : (T.setVm vm₁).heap = H := hT
  obtain ⟨f1, f2, -, -⟩ := Jvm.Free.Multi.fill_facts (T.setVm vm₁) cA cy n.toNatClampNeg k.toNatClampNeg (defaultValue ty) n.toNatClampNeg
  rw [hF, hTh] at f1 f2
  have hold : ∀ x : Nat, x < H.size → F.heap[x]? = H[x]? := fun x hx => by
    have := Jvm.Free.Multi.fill_old (T.setVm vm₁) cA cy n.toNatClampNeg k.toNatClampNeg (defaultValue ty) (a := x) (by rw [hTh]; exact hx) n.toNatClampNeg
    rw [hF, hTh] at this
    exact this
  have hrow : ∀ j : Nat, j < n.toNatClampNeg → F.heap[H.size + 1 + j]? = some (vp_cell cy z) := fun j hj => by
    have := Jvm.Free.Multi.fill_inner (T.setVm vm₁) cA cy n.toNatClampNeg k.toNatClampNeg (defaultValue ty) n.toNatClampNeg j hj
    rw [hF, hTh, hz] at this
    exact this
  have hout : Jvm.Free.Multi.outerC cA n.toNatClampNeg H.size n.toNatClampNeg = vp_cell cA (n.toNatClampNeg, .inr (.inr (.inr (.inr (fun i => if i < n.toNatClampNeg then some (H.size + 1 + i) else none))))) := by
    rw [vp_cell_q]
    exact vr_outer cA n.toNatClampNeg H.size n.toNatClampNeg
  rw [hout] at f2
  have hlt : ∀ a, a ∈ L → a < H.size := fun a ha => by
    obtain ⟨k9, hk9⟩ := va_pl_get (X := X) (f := f) ha
    exact (hP k9 _ hk9).lt
  have hnl : ∀ i : Nat, i < n.toNatClampNeg → H.size + 1 + i ∉ L := fun i _ h => by
    have := hlt _ h
    omega
  have hnm : ∀ a, a ∈ (List.range n.toNatClampNeg).map (fun i => H.size + 1 + i) → a ∉ L := fun a ha h => by
    obtain ⟨i, -, rfl⟩ := List.mem_map.mp ha
    have := hlt _ h
    omega
  have hP0 : va_P D cl (X ++ va_pl L f) F.heap := hP.kept (fun k9 x hx => hold x.1 ((hP k9 x hx).lt))
  have hP1 : va_P D cl ((X ++ va_pl L f) ++ [(H.size, .inl (cA, n.toNatClampNeg, .inr (.inr (.inr (.inr (fun i => if i < n.toNatClampNeg then some (H.size + 1 + i) else none))))))]) F.heap := hP0.app (fun k9 x hx => by
    have h0 : k9 < 1 := (List.getElem?_eq_some_iff.mp hx).1
    rw [show k9 = 0 by omega] at hx
    cases hx
    exact f2)
  have hP2 : va_P D cl (((X ++ va_pl L f) ++ [(H.size, .inl (cA, n.toNatClampNeg, .inr (.inr (.inr (.inr (fun i => if i < n.toNatClampNeg then some (H.size + 1 + i) else none))))))]) ++ ((List.range n.toNatClampNeg).map (fun i => H.size + 1 + i)).map (fun a => (a, .inl (cy, z)))) F.heap := hP1.app (fun k9 x hx => by
    obtain ⟨a, ha, rfl⟩ := List.mem_map.mp (List.mem_of_getElem? hx)
    obtain ⟨i, hi, rfl⟩ := List.mem_map.mp ha
    exact hrow i (List.mem_range.mp hi))
  have hD2 : va_D A (((X ++ va_pl L f) ++ [(H.size, .inl (cA, n.toNatClampNeg, .inr (.inr (.inr (.inr (fun i => if i < n.toNatClampNeg then some (H.size + 1 + i) else none))))))]) ++ ((List.range n.toNatClampNeg).map (fun i => H.size + 1 + i)).map (fun a => (a, .inl (cy, z)))) := by
    have hD1 := hD.push (e := .inl (cA, n.toNatClampNeg, .inr (.inr (.inr (.inr (fun i => if i < n.toNatClampNeg then some (H.size + 1 + i) else none)))))) hP rfl (hA _ hS.1)
    generalize hW1 : (X ++ va_pl L f) ++ [(H.size, .inl (cA, n.toNatClampNeg, .inr (.inr (.inr (.inr (fun i => if i < n.toNatClampNeg then some (H.size + 1 + i) else none))))))] = W1 at hD1 hP1 ⊢
    have hle : ∀ (k9 : Nat) (x : Nat × va_E), W1[k9]? = some x → x.1 ≤ H.size := fun k9 x hx => by
      rw [← hW1] at hx
      by_cases hl : k9 < (X ++ va_pl L f).length
      · rw [List.getElem?_append_left hl] at hx
        exact Nat.le_of_lt ((hP k9 x hx).lt)
      · rw [List.getElem?_append_right (by omega)] at hx
        have h0 : k9 - (X ++ va_pl L f).length < 1 := (List.getElem?_eq_some_iff.mp hx).1
        rw [show k9 - (X ++ va_pl L f).length = 0 by omega] at hx
        cases hx
        exact Nat.le_refl _
    have hr : ∀ (k9 : Nat) (x : Nat × va_E), (((List.range n.toNatClampNeg).map (fun i => H.size + 1 + i)).map (fun a => ((a, .inl (cy, z)) : Nat × va_E)))[k9]? = some x → x.1 = H.size + 1 + k9 := fun k9 x hx => by
      rw [List.getElem?_map, List.getElem?_map] at hx
      by_cases h9 : k9 < n.toNatClampNeg
      · rw [List.getElem?_range h9] at hx
        cases hx
        rfl
      · have hn0 : (List.range n.toNatClampNeg)[k9]? = none := List.getElem?_eq_none (by rw [List.length_range]; omega)
        rw [hn0] at hx
        cases hx
    refine ⟨fun i j x y hi hj hxy => ?_, fun k9 x hx => ?_⟩
    · by_cases h1 : i < W1.length <;> by_cases h2 : j < W1.length
      · rw [List.getElem?_append_left h1] at hi
        rw [List.getElem?_append_left h2] at hj
        exact hD1.1 i j x y hi hj hxy
      · rw [List.getElem?_append_left h1] at hi
        rw [List.getElem?_append_right (by omega)] at hj
        have := hle _ _ hi
        have := hr _ _ hj
        omega
      · rw [List.getElem?_append_right (by omega)] at hi
        rw [List.getElem?_append_left h2] at hj
        have := hle _ _ hj
        have := hr _ _ hi
        omega
      · rw [List.getElem?_append_right (by omega)] at hi hj
        have := hr _ _ hi
        have := hr _ _ hj
        omega
    · by_cases h1 : k9 < W1.length
      · rw [List.getElem?_append_left h1] at hx
        exact hD1.2 k9 x hx
      · rw [List.getElem?_append_right (by omega)] at hx
        have := hr _ _ hx
        exact hA _ (by have := hS.1; omega)
  have hAr : ArrOfT s cA (.array ty) := fun N9 z9 => by
    obtain ⟨-, k9, hk9, cm9, hkk9⟩ := (hO 0 0 0).1
    exact ⟨(fun q hq => by cases hq), k9, hk9, cm9, hkk9⟩
  have hK2 : va_K D cl (tys ++ [(cA, .array ty)]) s := ⟨hK.1, fun k9 x hx => by
    by_cases hl : k9 < tys.length
    · rw [List.getElem?_append_left hl] at hx
      exact hK.2 k9 x hx
    · rw [List.getElem?_append_right (by omega)] at hx
      have h0 : k9 - tys.length < 1 := (List.getElem?_eq_some_iff.mp hx).1
      rw [show k9 - tys.length = 0 by omega] at hx
      cases hx
      exact ⟨hAr, fA⟩⟩
  obtain ⟨t, a1, b1⟩ := kk H.size (fun i => H.size + 1 + i) cA F.heap (fun i j _ _ h => by have h9 : H.size + 1 + i = H.size + 1 + j := h; omega) hnl hK2 (by rw [← vr_rows hnm]; exact vr_lay hP2) (by rw [← vr_rows hnm]; exact vr_layD hD2) ⟨by rw [f1]; have := hS.1; omega, fun x h1 h2 => (hold x (Nat.lt_of_lt_of_le h1 hS.1)).trans (hS.2.1 x h1 h2), hS.2.2⟩ F rfl X'
  refine ⟨t, step t ?_, b1⟩
  have e : T.heap.size = H.size := by rw [hT]
  rw [e]
  exact a1
end VGM
/-! ===== END ===== -/

def g_xa (X : gX) (ad : Nat → Nat) : gX := (X.1, X.2.1, g_s X, g_m X, g_args X, g_below X, g_meth X, g_c X, g_D X, g_cA X, ad, (g_E X).2.2.2)
/-- a value of before: no cell from n on -/
def g_old (n : Nat) : Value → Bool
  | .ref a => decide (a < n) || decide (500 ≤ a)
  | _ => true
theorem g_v_old {ad ad' : Nat → Nat} {n : Nat} {v : Value} (h : g_old n v = true) (hag : ∀ a, a < n ∨ 500 ≤ a → ad' a = ad a) : g_v ad' v = g_v ad v := by
  cases v with
  | ref a =>
    simp only [g_old, Bool.or_eq_true, decide_eq_true_eq] at h
    show Value.ref (ad' a) = Value.ref (ad a)
    rw [hag a h]
  | _ => rfl
def g_bd (M : gMem) : Prop := ∀ a j r, a < M.1 → M.2.2.1 a j = some r → r < M.1
theorem g_cell_old {cA : Nat → ClassId} {ad ad' : Nat → Nat} {M : gMem} {a : Nat} (hb : g_bd M) (hag : ∀ a, a < M.1 ∨ 500 ≤ a → ad' a = ad a) (ha : a < M.1) : g_cell cA ad' M a = g_cell cA ad M a := by
  have e : ∀ j, (M.2.2.1 a j).map ad' = (M.2.2.1 a j).map ad := by
    intro j
    cases h : M.2.2.1 a j with
    | none => rfl
    | some r => simp [hag r (Or.inl (hb a j r ha h))]
  have e2 : g_fv ad' M a = g_fv ad M a := by funext k j; simp [g_fv, e]
  unfold g_cell
  rw [e2]
  simp only [e]
theorem g_ws_old {cA : Nat → ClassId} {ad ad' : Nat → Nat} {M : gMem} (hb : g_bd M) (hag : ∀ a, a < M.1 ∨ 500 ≤ a → ad' a = ad a) : g_ws cA ad' M = g_ws cA ad M := by
  unfold g_ws
  apply List.map_congr_left
  intro a ha
  have ha := List.mem_range.mp ha
  rw [hag a (Or.inl ha), g_cell_old hb hag ha]
/-- one cell more, all of it zero -/
def g_nw (M : gMem) (kd len : Nat) : gMem := (M.1 + 1, fun a => if a = M.1 then (kd, len) else M.2.1 a, fun a => if a = M.1 then (fun _ => none) else M.2.2.1 a, fun a => if a = M.1 then (fun _ => 0) else M.2.2.2.1 a, fun a => if a = M.1 then (fun _ => 0) else M.2.2.2.2 a)
theorem g_cell_nw {cA : Nat → ClassId} {ad : Nat → Nat} {M : gMem} {kd len a : Nat} (h : a ≠ M.1) : g_cell cA ad (g_nw M kd len) a = g_cell cA ad M a := by
  have e1 : (g_nw M kd len).2.1 a = M.2.1 a := by simp [g_nw, h]
  have e2 : (g_nw M kd len).2.2.1 a = M.2.2.1 a := by simp [g_nw, h]
  have e3 : (g_nw M kd len).2.2.2.1 a = M.2.2.2.1 a := by simp [g_nw, h]
  have e4 : (g_nw M kd len).2.2.2.2 a = M.2.2.2.2 a := by simp [g_nw, h]
  have e5 : g_fv ad (g_nw M kd len) a = g_fv ad M a := by funext k j; simp only [g_fv, e2, e3]
  unfold g_cell
  rw [e1, e2, e3, e4, e5]
theorem g_ws_nw {cA : Nat → ClassId} {ad : Nat → Nat} {M : gMem} {kd len : Nat} : g_ws cA ad (g_nw M kd len) = g_ws cA ad M ++ [(ad M.1, g_cell cA ad (g_nw M kd len) M.1)] := by
  unfold g_ws
  show (List.range (M.1 + 1)).map _ = _
  rw [List.range_succ, List.map_append]
  congr 1
  apply List.map_congr_left
  intro a ha
  rw [g_cell_nw (Nat.ne_of_lt (List.mem_range.mp ha))]
theorem g_bd_nw {M : gMem} {kd len : Nat} (h : g_bd M) : g_bd (g_nw M kd len) := by
  intro a j r ha hr
  show r < M.1 + 1
  by_cases e : a = M.1
  · simp [g_nw, e] at hr
  · simp [g_nw, e] at hr
    have ha' : a < M.1 + 1 := ha
    have := h a j r (by omega) hr
    omega
theorem g_bd_sr {M : gMem} {a j r : Nat} (h : g_bd M) (hr : r < M.1) : g_bd (g_sr M a j (some r)) := by
  intro x i q hx hq
  show q < M.1
  have hx' : x < M.1 := hx
  simp only [g_sr, g_up_e] at hq
  split at hq
  · cases hq; exact hr
  · exact h x i q hx' hq
theorem g_bd_si {M : gMem} {a j : Nat} {v : Int32} (h : g_bd M) : g_bd (g_si M a j v) := h
def g_ssOk (X : gX) : Prop := ∀ a ∈ (g_E X).2.2.2.2.1, 1000 ≤ a
theorem g_ok_xa {mt : gMt} {X : gX} {ad' : Nat → Nat} {n : Nat} (hn : n ≤ 500) (hss : g_ssOk X) (hag : ∀ a, a < n ∨ 500 ≤ a → ad' a = g_ad X a) (ok : g_ok mt X) : g_ok mt (g_xa X ad') := by
  obtain ⟨o1, o2, o3, o4, o5, o6, o7, o8, o9, h1, h2, h3, h4, h5, h6, ⟨h7, h8, h9⟩, h10, h11, h12, h13, h14⟩ := ok
  have e9 : ad' 900 = g_ad X 900 := hag 900 (by omega)
  have e95 : ad' 950 = g_ad X 950 := hag 950 (by omega)
  have e96 : ad' 960 = g_ad X 960 := hag 960 (by omega)
  refine ⟨o1, o2, o3, o4, o5, o6, o7, o8, o9, h1, fun q hq => ?_, fun a ha => ?_, h4, ?_, ?_, ⟨?_, ?_, ?_⟩, h10, h11, ?_, h13, h14⟩
  · have e : ad' (1000 + q.2.2.2) = g_ad X (1000 + q.2.2.2) := hag _ (by omega)
    show vk_R q.1 q.2.1 q.2.2.1 (ad' (1000 + q.2.2.2)) _
    rw [e]; exact h2 q hq
  · have h := h3 a ha
    have ha1 := hss a ha
    have e : ad' a = g_ad X a := hag _ (by omega)
    have e2 : ad' (a + 1000) = g_ad X (a + 1000) := hag _ (by omega)
    show g_Str (g_E (g_xa X ad')) a (g_sb a) _ _
    unfold g_Str
    show va_O _ (ad' a) _ _ _ ∧ va_OF _ _ _ _ (ad' a) _ _ _ ∧ va_OF _ _ _ (.ref (ad' (a + 1000))) (ad' a) _ _ _ ∧ va_T _ (ad' (a + 1000)) _ _ _ _ _
    rw [e, e2]; exact h
  · show va_Z _ _ _ (.ref (ad' 900)) _ _ _
    rw [e9]; exact h5
  · show va_T _ (ad' 900) _ _ _ _ _
    rw [e9]; exact h6
  · show va_X (ad' 950) _ _ _ _
    rw [e95]; exact h7
  · show ¬ g_A X (ad' 950)
    rw [e95]; exact h8
  · show ad' 950 < _
    rw [e95]; exact h9
  · show _ ∨ va_Z _ _ _ (.ref (ad' 960)) _ _ _
    rw [e96]; exact h12
theorem g_lv_xa {X : gX} {ad' : Nat → Nat} {n : Nat} {ls : Array Slot} {nL : Nat} {L : List (Option Value)} (hag : ∀ a, a < n ∨ 500 ≤ a → ad' a = g_ad X a) (hL : L.all (fun o => o.all (g_old n)) = true) (h : g_lv X ls nL L) : g_lv (g_xa X ad') ls nL L := by
  refine ⟨h.1, h.2.1, fun i v hv => ?_⟩
  have hm := List.all_eq_true.mp hL _ (List.mem_of_getElem? hv)
  show ls[i]? = some (.val (g_v ad' v))
  rw [g_v_old (by simpa using hm) hag]
  exact h.2.2 i v hv
theorem g_st_xa {X : gX} {ad' : Nat → Nat} {n : Nat} {S : List Value} (hag : ∀ a, a < n ∨ 500 ≤ a → ad' a = g_ad X a) (hS : S.all (g_old n) = true) : S.map (g_v ad') = S.map (g_v (g_ad X)) := by
  apply List.map_congr_left
  intro v hv
  exact g_v_old (List.all_eq_true.mp hS v hv) hag
section ALLOC
variable {l : Launch} {mt mt' : gMt} {R : Room} {X : gX} {pc : Nat} {L L' : List (Option Value)} {S S0 : List Value} {M : gMem} {k n : Nat} {Z : State → Prop}
/-- what a class that is made needs: its words, its default values -/
def g_mk (own : String) (idx ci N : Nat) : Prop := ∃ (C : String) (T : u_T) (ty : Nat → FieldType), g_cl[ci]? = some (C, T, N) ∧ ci < 100 ∧ (∀ w ∈ u_ws C T N, w ∈ g_TB) ∧ (∀ k, k < N → parseFieldDescriptor (T k).2.2.1 = some (ty k)) ∧ (∀ j, j < N → defaultValue (ty j) = if g_fr ci j = true then .null else .int 0) ∧ Cond.classLink own idx C ∈ g_TB ∧ Cond.instantiable C N ∈ g_TB ∧ Cond.initialized C ∈ g_TB
theorem r_new {idx ci N : Nat} (hd : decode mt.2.1 pc = .ok (.new idx, 3)) (hm : g_mk mt.1.cls idx ci N) (hn : M.1 < 500) (hb : g_bd M) (hss : g_ssOk X) (hL : L.all (fun o => o.all (g_old M.1)) = true) (hSo : S.all (g_old M.1) = true) (hf : k + 1 ≤ R.cells ∧ n + N ≤ R.slots)
    (kk : ∀ ad', (∀ a, a < M.1 ∨ 500 ≤ a → ad' a = g_ad X a) → Gw l mt R (g_xa X ad') (pc + 3) L (.ref M.1 :: S) (g_nw M ci N) (k + 1) (n + N) Z) : Gw l mt R X pc L S M k n Z := by
  intro ok H locs ls hl hP hD hS
  obtain ⟨C, T, ty, hc, hci, hin, hty, hdf, w1, w2, w3⟩ := hm
  refine va_new (ci := ci) (fs := (List.range N).map (fun j => if g_fr ci j = true then Value.null else Value.int 0)) ok.1 ok.2.1 ok.2.2.2.2.1 hin ty hty ok.2.2.2.1 (ok.2.2.2.2.1 _ w1) (ok.2.2.2.2.1 _ w2) (ok.2.2.2.2.1 _ w3) ok.2.2.2.2.2.2.2.2.1 hP hD hS ok.2.2.2.2.2.2.2.2.2.2.2.2.2.2.2.2.1 hc (fun j hj => by rw [hdf j hj]; simp [vp_V, hj]) hf.1 hf.2 hd (fun q H1 h1 h2 h3 => ?_)
  obtain ⟨ad', had⟩ : ∃ ad' : Nat → Nat, ad' = fun a => if a = M.1 then q else g_ad X a := ⟨_, rfl⟩
  have hag : ∀ a, a < M.1 ∨ 500 ≤ a → ad' a = g_ad X a := by
    intro a ha
    rw [had]
    simp [show ¬ a = M.1 by omega]
  have hq : ad' M.1 = q := by rw [had]; simp
  have hcell : g_cell (g_cA X) ad' (g_nw M ci N) M.1 = .inr (ci, (List.range N).map (fun j => if g_fr ci j = true then Value.null else Value.int 0)) := by
    rw [g_cell_o (k := ci) (n := N) (by simp [g_nw]) hci]
    congr 2
    apply List.map_congr_left
    intro j _
    simp [g_fv, g_nw, va_rf]
  have hw : g_ws (g_cA X) ad' (g_nw M ci N) = g_ws (g_cA X) (g_ad X) M ++ [(q, .inr (ci, (List.range N).map (fun j => if g_fr ci j = true then Value.null else Value.int 0)))] := by
    rw [g_ws_nw, hcell, hq, g_ws_old hb hag]
  have := kk ad' hag (g_ok_xa (Nat.le_of_lt hn) hss hag ok) H1 locs ls (g_lv_xa hag hL hl) (by show va_P (g_D X) g_cl (g_ws (g_cA X) ad' (g_nw M ci N)) H1; rw [hw]; exact h1) (by show va_D (g_A X) (g_ws (g_cA X) ad' (g_nw M ci N)); rw [hw]; exact h2) h3
  have e : ((.ref M.1 :: S : List Value).map (g_v ad')) = .ref q :: S.map (g_v (g_ad X)) := by
    rw [List.map_cons, g_st_xa hag hSo]
    show Value.ref (ad' M.1) :: _ = _
    rw [hq]
  rw [← e]
  exact this
/-- kinds of arrays and their types -/
def g_aty (kd : Nat) (at_ : ArrayType) (ty : FieldType) (j : Nat) (z : Nat → vp_A) : Prop := newarray.typeOf at_ = ty ∧ (∀ cA : Nat → ClassId, (g_tys cA)[j]? = some (cA kd, ty)) ∧ (∀ (N : Nat) (cA : ClassId), vp_cell cA (z N) = arrV cA N (fun _ => defaultValue ty)) ∧ (∀ (cA : Nat → ClassId) (ad : Nat → Nat) (M : gMem) (N : Nat), g_cell cA ad (g_nw M kd N) M.1 = .inl (cA kd, z N)) ∧ Cond.arrayClass ty ∈ g_TB ∧ componentBytes ty ≤ 8 ∧ (∀ C, ty ≠ .object C)
theorem r_newa {kd N j : Nat} {at_ : ArrayType} {ty : FieldType} {z : Nat → vp_A} {m : Int32} (hd : decode mt.2.1 pc = .ok (.newarray at_, 2)) (hm : g_aty kd at_ ty j z) (h0 : ¬ m < 0) (hN : ix m = N) (hbig : N ≤ 60000) (hn : M.1 < 500) (hb : g_bd M) (hss : g_ssOk X) (hL : L.all (fun o => o.all (g_old M.1)) = true) (hSo : S.all (g_old M.1) = true) (hf : k + 1 ≤ R.cells ∧ n + N ≤ R.slots)
    (kk : ∀ ad', (∀ a, a < M.1 ∨ 500 ≤ a → ad' a = g_ad X a) → Gw l mt R (g_xa X ad') (pc + 2) L (.ref M.1 :: S) (g_nw M kd N) (k + 1) (n + N) Z) : Gw l mt R X pc L (.int m :: S) M k n Z := by
  intro ok H locs ls hl hP hD hS
  obtain ⟨m1, m2, m3, m4, m5, m6, m7⟩ := hm
  have hcb : N * componentBytes ty ≤ 536870912 := Nat.le_trans (Nat.mul_le_mul hbig m6) (by decide)
  refine va_newa (a0 := z N) ok.1 ok.2.1 (by rw [m1]; exact ok.2.2.2.2.1 _ m5) m1 ok.2.2.2.2.2.2.2.2.1 hP hD hS ok.2.2.2.2.2.2.2.2.2.2.2.2.2.2.2.2.1 (m3 N) h0 hN hcb hf.1 hf.2 hd (fun q cB H1 hK1 h1 h2 h3 => ?_)
  have ecl : cB = g_cA X kd := by
    have k1 := (hK1.2 5 (cB, ty) rfl).2
    have k2 := (ok.2.2.2.2.2.2.2.2.1.2 j _ (m2 (g_cA X))).2
    cases ty with
    | object C => exact absurd rfl (m7 C)
    | _ => exact Option.some.inj (k1.symm.trans k2)
  subst ecl
  obtain ⟨ad', had⟩ : ∃ ad' : Nat → Nat, ad' = fun a => if a = M.1 then q else g_ad X a := ⟨_, rfl⟩
  have hag : ∀ a, a < M.1 ∨ 500 ≤ a → ad' a = g_ad X a := by
    intro a ha
    rw [had]
    simp [show ¬ a = M.1 by omega]
  have hq : ad' M.1 = q := by rw [had]; simp
  have hw : g_ws (g_cA X) ad' (g_nw M kd N) = g_ws (g_cA X) (g_ad X) M ++ [(q, .inl (g_cA X kd, z N))] := by
    rw [g_ws_nw, m4, hq, g_ws_old hb hag]
  have := kk ad' hag (g_ok_xa (Nat.le_of_lt hn) hss hag ok) H1 locs ls (g_lv_xa hag hL hl) (by show va_P (g_D X) g_cl (g_ws (g_cA X) ad' (g_nw M kd N)) H1; rw [hw]; exact h1) (by show va_D (g_A X) (g_ws (g_cA X) ad' (g_nw M kd N)); rw [hw]; exact h2) h3
  have e : ((.ref M.1 :: S : List Value).map (g_v ad')) = .ref q :: S.map (g_v (g_ad X)) := by
    rw [List.map_cons, g_st_xa hag hSo]
    show Value.ref (ad' M.1) :: _ = _
    rw [hq]
  rw [← e]
  exact this
end ALLOC
