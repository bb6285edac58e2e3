/-! fields, arrays, calls, ends -/
/-- the field k of class number ci, as the class own names it by its pool entry idx; here and among nest mates -/
def g_fl (own : String) (idx ci k : Nat) : Prop := ∃ (C : String) (T : u_T) (N : Nat), g_cl[ci]? = some (C, T, N) ∧ k < N ∧ ci < 100 ∧ (∀ w ∈ u_ws C T N, w ∈ g_TB) ∧ (T k).1 = C ∧ ((Cond.fieldLink own idx C (T k).2.1 (T k).2.2.1 ∈ g_TB) ∨ ∃ host, Cond.fieldLinkNest own idx C (T k).2.1 (T k).2.2.1 host ∈ g_NW)
/-- what a store needs beside it -/
def g_fw (ci k : Nat) (fin : Bool) (ty : FieldType) : Prop := ∀ (C : String) (T : u_T) (N : Nat), g_cl[ci]? = some (C, T, N) → (T k).2.2.2 = fin ∧ parseFieldDescriptor (T k).2.2.1 = some ty ∧ (∃ t0 : Nat → FieldType, ∀ k, k < N → parseFieldDescriptor (T k).2.2.1 = some (t0 k)) ∧ (∀ a, a < N → ∀ b, b < N → a ≠ b → (T a).2.1 ≠ (T b).2.1)
section RULES
variable {l : Launch} {mt : gMt} {R : Room} {X : gX} {pc : Nat} {L L' : List (Option Value)} {S : List Value} {M : gMem} {k n : Nat} {Z : State → Prop}
theorem g_len {ci : Nat} {C : String} {T : u_T} {N : Nat} {q : Nat} (h : g_cl[ci]? = some (C, T, N)) (hs : (g_cl[ci]?).map (fun q => q.2.2) = some q) : q = N := by
  rw [h] at hs; exact (Option.some.inj hs).symm
theorem g_getf {idx ci j a nf : Nat} {v : Value} (hd : decode mt.2.1 pc = .ok (.getfield idx, 3)) (hf : g_fl mt.1.cls idx ci j) (ha : a < M.1) (hs : M.2.1 a = (ci, nf)) (hnf : (g_cl[ci]?).map (fun q => q.2.2) = some nf) (hv : g_fv (g_ad X) M a ci j = g_v (g_ad X) v)
    (kk : Gw l mt R X (pc + 3) L (v :: S) M k n Z) : Gw l mt R X pc L (.ref a :: S) M k n Z := by
  intro ok H locs ls hl hP hD hS
  obtain ⟨C, T, N, hc, hj, hci, hin, hT, hlk⟩ := hf
  have hN := g_len hc hnf
  subst hN
  have he := g_ws_at (cA := g_cA X) (ad := g_ad X) ha
  rw [g_cell_o hs hci] at he
  have hv' : ((List.range nf).map (g_fv (g_ad X) M a ci))[j]? = some (g_v (g_ad X) v) := by simp [hj, hv]
  rcases hlk with hk | ⟨host, hk⟩
  · exact va_get ok.1 ok.2.1 ok.2.2.2.2.1 hin ok.2.2.2.1 ok.2.2.2.2.2.2.2.2.1 hP a he hc j hj (ok.2.2.2.2.1 _ hk) (by rw [hT]; exact fun _ h => h) hv' hd (kk ok H locs ls hl hP hD hS)
  · exact va_getN ok.1 ok.2.1 ok.2.2.2.2.1 hin ok.2.2.2.1 ok.2.2.2.2.2.2.2.2.1 hP a he hc j hj (va_Nw.use rfl (ok.2.2.2.2.2.2.2.2.2.1 _ hk)) (by rw [hT]; exact fun _ h => h) hv' hd (kk ok H locs ls hl hP hD hS)
theorem r_getI {idx ci j a nf : Nat} (hd : decode mt.2.1 pc = .ok (.getfield idx, 3)) (hf : g_fl mt.1.cls idx ci j) (ha : a < M.1) (hs : M.2.1 a = (ci, nf)) (hnf : (g_cl[ci]?).map (fun q => q.2.2) = some nf) (hr : g_fr ci j = false)
    (kk : Gw l mt R X (pc + 3) L (.int (M.2.2.2.1 a j) :: S) M k n Z) : Gw l mt R X pc L (.ref a :: S) M k n Z := g_getf hd hf ha hs hnf (by simp [g_fv, hr, g_v]) kk
theorem r_getR {idx ci j a nf q : Nat} (hd : decode mt.2.1 pc = .ok (.getfield idx, 3)) (hf : g_fl mt.1.cls idx ci j) (ha : a < M.1) (hs : M.2.1 a = (ci, nf)) (hnf : (g_cl[ci]?).map (fun q => q.2.2) = some nf) (hr : g_fr ci j = true) (hq : M.2.2.1 a j = some q)
    (kk : Gw l mt R X (pc + 3) L (.ref q :: S) M k n Z) : Gw l mt R X pc L (.ref a :: S) M k n Z := g_getf hd hf ha hs hnf (by simp [g_fv, hr, g_v, hq, va_rf]) kk
theorem g_putf {idx ci j a nf : Nat} {ty : FieldType} {v : Value} {M' : gMem} (hd : decode mt.2.1 pc = .ok (.putfield idx, 3)) (hf : g_fl mt.1.cls idx ci j) (hw : g_fw ci j false ty) (ha : a < M.1) (hs : M.2.1 a = (ci, nf)) (hnf : (g_cl[ci]?).map (fun q => q.2.2) = some nf)
    (hn1 : narrow ty (g_v (g_ad X) v) = g_v (g_ad X) v) (hn2 : fits ty (g_v (g_ad X) v) = true) (hM1 : M'.1 = M.1) (hM2 : M'.2.1 = M.2.1) (hM3 : ∀ q, q ≠ a → g_cell (g_cA X) (g_ad X) M' q = g_cell (g_cA X) (g_ad X) M q) (hM4 : g_fv (g_ad X) M' a ci j = g_v (g_ad X) v) (hM5 : ∀ i, i ≠ j → g_fv (g_ad X) M' a ci i = g_fv (g_ad X) M a ci i)
    (kk : Gw l mt R X (pc + 3) L S M' k n Z) : Gw l mt R X pc L (v :: .ref a :: S) M k n Z := by
  intro ok H locs ls hl hP hD hS
  obtain ⟨C, T, N, hc, hj, hci, hin, hT, hlk⟩ := hf
  obtain ⟨w1, w2, ⟨t0, w3⟩, w4⟩ := hw C T N hc
  have hN := g_len hc hnf
  subst hN
  have he := g_ws_at (cA := g_cA X) (ad := g_ad X) ha
  rw [g_cell_o hs hci] at he
  have hset : (g_ws (g_cA X) (g_ad X) M).set a (g_ad X a, .inr (ci, ((List.range nf).map (g_fv (g_ad X) M a ci)).set j (g_v (g_ad X) v))) = g_ws (g_cA X) (g_ad X) M' :=
    g_ws_set hM1 (by rw [g_cell_o (by rw [hM2]; exact hs) hci, g_fset hj hM4 hM5]) hM3
  have go : ∀ (H1 : Heap) (locs1 : List Loc), va_P (g_D X) g_cl ((g_ws (g_cA X) (g_ad X) M).set a (g_ad X a, .inr (ci, ((List.range nf).map (g_fv (g_ad X) M a ci)).set j (g_v (g_ad X) v)))) H1 → va_D (g_A X) ((g_ws (g_cA X) (g_ad X) M).set a (g_ad X a, .inr (ci, ((List.range nf).map (g_fv (g_ad X) M a ci)).set j (g_v (g_ad X) v)))) → va_S (g_A X) (g_s X).heap H1 locs1 → W X.1 l X.2.1 R (g_s X) (g_m X) (g_args X) (g_below X) (g_meth X) (g_c X) H1 locs1 k n Z (F0 (g_m X) (pc + 3) ls (S.map (g_v (g_ad X)))) := by
    intro H1 locs1 h1 h2 h3
    rw [hset] at h1 h2
    exact kk ok H1 locs1 ls hl h1 h2 h3
  rcases hlk with hk | ⟨host, hk⟩
  · exact va_put ok.1 ok.2.1 ok.2.2.2.2.1 hin t0 w3 w4 ok.2.2.2.1 ok.2.2.2.2.2.2.2.2.1 hP hD hS a he hc j hj (ok.2.2.2.2.1 _ hk) (by rw [hT]; exact fun _ h => h) w1 w2 hn1 hn2 (by simp [hj]) hd go
  · exact va_putN ok.1 ok.2.1 ok.2.2.2.2.1 hin t0 w3 w4 ok.2.2.2.1 ok.2.2.2.2.2.2.2.2.1 hP hD hS a he hc j hj (va_Nw.use rfl (ok.2.2.2.2.2.2.2.2.2.1 _ hk)) (by rw [hT]; exact fun _ h => h) w1 w2 hn1 hn2 (by simp [hj]) hd go
theorem g_fv_si {ad : Nat → Nat} {M : gMem} {a i : Nat} {v : Int32} {ci j : Nat} (h : j ≠ i ∨ g_fr ci j = true) : g_fv ad (g_si M a i v) a ci j = g_fv ad M a ci j := by
  by_cases hr : g_fr ci j = true
  · simp [g_fv, g_si, hr]
  · rcases h with h | h
    · simp [g_fv, g_si, hr, g_up, h]
    · exact absurd h hr
theorem r_putI {idx ci j a nf : Nat} {x : Int32} (hd : decode mt.2.1 pc = .ok (.putfield idx, 3)) (hf : g_fl mt.1.cls idx ci j) (hw : g_fw ci j false .int) (ha : a < M.1) (hs : M.2.1 a = (ci, nf)) (hnf : (g_cl[ci]?).map (fun q => q.2.2) = some nf) (hr : g_fr ci j = false)
    (kk : Gw l mt R X (pc + 3) L S (g_si M a j x) k n Z) : Gw l mt R X pc L (.int x :: .ref a :: S) M k n Z :=
  g_putf (M' := g_si M a j x) hd hf hw ha hs hnf rfl rfl rfl rfl (fun q h => g_cell_si h) (by simp [g_fv, hr, g_si, g_up, g_v]) (fun i h => g_fv_si (Or.inl h)) kk
theorem r_putZ {idx ci j a nf : Nat} {x : Int32} (hd : decode mt.2.1 pc = .ok (.putfield idx, 3)) (hf : g_fl mt.1.cls idx ci j) (hw : g_fw ci j false .boolean) (ha : a < M.1) (hs : M.2.1 a = (ci, nf)) (hnf : (g_cl[ci]?).map (fun q => q.2.2) = some nf) (hr : g_fr ci j = false) (hx : x = 0 ∨ x = 1)
    (kk : Gw l mt R X (pc + 3) L S (g_si M a j x) k n Z) : Gw l mt R X pc L (.int x :: .ref a :: S) M k n Z :=
  g_putf (M' := g_si M a j x) hd hf hw ha hs hnf (by rcases hx with rfl | rfl <;> rfl) (by rcases hx with rfl | rfl <;> rfl) rfl rfl (fun q h => g_cell_si h) (by simp [g_fv, hr, g_si, g_up, g_v]) (fun i h => g_fv_si (Or.inl h)) kk
theorem g_fv_sr {ad : Nat → Nat} {M : gMem} {a i : Nat} {v : Option Nat} {ci j : Nat} (h : j ≠ i) : g_fv ad (g_sr M a i v) a ci j = g_fv ad M a ci j := by
  by_cases hr : g_fr ci j = true <;> simp [g_fv, g_sr, hr, g_up, h]
theorem r_putR {idx ci j a nf q : Nat} {ty : FieldType} (hd : decode mt.2.1 pc = .ok (.putfield idx, 3)) (hf : g_fl mt.1.cls idx ci j) (hw : g_fw ci j false ty) (hty : (∃ C, ty = .object C) ∨ ∃ t, ty = .array t) (ha : a < M.1) (hs : M.2.1 a = (ci, nf)) (hnf : (g_cl[ci]?).map (fun q => q.2.2) = some nf) (hr : g_fr ci j = true)
    (kk : Gw l mt R X (pc + 3) L S (g_sr M a j (some q)) k n Z) : Gw l mt R X pc L (.ref q :: .ref a :: S) M k n Z :=
  g_putf (M' := g_sr M a j (some q)) hd hf hw ha hs hnf (by rcases hty with ⟨C, rfl⟩ | ⟨t, rfl⟩ <;> rfl) (by rcases hty with ⟨C, rfl⟩ | ⟨t, rfl⟩ <;> rfl) rfl rfl (fun q h => g_cell_sr h) (by simp [g_fv, hr, g_sr, g_up, g_v, va_rf]) (fun i h => g_fv_sr h) kk
/-! arrays -/
theorem r_iald {a len : Nat} {i : Int32} (hd : decode mt.2.1 pc = .ok (.iaload, 1)) (ha : a < M.1) (hs : M.2.1 a = (100, len)) (hi : vp_in i len)
    (kk : Gw l mt R X (pc + 1) L (.int (M.2.2.2.1 a i.toNatClampNeg) :: S) M k n Z) : Gw l mt R X pc L (.int i :: .ref a :: S) M k n Z := by
  intro ok H locs ls hl hP hD hS
  have he := g_ws_at (cA := g_cA X) (ad := g_ad X) ha
  rw [g_cell_i hs (by omega)] at he
  exact va_iald ok.1 ok.2.1 ok.2.2.2.2.2.2.2.2.1 hP a 0 he rfl hi hd (kk ok H locs ls hl hP hD hS)
theorem r_bald {a len : Nat} {i : Int32} (hd : decode mt.2.1 pc = .ok (.baload, 1)) (ha : a < M.1) (hs : M.2.1 a = (101, len)) (hi : vp_in i len)
    (kk : Gw l mt R X (pc + 1) L (.int (M.2.2.2.1 a i.toNatClampNeg) :: S) M k n Z) : Gw l mt R X pc L (.int i :: .ref a :: S) M k n Z := by
  intro ok H locs ls hl hP hD hS
  have he := g_ws_at (cA := g_cA X) (ad := g_ad X) ha
  rw [g_cell_i hs (by omega)] at he
  exact va_bald ok.1 ok.2.1 ok.2.2.2.2.2.2.2.2.1 hP a 1 he rfl hi hd (kk ok H locs ls hl hP hD hS)
theorem r_zald {a len : Nat} {i : Int32} (hd : decode mt.2.1 pc = .ok (.baload, 1)) (ha : a < M.1) (hs : M.2.1 a = (102, len)) (hi : vp_in i len)
    (kk : Gw l mt R X (pc + 1) L (.int (M.2.2.2.1 a i.toNatClampNeg) :: S) M k n Z) : Gw l mt R X pc L (.int i :: .ref a :: S) M k n Z := by
  intro ok H locs ls hl hP hD hS
  have he := g_ws_at (cA := g_cA X) (ad := g_ad X) ha
  rw [g_cell_i hs (by omega)] at he
  exact va_zald ok.1 ok.2.1 ok.2.2.2.2.2.2.2.2.1 hP a 2 he rfl hi hd (kk ok H locs ls hl hP hD hS)
theorem r_lald {a len : Nat} {i : Int32} (hd : decode mt.2.1 pc = .ok (.laload, 1)) (ha : a < M.1) (hs : M.2.1 a = (103, len)) (hi : vp_in i len)
    (kk : Gw l mt R X (pc + 1) L (.long (M.2.2.2.2 a i.toNatClampNeg) :: S) M k n Z) : Gw l mt R X pc L (.int i :: .ref a :: S) M k n Z := by
  intro ok H locs ls hl hP hD hS
  have he := g_ws_at (cA := g_cA X) (ad := g_ad X) ha
  rw [g_cell_l hs] at he
  exact va_lald ok.1 ok.2.1 ok.2.2.2.2.2.2.2.2.1 hP a 3 he rfl hi hd (kk ok H locs ls hl hP hD hS)
theorem r_aald {a len q : Nat} {i : Int32} (hd : decode mt.2.1 pc = .ok (.aaload, 1)) (ha : a < M.1) (hs : M.2.1 a = (104, len)) (hi : vp_in i len) (hq : M.2.2.1 a i.toNatClampNeg = some q)
    (kk : Gw l mt R X (pc + 1) L (.ref q :: S) M k n Z) : Gw l mt R X pc L (.int i :: .ref a :: S) M k n Z := by
  intro ok H locs ls hl hP hD hS
  have he := g_ws_at (cA := g_cA X) (ad := g_ad X) ha
  rw [g_cell_q hs] at he
  have hlt : i.toNatClampNeg < len := Nat.not_le.mp fun q => hi (Or.inr q)
  have hK := ok.2.2.2.2.2.2.2.2.1
  refine W.aald (v := .ref (g_ad X q)) (ty := .array .int) ok.1 ok.2.1 (hP a _ he) ((hK.2 4 _ rfl).1 len (fun j => va_rf ((M.2.2.1 a j).map (g_ad X)))) rfl (fun q => by cases q) (by show ¬ (i < 0 ∨ (arrV _ _ _).slots.size ≤ _); rw [arrV_size]; exact hi) (by show (arrV _ _ _).slots[_]? = _; rw [arrV_read _ _ hlt]; show some (va_rf ((M.2.2.1 a i.toNatClampNeg).map (g_ad X))) = _; rw [hq]; rfl) rfl rfl hd (kk ok H locs ls hl hP hD hS)
theorem g_setI {cA : Nat → ClassId} {ad : Nat → Nat} {a kd len i : Nat} {x : Int32} (hs : M.2.1 a = (kd, len)) (hk : kd = 100 ∨ kd = 101 ∨ kd = 102) : (g_ws cA ad M).set a (ad a, .inl (cA kd, len, .inl (upd (M.2.2.2.1 a) i x))) = g_ws cA ad (g_si M a i x) :=
  g_ws_set rfl (by rw [g_cell_i (M := g_si M a i x) hs hk, ← g_updI]; rfl) (fun q h => g_cell_si h)
theorem r_iast {a len : Nat} {i x : Int32} (hd : decode mt.2.1 pc = .ok (.iastore, 1)) (ha : a < M.1) (hs : M.2.1 a = (100, len)) (hi : vp_in i len)
    (kk : Gw l mt R X (pc + 1) L S (g_si M a i.toNatClampNeg x) k n Z) : Gw l mt R X pc L (.int x :: .int i :: .ref a :: S) M k n Z := by
  intro ok H locs ls hl hP hD hS
  have he := g_ws_at (cA := g_cA X) (ad := g_ad X) ha
  rw [g_cell_i hs (by omega)] at he
  refine va_iast ok.1 ok.2.1 ok.2.2.2.2.2.2.2.2.1 hP hD hS a 0 he rfl hi hd (fun H1 locs1 h1 h2 h3 => ?_)
  rw [g_setI hs (by omega)] at h1 h2
  exact kk ok H1 locs1 ls hl h1 h2 h3
theorem r_bast {a len : Nat} {i x : Int32} (hd : decode mt.2.1 pc = .ok (.bastore, 1)) (ha : a < M.1) (hs : M.2.1 a = (101, len)) (hi : vp_in i len)
    (kk : Gw l mt R X (pc + 1) L S (g_si M a i.toNatClampNeg (vp_nar .byte x)) k n Z) : Gw l mt R X pc L (.int x :: .int i :: .ref a :: S) M k n Z := by
  intro ok H locs ls hl hP hD hS
  have he := g_ws_at (cA := g_cA X) (ad := g_ad X) ha
  rw [g_cell_i hs (by omega)] at he
  refine va_bast ok.1 ok.2.1 ok.2.2.2.2.2.2.2.2.1 hP hD hS a 1 he rfl hi hd (fun H1 locs1 h1 h2 h3 => ?_)
  rw [g_setI hs (by omega)] at h1 h2
  exact kk ok H1 locs1 ls hl h1 h2 h3
theorem r_zast {a len : Nat} {i x : Int32} (hd : decode mt.2.1 pc = .ok (.bastore, 1)) (ha : a < M.1) (hs : M.2.1 a = (102, len)) (hi : vp_in i len)
    (kk : Gw l mt R X (pc + 1) L S (g_si M a i.toNatClampNeg (vp_nar .boolean x)) k n Z) : Gw l mt R X pc L (.int x :: .int i :: .ref a :: S) M k n Z := by
  intro ok H locs ls hl hP hD hS
  have he := g_ws_at (cA := g_cA X) (ad := g_ad X) ha
  rw [g_cell_i hs (by omega)] at he
  refine va_zast ok.1 ok.2.1 ok.2.2.2.2.2.2.2.2.1 hP hD hS a 2 he rfl hi hd (fun H1 locs1 h1 h2 h3 => ?_)
  rw [g_setI hs (by omega)] at h1 h2
  exact kk ok H1 locs1 ls hl h1 h2 h3
theorem r_last {a len : Nat} {i : Int32} {x : Int64} (hd : decode mt.2.1 pc = .ok (.lastore, 1)) (ha : a < M.1) (hs : M.2.1 a = (103, len)) (hi : vp_in i len)
    (kk : Gw l mt R X (pc + 1) L S (g_sl M a i.toNatClampNeg x) k n Z) : Gw l mt R X pc L (.long x :: .int i :: .ref a :: S) M k n Z := by
  intro ok H locs ls hl hP hD hS
  have he := g_ws_at (cA := g_cA X) (ad := g_ad X) ha
  rw [g_cell_l hs] at he
  refine va_last ok.1 ok.2.1 ok.2.2.2.2.2.2.2.2.1 hP hD hS a 3 he rfl hi hd (fun H1 locs1 h1 h2 h3 => ?_)
  have e : (g_ws (g_cA X) (g_ad X) M).set a (g_ad X a, .inl (g_cA X 103, len, .inr (.inl (vp_updL (M.2.2.2.2 a) i.toNatClampNeg x)))) = g_ws (g_cA X) (g_ad X) (g_sl M a i.toNatClampNeg x) :=
    g_ws_set rfl (by rw [g_cell_l (M := g_sl M a i.toNatClampNeg x) hs, ← g_updL]; rfl) (fun q h => g_cell_sl h)
  rw [e] at h1 h2
  exact kk ok H1 locs1 ls hl h1 h2 h3
/-- the numbers of the array kinds -/
def g_at (kd : Nat) : Option Nat := if kd = 100 then some 0 else if kd = 101 then some 1 else if kd = 102 then some 2 else if kd = 103 then some 3 else if kd = 104 then some 4 else none
theorem r_alen {a kd len : Nat} {v : Int32} (hd : decode mt.2.1 pc = .ok (.arraylength, 1)) (ha : a < M.1) (hs : M.2.1 a = (kd, len)) (hk : kd = 100 ∨ kd = 101 ∨ kd = 102 ∨ kd = 103 ∨ kd = 104) (hv : Int32.ofNat len = v)
    (kk : Gw l mt R X (pc + 1) L (.int v :: S) M k n Z) : Gw l mt R X pc L (.ref a :: S) M k n Z := by
  intro ok H locs ls hl hP hD hS
  have he := g_ws_at (cA := g_cA X) (ad := g_ad X) ha
  rcases hk with rfl | rfl | rfl | rfl | rfl
  · rw [g_cell_i hs (by omega)] at he
    exact va_alen ok.1 ok.2.1 ok.2.2.2.2.2.2.2.2.1 hP a 0 he rfl hv hd (kk ok H locs ls hl hP hD hS)
  · rw [g_cell_i hs (by omega)] at he
    exact va_alen ok.1 ok.2.1 ok.2.2.2.2.2.2.2.2.1 hP a 1 he rfl hv hd (kk ok H locs ls hl hP hD hS)
  · rw [g_cell_i hs (by omega)] at he
    exact va_alen ok.1 ok.2.1 ok.2.2.2.2.2.2.2.2.1 hP a 2 he rfl hv hd (kk ok H locs ls hl hP hD hS)
  · rw [g_cell_l hs] at he
    exact va_alen ok.1 ok.2.1 ok.2.2.2.2.2.2.2.2.1 hP a 3 he rfl hv hd (kk ok H locs ls hl hP hD hS)
  · rw [g_cell_q hs] at he
    exact va_alen ok.1 ok.2.1 ok.2.2.2.2.2.2.2.2.1 hP a 4 he rfl hv hd (kk ok H locs ls hl hP hD hS)
theorem r_ifnull {a : Nat} {off : Int} (hd : decode mt.2.1 pc = .ok (.ifnull off, 3)) (kk : Gw l mt R X (pc + 3) L S M k n Z) : Gw l mt R X pc L (.ref a :: S) M k n Z := fun ok H locs ls hl hP hD hS => lv_ifnull ok.1 ok.2.1 hd (kk ok H locs ls hl hP hD hS)
theorem r_ifnonnull {a : Nat} {off : Int} {tgt : Nat} (hd : decode mt.2.1 pc = .ok (.ifnonnull off, 3)) (ht : (pc : Int) + off = (tgt : Int)) (kk : Gw l mt R X tgt L S M k n Z) : Gw l mt R X pc L (.ref a :: S) M k n Z := fun ok H locs ls hl hP hD hS => lv_ifnonnull ok.1 ok.2.1 hd ht (kk ok H locs ls hl hP hD hS)
/-- fewer locals are known -/
theorem r_L (hL : ∀ (i : Nat) (v : Value), L'[i]? = some (some v) → L[i]? = some (some v)) (kk : Gw l mt R X pc L' S M k n Z) : Gw l mt R X pc L S M k n Z := fun ok H locs ls hl hP hD hS => kk ok H locs ls ⟨hl.1, hl.2.1, fun i v h => hl.2.2 i v (hL i v h)⟩ hP hD hS
theorem r_widen {k' n' : Nat} (h1 : k ≤ k') (h2 : n ≤ n') (kk : Gw l mt R X pc L S M k' n' Z) : Gw l mt R X pc L S M k n Z := fun ok H locs ls hl hP hD hS => W.widen h1 h2 (kk ok H locs ls hl hP hD hS)
end RULES
