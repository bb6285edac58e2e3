/-! String.substring: the cells that it makes (a String, its bytes) -/
theorem g_abS : g_aty 101 .byte .byte 1 (fun N => (N, .inl (fun _ => 0))) := ⟨rfl, fun _ => rfl, fun _ _ => rfl, fun cA ad M N => by rw [g_cell_i (k := 101) (n := N) (by simp [g_nw]) (by omega)]; simp [g_nw], g_in3 189 (by decide +kernel) rfl, by decide, fun _ h => by cases h⟩
theorem mkJ0 : g_mk RJ1 1 0 4 := ⟨RJ0, TJ0, tyJ0, rfl, by decide, inG_0, tyJ0_ok, by decide, g_in7 1 (by decide +kernel) rfl, g_in7 2 (by decide +kernel) rfl, g_in1 13 (by decide +kernel) rfl⟩
theorem fTJ0_0 : g_fw 0 0 true (.array .byte) := by
  intro C T N h
  cases h
  exact ⟨rfl, by decide, ⟨tyJ0, tyJ0_ok⟩, nmJ0⟩
theorem fTJ0_1 : g_fw 0 1 true .byte := by
  intro C T N h
  cases h
  exact ⟨rfl, by decide, ⟨tyJ0, tyJ0_ok⟩, nmJ0⟩
theorem giJ0_init : g_mi mJ0_init_031fb 2 := ⟨gmJ0_init_031fb.1, gmJ0_init_031fb.2.1, gmJ0_init_031fb.2.2.1, gmJ0_init_031fb.2.2.2, rfl, rfl⟩
theorem olJ0 : Cond.methodLink RJ0 1 Lib.objectInit ∈ g_TB := g_in7 24 (by decide +kernel) rfl
/-- contracts that make cells, without int rows of rows -/
def CtB (l : Launch) (mt : gMt) (d mc ms : Nat) (vs : List Value) (M : gMem) (Q : Option Value → gMem → Prop) : Prop := ∀ E : gEnv, (∀ a ∈ E.2.2.2.2.1, 1000 ≤ a) → Met l mt.1 (g_tb mt) (g_rm d mc ms) (g_Pc E vs M) (g_QcA E M.1 Q) mc ms E.2.2.2.1
theorem CtB.of {l : Launch} {mt : gMt} {d mc ms : Nat} {vs : List Value} {M : gMem} {Q : Option Value → gMem → Prop} (hy : plainName mt.1.cls = true) (hn : (g_ent vs).length ≤ mt.2.2.1) (body : ∀ X : gX, g_ssOk X → Gw l mt (g_rm d mc ms) X 0 (g_ent vs) [] M 0 0 (g_ZA X M.1 Q mc ms)) : CtB l mt d mc ms vs M Q := by
  intro E hss
  refine Met.ofW (cc := mt.2.1) (maxL := mt.2.2.1) (ret := mt.2.2.2) hy rfl ?_
  intro p e s m args below meth c s₁ B hml hv
  obtain ⟨rfl, hP, hD, hK, hC⟩ := hv
  have hle : (lg_sl (vs.map (g_v E.2.2.1))).length ≤ mt.2.2.1 := by rw [g_sl_len]; exact hn
  have hl := lv_entry (vs.map (g_v E.2.2.1)) hle
  rw [lg_entry_eq]
  refine body (p, e, s, m, _, below, meth, c, E) hss ⟨B.exec, B.bytes, hml, findClass_of_methodNamed B.named, fun w hw => atoms_spec (ws := g_tb mt) B.pre w (List.mem_cons_of_mem _ hw), B.notSynchronized, B.returns, (name_of_methodNamed B.named B.method).1, hK, hC⟩ s.heap [] _ ⟨hl.1, hl.2.1, fun i v h => ?_⟩ hP hD va_S.rf
  have h2 := hl.2.2 _ (g_ent_args E.2.2.1 vs 0 i v h)
  rw [Nat.zero_add] at h2
  exact h2
def g_cpB (M : gMem) (a : Nat) (f : Nat → Int32) : gMem := (M.1, M.2.1, M.2.2.1, fun x => if x = a then f else M.2.2.2.1 x, M.2.2.2.2)
theorem g_cell_cpB {cA : Nat → ClassId} {ad : Nat → Nat} {M : gMem} {a q : Nat} {f : Nat → Int32} (h : q ≠ a) : g_cell cA ad (g_cpB M a f) q = g_cell cA ad M q := by
  have e0 : (g_cpB M a f).2.2.2.1 q = M.2.2.2.1 q := by simp [g_cpB, h]
  have e1 : g_fv ad (g_cpB M a f) q = g_fv ad M q := by funext kq j; simp only [g_fv, e0]; rfl
  unfold g_cell
  rw [e0, e1]
  rfl
section SUB
variable {l : Launch} {mt mt' : gMt} {R : Room} {X : gX} {pc : Nat} {L L' : List (Option Value)} {S S0 : List Value} {M : gMem} {k n mc ms : Nat} {Z : State → Prop} {Q : Option Value → gMem → Prop}
theorem r_aretA {ad' : Nat → Nat} {n0 a : Nat} {rt : FieldType} (hd : decode mt.2.1 pc = .ok (.areturn, 1)) (hr : mt.2.2.2 = some rt) (hrt : (∃ n, rt = .object n) ∨ ∃ t, rt = .array t) (h1 : k ≤ mc) (h2 : n ≤ ms) (hag : ∀ a, a < n0 ∨ 500 ≤ a → ad' a = g_ad X a) (hQ : Q (some (.ref a)) M) : Gw l mt R (g_xa X ad') pc L [.ref a] M k n (g_ZA X n0 Q mc ms) := by
  refine r_widen h1 h2 ?_
  intro ok H locs ls hl hP hD hS
  exact W.aret (v := .ref (ad' a)) ok.1 ok.2.1 (ok.2.2.2.2.2.2.1.trans hr) hrt (Or.inr ⟨_, rfl⟩) (fun t ht hW => ⟨⟨ad', some (.ref a), M, hag, rfl, hQ, by rw [ht]; exact hP, hD⟩, hS.F ht⟩) hS.2.2 hd ok.2.2.2.2.2.1
theorem r_callSA {idx na d' mc' ms' : Nat} {vs : List Value} {Q' : Option Value → gMem → Prop} (hC : CtB l mt' d' mc' ms' vs M Q') (hm : g_ms mt' na) (hk : Cond.methodLink mt.1.cls idx mt'.1 ∈ g_TB) (hd : decode mt.2.1 pc = .ok (.invokestatic idx, 3)) (hn : vs.length = na) (hnn : M.1 ≤ 500) (hss : g_ssOk X) (hL : L.all (fun o => o.all (g_old M.1)) = true) (hSo : S0.all (g_old M.1) = true) (hSe : S = vs.reverse ++ S0) (hR : d' + 1 ≤ R.frames ∧ 8 + (mt'.2.2.1 + 11) + 40 * d' ≤ R.locals) (hw : (S0.map fun v => v.category).sum ≤ 8) (hf : k + mc' ≤ R.cells ∧ n + ms' ≤ R.slots)
    (kk : ∀ ad' v M', (∀ a, a < M.1 ∨ 500 ≤ a → ad' a = g_ad X a) → Q' v M' → Gw l mt R (g_xa X ad') (pc + 3) L (v.toList ++ S0) M' (k + mc') (n + ms') Z) : Gw l mt R X pc L S M k n Z := by
  intro ok H locs ls hl hP hD hS
  have hG : GoodIn g_TB (va_wsS mt.1.cls idx mt'.1 (g_tb mt')) := by
    intro w hw
    rcases List.mem_append.mp hw with h | h
    · simp at h
      rcases h with rfl | rfl | rfl
      · exact g_gd hk
      · exact g_gd hm.1
      · exact g_gd hm.2.1
    · exact g_goodT hm.2.2.1 w h
  exact g_backA hnn hss hL hSo ok hl hS (va_runS (nL := mt.2.2.1) (As := vs.map (g_v (g_ad X))) (rest := S0.map (g_v (g_ad X))) ⟨ok.1, ok.2.1, ok.2.2.1, ok.2.2.2.1, ok.2.2.2.2.1⟩ (hC (g_E X) hss) (va_cwS na ok.2.2.2.2.1 hG rfl rfl rfl hm.2.2.2 hR) ⟨g_Pc_blind _ _ _, g_pre ok hP hD hS⟩ rfl (by simpa using hn) hl.1 (by rw [hSe]; simp) (g_room hw) hd hf) kk
theorem r_callIB {idx na d' mc' ms' a : Nat} {vs : List Value} {Q' : Option Value → gMem → Prop} (hC : CtB l mt' d' mc' ms' (.ref a :: vs) M Q') (hm : g_mi mt' na) (hk : Cond.methodLink mt.1.cls idx mt'.1 ∈ g_TB) (hd : decode mt.2.1 pc = .ok (.invokespecial idx, 3)) (hn : vs.length = na) (hnn : M.1 ≤ 500) (hss : g_ssOk X) (hL : L.all (fun o => o.all (g_old M.1)) = true) (hSo : S0.all (g_old M.1) = true) (hSe : S = vs.reverse ++ .ref a :: S0) (hR : d' + 1 ≤ R.frames ∧ 8 + (mt'.2.2.1 + 11) + 40 * d' ≤ R.locals) (hw : (S0.map fun v => v.category).sum ≤ 8) (hf : k + mc' ≤ R.cells ∧ n + ms' ≤ R.slots)
    (kk : ∀ ad' v M', (∀ a, a < M.1 ∨ 500 ≤ a → ad' a = g_ad X a) → Q' v M' → Gw l mt R (g_xa X ad') (pc + 3) L (v.toList ++ S0) M' (k + mc') (n + ms') Z) : Gw l mt R X pc L S M k n Z := by
  intro ok H locs ls hl hP hD hS
  obtain ⟨m1, m2, m3, m4, m5, m6⟩ := hm
  have hc := g_goodT m3
  refine g_backA hnn hss hL hSo ok hl hS (va_runI (nL := mt.2.2.1) (b := g_ad X a) (As := vs.map (g_v (g_ad X))) (rest := S0.map (g_v (g_ad X))) ⟨ok.1, ok.2.1, ok.2.2.1, ok.2.2.2.1, ok.2.2.2.2.1⟩ (hC (g_E X) hss) (cwI na ok.2.2.2.2.1 hc (by rw [← m6]) rfl rfl (ok.2.2.2.2.1 _ m2) (ok.2.2.2.2.1 _ hk) (ok.2.2.2.2.1 _ m1) m5 m4 hR) ⟨g_Pc_blind _ _ _, g_pre (vs := .ref a :: vs) ok hP hD hS⟩ rfl (by simpa using hn) hl.1 (by rw [hSe]; simp [g_v]) (g_room hw) hd hf) kk
theorem r_callVB {idx na d' mc' ms' a : Nat} {vs : List Value} {Q' : Option Value → gMem → Prop} (hC : CtB l mt' d' mc' ms' (.ref a :: vs) M Q') (hm : g_mv mt' na) (hsel : Cond.selects mt'.1.cls mt'.1 mt'.1 ∈ g_TB) (hk : Cond.methodLink mt.1.cls idx mt'.1 ∈ g_TB) (hd : decode mt.2.1 pc = .ok (.invokevirtual idx, 3)) (hn : vs.length = na) (ha : a ∈ g_cs) (hci : mt'.1.cls = "java/lang/String") (hnn : M.1 ≤ 500) (hss : g_ssOk X) (hL : L.all (fun o => o.all (g_old M.1)) = true) (hSo : S0.all (g_old M.1) = true) (hSe : S = vs.reverse ++ .ref a :: S0) (hR : d' + 1 ≤ R.frames ∧ 8 + (mt'.2.2.1 + 11) + 40 * d' ≤ R.locals) (hw : (S0.map fun v => v.category).sum ≤ 8) (hf : k + mc' ≤ R.cells ∧ n + ms' ≤ R.slots)
    (kk : ∀ ad' v M', (∀ a, a < M.1 ∨ 500 ≤ a → ad' a = g_ad X a) → Q' v M' → Gw l mt R (g_xa X ad') (pc + 3) L (v.toList ++ S0) M' (k + mc') (n + ms') Z) : Gw l mt R X pc L S M k n Z := by
  intro ok H locs ls hl hP hD hS
  have hG : GoodIn g_TB (wsV mt.1.cls idx mt'.1.cls mt'.1 (g_tb mt')) := by
    intro w hw
    rcases List.mem_append.mp hw with h | h
    · simp at h
      rcases h with rfl | rfl | rfl | rfl
      · exact g_gd hk
      · exact g_gd hm.1
      · exact g_gd hsel
      · exact g_gd hm.2.1
    · exact g_goodT hm.2.2.1 w h
  obtain ⟨cell, q1, q2, q3, -⟩ := (ok.2.2.2.2.2.2.2.2.2.2.2.1 a (g_known ok (Or.inl ha))).1.kept hS.2.1
  have hrec : ∃ cellB : Cell, H[g_ad X a]? = some cellB ∧ cellB.vm.isStatics = false ∧ (g_s X).vm.findClass mt'.1.cls = some cellB.cls := ⟨cell, q1, q2, by rw [hci]; exact q3⟩
  exact g_backA hnn hss hL hSo ok hl hS (va_runV (nL := mt.2.2.1) (As := vs.map (g_v (g_ad X))) (rest := S0.map (g_v (g_ad X))) ⟨ok.1, ok.2.1, ok.2.2.1, ok.2.2.2.1, ok.2.2.2.2.1⟩ (hC (g_E X) hss) (cwV na ok.2.2.2.2.1 hG rfl rfl rfl ⟨rfl, hm.2.2.2⟩ hR) ⟨g_Pc_blind _ _ _, hrec, g_pre (vs := .ref a :: vs) ok hP hD hS⟩ rfl (by simpa using hn) hl.1 (by rw [hSe]; simp [g_v]) (g_room hw) hd hf) kk
theorem r_putFI {idx ci j a nf : Nat} {x : Int32} {ty : FieldType} (hd : decode mt.2.1 pc = .ok (.putfield idx, 3)) (hf : g_fl mt.1.cls idx ci j) (hw : g_fw ci j true ty) (hn1 : narrow ty (.int x) = .int x) (hn2 : fits ty (.int x) = true) (hin2 : mt.1.name = "<init>") (hcls : (g_cl[ci]?).map (fun q => q.1) = some mt.1.cls) (ha : a < M.1) (hs : M.2.1 a = (ci, nf)) (hnf : (g_cl[ci]?).map (fun q => q.2.2) = some nf) (hr : g_fr ci j = false)
    (kk : Gw l mt R X (pc + 3) L S (g_si M a j x) k n Z) : Gw l mt R X pc L (.int x :: .ref a :: S) M k n Z :=
  g_putFf (M' := g_si M a j x) hd hf hw hin2 hcls ha hs hnf hn1 hn2 rfl rfl (fun q h => g_cell_si h) (by simp [g_fv, hr, g_si, g_up, g_v]) (fun i h => by simp [g_fv, g_si, g_up_i _ _ _ h]) kk
/-- bytes of a known String into a row that is being made -/
theorem r_cpT {idx a dst n1 : Nat} {sp m : Int32} (hd : decode mt.2.1 pc = .ok (.invokestatic idx, 3)) (hk : Cond.methodLink mt.1.cls idx arraycopyName ∈ g_TB) (hR : 1 ≤ R.frames ∧ (S.map fun v => v.category).sum + 32 ≤ R.locals) (ha : a ∈ g_cs) (ha1 : dst < M.1) (hs1 : M.2.1 dst = (101, n1)) (h1 : ¬ sp < 0) (h3 : ¬ m < 0) (h4 : ix sp + ix m ≤ (g_sb a).length) (h5 : 0 + ix m ≤ n1) (hfit : ∀ i : Nat, i < ix m → fits .byte (.int ((g_sb a).getD (ix sp + i) 0)) = true)
    (kk : Gw l mt R X (pc + 3) L S (g_cpB M dst (va_cpy (fun j => (g_sb a).getD j 0) (M.2.2.2.1 dst) (ix sp) 0 (ix m))) k n Z) : Gw l mt R X pc L (.int m :: .int 0 :: .ref dst :: .int sp :: .ref (a + 1000) :: S) M k n Z := by
  intro ok H locs ls hl hP hD hS
  have he1 := g_ws_at (M := M) (cA := g_cA X) (ad := g_ad X) ha1
  rw [g_cell_i hs1 (by omega)] at he1
  refine vk_copyt (dp := 0) ok.1 ok.2.1 (ok.2.2.1.trans hl.1.symm) ok.2.2.2.1 (ok.2.2.2.2.1 _ hk) (ok.2.2.2.2.1 _ kA2) (ok.2.2.2.2.1 _ kA1) (ok.2.2.2.2.1 _ kA3) ok.2.2.2.2.2.2.2.2.1 hP hD hS (ok.2.2.2.2.2.2.2.2.2.2.2.1 a (g_known ok (Or.inl ha))).2.2.2 dst 1 he1 rfl h1 (by decide) h3 h4 h5 hfit hR.1 (by
    rw [g_cats]
    have : nativeFrameWords "java/lang/System" "arraycopy" 5 + 11 ≤ 32 := by decide
    omega) hd (fun H1 locs1 q1 q2 q3 => ?_)
  have e : (g_ws (g_cA X) (g_ad X) M).set dst (g_ad X dst, .inl (g_cA X 101, n1, .inl (va_cpy (fun j => (g_sb a).getD j 0) (M.2.2.2.1 dst) (ix sp) 0 (ix m)))) = g_ws (g_cA X) (g_ad X) (g_cpB M dst (va_cpy (fun j => (g_sb a).getD j 0) (M.2.2.2.1 dst) (ix sp) 0 (ix m))) := by
    refine g_ws_set rfl ?_ (fun q h => g_cell_cpB h)
    rw [g_cell_i (M := g_cpB M dst _) hs1 (by omega)]
    simp [g_cpB]
  have e0 : ((0 : Int32).toNatClampNeg) = 0 := rfl
  rw [e0] at q1 q2
  rw [e] at q1 q2
  exact kk ok H1 locs1 ls hl q1 q2 q3
end SUB
theorem g_old_lt {n a : Nat} (h : a < n) : g_old n (.ref a) = true := by simp [g_old, h]
theorem g_old_ge {n a : Nat} (h : 500 ≤ a) : g_old n (.ref a) = true := by simp [g_old, h]
section SUBC
variable {l : Launch} {M : gMem} {Q : Option Value → gMem → Prop} {a : Nat}
theorem c_cft {f t m : Int32} {v : Value} (hv : v = .null ∨ v = .ref 960) (h0 : ¬ f < 0) (h1 : ¬ t < f) (h2 : t ≤ m) (hQ : Q (some (.int f)) M) : Ct l mJ3_checkFromToIndex_8c36e 1 0 0 [.int f, .int t, .int m, v] M Q := by
  rcases hv with rfl | rfl <;>
  · refine Ct.of (by decide) (Nat.le_of_ble_eq_true rfl) (fun X => ?_)
    refine n_L (L' := [some (.int f), some (.int t), some (.int m), none]) (le_s (le_s (le_s (le_n le_e)))) ?_
    refine r_iload_n (pc := 0) (x := f) dJ3_checkFromToIndex_8c36e_0 rfl ?_
    refine r_if_lt (pc := 1) (tgt := 14) dJ3_checkFromToIndex_8c36e_1 (by decide) (fun c => absurd c h0) (fun c => ?_)
    refine r_iload_n (pc := 4) (x := f) dJ3_checkFromToIndex_8c36e_4 rfl ?_
    refine r_iload_n (pc := 5) (x := t) dJ3_checkFromToIndex_8c36e_5 rfl ?_
    refine r_icmp_gt (pc := 6) (tgt := 14) dJ3_checkFromToIndex_8c36e_6 (by decide) (fun c => absurd c h1) (fun c => ?_)
    refine r_iload_n (pc := 9) (x := t) dJ3_checkFromToIndex_8c36e_9 rfl ?_
    refine r_iload_n (pc := 10) (x := m) dJ3_checkFromToIndex_8c36e_10 rfl ?_
    refine r_icmp_le (pc := 11) (tgt := 22) dJ3_checkFromToIndex_8c36e_11 (by decide) (fun c => ?_) (fun c => absurd h2 c)
    refine r_iload_n (pc := 22) (x := f) dJ3_checkFromToIndex_8c36e_22 rfl ?_
    exact r_iret (pc := 23) dJ3_checkFromToIndex_8c36e_23 rfl (Nat.le_refl _) (Nat.le_refl _) hQ
theorem c_cbe {f t m : Int32} (h0 : ¬ f < 0) (h1 : ¬ t < f) (h2 : t ≤ m) (hQ : Q none M) : Ct l mJ0_checkBoundsBeginEnd_23922 2 0 0 [.int f, .int t, .int m] M Q := by
  refine Ct.of (by decide) (Nat.le_of_ble_eq_true rfl) (fun X => ?_)
  refine n_L (L' := [some (.int f), some (.int t), some (.int m)]) (le_s (le_s (le_s le_e))) ?_
  refine r_iload_n (pc := 0) (x := f) dJ0_checkBoundsBeginEnd_23922_0 rfl ?_
  refine r_iload_n (pc := 1) (x := t) dJ0_checkBoundsBeginEnd_23922_1 rfl ?_
  refine r_iload_n (pc := 2) (x := m) dJ0_checkBoundsBeginEnd_23922_2 rfl ?_
  refine r_fmt (pc := 3) dJ0_checkBoundsBeginEnd_23922_3 rfl (fun v hv => ?_)
  refine r_callS (pc := 6) (S0 := []) (Q' := fun v M' => v = some (.int f) ∧ M' = M) (c_cft hv h0 h1 h2 ⟨rfl, rfl⟩) gmJ3_checkFromToIndex_8c36e lk_RJ0_1062 dJ0_checkBoundsBeginEnd_23922_6 rfl rfl ⟨Nat.le_of_ble_eq_true rfl, Nat.le_of_ble_eq_true rfl⟩ (Nat.le_of_ble_eq_true rfl) ⟨Nat.zero_le _, Nat.zero_le _⟩ (fun v M' h => ?_)
  obtain ⟨rfl, e9⟩ := h
  rw [e9]
  refine r_pop (pc := 9) dJ0_checkBoundsBeginEnd_23922_9 rfl ?_
  exact r_vret (pc := 10) dJ0_checkBoundsBeginEnd_23922_10 rfl (Nat.le_refl _) (Nat.le_refl _) hQ
theorem c_ckl {f t : Int32} (h1 : f ≤ t) (hQ : Q none M) : Ct l mJ7_checkLength_df160 1 0 0 [.int f, .int t] M Q := by
  refine Ct.of (by decide) (Nat.le_of_ble_eq_true rfl) (fun X => ?_)
  refine n_L (L' := [some (.int f), some (.int t)]) (le_s (le_s le_e)) ?_
  refine r_iload_n (pc := 0) (x := t) dJ7_checkLength_df160_0 rfl ?_
  refine r_iload_n (pc := 1) (x := f) dJ7_checkLength_df160_1 rfl ?_
  refine r_icmp_ge (pc := 2) (tgt := 37) dJ7_checkLength_df160_2 (by decide) (fun c => ?_) (fun c => absurd h1 c)
  exact r_vret (pc := 37) dJ7_checkLength_df160_37 rfl (Nat.le_refl _) (Nat.le_refl _) hQ
/-- what is asked of a piece of three signs -/
def sb3 (a : Nat) (f t : Int32) : Prop := a ∈ g_cs ∧ ¬ f < 0 ∧ ¬ t < f ∧ f ≤ t ∧ t ≤ sl a ∧ t - f = 3 ∧ f + 3 = t ∧ jmin (sl a - f) 3 = 3 ∧ ix f + 3 ≤ (g_sb a).length ∧ (∀ i, i < 3 → fits .byte (.int ((g_sb a).getD (ix f + i) 0)) = true) ∧ (f = 0 → ¬ t = sl a)
def sbM (M : gMem) (a : Nat) (f : Int32) : gMem := g_cpB (g_nw M 101 3) M.1 (va_cpy (fun j => (g_sb a).getD j 0) ((g_nw M 101 3).2.2.2.1 M.1) (ix f) 0 (ix 3))
theorem c_crb {f t : Int32} (h : sb3 a f t) (hn : M.1 < 499) (hb : g_bd M) (hQ : Q (some (.ref M.1)) (sbM M a f)) : CtB l mJ7_copyOfRangeByte_39247 2 1 3 [.ref (a + 1000), .int f, .int t] M Q := by
  obtain ⟨h1, h2, h3, h4, h5, h6, h7, h8, h9, h10, h11⟩ := h
  have ha0 : a + 1000 ≥ 500 := by omega
  refine CtB.of (by decide) (Nat.le_of_ble_eq_true rfl) (fun X hss => ?_)
  refine n_L (L' := [some (.ref (a + 1000)), some (.int f), some (.int t), none, none]) (le_s (le_s (le_s (le_p (le_p le_e))))) ?_
  refine r_iload_n (pc := 0) (x := f) dJ7_copyOfRangeByte_39247_0 rfl ?_
  refine r_iload_n (pc := 1) (x := t) dJ7_copyOfRangeByte_39247_1 rfl ?_
  refine r_callS (pc := 2) (S0 := []) (Q' := fun v M' => v = none ∧ M' = M) (c_ckl h4 ⟨rfl, rfl⟩) gmJ7_checkLength_df160 lk_RJ7_343 dJ7_copyOfRangeByte_39247_2 rfl rfl ⟨Nat.le_of_ble_eq_true rfl, Nat.le_of_ble_eq_true rfl⟩ (Nat.le_of_ble_eq_true rfl) ⟨Nat.zero_le _, Nat.zero_le _⟩ (fun v M' h => ?_)
  obtain ⟨rfl, e9⟩ := h
  rw [e9]
  refine r_iload_n (pc := 5) (x := t) dJ7_copyOfRangeByte_39247_5 rfl ?_
  refine r_iload_n (pc := 6) (x := f) dJ7_copyOfRangeByte_39247_6 rfl ?_
  refine r_isub (pc := 7) dJ7_copyOfRangeByte_39247_7 ?_
  rw [h6]
  refine r_istore_n (pc := 8) (L' := [some (.ref (a + 1000)), some (.int f), some (.int t), some (.int 3), none]) dJ7_copyOfRangeByte_39247_8 rfl (by decide) rfl ?_
  refine r_iload_n (pc := 9) (x := 3) dJ7_copyOfRangeByte_39247_9 rfl ?_
  refine r_newa (pc := 10) (N := 3) dJ7_copyOfRangeByte_39247_10 g_abS (by decide) (by decide) (by decide) (by omega) hb hss (by simp [g_old]) rfl ⟨Nat.le_of_ble_eq_true rfl, Nat.le_of_ble_eq_true rfl⟩ (fun ad1 hg1 => ?_)
  refine r_astore (pc := 12) (L' := [some (.ref (a + 1000)), some (.int f), some (.int t), some (.int 3), some (.ref M.1)]) dJ7_copyOfRangeByte_39247_12 rfl (by decide) rfl ?_
  refine r_aload_n (pc := 14) (x := a + 1000) dJ7_copyOfRangeByte_39247_14 rfl ?_
  refine r_iload_n (pc := 15) (x := f) dJ7_copyOfRangeByte_39247_15 rfl ?_
  refine r_aload (pc := 16) (x := M.1) dJ7_copyOfRangeByte_39247_16 rfl ?_
  refine r_iconst (pc := 18) (v := 0) dJ7_copyOfRangeByte_39247_18 (by decide) ?_
  refine r_aload_n (pc := 19) (x := a + 1000) dJ7_copyOfRangeByte_39247_19 rfl ?_
  intro ok
  have hka := g_known ok (Or.inl h1)
  revert ok
  refine r_salen (pc := 20) dJ7_copyOfRangeByte_39247_20 hka ?_
  refine r_iload_n (pc := 21) (x := f) dJ7_copyOfRangeByte_39247_21 rfl ?_
  refine r_isub (pc := 22) dJ7_copyOfRangeByte_39247_22 ?_
  refine r_iload_n (pc := 23) (x := 3) dJ7_copyOfRangeByte_39247_23 rfl ?_
  refine n_min (pc := 24) dJ7_copyOfRangeByte_39247_24 lk_RJ7_304 ⟨Nat.le_of_ble_eq_true rfl, Nat.le_of_ble_eq_true rfl⟩ ⟨Nat.le_of_ble_eq_true rfl, Nat.le_of_ble_eq_true rfl⟩ ?_
  rw [h8]
  refine r_cpT (pc := 27) (M := g_nw M 101 3) (n1 := 3) dJ7_copyOfRangeByte_39247_27 lk_RJ7_150 ⟨Nat.le_of_ble_eq_true rfl, Nat.le_of_ble_eq_true rfl⟩ h1 (Nat.lt_succ_self M.1) (by simp [g_nw]) h2 (by decide) h9 (by decide) h10 ?_
  refine r_aload (pc := 30) (x := M.1) dJ7_copyOfRangeByte_39247_30 rfl ?_
  exact r_aretA (pc := 32) dJ7_copyOfRangeByte_39247_32 rfl (Or.inr ⟨_, rfl⟩) (Nat.le_of_ble_eq_true rfl) (Nat.le_of_ble_eq_true rfl) hg1 hQ
theorem c_cor {f t : Int32} (h : sb3 a f t) (hn : M.1 < 499) (hb : g_bd M) (hQ : Q (some (.ref M.1)) (sbM M a f)) : CtB l mJ7_copyOfRange_39247 3 1 3 [.ref (a + 1000), .int f, .int t] M Q := by
  have h0 := h
  obtain ⟨h1, h2, h3, h4, h5, h6, h7, h8, h9, h10, h11⟩ := h
  refine CtB.of (by decide) (Nat.le_of_ble_eq_true rfl) (fun X hss => ?_)
  refine n_L (L' := [some (.ref (a + 1000)), some (.int f), some (.int t)]) (le_s (le_s (le_s le_e))) ?_
  have hcall : Gw l mJ7_copyOfRange_39247 (g_rm 3 1 3) X 10 [some (.ref (a + 1000)), some (.int f), some (.int t)] [] M 0 0 (g_ZA X M.1 Q 1 3) := by
    refine r_aload_n (pc := 10) (x := a + 1000) dJ7_copyOfRange_39247_10 rfl ?_
    refine r_iload_n (pc := 11) (x := f) dJ7_copyOfRange_39247_11 rfl ?_
    refine r_iload_n (pc := 12) (x := t) dJ7_copyOfRange_39247_12 rfl ?_
    refine r_callSA (pc := 13) (S0 := []) (Q' := fun v M' => v = some (.ref M.1) ∧ M' = sbM M a f) (c_crb h0 hn hb ⟨rfl, rfl⟩) gmJ7_copyOfRangeByte_39247 lk_RJ7_339 dJ7_copyOfRange_39247_13 rfl (by omega) hss (by simp [g_old]) rfl rfl ⟨Nat.le_of_ble_eq_true rfl, Nat.le_of_ble_eq_true rfl⟩ (Nat.le_of_ble_eq_true rfl) ⟨Nat.le_of_ble_eq_true rfl, Nat.le_of_ble_eq_true rfl⟩ (fun ad1 v M' hg1 hq => ?_)
    obtain ⟨rfl, e9⟩ := hq
    rw [e9]
    exact r_aretA (pc := 16) dJ7_copyOfRange_39247_16 rfl (Or.inr ⟨_, rfl⟩) (Nat.le_of_ble_eq_true rfl) (Nat.le_of_ble_eq_true rfl) hg1 hQ
  refine r_iload_n (pc := 0) (x := f) dJ7_copyOfRange_39247_0 rfl ?_
  refine r_if_ne (pc := 1) (tgt := 10) dJ7_copyOfRange_39247_1 (by decide) (fun c => hcall) (fun c => ?_)
  refine r_iload_n (pc := 4) (x := t) dJ7_copyOfRange_39247_4 rfl ?_
  refine r_aload_n (pc := 5) (x := a + 1000) dJ7_copyOfRange_39247_5 rfl ?_
  intro ok
  have hka := g_known ok (Or.inl h1)
  revert ok
  refine r_salen (pc := 6) dJ7_copyOfRange_39247_6 hka ?_
  refine r_icmp_eq (pc := 7) (tgt := 17) dJ7_copyOfRange_39247_7 (by decide) (fun c2 => absurd c2 (h11 c)) (fun _ => hcall)
theorem c_sin {o b : Nat} (ho : o < M.1) (hs : M.2.1 o = (0, 4)) (hQ : Q none (g_si (g_sr M o 0 (some b)) o 1 0)) : CtB l mJ0_init_031fb 1 0 0 [.ref o, .ref b, .int 0] M Q := by
  refine CtB.of (by decide) (Nat.le_of_ble_eq_true rfl) (fun X hss => ?_)
  refine n_L (L' := [some (.ref o), some (.ref b), some (.int 0)]) (le_s (le_s (le_s le_e))) ?_
  refine r_aload_n (pc := 0) (x := o) dJ0_init_031fb_0 rfl ?_
  refine r_objI (pc := 1) dJ0_init_031fb_1 olJ0 ⟨Nat.le_of_ble_eq_true rfl, Nat.le_of_ble_eq_true rfl⟩ ?_
  refine r_aload_n (pc := 4) (x := o) dJ0_init_031fb_4 rfl ?_
  refine r_aload_n (pc := 5) (x := b) dJ0_init_031fb_5 rfl ?_
  refine r_putFR (pc := 6) (nf := 4) dJ0_init_031fb_6 fl_RJ0_9 fTJ0_0 (Or.inr ⟨_, rfl⟩) rfl rfl ho hs rfl rfl ?_
  refine r_aload_n (pc := 9) (x := o) dJ0_init_031fb_9 rfl ?_
  refine r_iload_n (pc := 10) (x := 0) dJ0_init_031fb_10 rfl ?_
  refine r_putFI (pc := 11) (nf := 4) dJ0_init_031fb_11 fl_RJ0_15 fTJ0_1 rfl rfl rfl rfl ho hs rfl rfl ?_
  exact r_vretA (ad' := g_ad X) (pc := 14) dJ0_init_031fb_14 rfl (Nat.le_refl _) (Nat.le_refl _) (fun _ _ => rfl) hQ
def sbS (M : gMem) (a : Nat) (f : Int32) : gMem := g_si (g_sr (sbM (g_nw M 0 4) a f) M.1 0 (some (M.1 + 1))) M.1 1 0
theorem c_nst {f t : Int32} (h : sb3 a f t) (hn : M.1 < 498) (hb : g_bd M) (hQ : Q (some (.ref M.1)) (sbS M a f)) : CtB l mJ1_newString_b4f7a 4 2 7 [.ref (a + 1000), .int f, .int 3] M Q := by
  have h0 := h
  obtain ⟨h1, h2, h3, h4, h5, h6, h7, h8, h9, h10, h11⟩ := h
  refine CtB.of (by decide) (Nat.le_of_ble_eq_true rfl) (fun X hss => ?_)
  refine n_L (L' := [some (.ref (a + 1000)), some (.int f), some (.int 3)]) (le_s (le_s (le_s le_e))) ?_
  refine r_iload_n (pc := 0) (x := 3) dJ1_newString_b4f7a_0 rfl ?_
  refine r_if_ne (pc := 1) (tgt := 7) dJ1_newString_b4f7a_1 (by decide) (fun c => ?_) (fun c => absurd c (by decide))
  refine r_new (pc := 7) (ci := 0) (N := 4) dJ1_newString_b4f7a_7 mkJ0 (by omega) hb hss (by simp [g_old]) rfl ⟨Nat.le_of_ble_eq_true rfl, Nat.le_of_ble_eq_true rfl⟩ (fun ad1 hg1 => ?_)
  refine r_dup (pc := 10) dJ1_newString_b4f7a_10 rfl ?_
  refine r_aload_n (pc := 11) (x := a + 1000) dJ1_newString_b4f7a_11 rfl ?_
  refine r_iload_n (pc := 12) (x := f) dJ1_newString_b4f7a_12 rfl ?_
  refine r_iload_n (pc := 13) (x := f) dJ1_newString_b4f7a_13 rfl ?_
  refine r_iload_n (pc := 14) (x := 3) dJ1_newString_b4f7a_14 rfl ?_
  refine r_iadd (pc := 15) dJ1_newString_b4f7a_15 ?_
  rw [h7]
  refine r_callSA (pc := 16) (M := g_nw M 0 4) (S0 := [.ref M.1, .ref M.1]) (Q' := fun v M' => v = some (.ref (M.1 + 1)) ∧ M' = sbM (g_nw M 0 4) a f) (c_cor h0 (show M.1 + 1 < 499 by omega) (g_bd_nw hb) ⟨rfl, rfl⟩) gmJ7_copyOfRange_39247 lk_RJ1_232 dJ1_newString_b4f7a_16 rfl (show M.1 + 1 ≤ 500 by omega) hss (by simp [g_old, g_nw]) (by simp [g_old, g_nw]) rfl ⟨Nat.le_of_ble_eq_true rfl, Nat.le_of_ble_eq_true rfl⟩ (Nat.le_of_ble_eq_true rfl) ⟨Nat.le_of_ble_eq_true rfl, Nat.le_of_ble_eq_true rfl⟩ (fun ad2 v M' hg2 hq => ?_)
  obtain ⟨rfl, rfl⟩ := hq
  refine r_iconst (pc := 19) (v := 0) dJ1_newString_b4f7a_19 (by decide) ?_
  refine r_callIB (pc := 20) (M := sbM (g_nw M 0 4) a f) (S0 := [.ref M.1]) (vs := [.ref (M.1 + 1), .int 0]) (a := M.1) (Q' := fun v M' => v = none ∧ M' = sbS M a f) (c_sin (show M.1 < M.1 + 1 + 1 by omega) (by simp [sbM, g_cpB, g_nw]) ⟨rfl, rfl⟩) giJ0_init lk_RJ1_112 dJ1_newString_b4f7a_20 rfl (show M.1 + 1 + 1 ≤ 500 by omega) hss (by simp [g_old]) (by simp only [List.all_cons, List.all_nil, Bool.and_true]; exact g_old_lt (show M.1 < M.1 + 1 + 1 by omega)) rfl ⟨Nat.le_of_ble_eq_true rfl, Nat.le_of_ble_eq_true rfl⟩ (Nat.le_of_ble_eq_true rfl) ⟨Nat.le_of_ble_eq_true rfl, Nat.le_of_ble_eq_true rfl⟩ (fun ad3 v M' hg3 hq => ?_)
  obtain ⟨rfl, rfl⟩ := hq
  show Gw l mJ1_newString_b4f7a (g_rm 4 2 7) (g_xa X ad3) 23 _ [.ref M.1] (sbS M a f) _ _ (g_ZA X M.1 Q 2 7)
  refine r_aretA (pc := 23) dJ1_newString_b4f7a_23 rfl (Or.inl ⟨_, rfl⟩) (Nat.le_of_ble_eq_true rfl) (Nat.le_of_ble_eq_true rfl) (fun x hx => ?_) hQ
  have e3 := hg3 x (by rcases hx with h | h; exact Or.inl (show x < M.1 + 1 + 1 by omega); exact Or.inr h)
  have e2 := hg2 x (by rcases hx with h | h; exact Or.inl (show x < M.1 + 1 by omega); exact Or.inr h)
  exact e3.trans (e2.trans (hg1 x hx))
theorem c_sub {f t : Int32} (h : sb3 a f t) (hn : M.1 < 498) (hb : g_bd M) (hQ : Q (some (.ref M.1)) (sbS M a f)) : CtB l mJ0_substring_37a41 5 2 7 [.ref a, .int f, .int t] M Q := by
  have h0 := h
  obtain ⟨h1, h2, h3, h4, h5, h6, h7, h8, h9, h10, h11⟩ := h
  have ha5 : 500 ≤ a := by
    obtain ⟨i, -, rfl⟩ := List.mem_map.mp h1
    omega
  refine CtB.of (by decide) (Nat.le_of_ble_eq_true rfl) (fun X hss => ?_)
  refine n_L (L' := [some (.ref a), some (.int f), some (.int t), none, none]) (le_s (le_s (le_s (le_p (le_p le_e))))) ?_
  refine r_aload_n (pc := 0) (x := a) dJ0_substring_37a41_0 rfl ?_
  refine n_slen (pc := 1) dJ0_substring_37a41_1 lk_RJ0_505 ⟨Nat.le_of_ble_eq_true rfl, Nat.le_of_ble_eq_true rfl⟩ (Nat.le_of_ble_eq_true rfl) ⟨Nat.zero_le _, Nat.zero_le _⟩ (Or.inl h1) ?_
  refine r_istore_n (pc := 4) (L' := [some (.ref a), some (.int f), some (.int t), some (.int (sl a)), none]) dJ0_substring_37a41_4 rfl (by decide) rfl ?_
  refine r_iload_n (pc := 5) (x := f) dJ0_substring_37a41_5 rfl ?_
  refine r_iload_n (pc := 6) (x := t) dJ0_substring_37a41_6 rfl ?_
  refine r_iload_n (pc := 7) (x := sl a) dJ0_substring_37a41_7 rfl ?_
  refine r_callS (pc := 8) (S0 := []) (Q' := fun v M' => v = none ∧ M' = M) (c_cbe h2 h3 h5 ⟨rfl, rfl⟩) gmJ0_checkBoundsBeginEnd_23922 lk_RJ0_521 dJ0_substring_37a41_8 rfl rfl ⟨Nat.le_of_ble_eq_true rfl, Nat.le_of_ble_eq_true rfl⟩ (Nat.le_of_ble_eq_true rfl) ⟨Nat.zero_le _, Nat.zero_le _⟩ (fun v M' h => ?_)
  obtain ⟨rfl, e9⟩ := h
  rw [e9]
  have hgo : Gw l mJ0_substring_37a41 (g_rm 5 2 7) X 22 [some (.ref a), some (.int f), some (.int t), some (.int (sl a)), none] [] M 0 0 (g_ZA X M.1 Q 2 7) := by
    refine r_iload_n (pc := 22) (x := t) dJ0_substring_37a41_22 rfl ?_
    refine r_iload_n (pc := 23) (x := f) dJ0_substring_37a41_23 rfl ?_
    refine r_isub (pc := 24) dJ0_substring_37a41_24 ?_
    rw [h6]
    refine r_istore (pc := 25) (L' := [some (.ref a), some (.int f), some (.int t), some (.int (sl a)), some (.int 3)]) dJ0_substring_37a41_25 rfl (by decide) rfl ?_
    refine r_aload_n (pc := 27) (x := a) dJ0_substring_37a41_27 rfl ?_
    intro ok
    have hka := g_known ok (Or.inl h1)
    revert ok
    refine r_callVs (pc := 28) (S0 := []) (vs := []) (Q' := fun v M' => v = some (.int 1) ∧ M' = M) (c_isLat ⟨rfl, rfl⟩ (g_E X) hka) gmJ0_isLatin1_aae02 selJ0_isLatin1_aae02 lk_RJ0_492 dJ0_substring_37a41_28 rfl hka rfl rfl ⟨Nat.le_of_ble_eq_true rfl, Nat.le_of_ble_eq_true rfl⟩ (Nat.le_of_ble_eq_true rfl) ⟨Nat.zero_le _, Nat.zero_le _⟩ (fun v M' h => ?_)
    obtain ⟨rfl, e9⟩ := h
    rw [e9]
    refine r_if_eq (pc := 31) (tgt := 47) dJ0_substring_37a41_31 (by decide) (fun c => absurd c (by decide)) (fun _ => ?_)
    refine r_aload_n (pc := 34) (x := a) dJ0_substring_37a41_34 rfl ?_
    refine r_gval (pc := 35) dJ0_substring_37a41_35 rfl hka ?_
    refine r_iload_n (pc := 38) (x := f) dJ0_substring_37a41_38 rfl ?_
    refine r_iload (pc := 39) (x := 3) dJ0_substring_37a41_39 rfl ?_
    refine r_callSA (pc := 41) (S0 := []) (Q' := fun v M' => v = some (.ref M.1) ∧ M' = sbS M a f) (c_nst h0 hn hb ⟨rfl, rfl⟩) gmJ1_newString_b4f7a lk_RJ0_685 dJ0_substring_37a41_41 rfl (by omega) hss (by simp [g_old_ge ha5]; simp [g_old]) rfl rfl ⟨Nat.le_of_ble_eq_true rfl, Nat.le_of_ble_eq_true rfl⟩ (Nat.le_of_ble_eq_true rfl) ⟨Nat.le_of_ble_eq_true rfl, Nat.le_of_ble_eq_true rfl⟩ (fun ad1 v M' hg1 hq => ?_)
    obtain ⟨rfl, e9⟩ := hq
    rw [e9]
    refine r_goto (pc := 44) (tgt := 57) dJ0_substring_37a41_44 (by decide) ?_
    exact r_aretA (pc := 57) dJ0_substring_37a41_57 rfl (Or.inl ⟨_, rfl⟩) (Nat.le_of_ble_eq_true rfl) (Nat.le_of_ble_eq_true rfl) hg1 hQ
  refine r_iload_n (pc := 11) (x := f) dJ0_substring_37a41_11 rfl ?_
  refine r_if_ne (pc := 12) (tgt := 22) dJ0_substring_37a41_12 (by decide) (fun _ => hgo) (fun c => ?_)
  refine r_iload_n (pc := 15) (x := t) dJ0_substring_37a41_15 rfl ?_
  refine r_iload_n (pc := 16) (x := sl a) dJ0_substring_37a41_16 rfl ?_
  refine r_icmp_ne (pc := 17) (tgt := 22) dJ0_substring_37a41_17 (by decide) (fun _ => hgo) (fun c2 => absurd c2 (h11 c))
end SUBC
