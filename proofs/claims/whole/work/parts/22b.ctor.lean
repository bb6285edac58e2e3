/-! words of Object's constructor, of int arrays; no class names its own fields as a nest mate's -/
theorem kOI : Cond.instanceMethod Lib.objectInit ∈ g_TB := g_in1 32 (by decide +kernel) rfl
theorem kOC : Cond.code Lib.objectInit ⟨#[0xb1]⟩ 1 none ∈ g_TB := g_in1 33 (by decide +kernel) rfl
theorem kAI : Cond.arrayClass .int ∈ g_TB := g_in1 49 (by decide +kernel) rfl
def g_selfN : Cond → Bool
  | .fieldLinkNest own _ ref _ _ _ => own == ref
  | _ => false
theorem kNoNest0 : lw_tbl.all (fun w => !g_selfN w) = true := by decide +kernel
theorem kNoNest {own ref n d host : String} {idx : Nat} (h : own = ref) : ¬ Cond.fieldLinkNest own idx ref n d host ∈ g_NW := by
  intro hm
  have h1 := List.all_eq_true.mp kNoNest0 _ (List.mem_filter.mp hm).1
  simp [g_selfN, h] at h1
/-! constructors: contracts that make cells -/
def g_PcA (E : gEnv) (vs : List Value) (M : gMem) : Array Value → State → Prop := va_Pc (vs.map (g_v E.2.2.1)) (fun U => (va_P E.1 g_cl (g_ws E.2.1 E.2.2.1 M) U.heap ∧ va_D E.2.2.2.1 (g_ws E.2.1 E.2.2.1 M) ∧ va_K E.1 g_cl (g_tys E.2.1) U ∧ g_C E U U.heap) ∧ va_AOA .int U)
def g_QcA (E : gEnv) (n : Nat) (Q : Option Value → gMem → Prop) : Array Value → State → Outcome → State → Prop := fun _ st oc t => (∃ (ad' : Nat → Nat) (v : Option Value) (M' : gMem), (∀ a, a < n ∨ 500 ≤ a → ad' a = E.2.2.1 a) ∧ oc = .returned (v.map (g_v ad')) ∧ Q v M' ∧ va_P E.1 g_cl (g_ws E.2.1 ad' M') t.heap ∧ va_D E.2.2.2.1 (g_ws E.2.1 ad' M')) ∧ va_F E.2.2.2.1 st t
def CtA (l : Launch) (mt : gMt) (d mc ms : Nat) (vs : List Value) (M : gMem) (Q : Option Value → gMem → Prop) : Prop := ∀ E : gEnv, (∀ a ∈ E.2.2.2.2.1, 1000 ≤ a) → Met l mt.1 (g_tb mt) (g_rm d mc ms) (g_PcA E vs M) (g_QcA E M.1 Q) mc ms E.2.2.2.1
def g_ZA (X : gX) (n : Nat) (Q : Option Value → gMem → Prop) (mc ms : Nat) : State → Prop := MQ (g_below X) (g_QcA (g_E X) n Q) (g_args X) (g_s X) mc ms (g_A X)
theorem CtA.of {l : Launch} {mt : gMt} {d mc ms : Nat} {vs : List Value} {M : gMem} {Q : Option Value → gMem → Prop} (hy : plainName mt.1.cls = true) (hn : (g_ent vs).length ≤ mt.2.2.1) (body : ∀ X : gX, g_ssOk X → va_AOA .int (g_s X) → Gw l mt (g_rm d mc ms) X 0 (g_ent vs) [] M 0 0 (g_ZA X M.1 Q mc ms)) : CtA l mt d mc ms vs M Q := by
  intro E hss
  refine Met.ofW (cc := mt.2.1) (maxL := mt.2.2.1) (ret := mt.2.2.2) hy rfl ?_
  intro p e s m args below meth c s₁ B hml hv
  obtain ⟨rfl, ⟨hP, hD, hK, hC⟩, hAO⟩ := hv
  have hle : (lg_sl (vs.map (g_v E.2.2.1))).length ≤ mt.2.2.1 := by rw [g_sl_len]; exact hn
  have hl := lv_entry (vs.map (g_v E.2.2.1)) hle
  rw [lg_entry_eq]
  refine body (p, e, s, m, _, below, meth, c, E) hss hAO ⟨B.exec, B.bytes, hml, findClass_of_methodNamed B.named, fun w hw => atoms_spec (ws := g_tb mt) B.pre w (List.mem_cons_of_mem _ hw), B.notSynchronized, B.returns, (name_of_methodNamed B.named B.method).1, hK, hC⟩ s.heap [] _ ⟨hl.1, hl.2.1, fun i v h => ?_⟩ hP hD va_S.rf
  have h2 := hl.2.2 _ (g_ent_args E.2.2.1 vs 0 i v h)
  rw [Nat.zero_add] at h2
  exact h2
def g_mi (mt : gMt) (na : Nat) : Prop := Cond.instanceMethod mt.1 ∈ g_TB ∧ Cond.initialized mt.1.cls ∈ g_TB ∧ Cond.code mt.1 mt.2.1 mt.2.2.1 mt.2.2.2 ∈ g_TB ∧ (mt.1.cls ≠ "java/lang/invoke/MethodHandle" ∧ mt.1.cls ≠ "java/lang/invoke/VarHandle" ∧ (parseMethodDescriptor mt.1.desc).map (fun d => d.parameters.length) = some na) ∧ mt.1.name = "<init>" ∧ mt.2.2.2 = none
theorem g_PcA_blind (E : gEnv) (vs : List Value) (M : gMem) : FrameBlind (g_PcA E vs M) := by
  intro a U g mk q
  obtain ⟨q0, ⟨q1, q2, q3, q4⟩, q5⟩ := q
  exact ⟨q0, ⟨q1, q2, va_K.moved (u := U) (U := U.calling g mk a) (Vm.Alike.refl U.vm) q3, g_C.calling q4⟩, va_AOA.moved (u := U) (U := U.calling g mk a) (Vm.Alike.refl U.vm) q5⟩
section CTOR
variable {l : Launch} {mt mt' : gMt} {R : Room} {X : gX} {pc : Nat} {L L' : List (Option Value)} {S S0 : List Value} {M : gMem} {k n : Nat} {Z : State → Prop} {Q : Option Value → gMem → Prop} {mc ms : Nat}
theorem r_vretA {ad' : Nat → Nat} {n0 : Nat} (hd : decode mt.2.1 pc = .ok (.return_, 1)) (hr : mt.2.2.2 = none) (h1 : k ≤ mc) (h2 : n ≤ ms) (hag : ∀ a, a < n0 ∨ 500 ≤ a → ad' a = g_ad X a) (hQ : Q none M) : Gw l mt R (g_xa X ad') pc L [] M k n (g_ZA X n0 Q mc ms) := by
  refine r_widen h1 h2 ?_
  intro ok H locs ls hl hP hD hS
  exact W.vret ok.1 ok.2.1 (ok.2.2.2.2.2.2.1.trans hr) (fun t ht hW => ⟨⟨ad', none, M, hag, rfl, hQ, by rw [ht]; exact hP, hD⟩, hS.F ht⟩) hS.2.2 hd ok.2.2.2.2.2.1
theorem r_objI {idx a : Nat} (hd : decode mt.2.1 pc = .ok (.invokespecial idx, 3)) (hk : Cond.methodLink mt.1.cls idx Lib.objectInit ∈ g_TB) (hR : 1 ≤ R.frames ∧ (S.map fun v => v.category).sum + 12 ≤ R.locals) (kk : Gw l mt R X (pc + 3) L S M k n Z) : Gw l mt R X pc L (.ref a :: S) M k n Z := by
  intro ok H locs ls hl hP hD hS
  exact W.objInit ok.1 ok.2.1 ok.2.2.2.1 (ok.2.2.2.2.1 _ hk) (ok.2.2.2.2.1 _ kOI) (ok.2.2.2.2.1 _ kOC) rfl (hl.1.trans ok.2.2.1.symm) rfl hd hR.1 (by rw [g_cats]; show 2 * 0 + _ + 12 ≤ _; omega) (kk ok H locs ls hl hP hD hS)
theorem g_putFf {idx ci j a nf : Nat} {ty : FieldType} {v : Value} {M' : gMem} (hd : decode mt.2.1 pc = .ok (.putfield idx, 3)) (hf : g_fl mt.1.cls idx ci j) (hw : g_fw ci j true ty) (hin2 : mt.1.name = "<init>") (hcls : (g_cl[ci]?).map (fun q => q.1) = some mt.1.cls) (ha : a < M.1) (hs : M.2.1 a = (ci, nf)) (hnf : (g_cl[ci]?).map (fun q => q.2.2) = some nf)
    (hn1 : narrow ty (g_v (g_ad X) v) = g_v (g_ad X) v) (hn2 : fits ty (g_v (g_ad X) v) = true) (hM1 : M'.1 = M.1) (hM2 : M'.2.1 = M.2.1) (hM3 : ∀ q, q ≠ a → g_cell (g_cA X) (g_ad X) M' q = g_cell (g_cA X) (g_ad X) M q) (hM4 : g_fv (g_ad X) M' a ci j = g_v (g_ad X) v) (hM5 : ∀ i, i ≠ j → g_fv (g_ad X) M' a ci i = g_fv (g_ad X) M a ci i)
    (kk : Gw l mt R X (pc + 3) L S M' k n Z) : Gw l mt R X pc L (v :: .ref a :: S) M k n Z := by
  intro ok H locs ls hl hP hD hS
  obtain ⟨C, T, N, hc, hj, hci, hin, hT, hlk⟩ := hf
  obtain ⟨w1, w2, ⟨t0, w3⟩, w4⟩ := hw C T N hc
  have hN := g_len hc hnf
  subst hN
  have hC : C = mt.1.cls := by rw [hc] at hcls; exact Option.some.inj hcls
  have he := g_ws_at (cA := g_cA X) (ad := g_ad X) ha
  rw [g_cell_o hs hci] at he
  have hset : (g_ws (g_cA X) (g_ad X) M).set a (g_ad X a, .inr (ci, ((List.range nf).map (g_fv (g_ad X) M a ci)).set j (g_v (g_ad X) v))) = g_ws (g_cA X) (g_ad X) M' :=
    g_ws_set hM1 (by rw [g_cell_o (by rw [hM2]; exact hs) hci, g_fset hj hM4 hM5]) hM3
  rcases hlk with hk | ⟨host, hk⟩
  · refine va_putF ok.1 ok.2.1 ok.2.2.2.2.1 hin t0 w3 w4 ok.2.2.2.1 ok.2.2.2.2.2.2.2.2.1 hP hD hS a he hc j hj (ok.2.2.2.2.1 _ hk) (by rw [hT]; exact fun _ h => h) w1 (ok.2.2.2.2.2.2.2.1.trans hin2) (hT.trans hC) w2 hn1 hn2 (by simp [hj]) hd (fun H1 locs1 h1 h2 h3 => ?_)
    rw [hset] at h1 h2
    exact kk ok H1 locs1 ls hl h1 h2 h3
  · exact absurd hk (kNoNest (by rw [hC]))
theorem r_putFR {idx ci j a nf q : Nat} {ty : FieldType} (hd : decode mt.2.1 pc = .ok (.putfield idx, 3)) (hf : g_fl mt.1.cls idx ci j) (hw : g_fw ci j true ty) (hty : (∃ C, ty = .object C) ∨ ∃ t, ty = .array t) (hin2 : mt.1.name = "<init>") (hcls : (g_cl[ci]?).map (fun q => q.1) = some mt.1.cls) (ha : a < M.1) (hs : M.2.1 a = (ci, nf)) (hnf : (g_cl[ci]?).map (fun q => q.2.2) = some nf) (hr : g_fr ci j = true)
    (kk : Gw l mt R X (pc + 3) L S (g_sr M a j (some q)) k n Z) : Gw l mt R X pc L (.ref q :: .ref a :: S) M k n Z :=
  g_putFf (M' := g_sr M a j (some q)) hd hf hw hin2 hcls ha hs hnf (by rcases hty with ⟨C, rfl⟩ | ⟨t, rfl⟩ <;> rfl) (by rcases hty with ⟨C, rfl⟩ | ⟨t, rfl⟩ <;> rfl) rfl rfl (fun q h => g_cell_sr h) (by simp [g_fv, hr, g_sr, g_up, g_v, va_rf]) (fun i h => g_fv_sr h) kk
/-- behind a call of a constructor -/
theorem g_backA {as : Array Value} {mc' ms' n0 : Nat} {Q' : Option Value → gMem → Prop} {H : Heap} {locs : List Loc} {ls : Array Slot} {st0 : List Value} (hn : n0 ≤ 500) (hss : g_ssOk X) (hL : L.all (fun o => o.all (g_old n0)) = true) (hSo : S0.all (g_old n0) = true) (ok : g_ok mt X) (hl : g_lv X ls mt.2.2.1 L) (hS : va_S (g_A X) (g_s X).heap H locs)
    (hr : va_Run X.1 l X.2.1 R (g_s X) (g_m X) (g_args X) (g_below X) (g_meth X) (g_c X) H locs k n mc' ms' (F0 (g_m X) pc ls st0) (S0.map (g_v (g_ad X))) (g_QcA (g_E X) n0 Q' as) (g_A X))
    (kk : ∀ ad' v M', (∀ a, a < n0 ∨ 500 ≤ a → ad' a = g_ad X a) → Q' v M' → Gw l mt R (g_xa X ad') (pc + 3) L (v.toList ++ S0) M' (k + mc') (n + ms') Z) : W X.1 l X.2.1 R (g_s X) (g_m X) (g_args X) (g_below X) (g_meth X) (g_c X) H locs k n Z (F0 (g_m X) pc ls st0) := by
  intro T hT XX
  obtain ⟨v, st₀, t, T', Ls, h0, X', hLs, e1, e2, ⟨⟨ad', v', M', hag, hv, hq, hP', hD'⟩, hz, hk⟩, st⟩ := hr T hT XX
  cases hv
  rw [h0] at hz hk
  have hS' : va_S (g_A X) (g_s X).heap T'.heap (locs ++ Ls) := by
    refine ⟨Nat.le_trans hS.1 (by rw [e1]; exact hz), fun q h1 h2 => ?_, fun q hq => ?_⟩
    · rw [e1, hk q (Nat.lt_of_lt_of_le h1 hS.1) h2]
      exact hS.2.1 q h1 h2
    · rcases List.mem_append.mp hq with h | h
      · exact hS.2.2 q h
      · exact hLs q h
  obtain ⟨t2, a1, b1⟩ := kk ad' v' M' hag hq (g_ok_xa hn hss hag ok) T'.heap (locs ++ Ls) ls (g_lv_xa hag hL hl) (by rw [e1]; exact hP') hD' hS' T' rfl X'
  refine ⟨t2, st t2 ?_, b1⟩
  have e : (v'.map (g_v ad')).toList ++ S0.map (g_v (g_ad X)) = (v'.toList ++ S0).map (g_v ad') := by
    rw [← g_st_xa hag hSo]
    cases v' <;> simp
  show Steps _ _ _ (T'.setTop { F0 (g_m X) pc ls st0 with pc := pc + 3, stack := (v'.map (g_v ad')).toList ++ S0.map (g_v (g_ad X)) }) t2
  rw [e]
  exact a1
theorem g_preA {vs : List Value} {H : Heap} {locs : List Loc} (hAO : va_AOA .int (g_s X)) (ok : g_ok mt X) (hP : va_P (g_D X) g_cl (g_w X M) H) (hD : va_D (g_A X) (g_w X M)) (hS : va_S (g_A X) (g_s X).heap H locs) : ∀ U : State, U.heap = H → (g_s X).WarmedH U.vm → g_PcA (g_E X) vs M (vs.map (g_v (g_ad X))).toArray U := by
  intro U hU hW
  refine ⟨rfl, ⟨by rw [hU]; exact hP, hD, va_K.moved hW.alike ok.2.2.2.2.2.2.2.2.1, ?_⟩, hAO.moved hW.alike⟩
  rw [hU]
  exact (ok.2.2.2.2.2.2.2.2.2.kept hS.1 hS.2.1).warm hW
theorem r_callI {idx na d' mc' ms' a : Nat} {vs : List Value} {Q' : Option Value → gMem → Prop} (hC : CtA l mt' d' mc' ms' (.ref a :: vs) M Q') (hm : g_mi mt' na) (hk : Cond.methodLink mt.1.cls idx mt'.1 ∈ g_TB) (hd : decode mt.2.1 pc = .ok (.invokespecial idx, 3)) (hn : vs.length = na) (hAO : va_AOA .int (g_s X)) (hnn : M.1 ≤ 500) (hss : g_ssOk X) (hL : L.all (fun o => o.all (g_old M.1)) = true) (hSo : S0.all (g_old M.1) = true) (hSe : S = vs.reverse ++ .ref a :: S0) (hR : d' + 1 ≤ R.frames ∧ 8 + (mt'.2.2.1 + 11) + 40 * d' ≤ R.locals) (hw : (S0.map fun v => v.category).sum ≤ 8) (hf : k + mc' ≤ R.cells ∧ n + ms' ≤ R.slots)
    (kk : ∀ ad' v M', (∀ a, a < M.1 ∨ 500 ≤ a → ad' a = g_ad X a) → Q' v M' → Gw l mt R (g_xa X ad') (pc + 3) L (v.toList ++ S0) M' (k + mc') (n + ms') Z) : Gw l mt R X pc L S M k n Z := by
  intro ok H locs ls hl hP hD hS
  obtain ⟨m1, m2, m3, m4, m5, m6⟩ := hm
  have hc := g_goodT m3
  refine g_backA hnn hss hL hSo ok hl hS (va_runI (nL := mt.2.2.1) (b := g_ad X a) (As := vs.map (g_v (g_ad X))) (rest := S0.map (g_v (g_ad X))) ⟨ok.1, ok.2.1, ok.2.2.1, ok.2.2.2.1, ok.2.2.2.2.1⟩ (hC (g_E X) hss) (cwI na ok.2.2.2.2.1 hc (by rw [← m6]) rfl rfl (ok.2.2.2.2.1 _ m2) (ok.2.2.2.2.1 _ hk) (ok.2.2.2.2.1 _ m1) m5 m4 hR) ⟨g_PcA_blind _ _ _, g_preA (vs := .ref a :: vs) hAO ok hP hD hS⟩ rfl (by simpa using hn) hl.1 (by rw [hSe]; simp [g_v]) (g_room hw) hd hf) kk
theorem r_callIN {idx na d' mc' ms' a : Nat} {host : String} {vs : List Value} {Q' : Option Value → gMem → Prop} (hC : CtA l mt' d' mc' ms' (.ref a :: vs) M Q') (hm : g_mi mt' na) (hk : Cond.methodLinkNest mt.1.cls idx mt'.1 host ∈ g_NW) (hd : decode mt.2.1 pc = .ok (.invokespecial idx, 3)) (hn : vs.length = na) (hAO : va_AOA .int (g_s X)) (hnn : M.1 ≤ 500) (hss : g_ssOk X) (hL : L.all (fun o => o.all (g_old M.1)) = true) (hSo : S0.all (g_old M.1) = true) (hSe : S = vs.reverse ++ .ref a :: S0) (hR : d' + 1 ≤ R.frames ∧ 8 + (mt'.2.2.1 + 11) + 40 * d' ≤ R.locals) (hw : (S0.map fun v => v.category).sum ≤ 8) (hf : k + mc' ≤ R.cells ∧ n + ms' ≤ R.slots)
    (kk : ∀ ad' v M', (∀ a, a < M.1 ∨ 500 ≤ a → ad' a = g_ad X a) → Q' v M' → Gw l mt R (g_xa X ad') (pc + 3) L (v.toList ++ S0) M' (k + mc') (n + ms') Z) : Gw l mt R X pc L S M k n Z := by
  intro ok H locs ls hl hP hD hS
  obtain ⟨m1, m2, m3, m4, m5, m6⟩ := hm
  have hc := g_goodT m3
  refine g_backA hnn hss hL hSo ok hl hS (va_runIN (nL := mt.2.2.1) (b := g_ad X a) (As := vs.map (g_v (g_ad X))) (rest := S0.map (g_v (g_ad X))) ⟨ok.1, ok.2.1, ok.2.2.1, ok.2.2.2.1, ok.2.2.2.2.1⟩ (hC (g_E X) hss) ⟨va_cnB na ok.2.2.2.2.1 hc (by rw [← m6]) rfl rfl (ok.2.2.2.2.2.2.2.2.2.1 _ hk) (ok.2.2.2.2.1 _ m2) m4 hR, m5, ok.2.2.2.2.1 _ m1⟩ ⟨g_PcA_blind _ _ _, g_preA (vs := .ref a :: vs) hAO ok hP hD hS⟩ rfl (by simpa using hn) hl.1 (by rw [hSe]; simp [g_v]) (g_room hw) hd hf) kk
/-- rows of ints: the outer one, then the rows -/
def g_gr (M : gMem) (N K : Nat) : gMem := (M.1 + 1 + N, fun a => if a = M.1 then (104, N) else if M.1 < a then (100, K) else M.2.1 a, fun a => if a = M.1 then (fun j => if j < N then some (M.1 + 1 + j) else none) else if M.1 < a then (fun _ => none) else M.2.2.1 a, fun a => if M.1 ≤ a then (fun _ => 0) else M.2.2.2.1 a, fun a => if M.1 ≤ a then (fun _ => 0) else M.2.2.2.2 a)
theorem g_cell_gr {cA : Nat → ClassId} {ad : Nat → Nat} {M : gMem} {N K a : Nat} (h : a < M.1) : g_cell cA ad (g_gr M N K) a = g_cell cA ad M a := by
  have e0 : ¬ a = M.1 := by omega
  have e00 : ¬ M.1 < a := by omega
  have e000 : ¬ M.1 ≤ a := by omega
  have e1 : (g_gr M N K).2.1 a = M.2.1 a := by simp [g_gr, e0, e00]
  have e2 : (g_gr M N K).2.2.1 a = M.2.2.1 a := by simp [g_gr, e0, e00]
  have e3 : (g_gr M N K).2.2.2.1 a = M.2.2.2.1 a := by simp [g_gr, e000]
  have e4 : (g_gr M N K).2.2.2.2 a = M.2.2.2.2 a := by simp [g_gr, e000]
  have e5 : g_fv ad (g_gr M N K) a = g_fv ad M a := by funext k j; simp only [g_fv, e2, e3]
  unfold g_cell
  rw [e1, e2, e3, e4, e5]
theorem g_bd_gr {M : gMem} {N K : Nat} (h : g_bd M) : g_bd (g_gr M N K) := by
  intro a j r ha hr
  show r < M.1 + 1 + N
  by_cases e : a = M.1
  · simp only [g_gr, e, if_true] at hr
    split at hr
    · cases hr; omega
    · cases hr
  · by_cases e2 : M.1 < a
    · simp [g_gr, e, e2] at hr
    · simp only [g_gr, e, e2, if_false] at hr
      have := h a j r (by omega) hr
      omega
theorem r_mna {idx N K : Nat} {nn kk9 : Int32} (hd : decode mt.2.1 pc = .ok (.multianewarray idx 2, 4)) (hk : Cond.classLink mt.1.cls idx "[[I" ∈ g_TB) (hAO : va_AOA .int (g_s X)) (h1 : ¬ nn < 0) (h2 : ¬ kk9 < 0) (hN : ix nn = N) (hK : ix kk9 = K) (hbig : N ≤ 1000 ∧ K ≤ 1000) (hn : M.1 + 1 + N ≤ 500) (hb : g_bd M) (hss : g_ssOk X) (hL : L.all (fun o => o.all (g_old M.1)) = true) (hSo : S.all (g_old M.1) = true) (hf : k + (1 + N) ≤ R.cells ∧ n + (N + N * K) ≤ R.slots)
    (kk : ∀ ad', (∀ a, a < M.1 ∨ 500 ≤ a → ad' a = g_ad X a) → Gw l mt R (g_xa X ad') (pc + 4) L (.ref M.1 :: S) (g_gr M N K) (k + 1 + N) (n + N + N * K) Z) : Gw l mt R X pc L (.int kk9 :: .int nn :: S) M k n Z := by
  intro ok H locs ls hl hP hD hS
  have hKK := ok.2.2.2.2.2.2.2.2.1
  have hcy : (g_s X).vm.findClass (FieldType.array .int).toString = some (g_cA X 100) := (hKK.2 0 _ rfl).2
  have hP' : va_P (g_D X) g_cl (g_w X M ++ va_pl [] (fun _ => .inr (0, []))) H := by show va_P _ _ (g_w X M ++ []) H; rw [List.append_nil]; exact hP
  have hD' : va_D (g_A X) (g_w X M ++ va_pl [] (fun _ => .inr (0, []))) := by show va_D _ (g_w X M ++ []); rw [List.append_nil]; exact hD
  refine va_mna (z := (K, .inl (fun _ => 0))) (cy := g_cA X 100) ok.1 ok.2.1 ok.2.2.2.1 (ok.2.2.2.2.1 _ hk) hAO (ok.2.2.2.2.1 _ kAI) hcy hKK hP' hD' hS ok.2.2.2.2.2.2.2.2.2.2.2.2.2.2.2.2.1 h1 h2 hN hK (by omega) (by show K * 4 ≤ _; omega) (by omega) rfl rfl hf.1 hf.2 (fun c => ?_) hd (fun q r cB H1 hr1 hr2 hK1 p1 p2 p3 => ?_)
  · show ({ cls := c, slots := Array.replicate K (.int 0), vm := .none } : Cell) = _
    rw [vp_cell_i, ← arrV_new]
  have ecl : cB = g_cA X 104 := by
    have k1 := (hK1.2 5 (cB, .array .int) rfl).2
    have k2 := (hKK.2 4 _ rfl).2
    exact Option.some.inj (k1.symm.trans k2)
  subst ecl
  obtain ⟨ad', had⟩ : ∃ ad' : Nat → Nat, ad' = fun a => if a = M.1 then q else if M.1 < a ∧ a < M.1 + 1 + N then r (a - M.1 - 1) else g_ad X a := ⟨_, rfl⟩
  have hag : ∀ a, a < M.1 ∨ 500 ≤ a → ad' a = g_ad X a := by
    intro a ha
    rw [had]
    simp [show ¬ a = M.1 by omega, show ¬ (M.1 < a ∧ a < M.1 + 1 + N) by omega]
  have hq : ad' M.1 = q := by rw [had]; simp
  have hrr : ∀ i, i < N → ad' (M.1 + 1 + i) = r i := by
    intro i hi
    rw [had]
    simp [show ¬ M.1 + 1 + i = M.1 by omega, show M.1 < M.1 + 1 + i ∧ M.1 + 1 + i < M.1 + 1 + N by omega, show M.1 + 1 + i - M.1 - 1 = i by omega]
  have hw : g_ws (g_cA X) ad' (g_gr M N K) = (g_w X M ++ [(q, .inl (g_cA X 104, N, .inr (.inr (.inr (.inr (fun i => if i < N then some (r i) else none))))))]) ++ va_pl ([] ++ (List.range N).map r) (vr_up (fun _ => .inr (0, [])) ((List.range N).map r) (.inl (g_cA X 100, (K, .inl (fun _ => 0))))) := by
    have er : List.range (M.1 + 1 + N) = List.range M.1 ++ [M.1] ++ (List.range N).map (fun i => M.1 + 1 + i) := by
      rw [List.range_add, List.range_succ]
    show (List.range (M.1 + 1 + N)).map _ = _
    rw [er, List.map_append, List.map_append]
    congr 1
    · congr 1
      · show _ = g_ws (g_cA X) (g_ad X) M
        rw [← g_ws_old hb hag]
        unfold g_ws
        apply List.map_congr_left
        intro a ha
        rw [g_cell_gr (List.mem_range.mp ha)]
      · show [(ad' M.1, g_cell (g_cA X) ad' (g_gr M N K) M.1)] = _
        rw [hq, g_cell_q (n := N) (by simp [g_gr])]
        congr 9
        funext j
        simp only [g_gr, if_true]
        split
        · rename_i hj
          show some (ad' (M.1 + 1 + j)) = _
          rw [hrr j hj]
        · rfl
    · unfold va_pl
      rw [List.nil_append, List.map_map, List.map_map]
      apply List.map_congr_left
      intro i hi
      have hi := List.mem_range.mp hi
      show (ad' (M.1 + 1 + i), g_cell (g_cA X) ad' (g_gr M N K) (M.1 + 1 + i)) = (r i, vr_up _ _ _ (r i))
      rw [hrr i hi, vr_up_in (List.mem_map.mpr ⟨i, List.mem_range.mpr hi, rfl⟩), g_cell_i (k := 100) (n := K) (by simp [g_gr, show ¬ M.1 + 1 + i = M.1 by omega, show M.1 < M.1 + 1 + i by omega]) (Or.inl rfl)]
      simp [g_gr, show M.1 ≤ M.1 + 1 + i by omega]
  have := kk ad' hag (g_ok_xa (by omega) hss hag ok) H1 locs ls (g_lv_xa hag hL hl) (by show va_P (g_D X) g_cl (g_ws (g_cA X) ad' (g_gr M N K)) H1; rw [hw]; exact p1) (by show va_D (g_A X) (g_ws (g_cA X) ad' (g_gr M N K)); rw [hw]; exact p2) p3
  have e : ((.ref M.1 :: S : List Value).map (g_v ad')) = .ref q :: S.map (g_v (g_ad X)) := by
    rw [List.map_cons, g_st_xa hag hSo]
    show Value.ref (ad' M.1) :: _ = _
    rw [hq]
  rw [← e]
  exact this
end CTOR
