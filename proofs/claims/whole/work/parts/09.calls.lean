/-! contracts, calls, ends -/
def g_Pc (E : gEnv) (vs : List Value) (M : gMem) : Array Value → State → Prop := va_Pc (vs.map (g_v E.2.2.1)) (fun U => va_P E.1 g_cl (g_ws E.2.1 E.2.2.1 M) U.heap ∧ va_D E.2.2.2.1 (g_ws E.2.1 E.2.2.1 M) ∧ va_K E.1 g_cl (g_tys E.2.1) U ∧ g_C E U U.heap)
def g_Qc (E : gEnv) (Q : Option Value → gMem → Prop) : Array Value → State → Outcome → State → Prop := fun _ st oc t => (∃ (v : Option Value) (M' : gMem), oc = .returned (v.map (g_v E.2.2.1)) ∧ Q v M' ∧ va_P E.1 g_cl (g_ws E.2.1 E.2.2.1 M') t.heap ∧ va_D E.2.2.2.1 (g_ws E.2.1 E.2.2.1 M')) ∧ va_F E.2.2.2.1 st t
def g_rm (d mc ms : Nat) : Room := { frames := d, cells := mc, slots := ms, locals := 40 * d }
abbrev g_tb (mt : gMt) : List Cond := Cond.code mt.1 mt.2.1 mt.2.2.1 mt.2.2.2 :: g_TB
/-- a method's contract: at the arguments vs, in the memory M, with d frames, mc cells and ms slots, it comes back with Q -/
def Ct (l : Launch) (mt : gMt) (d mc ms : Nat) (vs : List Value) (M : gMem) (Q : Option Value → gMem → Prop) : Prop := ∀ E : gEnv, Met l mt.1 (g_tb mt) (g_rm d mc ms) (g_Pc E vs M) (g_Qc E Q) mc ms E.2.2.2.1
/-- the end of a method's body -/
def g_Z (X : gX) (Q : Option Value → gMem → Prop) (mc ms : Nat) : State → Prop := MQ (g_below X) (g_Qc (g_E X) Q) (g_args X) (g_s X) mc ms (g_A X)
theorem g_sl_args (ad : Nat → Nat) (vs : List Value) : lg_sl (vs.map (g_v ad)) = lg_sl (vs.map (g_v ad)) := rfl
/-- the locals at the entry: an argument a place, a long two -/
def g_ent : List Value → List (Option Value)
  | [] => []
  | v :: vs => if v.category = 2 then some v :: none :: g_ent vs else some v :: g_ent vs
theorem g_ent_args (ad : Nat → Nat) : ∀ (vs : List Value) (o i : Nat) (v : Value), (g_ent vs)[i]? = some (some v) → (o + i, g_v ad v) ∈ lv_args o (vs.map (g_v ad)) := by
  intro vs
  induction vs with
  | nil => intro o i v h; simp [g_ent] at h
  | cons u us ih =>
    intro o i v h
    by_cases hc : u.category = 2
    · simp only [g_ent, hc, if_true] at h
      match i, h with
      | 0, h =>
        simp at h
        subst h
        simp [lv_args]
      | 1, h => simp at h
      | j + 2, h =>
        have h' : (g_ent us)[j]? = some (some v) := h
        have := ih (o + 2) j v h'
        simp only [List.map_cons, lv_args, g_v_cat, hc]
        refine List.mem_cons_of_mem _ ?_
        rw [show o + (j + 2) = o + 2 + j by omega]
        exact this
    · simp only [g_ent, hc, if_false] at h
      match i, h with
      | 0, h =>
        simp at h
        subst h
        simp [lv_args]
      | j + 1, h =>
        have h' : (g_ent us)[j]? = some (some v) := h
        have hc1 : u.category = 1 := (lv_cat u).resolve_right hc
        have := ih (o + 1) j v h'
        simp only [List.map_cons, lv_args, g_v_cat, hc1]
        refine List.mem_cons_of_mem _ ?_
        rw [show o + (j + 1) = o + 1 + j by omega]
        exact this
theorem g_sl_len (ad : Nat → Nat) : ∀ vs : List Value, (lg_sl (vs.map (g_v ad))).length = (g_ent vs).length := by
  intro vs
  induction vs with
  | nil => rfl
  | cons u us ih =>
    by_cases hc : u.category = 2
    · simp [lg_sl, g_ent, g_v_cat, hc] at ih ⊢
      omega
    · have hc1 : u.category = 1 := (lv_cat u).resolve_right hc
      simp [lg_sl, g_ent, g_v_cat, hc1] at ih ⊢
      omega
abbrev g_Mt (l : Launch) (mt : gMt) (d mc ms : Nat) (vs : List Value) (M : gMem) (Q : Option Value → gMem → Prop) (E : gEnv) : Prop := Met l mt.1 (g_tb mt) (g_rm d mc ms) (g_Pc E vs M) (g_Qc E Q) mc ms E.2.2.2.1
/-- where a String is an argument: its number is among those that the environment knows -/
def CtS (l : Launch) (mt : gMt) (d mc ms a : Nat) (vs : List Value) (M : gMem) (Q : Option Value → gMem → Prop) : Prop := ∀ E : gEnv, a ∈ E.2.2.2.2.1 → g_Mt l mt d mc ms vs M Q E
theorem g_met {l : Launch} {mt : gMt} {d mc ms : Nat} {vs : List Value} {M : gMem} {Q : Option Value → gMem → Prop} {E : gEnv} (hy : plainName mt.1.cls = true) (hn : (g_ent vs).length ≤ mt.2.2.1) (body : ∀ X : gX, g_E X = E → Gw l mt (g_rm d mc ms) X 0 (g_ent vs) [] M 0 0 (g_Z X Q mc ms)) : g_Mt l mt d mc ms vs M Q E := by
  refine Met.ofW (cc := mt.2.1) (maxL := mt.2.2.1) (ret := mt.2.2.2) hy rfl ?_
  intro p e s m args below meth c s₁ B hml hv
  obtain ⟨rfl, hP, hD, hK, hC⟩ := hv
  have hle : (lg_sl (vs.map (g_v E.2.2.1))).length ≤ mt.2.2.1 := by rw [g_sl_len]; exact hn
  have hl := lv_entry (vs.map (g_v E.2.2.1)) hle
  rw [lg_entry_eq]
  refine body (p, e, s, m, _, below, meth, c, E) rfl ⟨B.exec, B.bytes, hml, findClass_of_methodNamed B.named, fun w hw => atoms_spec (ws := g_tb mt) B.pre w (List.mem_cons_of_mem _ hw), B.notSynchronized, B.returns, (name_of_methodNamed B.named B.method).1, hK, hC⟩ s.heap [] _ ⟨hl.1, hl.2.1, fun i v h => ?_⟩ hP hD va_S.rf
  have h2 := hl.2.2 _ (g_ent_args E.2.2.1 vs 0 i v h)
  rw [Nat.zero_add] at h2
  exact h2
theorem Ct.of {l : Launch} {mt : gMt} {d mc ms : Nat} {vs : List Value} {M : gMem} {Q : Option Value → gMem → Prop} (hy : plainName mt.1.cls = true) (hn : (g_ent vs).length ≤ mt.2.2.1) (body : ∀ X : gX, Gw l mt (g_rm d mc ms) X 0 (g_ent vs) [] M 0 0 (g_Z X Q mc ms)) : Ct l mt d mc ms vs M Q := fun _ => g_met hy hn (fun X _ => body X)
theorem CtS.of {l : Launch} {mt : gMt} {d mc ms a : Nat} {vs : List Value} {M : gMem} {Q : Option Value → gMem → Prop} (hy : plainName mt.1.cls = true) (hn : (g_ent vs).length ≤ mt.2.2.1) (body : ∀ X : gX, a ∈ (g_E X).2.2.2.2.1 → Gw l mt (g_rm d mc ms) X 0 (g_ent vs) [] M 0 0 (g_Z X Q mc ms)) : CtS l mt d mc ms a vs M Q := fun E ha => g_met hy hn (fun X hX => body X (by rw [hX]; exact ha))
def g_ms (mt : gMt) (na : Nat) : Prop := Cond.static mt.1 ∈ g_TB ∧ Cond.initialized mt.1.cls ∈ g_TB ∧ Cond.code mt.1 mt.2.1 mt.2.2.1 mt.2.2.2 ∈ g_TB ∧ (mt.1.cls ≠ "java/lang/invoke/MethodHandle" ∧ mt.1.cls ≠ "java/lang/invoke/VarHandle" ∧ (parseMethodDescriptor mt.1.desc).map (fun d => d.parameters.length) = some na)
def g_mv (mt : gMt) (na : Nat) : Prop := Cond.instanceMethod mt.1 ∈ g_TB ∧ Cond.initialized mt.1.cls ∈ g_TB ∧ Cond.code mt.1 mt.2.1 mt.2.2.1 mt.2.2.2 ∈ g_TB ∧ (mt.1.cls ≠ "java/lang/invoke/MethodHandle" ∧ mt.1.cls ≠ "java/lang/invoke/VarHandle" ∧ (parseMethodDescriptor mt.1.desc).map (fun d => d.parameters.length) = some na)
theorem g_goodT {mt' : gMt} (h : Cond.code mt'.1 mt'.2.1 mt'.2.2.1 mt'.2.2.2 ∈ g_TB) : GoodIn g_TB (g_tb mt') := by
  intro w hw
  rcases List.mem_cons.mp hw with rfl | hw
  · exact g_gd h
  · exact g_gd hw
theorem g_nest_t {w : Cond} (h : g_nest w = true) : w.onTables = true := by
  cases w <;> first | rfl | (exfalso; revert h; simp [g_nest])
theorem g_C.calling {E : gEnv} {U : State} {H : Heap} {g : JFrame} {mk : MethodId} {a : Array Value} (h : g_C E U H) : g_C E (U.calling g mk a) H := by
  obtain ⟨h1, h2, h3, h4, h5, h6, ⟨h7, h8, h9⟩, h10, h11, h12, h13, h14⟩ := h
  have hA : U.vm.Alike (U.calling g mk a).vm := Vm.Alike.refl U.vm
  exact ⟨fun w hw => va_Nw.same (g_nest_t (List.mem_filter.mp hw).2) (u := U) rfl (h1 w hw), fun q hq => vk_R.same (u := U) rfl (h2 q hq), fun a ha => (h3 a ha).moved hA, h4.moved hA, h5.moved hA, h6.moved hA, ⟨h7.moved hA, h8, h9⟩, h10, h11, h12.elim (fun h => Or.inl (h.moved hA)) (fun h => Or.inr (h.moved hA)), vx_Zq.moved hA h13, vx_Zq.moved hA h14⟩
theorem g_Pc_blind (E : gEnv) (vs : List Value) (M : gMem) : FrameBlind (g_Pc E vs M) := by
  intro a U g mk q
  obtain ⟨q0, q1, q2, q3, q4⟩ := q
  exact ⟨q0, q1, q2, va_K.moved (u := U) (U := U.calling g mk a) (Vm.Alike.refl U.vm) q3, g_C.calling q4⟩
section CALLS
variable {l : Launch} {mt mt' : gMt} {R : Room} {X : gX} {pc : Nat} {L L' : List (Option Value)} {S S0 : List Value} {M : gMem} {k n : Nat} {Z : State → Prop} {Q : Option Value → gMem → Prop} {mc ms : Nat}
theorem r_iret {v : Int32} (hd : decode mt.2.1 pc = .ok (.ireturn, 1)) (hr : mt.2.2.2 = some .int) (h1 : k ≤ mc) (h2 : n ≤ ms) (hQ : Q (some (.int v)) M) : Gw l mt R X pc L [.int v] M k n (g_Z X Q mc ms) := by
  refine r_widen h1 h2 ?_
  intro ok H locs ls hl hP hD hS
  exact W.iret (v := v) ok.1 ok.2.1 (ok.2.2.2.2.2.2.1.trans hr) (fun t ht hW => ⟨⟨some (.int v), M, rfl, hQ, by rw [ht]; exact hP, hD⟩, hS.F ht⟩) hS.2.2 hd ok.2.2.2.2.2.1
theorem r_zret {v : Int32} {ty : FieldType} (hd : decode mt.2.1 pc = .ok (.ireturn, 1)) (hr : mt.2.2.2 = some ty) (hv : narrow ty (.int v) = .int v) (h1 : k ≤ mc) (h2 : n ≤ ms) (hQ : Q (some (.int v)) M) : Gw l mt R X pc L [.int v] M k n (g_Z X Q mc ms) := by
  refine r_widen h1 h2 ?_
  intro ok H locs ls hl hP hD hS
  exact W.zret (v := v) ok.1 ok.2.1 (ok.2.2.2.2.2.2.1.trans hr) hv (fun t ht hW => ⟨⟨some (.int v), M, rfl, hQ, by rw [ht]; exact hP, hD⟩, hS.F ht⟩) hS.2.2 hd ok.2.2.2.2.2.1
theorem r_vret (hd : decode mt.2.1 pc = .ok (.return_, 1)) (hr : mt.2.2.2 = none) (h1 : k ≤ mc) (h2 : n ≤ ms) (hQ : Q none M) : Gw l mt R X pc L [] M k n (g_Z X Q mc ms) := by
  refine r_widen h1 h2 ?_
  intro ok H locs ls hl hP hD hS
  exact W.vret ok.1 ok.2.1 (ok.2.2.2.2.2.2.1.trans hr) (fun t ht hW => ⟨⟨none, M, rfl, hQ, by rw [ht]; exact hP, hD⟩, hS.F ht⟩) hS.2.2 hd ok.2.2.2.2.2.1
theorem r_lret {v : Int64} (hd : decode mt.2.1 pc = .ok (.lreturn, 1)) (hr : mt.2.2.2 = some .long) (h1 : k ≤ mc) (h2 : n ≤ ms) (hQ : Q (some (.long v)) M) : Gw l mt R X pc L [.long v] M k n (g_Z X Q mc ms) := by
  refine r_widen h1 h2 ?_
  intro ok H locs ls hl hP hD hS
  exact W.lret (v := v) ok.1 ok.2.1 (ok.2.2.2.2.2.2.1.trans hr) (fun t ht hW => ⟨⟨some (.long v), M, rfl, hQ, by rw [ht]; exact hP, hD⟩, hS.F ht⟩) hS.2.2 hd ok.2.2.2.2.2.1
theorem r_aret {a : Nat} {rt : FieldType} (hd : decode mt.2.1 pc = .ok (.areturn, 1)) (hr : mt.2.2.2 = some rt) (hrt : (∃ n, rt = .object n) ∨ ∃ t, rt = .array t) (h1 : k ≤ mc) (h2 : n ≤ ms) (hQ : Q (some (.ref a)) M) : Gw l mt R X pc L [.ref a] M k n (g_Z X Q mc ms) := by
  refine r_widen h1 h2 ?_
  intro ok H locs ls hl hP hD hS
  exact W.aret (v := .ref (g_ad X a)) ok.1 ok.2.1 (ok.2.2.2.2.2.2.1.trans hr) hrt (Or.inr ⟨_, rfl⟩) (fun t ht hW => ⟨⟨some (.ref a), M, rfl, hQ, by rw [ht]; exact hP, hD⟩, hS.F ht⟩) hS.2.2 hd ok.2.2.2.2.2.1
/-- behind a call -/
theorem g_back {as : Array Value} {mc' ms' : Nat} {Q' : Option Value → gMem → Prop} {H : Heap} {locs : List Loc} {ls : Array Slot} {st0 : List Value} (ok : g_ok mt X) (hl : g_lv X ls mt.2.2.1 L) (hS : va_S (g_A X) (g_s X).heap H locs)
    (hr : va_Run X.1 l X.2.1 R (g_s X) (g_m X) (g_args X) (g_below X) (g_meth X) (g_c X) H locs k n mc' ms' (F0 (g_m X) pc ls st0) (S0.map (g_v (g_ad X))) (g_Qc (g_E X) Q' as) (g_A X))
    (kk : ∀ v M', Q' v M' → Gw l mt R X (pc + 3) L (v.toList ++ S0) M' (k + mc') (n + ms') Z) : W X.1 l X.2.1 R (g_s X) (g_m X) (g_args X) (g_below X) (g_meth X) (g_c X) H locs k n Z (F0 (g_m X) pc ls st0) := by
  intro T hT XX
  obtain ⟨v, st₀, t, T', Ls, h0, X', hL, e1, e2, ⟨⟨v', M', hv, hq, hP', hD'⟩, hz, hk⟩, st⟩ := hr T hT XX
  cases hv
  rw [h0] at hz hk
  have hS' : va_S (g_A X) (g_s X).heap T'.heap (locs ++ Ls) := by
    refine ⟨Nat.le_trans hS.1 (by rw [e1]; exact hz), fun q h1 h2 => ?_, fun q hq => ?_⟩
    · rw [e1, hk q (Nat.lt_of_lt_of_le h1 hS.1) h2]
      exact hS.2.1 q h1 h2
    · rcases List.mem_append.mp hq with h | h
      · exact hS.2.2 q h
      · exact hL q h
  obtain ⟨t2, a1, b1⟩ := kk v' M' hq ok T'.heap (locs ++ Ls) ls hl (by rw [e1]; exact hP') hD' hS' T' rfl X'
  refine ⟨t2, st t2 ?_, b1⟩
  have e : (v'.map (g_v (g_ad X))).toList ++ S0.map (g_v (g_ad X)) = (v'.toList ++ S0).map (g_v (g_ad X)) := by cases v' <;> simp
  show Steps _ _ _ (T'.setTop { F0 (g_m X) pc ls st0 with pc := pc + 3, stack := (v'.map (g_v (g_ad X))).toList ++ S0.map (g_v (g_ad X)) }) t2
  rw [e]
  exact a1
theorem g_room {ls : Array Slot} {m : MethodId} {st0 : List Value} (hw : (S0.map fun v => v.category).sum ≤ 8) : 2 * (F0 m pc ls st0).monitorRoom + ((S0.map (g_v (g_ad X))).map fun v => v.category).sum ≤ 8 := by
  have e : (S0.map (g_v (g_ad X))).map (fun v => v.category) = S0.map fun v => v.category := by
    rw [List.map_map]
    exact List.map_congr_left fun v _ => g_v_cat _ v
  rw [e]
  show 2 * 0 + _ ≤ 8
  omega
theorem g_pre {vs : List Value} {H : Heap} {locs : List Loc} (ok : g_ok mt X) (hP : va_P (g_D X) g_cl (g_w X M) H) (hD : va_D (g_A X) (g_w X M)) (hS : va_S (g_A X) (g_s X).heap H locs) : ∀ U : State, U.heap = H → (g_s X).WarmedH U.vm → g_Pc (g_E X) vs M (vs.map (g_v (g_ad X))).toArray U := by
  intro U hU hW
  refine ⟨rfl, by rw [hU]; exact hP, hD, va_K.moved hW.alike ok.2.2.2.2.2.2.2.2.1, ?_⟩
  rw [hU]
  exact (ok.2.2.2.2.2.2.2.2.2.kept hS.1 hS.2.1).warm hW
theorem r_callS0 {idx na d' mc' ms' : Nat} {vs : List Value} {Q' : Option Value → gMem → Prop} (hC : g_Mt l mt' d' mc' ms' vs M Q' (g_E X)) (hm : g_ms mt' na) (hk : Cond.methodLink mt.1.cls idx mt'.1 ∈ g_TB) (hd : decode mt.2.1 pc = .ok (.invokestatic idx, 3)) (hn : vs.length = na) (hSe : S = vs.reverse ++ S0) (hR : d' + 1 ≤ R.frames ∧ 8 + (mt'.2.2.1 + 11) + 40 * d' ≤ R.locals) (hw : (S0.map fun v => v.category).sum ≤ 8) (hf : k + mc' ≤ R.cells ∧ n + ms' ≤ R.slots)
    (kk : ∀ v M', Q' v M' → Gw l mt R X (pc + 3) L (v.toList ++ S0) M' (k + mc') (n + ms') Z) : Gw l mt R X pc L S M k n Z := by
  intro ok H locs ls hl hP hD hS
  have hG : GoodIn g_TB (va_wsS mt.1.cls idx mt'.1 (g_tb mt')) := by
    intro w hw
    rcases List.mem_append.mp hw with h | h
    · simp at h
      rcases h with rfl | rfl | rfl
      · exact g_gd hk
      · exact g_gd hm.1
      · exact g_gd hm.2.1
    · exact g_goodT hm.2.2.1 w h
  refine g_back ok hl hS (va_runS (nL := mt.2.2.1) (As := vs.map (g_v (g_ad X))) (rest := S0.map (g_v (g_ad X))) ⟨ok.1, ok.2.1, ok.2.2.1, ok.2.2.2.1, ok.2.2.2.2.1⟩ hC (va_cwS na ok.2.2.2.2.1 hG rfl rfl rfl hm.2.2.2 hR) ⟨g_Pc_blind _ _ _, g_pre ok hP hD hS⟩ rfl (by simpa using hn) hl.1 (by rw [hSe]; simp) (g_room hw) hd hf) kk
theorem r_callV0 {idx na d' mc' ms' a ci nf : Nat} {vs : List Value} {Q' : Option Value → gMem → Prop} (hC : g_Mt l mt' d' mc' ms' (.ref a :: vs) M Q' (g_E X)) (hm : g_mv mt' na) (hsel : Cond.selects mt'.1.cls mt'.1 mt'.1 ∈ g_TB) (hk : Cond.methodLink mt.1.cls idx mt'.1 ∈ g_TB) (hd : decode mt.2.1 pc = .ok (.invokevirtual idx, 3)) (hn : vs.length = na) (ha : a < M.1) (hs : M.2.1 a = (ci, nf)) (hci : (g_cl[ci]?).map (fun q => q.1) = some mt'.1.cls ∧ ci < 100) (hSe : S = vs.reverse ++ .ref a :: S0) (hR : d' + 1 ≤ R.frames ∧ 8 + (mt'.2.2.1 + 11) + 40 * d' ≤ R.locals) (hw : (S0.map fun v => v.category).sum ≤ 8) (hf : k + mc' ≤ R.cells ∧ n + ms' ≤ R.slots)
    (kk : ∀ v M', Q' v M' → Gw l mt R X (pc + 3) L (v.toList ++ S0) M' (k + mc') (n + ms') Z) : Gw l mt R X pc L S M k n Z := by
  intro ok H locs ls hl hP hD hS
  have hG : GoodIn g_TB (wsV mt.1.cls idx mt'.1.cls mt'.1 (g_tb mt')) := by
    intro w hw
    rcases List.mem_append.mp hw with h | h
    · simp at h
      rcases h with rfl | rfl | rfl | rfl
      · exact g_gd hk
      · exact g_gd hm.1
      · exact g_gd hsel
      · exact g_gd hm.2.1
    · exact g_goodT hm.2.2.1 w h
  have he := g_ws_at (cA := g_cA X) (ad := g_ad X) ha
  rw [g_cell_o hs hci.2] at he
  cases hc : g_cl[ci]? with
  | none => rw [hc] at hci; exact absurd hci.1 (by simp)
  | some q =>
    rw [hc] at hci
    have hq : q.1 = mt'.1.cls := Option.some.inj hci.1
    have hrec := va_recv ok.2.2.2.2.2.2.2.2.1 hP hc he
    rw [hq] at hrec
    refine g_back ok hl hS (va_runV (nL := mt.2.2.1) (As := vs.map (g_v (g_ad X))) (rest := S0.map (g_v (g_ad X))) ⟨ok.1, ok.2.1, ok.2.2.1, ok.2.2.2.1, ok.2.2.2.2.1⟩ hC (cwV na ok.2.2.2.2.1 hG rfl rfl rfl ⟨rfl, hm.2.2.2⟩ hR) ⟨g_Pc_blind _ _ _, hrec, g_pre (vs := .ref a :: vs) ok hP hD hS⟩ rfl (by simpa using hn) hl.1 (by rw [hSe]; simp [g_v]) (g_room hw) hd hf) kk
/-- a private method of a nest mate -/
theorem r_callS {idx na d' mc' ms' : Nat} {vs : List Value} {Q' : Option Value → gMem → Prop} (hC : Ct l mt' d' mc' ms' vs M Q') (hm : g_ms mt' na) (hk : Cond.methodLink mt.1.cls idx mt'.1 ∈ g_TB) (hd : decode mt.2.1 pc = .ok (.invokestatic idx, 3)) (hn : vs.length = na) (hSe : S = vs.reverse ++ S0) (hR : d' + 1 ≤ R.frames ∧ 8 + (mt'.2.2.1 + 11) + 40 * d' ≤ R.locals) (hw : (S0.map fun v => v.category).sum ≤ 8) (hf : k + mc' ≤ R.cells ∧ n + ms' ≤ R.slots)
    (kk : ∀ v M', Q' v M' → Gw l mt R X (pc + 3) L (v.toList ++ S0) M' (k + mc') (n + ms') Z) : Gw l mt R X pc L S M k n Z := r_callS0 (hC (g_E X)) hm hk hd hn hSe hR hw hf kk
theorem r_callV {idx na d' mc' ms' a ci nf : Nat} {vs : List Value} {Q' : Option Value → gMem → Prop} (hC : Ct l mt' d' mc' ms' (.ref a :: vs) M Q') (hm : g_mv mt' na) (hsel : Cond.selects mt'.1.cls mt'.1 mt'.1 ∈ g_TB) (hk : Cond.methodLink mt.1.cls idx mt'.1 ∈ g_TB) (hd : decode mt.2.1 pc = .ok (.invokevirtual idx, 3)) (hn : vs.length = na) (ha : a < M.1) (hs : M.2.1 a = (ci, nf)) (hci : (g_cl[ci]?).map (fun q => q.1) = some mt'.1.cls ∧ ci < 100) (hSe : S = vs.reverse ++ .ref a :: S0) (hR : d' + 1 ≤ R.frames ∧ 8 + (mt'.2.2.1 + 11) + 40 * d' ≤ R.locals) (hw : (S0.map fun v => v.category).sum ≤ 8) (hf : k + mc' ≤ R.cells ∧ n + ms' ≤ R.slots)
    (kk : ∀ v M', Q' v M' → Gw l mt R X (pc + 3) L (v.toList ++ S0) M' (k + mc') (n + ms') Z) : Gw l mt R X pc L S M k n Z := r_callV0 (hC (g_E X)) hm hsel hk hd hn ha hs hci hSe hR hw hf kk
/-- a method of a String that the environment knows -/
theorem r_callVs {idx na d' mc' ms' a : Nat} {vs : List Value} {Q' : Option Value → gMem → Prop} (hC : g_Mt l mt' d' mc' ms' (.ref a :: vs) M Q' (g_E X)) (hm : g_mv mt' na) (hsel : Cond.selects mt'.1.cls mt'.1 mt'.1 ∈ g_TB) (hk : Cond.methodLink mt.1.cls idx mt'.1 ∈ g_TB) (hd : decode mt.2.1 pc = .ok (.invokevirtual idx, 3)) (hn : vs.length = na) (ha : a ∈ (g_E X).2.2.2.2.1) (hci : mt'.1.cls = "java/lang/String") (hSe : S = vs.reverse ++ .ref a :: S0) (hR : d' + 1 ≤ R.frames ∧ 8 + (mt'.2.2.1 + 11) + 40 * d' ≤ R.locals) (hw : (S0.map fun v => v.category).sum ≤ 8) (hf : k + mc' ≤ R.cells ∧ n + ms' ≤ R.slots)
    (kk : ∀ v M', Q' v M' → Gw l mt R X (pc + 3) L (v.toList ++ S0) M' (k + mc') (n + ms') Z) : Gw l mt R X pc L S M k n Z := by
  intro ok H locs ls hl hP hD hS
  have hG : GoodIn g_TB (wsV mt.1.cls idx mt'.1.cls mt'.1 (g_tb mt')) := by
    intro w hw
    rcases List.mem_append.mp hw with h | h
    · simp at h
      rcases h with rfl | rfl | rfl | rfl
      · exact g_gd hk
      · exact g_gd hm.1
      · exact g_gd hsel
      · exact g_gd hm.2.1
    · exact g_goodT hm.2.2.1 w h
  obtain ⟨cell, q1, q2, q3, -⟩ := (ok.2.2.2.2.2.2.2.2.2.2.2.1 a ha).1.kept hS.2.1
  have hrec : ∃ cellB : Cell, H[g_ad X a]? = some cellB ∧ cellB.vm.isStatics = false ∧ (g_s X).vm.findClass mt'.1.cls = some cellB.cls := ⟨cell, q1, q2, by rw [hci]; exact q3⟩
  refine g_back ok hl hS (va_runV (nL := mt.2.2.1) (As := vs.map (g_v (g_ad X))) (rest := S0.map (g_v (g_ad X))) ⟨ok.1, ok.2.1, ok.2.2.1, ok.2.2.2.1, ok.2.2.2.2.1⟩ hC (cwV na ok.2.2.2.2.1 hG rfl rfl rfl ⟨rfl, hm.2.2.2⟩ hR) ⟨g_Pc_blind _ _ _, hrec, g_pre (vs := .ref a :: vs) ok hP hD hS⟩ rfl (by simpa using hn) hl.1 (by rw [hSe]; simp [g_v]) (g_room hw) hd hf) kk
theorem r_callSN {idx na d' mc' ms' : Nat} {host : String} {vs : List Value} {Q' : Option Value → gMem → Prop} (hC : Ct l mt' d' mc' ms' vs M Q') (hm : g_ms mt' na) (hk : Cond.methodLinkNest mt.1.cls idx mt'.1 host ∈ g_NW) (hd : decode mt.2.1 pc = .ok (.invokestatic idx, 3)) (hn : vs.length = na) (hSe : S = vs.reverse ++ S0) (hR : d' + 1 ≤ R.frames ∧ 8 + (mt'.2.2.1 + 11) + 40 * d' ≤ R.locals) (hw : (S0.map fun v => v.category).sum ≤ 8) (hf : k + mc' ≤ R.cells ∧ n + ms' ≤ R.slots)
    (kk : ∀ v M', Q' v M' → Gw l mt R X (pc + 3) L (v.toList ++ S0) M' (k + mc') (n + ms') Z) : Gw l mt R X pc L S M k n Z := by
  intro ok H locs ls hl hP hD hS
  refine g_back ok hl hS (va_runSN (nL := mt.2.2.1) (As := vs.map (g_v (g_ad X))) (rest := S0.map (g_v (g_ad X))) ⟨ok.1, ok.2.1, ok.2.2.1, ok.2.2.2.1, ok.2.2.2.2.1⟩ (hC (g_E X)) ⟨va_cnB na ok.2.2.2.2.1 (g_goodT hm.2.2.1) rfl rfl rfl (ok.2.2.2.2.2.2.2.2.2.1 _ hk) (ok.2.2.2.2.1 _ hm.2.1) hm.2.2.2 hR, ok.2.2.2.2.1 _ hm.1, trivial⟩ ⟨g_Pc_blind _ _ _, g_pre ok hP hD hS⟩ rfl (by simpa using hn) hl.1 (by rw [hSe]; simp) (g_room hw) hd hf) kk
end CALLS
