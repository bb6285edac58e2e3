/-! methods that throw NoSuchElementException, and the one that catches it -/
abbrev g_nse : String := "java/util/NoSuchElementException"
abbrev g_nms : List String := ["java/lang/RuntimeException", "java/lang/Exception"]
/-- the bytes of NoSuchElementException's constructor, and where it names its superclass's -/
def x_rx : ByteArray := ⟨#[0x2a, 0x2b, 0xb7, 0x00, 0x0d, 0xb1]⟩
theorem x_rx0 : decode x_rx 0 = .ok (.aload_n 0, 1) := by decide +kernel
theorem x_rx1 : decode x_rx 1 = .ok (.aload_n 1, 1) := by decide +kernel
theorem x_rx2 : decode x_rx 2 = .ok (.invokespecial 13, 3) := by decide +kernel
theorem x_rx5 : decode x_rx 5 = .ok (.return_, 1) := by decide +kernel
def x_all : List Cond := Bundle.ownAtomsX RX11 193 g_nse 13 x_rx g_nms
def x_w : List Cond := x_all.filter vx_no
theorem x_good : (Cond.classLink RX11 189 g_nse :: Cond.initialized g_nse :: x_w).all vx_ot = true := by decide +kernel
def x_isC : Cond → Bool
  | .castable _ _ => true
  | _ => false
theorem x_gw : x_w.all (fun w => goodWord w || g_nest w) = true := by decide +kernel
theorem x_in : x_w.all (fun w => lw_tbl.contains w) = true := by decide +kernel
/-- new is done, the constructor and athrow follow -/
theorem x_ctor {p : Program} {l : Launch} {e : Env} {R : Room} {s : State} {m₀ : MethodId} {args : Array Value} {below : List Frame} {meth : Method} {c : Code} {W : State} {locs : List Loc} {cells slots : Nat} (X : Stand p l e R s m₀ args below meth c W locs cells slots) (hexec : p.tables.exec = Jvm.exec) (htr : e.platform.stackTraces = false)
    (hown : s.vm.findClass RX11 = some m₀.cls) (h : ∀ a ∈ x_all, a.before args s = true) (hlocs : ∀ x ∈ locs, ∀ cell, s.heap[x.base]? = some cell → cell.vm.isStatics = false)
    {a : Addr} {cX : ClassId} {kX : Class} (hfoundX : s.vm.findClass g_nse = some cX) (hkX : s.vm.classes[cX]? = some kX) (hcell : W.heap[a]? = some (freshCell cX kX)) (hnew : s.heap.size ≤ a)
    {msg : Value} (hmsg : msg.isRef = true)
    {g : JFrame} (hg : g.method = m₀) (hsize : g.locals.size = c.maxLocals) (hlocked : g.locked = none) (hentered : g.entered = []) {rest : List Value} (hstack : g.stack = msg :: .ref a :: .ref a :: rest)
    (hd6 : decode c.code g.pc = .ok (.invokespecial 193, 3)) (hd9 : decode c.code (g.pc + 3) = .ok (.athrow, 1)) (hout : ∀ x ∈ c.exceptionTable.toList, covers x (g.pc + 3) = false)
    (hRframes : 5 < R.frames) (hRlocals : 2 * g.monitorRoom + ((Value.ref a :: rest).map fun v => v.category).sum + 81 ≤ R.locals) (hlocks : meth.locks = false) :
    ∃ U : State, Steps p.tables e below (W.setTop g) U ∧ U.status = .running ∧ Ended U below (.threw a) ∧ s.WarmedH U.vm ∧ s.sameButNew ({ U with vm := s.vm } : State) locs cells slots ∧
      ∃ ce, U.heap[a]? = some ce ∧ ce.vm = .none ∧ s.vm.findClass g_nse = some ce.cls := by
  have howns : e.platform.frameOwnsMonitors = true := by rw [X.admits.platform]
  have hfin : e.platform.finalization = false := by rw [X.admits.platform]
  have hpl : e.platform.magicAccessors = ({} : Platform).magicAccessors := by rw [X.admits.platform]
  have hcls : Bundle.fit g_nse = true := by decide
  have hnames : ∀ n ∈ g_nms, Bundle.fit n = true := by decide
  have a' : ∀ x, x ∈ x_all → x.holds args s none s [] = true := fun x hx => h x hx
  obtain ⟨T, Z0, L, -, Y⟩ := ThrowableC.of_atoms (args := args) howns hfin hpl (fun x hx => h x (by simp [x_all, Bundle.ownAtomsX, hx]))
  obtain ⟨Z, M, LZ, LM, hnZ⟩ := Init0T.ofS_atoms (args := args) hpl L Y (fun x hx => h x (by simp [x_all, Bundle.ownAtomsX, hx]))
  obtain ⟨P1, Ps, hlen, L1, hL, hP1m, hlink1, hlink⟩ := Bundle.chainSX (args := args) hpl hnZ x_rx0 x_rx1 x_rx2 x_rx5 g_nms g_nse hcls hnames (fun x hx => h x (by simp [x_all, Bundle.ownAtomsX, hx]))
  have hlen : Ps.length = 2 := hlen
  have hfound : s.vm.findClass g_nse = some P1.m.cls := findClass_of_methodNamed hP1m
  cases Option.some.inj (hfoundX.symm.trans hfound)
  obtain ⟨c1, kX', hc1, hk, hord, -, -, hn6⟩ := Cond.instantiable_spec (a' (.instantiable g_nse 6) (by simp [x_all, Bundle.ownAtomsX]))
  cases Option.some.inj (hc1.symm.trans hfound)
  cases Option.some.inj (hkX.symm.trans hk)
  have hsel0 : selectMethod e.platform s.vm P1.m.cls T.fill0 = .method T.fill0 := by
    obtain ⟨c2, r2, m2, q1, q2, q3, q4, -⟩ := Cond.selects_spec (a' (.selects g_nse Bundle.tFill0 Bundle.tFill0) (by simp [x_all, Bundle.ownAtomsX]))
    cases Option.some.inj (q1.symm.trans hfound)
    cases Option.some.inj (q2.symm.trans (State.methodFound?_of_named Y.fill0 (by decide)))
    cases Option.some.inj (q3.symm.trans Y.fill0)
    rw [Launch.admits_selectMethod X.admits]; exact q4
  have hselF : selectMethod e.platform s.vm P1.m.cls T.fill = .method T.fill := by
    obtain ⟨c2, r2, m2, q1, q2, q3, q4, -⟩ := Cond.selects_spec (a' (.selects g_nse Bundle.tFill Bundle.tFill) (by simp [x_all, Bundle.ownAtomsX]))
    cases Option.some.inj (q1.symm.trans hfound)
    cases Option.some.inj (q2.symm.trans (State.methodFound?_of_named Y.fill (by decide)))
    cases Option.some.inj (q3.symm.trans Y.fill)
    rw [Launch.admits_selectMethod X.admits]; exact q4
  obtain ⟨cellS0, hcS0, hiss⟩ := Y.statics
  obtain ⟨u0, hu0⟩ := Cond.staticRefV Y.unassigned L.unassignedStatic L.statics hcS0 hiss (a' (.isRef (.static Bundle.tN "UNASSIGNED_STACK" Bundle.steD)) (by simp [x_all, Bundle.ownAtomsX]))
  obtain ⟨sen, hsen⟩ := Cond.staticRefV Y.sentinel L.sentinelStatic L.statics hcS0 hiss (a' (.isRef (.static Bundle.tN "SUPPRESSED_SENTINEL" Bundle.listD)) (by simp [x_all, Bundle.ownAtomsX]))
  obtain ⟨ci198, i198, fB, hk198, hg198, ha198, hsB, -, hnB, htB, hffB⟩ := Cond.ownField (t := .object "java/lang/Object") Y.found L.cls (by decide +kernel) (a' (.fieldLink Bundle.tN 198 Bundle.tN "backtrace" "Ljava/lang/Object;") (by simp [x_all, Bundle.ownAtomsX])) (a' (.lays Bundle.tN Bundle.tN "backtrace" "Ljava/lang/Object;") (by simp [x_all, Bundle.ownAtomsX])) e.platform hpl
  obtain ⟨cellS, hcS', heS, -, hkeep⟩ := X.same.2.2.2.2.2 T.aS cellS0 hcS0
  have hcellS : W.heap[T.aS]? = some cellS := hcS'
  have hout' : ∀ i, (⟨T.aS, i⟩ : Loc) ∉ locs := fun i hmem => by
    have := hlocs _ hmem cellS0 hcS0
    rw [hiss] at this; cases this
  have hknownS : cellS.vm ≠ .unknown := by
    rw [heS]; intro hu
    rw [show cellS0.vm = .unknown from hu] at hiss
    cases hiss
  have hneS : T.aS ≠ a := Nat.ne_of_lt (Nat.lt_of_lt_of_le (Array.getElem?_eq_some_iff.mp hcS0).1 hnew)
  obtain ⟨iM, hffM⟩ := Y.msg
  obtain ⟨tyC, dC, hdC, hdnC⟩ := Cond.laysAt hfound hk Y.cause (a' (.lays g_nse Bundle.tN "cause" "Ljava/lang/Throwable;") (by simp [x_all, Bundle.ownAtomsX]))
  obtain ⟨tyS, dS, hdS, hdnS⟩ := Cond.laysAt hfound hk Y.stack (a' (.lays g_nse Bundle.tN "stackTrace" Bundle.steD) (by simp [x_all, Bundle.ownAtomsX]))
  obtain ⟨tyP, dP, hdP, hdnP⟩ := Cond.laysAt hfound hk Y.supp (a' (.lays g_nse Bundle.tN "suppressedExceptions" Bundle.listD) (by simp [x_all, Bundle.ownAtomsX]))
  obtain ⟨tyM, dM, hdM, hdnM⟩ := Cond.laysAt hfound hk hffM (a' (.lays g_nse Bundle.tN "detailMessage" "Ljava/lang/String;") (by simp [x_all, Bundle.ownAtomsX]))
  obtain ⟨tyB, dB, hdB, hdnB⟩ := Cond.laysAt hfound hk hffB (a' (.lays g_nse Bundle.tN "backtrace" "Ljava/lang/Object;") (by simp [x_all, Bundle.ownAtomsX]))
  have bC := Cond.laysApart hdB hdC hdnB hdnC (by rw [hnB, Y.causeName]; decide)
  have bS := Cond.laysApart hdB hdS hdnB hdnS (by rw [hnB, Y.stackName]; decide)
  have bP := Cond.laysApart hdB hdP hdnB hdnP (by rw [hnB, Y.suppName]; decide)
  have hskip : SkipFacts T e.platform s (fun u => u) u0 ((preparedCellV T.toThrowableT (freshCell P1.m.cls kX) a u0 sen).withEntry W.cur) :=
    ⟨{ ci198 := ci198, i198 := i198, fBack := fB }, ⟨hk198, hg198, ha198, hsB⟩, by
      have := fresh_default (c := P1.m.cls) tyB
      rw [htB] at this
      simpa [preparedCellV, Cell.setSlot, Cell.withEntry, Array.getElem?_setIfInBounds, bC, bS, bP, bC.symm, bS.symm, bP.symm, defaultValue] using this, fun _ _ => rfl⟩
  obtain ⟨tm, methC, cdC, kC, vm₁, hnC, -, -, -, -, -, -, -, hW₁, st1⟩ := Steps.initColdS (tb := p.tables) (e := e) (below := below) (s := s) (U := W) X.here hexec X.warmed hpl hown (t := Bundle.initS g_nse) rfl rfl (Bundle.fit_spec hcls).2
    (a' (.methodLink RX11 193 (Bundle.initS g_nse)) (by simp [x_all, Bundle.ownAtomsX])) (h (.instanceMethod (Bundle.initS g_nse)) (by simp [x_all, Bundle.ownAtomsX, Bundle.chainSAtomsX, Bundle.passSAtoms])) (bytes := x_rx) (maxL := 2) (h (.code (Bundle.initS g_nse) x_rx 2 none) (by simp [x_all, Bundle.ownAtomsX, Bundle.chainSAtomsX, Bundle.passSAtoms]))
    (f := g) hg (a := a) (msg := msg) (rest := .ref a :: rest) hstack hd6
  cases Option.some.inj (hnC.symm.trans hP1m)
  have X₁ := X.noted hW₁
  obtain ⟨vm₂, X₂, st2⟩ := X₁.ctorMessageOffV hexec (g := { g with stack := .ref a :: rest }) hg hsize T L Z LZ M LM (P1 :: Ps)
    (fun P hP => by rcases List.mem_cons.mp hP with rfl | hP; exact L1; exact hL P hP) ⟨hlink1, hlink⟩ (u0 := u0) (sen := sen) (self := a) hmsg (cell := freshCell P1.m.cls kX) (cellS := cellS)
    hcell (fun _ => by simp) (by simp) rfl rfl hsel0 hselF hcellS hneS hknownS (by rw [hkeep _ (hout' _)]; exact hu0) (by rw [hkeep _ (hout' _)]; exact hsen)
    (Takes.of_laid hk hord tyC (by rw [Y.causeType]; rfl)) (Takes.of_laid hk hord tyS (by rw [Y.stackType]; exact fits_refV_array _ u0)) (Takes.of_laid hk hord tyP (by rw [Y.suppType]; exact fits_refV_object _ sen))
    (Takes.of_laid hk hord tyM (by rw [Y.msgType]; exact fits_refV_object _ ⟨msg, hmsg⟩)) Y.objLocals hskip htr [] hd6
    (by simp only [List.length_cons, hlen]; omega) (by simp only [List.length_cons, hlen]; exact hRlocals)
  obtain ⟨hwalk, hrun, hended, hWU, hsame⟩ := X₂.athrowLeaves hexec (g := { g with stack := .ref a :: rest, pc := g.pc + 3 }) hg hlocked hentered hout (a := a) (rest := rest) rfl hd9
  have hlt : a < ((W.setVm vm₁).setVm vm₂).heap.size := (Array.getElem?_eq_some_iff.mp hcell).1
  have hU := heapAt_setCell_self (s := (W.setVm vm₁).setVm vm₂) (plainBareV T.toThrowableT (freshCell P1.m.cls kX) a u0 sen msg) hlt
  refine ⟨_, st1 _ (fun acts => ?_), hrun, hended, hWU, hsame.weaken (fun y hy hlt' => ?_) (Nat.le_refl _) (Nat.le_refl _), _, hU, rfl, hfound⟩
  · rw [doInvoke_state]
    exact st2 _ hwalk
  · rcases List.mem_append.mp hy with h1 | h1
    · exact h1
    · exfalso
      have hb : y.base = a := by
        simp only [List.mem_cons, List.not_mem_nil, or_false] at h1
        rcases h1 with rfl | rfl | rfl | rfl | rfl <;> rfl
      rw [hb] at hlt'
      exact Nat.not_lt.mpr hnew hlt'
theorem x_thr {p : Program} {l : Launch} {e : Env} {R : Room} {s : State} {m : MethodId} {args : Array Value} {below : List Frame} {meth : Method} {c : Code} {H : Heap} {locs : List Loc} {cells slots : Nat} {free : Addr → Prop} {ls : Array Slot} {rest : List Value} {Qc : Array Value → State → Outcome → State → Prop} {XC : String → State → State → Prop} {cc : ByteArray} {pc : Nat} (hexec : p.tables.exec = Jvm.exec) (hb : c.code = cc) (hl : l.stackTraces = false) {text : String} {is mc ms sa : Nat} {A : Nat → Prop}
    (hown : s.vm.findClass RX11 = some m.cls) (hk : (Cond.classLink RX11 189 g_nse).before args s = true) (hini : (Cond.initialized g_nse).before args s = true) (hstr : vk_R RX11 is text sa s) (hat : ∀ w ∈ x_w, w.before args s = true)
    (hU : vx_Zq Bundle.tN "UNASSIGNED_STACK" Bundle.steD A s s.heap) (hN : vx_Zq Bundle.tN "SUPPRESSED_SENTINEL" Bundle.listD A s s.heap) (hS : va_S A s.heap H locs) (hsize : ls.size = c.maxLocals)
    (d0 : decode cc pc = .ok (.new 189, 3)) (d3 : decode cc (pc + 3) = .ok (.dup, 1)) (d4 : decode cc (pc + 4) = .ok (.ldc is, 2)) (d6 : decode cc (pc + 6) = .ok (.invokespecial 193, 3)) (d9 : decode cc (pc + 9) = .ok (.athrow, 1))
    (hout : ∀ x ∈ c.exceptionTable.toList, covers x (pc + 9) = false)
    (hRframes : 5 < R.frames) (hRlocals : (rest.map fun v => v.category).sum + 82 ≤ R.locals) (hRcells : cells + 1 ≤ R.cells) (hRslots : slots + 6 ≤ R.slots) (hlocks : meth.locks = false)
    (hx : ∀ t : State, s.vm.Alike t.vm → H.size ≤ t.heap.size → (∀ q : Nat, q < H.size → t.heap[q]? = H[q]?) → XC g_nse s t)
    (hf : ∀ z ∈ locs, free z.base) (hc : cells + 1 ≤ mc) (hs : slots + 6 ≤ ms) :
    W p l e R s m args below meth c H locs cells slots (vx_MQ below Qc XC args s mc ms free) (F0 m pc ls rest) := by
  intro T hT X
  have htr : e.platform.stackTraces = false := (show e.platform.stackTraces = l.stackTraces by rw [X.admits.platform]).trans hl
  have Y := vx_rebase X (R' := { frames := R.frames, locals := R.locals, cells := 1, slots := 6 }) (Nat.le_refl _) (Nat.le_refl _) hRcells hRslots
  obtain ⟨s', hA⟩ : ∃ z, z = (T.setVm s.vm).setFrames (.invoking m args :: below) := ⟨_, rfl⟩
  rw [← hA] at Y
  have hvm : s'.vm = s.vm := by rw [hA]; rfl
  have hhp : s'.heap = H := by rw [hA]; exact hT
  have hW0 : s.WarmedH s'.vm := by rw [hvm]; exact State.WarmedH.refl s
  have hgood : ∀ w ∈ Cond.classLink RX11 189 g_nse :: Cond.initialized g_nse :: x_w, vx_ot w = true := List.all_eq_true.mp x_good
  have hat' : ∀ w ∈ x_w, w.before args s' = true := fun w hw => vx_ot_at hW0 hvm.symm (hgood w (List.mem_cons_of_mem _ (List.mem_cons_of_mem _ hw))) (hat w hw)
  have hk' : (Cond.classLink RX11 189 g_nse).before args s' = true := vx_ot_at hW0 hvm.symm (hgood _ List.mem_cons_self) hk
  have hini' : (Cond.initialized g_nse).before args s' = true := vx_ot_at hW0 hvm.symm (hgood _ (List.mem_cons_of_mem _ List.mem_cons_self)) hini
  have hU' : vx_Zq Bundle.tN "UNASSIGNED_STACK" Bundle.steD A s' s'.heap := by rw [hhp]; exact vx_Zq.moved hW0.alike (hU.kept hS.2.1)
  have hN' : vx_Zq Bundle.tN "SUPPRESSED_SENTINEL" Bundle.listD A s' s'.heap := by rw [hhp]; exact vx_Zq.moved hW0.alike (hN.kept hS.2.1)
  have h : ∀ w ∈ x_all, w.before args s' = true := vx_own hat' (vx_isRefq hU'.1) (vx_isRefq hN'.1) hU'.2.word hN'.2.word
  have hown' : s'.vm.findClass RX11 = some m.cls := by rw [hvm]; exact hown
  have hins : (Cond.instantiable g_nse 6).before args s' = true := h _ (by simp [x_all, Bundle.ownAtomsX])
  obtain ⟨vm₁, cX, kX, hfX, hkX, -, -, X₁, st1⟩ := Y.newCold hexec (own := RX11) (C := g_nse) (index := 189) (n := 6) hown' hk' hins hini'
    (g := F0 m pc ls rest) rfl (by rw [hb]; exact d0) (Nat.le_refl _) (Nat.le_refl _)
  generalize hT1 : (T.setVm vm₁).pushCell { cls := cX, slots := kX.instanceTypes.map defaultValue, vm := .none } = T1 at X₁ st1
  have hcat : (Value.ref T.heap.size).category = 1 := rfl
  have hcellA : T1.heap[T.heap.size]? = some (freshCell cX kX) := by rw [← hT1]; exact State.heap_pushCell_size _ _
  have d3' : decode c.code (pc + 3) = .ok (.dup, 1) := by rw [hb]; exact d3
  have d4' : decode c.code (pc + 4) = .ok (.ldc is, 2) := by rw [hb]; exact d4
  have hstr' : vk_R RX11 is text sa s' := vk_R.warm hW0 hstr
  obtain ⟨U, hsteps, hrun, hend, hW, hsame, ce, hce, hcv, hcc⟩ := x_ctor X₁ hexec htr hown' h (fun x hx => nomatch hx) hfX hkX hcellA (by rw [hhp, hT]; exact Nat.le_refl _) (msg := .ref sa) rfl
    (g := { method := m, pc := pc + 6, locals := ls, stack := .ref sa :: .ref T.heap.size :: .ref T.heap.size :: rest, locked := none }) rfl hsize rfl rfl (rest := rest) rfl
    (by rw [hb]; exact d6) (by rw [hb]; exact d9) hout hRframes (by simp only [List.map_cons, List.sum_cons, hcat]; show 2 * 0 + _ + _ ≤ _; omega) hlocks
  obtain ⟨f1, f2⟩ := vx_frame hsame
  rw [hhp] at f1 f2
  have hWs : s.WarmedH U.vm := State.WarmedH.trans hW0 hW
  have hcl : s.vm.findClass g_nse = some ce.cls := by
    have h9 := hcc
    rw [hvm] at h9
    exact h9
  have hall : s.sameButNew ({ U with vm := s.vm } : State) locs mc ms := by
    subst hA
    obtain ⟨e1, e2⟩ := hsame
    rw [State.setFrames_setFrames] at e1
    have h2 : (T.setVm s.vm).sameButNew ({ U with vm := s.vm } : State) [] (0 + 1) (0 + 6) := ⟨e1, e2⟩
    have h3 := X.same.trans h2
    rw [List.append_nil] at h3
    exact h3.mono hc hs
  refine ⟨U, ?_, .threw T.heap.size, hrun, hend, Or.inr ⟨T.heap.size, rfl, g_nse, ce, locs, hx U hWs.alike f1 (fun q hq => f2 q hq (fun z hz => nomatch hz)), hce, hcv, hcl, hWs, hall, hf⟩⟩
  refine st1 _ ?_
  show Steps p.tables e below (T1.setTop { method := m, pc := pc + 3, locals := ls, stack := .ref T.heap.size :: rest, locked := none }) _
  jvm_step X₁.here [X₁.here.top, hexec, d3', Value.category]
  exact X₁.ldcString hexec (own := RX11) (text := text) (index := is) (a := sa) hown' hstr'.1 hstr'.2
    (g := { method := m, pc := pc + 4, locals := ls, stack := .ref T.heap.size :: .ref T.heap.size :: rest, locked := none }) rfl d4' _ hsteps
theorem x_thrW {p : Program} {l : Launch} {e : Env} {R : Room} {s : State} {m : MethodId} {args : Array Value} {below : List Frame} {meth : Method} {c : Code} {H : Heap} {locs : List Loc} {cells slots : Nat} {free : Addr → Prop} {ls : Array Slot} {rest : List Value} {Qc : Array Value → State → Outcome → State → Prop} {XC : String → State → State → Prop} {cc : ByteArray} {pc : Nat} (hexec : p.tables.exec = Jvm.exec) (hb : c.code = cc) (hl : l.stackTraces = false) {text : String} {is mc ms sa : Nat} {A : Nat → Prop}
    (hown : s.vm.findClass RX11 = some m.cls) (hk : (Cond.classLink RX11 189 g_nse).before args s = true) (hini : (Cond.initialized g_nse).before args s = true) (hstr : vk_R RX11 is text sa s) (hat : ∀ w ∈ x_w, w.before args s = true)
    (hU : vx_Zq Bundle.tN "UNASSIGNED_STACK" Bundle.steD A s s.heap) (hN : vx_Zq Bundle.tN "SUPPRESSED_SENTINEL" Bundle.listD A s s.heap) (hS : va_S A s.heap H locs) (hsize : ls.size = c.maxLocals)
    (d0 : decode cc pc = .ok (.new 189, 3)) (d3 : decode cc (pc + 3) = .ok (.dup, 1)) (d4 : decode cc (pc + 4) = .ok (.ldc_w is, 3)) (d6 : decode cc (pc + 7) = .ok (.invokespecial 193, 3)) (d9 : decode cc (pc + 10) = .ok (.athrow, 1))
    (hout : ∀ x ∈ c.exceptionTable.toList, covers x (pc + 10) = false)
    (hRframes : 5 < R.frames) (hRlocals : (rest.map fun v => v.category).sum + 82 ≤ R.locals) (hRcells : cells + 1 ≤ R.cells) (hRslots : slots + 6 ≤ R.slots) (hlocks : meth.locks = false)
    (hx : ∀ t : State, s.vm.Alike t.vm → H.size ≤ t.heap.size → (∀ q : Nat, q < H.size → t.heap[q]? = H[q]?) → XC g_nse s t)
    (hf : ∀ z ∈ locs, free z.base) (hc : cells + 1 ≤ mc) (hs : slots + 6 ≤ ms) :
    W p l e R s m args below meth c H locs cells slots (vx_MQ below Qc XC args s mc ms free) (F0 m pc ls rest) := by
  intro T hT X
  have htr : e.platform.stackTraces = false := (show e.platform.stackTraces = l.stackTraces by rw [X.admits.platform]).trans hl
  have Y := vx_rebase X (R' := { frames := R.frames, locals := R.locals, cells := 1, slots := 6 }) (Nat.le_refl _) (Nat.le_refl _) hRcells hRslots
  obtain ⟨s', hA⟩ : ∃ z, z = (T.setVm s.vm).setFrames (.invoking m args :: below) := ⟨_, rfl⟩
  rw [← hA] at Y
  have hvm : s'.vm = s.vm := by rw [hA]; rfl
  have hhp : s'.heap = H := by rw [hA]; exact hT
  have hW0 : s.WarmedH s'.vm := by rw [hvm]; exact State.WarmedH.refl s
  have hgood : ∀ w ∈ Cond.classLink RX11 189 g_nse :: Cond.initialized g_nse :: x_w, vx_ot w = true := List.all_eq_true.mp x_good
  have hat' : ∀ w ∈ x_w, w.before args s' = true := fun w hw => vx_ot_at hW0 hvm.symm (hgood w (List.mem_cons_of_mem _ (List.mem_cons_of_mem _ hw))) (hat w hw)
  have hk' : (Cond.classLink RX11 189 g_nse).before args s' = true := vx_ot_at hW0 hvm.symm (hgood _ List.mem_cons_self) hk
  have hini' : (Cond.initialized g_nse).before args s' = true := vx_ot_at hW0 hvm.symm (hgood _ (List.mem_cons_of_mem _ List.mem_cons_self)) hini
  have hU' : vx_Zq Bundle.tN "UNASSIGNED_STACK" Bundle.steD A s' s'.heap := by rw [hhp]; exact vx_Zq.moved hW0.alike (hU.kept hS.2.1)
  have hN' : vx_Zq Bundle.tN "SUPPRESSED_SENTINEL" Bundle.listD A s' s'.heap := by rw [hhp]; exact vx_Zq.moved hW0.alike (hN.kept hS.2.1)
  have h : ∀ w ∈ x_all, w.before args s' = true := vx_own hat' (vx_isRefq hU'.1) (vx_isRefq hN'.1) hU'.2.word hN'.2.word
  have hown' : s'.vm.findClass RX11 = some m.cls := by rw [hvm]; exact hown
  have hins : (Cond.instantiable g_nse 6).before args s' = true := h _ (by simp [x_all, Bundle.ownAtomsX])
  obtain ⟨vm₁, cX, kX, hfX, hkX, -, -, X₁, st1⟩ := Y.newCold hexec (own := RX11) (C := g_nse) (index := 189) (n := 6) hown' hk' hins hini'
    (g := F0 m pc ls rest) rfl (by rw [hb]; exact d0) (Nat.le_refl _) (Nat.le_refl _)
  generalize hT1 : (T.setVm vm₁).pushCell { cls := cX, slots := kX.instanceTypes.map defaultValue, vm := .none } = T1 at X₁ st1
  have hcat : (Value.ref T.heap.size).category = 1 := rfl
  have hcellA : T1.heap[T.heap.size]? = some (freshCell cX kX) := by rw [← hT1]; exact State.heap_pushCell_size _ _
  have d3' : decode c.code (pc + 3) = .ok (.dup, 1) := by rw [hb]; exact d3
  have d4' : decode c.code (pc + 4) = .ok (.ldc_w is, 3) := by rw [hb]; exact d4
  have hstr' : vk_R RX11 is text sa s' := vk_R.warm hW0 hstr
  obtain ⟨U, hsteps, hrun, hend, hW, hsame, ce, hce, hcv, hcc⟩ := x_ctor X₁ hexec htr hown' h (fun x hx => nomatch hx) hfX hkX hcellA (by rw [hhp, hT]; exact Nat.le_refl _) (msg := .ref sa) rfl
    (g := { method := m, pc := pc + 7, locals := ls, stack := .ref sa :: .ref T.heap.size :: .ref T.heap.size :: rest, locked := none }) rfl hsize rfl rfl (rest := rest) rfl
    (by rw [hb]; exact d6) (by rw [hb]; exact d9) hout hRframes (by simp only [List.map_cons, List.sum_cons, hcat]; show 2 * 0 + _ + _ ≤ _; omega) hlocks
  obtain ⟨f1, f2⟩ := vx_frame hsame
  rw [hhp] at f1 f2
  have hWs : s.WarmedH U.vm := State.WarmedH.trans hW0 hW
  have hcl : s.vm.findClass g_nse = some ce.cls := by
    have h9 := hcc
    rw [hvm] at h9
    exact h9
  have hall : s.sameButNew ({ U with vm := s.vm } : State) locs mc ms := by
    subst hA
    obtain ⟨e1, e2⟩ := hsame
    rw [State.setFrames_setFrames] at e1
    have h2 : (T.setVm s.vm).sameButNew ({ U with vm := s.vm } : State) [] (0 + 1) (0 + 6) := ⟨e1, e2⟩
    have h3 := X.same.trans h2
    rw [List.append_nil] at h3
    exact h3.mono hc hs
  refine ⟨U, ?_, .threw T.heap.size, hrun, hend, Or.inr ⟨T.heap.size, rfl, g_nse, ce, locs, hx U hWs.alike f1 (fun q hq => f2 q hq (fun z hz => nomatch hz)), hce, hcv, hcl, hWs, hall, hf⟩⟩
  refine st1 _ ?_
  show Steps p.tables e below (T1.setTop { method := m, pc := pc + 3, locals := ls, stack := .ref T.heap.size :: rest, locked := none }) _
  jvm_step X₁.here [X₁.here.top, hexec, d3', Value.category]
  exact X₁.ldcStringW hexec (own := RX11) (text := text) (index := is) (a := sa) hown' hstr'.1 hstr'.2
    (g := { method := m, pc := pc + 4, locals := ls, stack := .ref T.heap.size :: .ref T.heap.size :: rest, locked := none }) rfl d4' _ hsteps
def g_Xc (E : gEnv) (Qx : gMem → Prop) : String → State → State → Prop := fun C st t => C = g_nse ∧ (∃ M' : gMem, Qx M' ∧ va_P E.1 g_cl (g_ws E.2.1 E.2.2.1 M') t.heap ∧ va_D E.2.2.2.1 (g_ws E.2.1 E.2.2.1 M')) ∧ va_F E.2.2.2.1 st t
def CtX (l : Launch) (mt : gMt) (d mc ms : Nat) (vs : List Value) (M : gMem) (Q : Option Value → gMem → Prop) (Qx : gMem → Prop) : Prop := ∀ E : gEnv, vx_Met l mt.1 (g_tb mt) (g_rm d mc ms) (g_Pc E vs M) (g_Qc E Q) (g_Xc E Qx) mc ms E.2.2.2.1
def g_ZX (X : gX) (Q : Option Value → gMem → Prop) (Qx : gMem → Prop) (mc ms : Nat) : State → Prop := vx_MQ (g_below X) (g_Qc (g_E X) Q) (g_Xc (g_E X) Qx) (g_args X) (g_s X) mc ms (g_A X)
theorem CtX.of {l : Launch} {mt : gMt} {d mc ms : Nat} {vs : List Value} {M : gMem} {Q : Option Value → gMem → Prop} {Qx : gMem → Prop} (hy : plainName mt.1.cls = true) (hn : (g_ent vs).length ≤ mt.2.2.1) (body : ∀ X : gX, (∀ x ∈ (g_c X).exceptionTable.toList, False) → Gw l mt (g_rm d mc ms) X 0 (g_ent vs) [] M 0 0 (g_ZX X Q Qx mc ms)) : CtX l mt d mc ms vs M Q Qx := by
  intro E
  refine vx_ofW (cc := mt.2.1) (maxL := mt.2.2.1) (ret := mt.2.2.2) hy rfl ?_
  intro p e s m args below meth c s₁ B hml htab hv
  obtain ⟨rfl, hP, hD, hK, hC⟩ := hv
  have hle : (lg_sl (vs.map (g_v E.2.2.1))).length ≤ mt.2.2.1 := by rw [g_sl_len]; exact hn
  have hl := lv_entry (vs.map (g_v E.2.2.1)) hle
  rw [lg_entry_eq]
  refine body (p, e, s, m, _, below, meth, c, E) htab ⟨B.exec, B.bytes, hml, findClass_of_methodNamed B.named, fun w hw => atoms_spec (ws := g_tb mt) B.pre w (List.mem_cons_of_mem _ hw), B.notSynchronized, B.returns, (name_of_methodNamed B.named B.method).1, hK, hC⟩ s.heap [] _ ⟨hl.1, hl.2.1, fun i v h => ?_⟩ hP hD va_S.rf
  have h2 := hl.2.2 _ (g_ent_args E.2.2.1 vs 0 i v h)
  rw [Nat.zero_add] at h2
  exact h2
def CtH (l : Launch) (mt : gMt) (hh : List (Nat × Nat × Nat × Nat)) (d mc ms : Nat) (vs : List Value) (M : gMem) (Q : Option Value → gMem → Prop) : Prop := ∀ E : gEnv, Met l mt.1 (Cond.codeWith mt.1 mt.2.1 mt.2.2.1 mt.2.2.2 hh :: g_TB) (g_rm d mc ms) (g_Pc E vs M) (g_Qc E Q) mc ms E.2.2.2.1
theorem CtH.of {l : Launch} {mt : gMt} {hh : List (Nat × Nat × Nat × Nat)} {d mc ms : Nat} {vs : List Value} {M : gMem} {Q : Option Value → gMem → Prop} (hy : plainName mt.1.cls = true) (hn : (g_ent vs).length ≤ mt.2.2.1) (body : ∀ X : gX, (g_c X).exceptionTable.toList = tableOf hh → Gw l mt (g_rm d mc ms) X 0 (g_ent vs) [] M 0 0 (g_Z X Q mc ms)) : CtH l mt hh d mc ms vs M Q := by
  intro E
  refine va_MetW (cc := mt.2.1) (maxL := mt.2.2.1) (ret := mt.2.2.2) (hh := hh) hy rfl ?_
  intro p e s m args below meth c s₁ B hml hv
  obtain ⟨rfl, hP, hD, hK, hC⟩ := hv
  have htab := vx_table (x := mt.1) B (atoms_spec (ws := Cond.codeWith mt.1 mt.2.1 mt.2.2.1 mt.2.2.2 hh :: g_TB) B.pre _ List.mem_cons_self)
  have hle : (lg_sl (vs.map (g_v E.2.2.1))).length ≤ mt.2.2.1 := by rw [g_sl_len]; exact hn
  have hl := lv_entry (vs.map (g_v E.2.2.1)) hle
  rw [lg_entry_eq]
  refine body (p, e, s, m, _, below, meth, c, E) htab ⟨B.exec, B.bytes, hml, findClass_of_methodNamed B.named, fun w hw => atoms_spec (ws := Cond.codeWith mt.1 mt.2.1 mt.2.2.1 mt.2.2.2 hh :: g_TB) B.pre w (List.mem_cons_of_mem _ hw), B.notSynchronized, B.returns, (name_of_methodNamed B.named B.method).1, hK, hC⟩ s.heap [] _ ⟨hl.1, hl.2.1, fun i v h => ?_⟩ hP hD va_S.rf
  have h2 := hl.2.2 _ (g_ent_args E.2.2.1 vs 0 i v h)
  rw [Nat.zero_add] at h2
  exact h2
def q_x (Q : gS → Prop) : gMem → Prop := fun M => ∃ s : gS, M = nrm s ∧ Q s
section THROW
variable {l : Launch} {mt mt' : gMt} {R : Room} {X : gX} {pc : Nat} {L L' : List (Option Value)} {S S0 : List Value} {M : gMem} {k n mc ms : Nat} {Z : State → Prop} {Q : Option Value → gMem → Prop} {Qx : gMem → Prop}
theorem x_ret (h : Gw l mt R X pc L S M k n (g_Z X Q mc ms)) : Gw l mt R X pc L S M k n (g_ZX X Q Qx mc ms) := fun ok H locs ls hl hP hD hS => vx_ret (h ok H locs ls hl hP hD hS)
theorem g_lv_none {ls' : Array Slot} {nL i : Nat} {v : Value} (hn : g_nl L i = true) (hL : L.set i none = L') (h : lv_has ls' nL ((i, v) :: (g_lvl X L).filter (fun q => !(q.1 == i) && !(q.1 + 1 == i && q.2.category == 2)))) : g_lv X ls' nL L' := by
  refine ⟨h.1, h.2.1, fun j u hj => ?_⟩
  subst hL
  rw [List.getElem?_set] at hj
  by_cases e : i = j
  · subst e
    simp at hj
  · rw [if_neg e] at hj
    refine h.2.2 (j, g_v (g_ad X) u) (List.mem_cons_of_mem _ (List.mem_filter.mpr ⟨g_lvl_mem hj, ?_⟩))
    have e2 : ¬ j = i := fun q => e q.symm
    by_cases e3 : j + 1 = i
    · have := g_nl_ok hn hj e3
      simp [e2, g_v_cat, this]
    · simp [e2, e3]
/-- what a caught exception needs: its handler lays it aside -/
def g_hd (l : Launch) (mt : gMt) (R : Room) (X : gX) (pc : Nat) (L : List (Option Value)) (M : gMem) (k n : Nat) (Z : State → Prop) : Prop :=
  g_ok mt X → ∀ (q : Nat) (H : Heap) (locs : List Loc) (ls : Array Slot), g_lv X ls mt.2.2.1 L → va_P (g_D X) g_cl (g_w X M) H → va_D (g_A X) (g_w X M) → va_S (g_A X) (g_s X).heap H locs → W X.1 l X.2.1 R (g_s X) (g_m X) (g_args X) (g_below X) (g_meth X) (g_c X) H locs k n Z (F0 (g_m X) pc ls [.ref q])
theorem x_ast {i : Nat} (hd : decode mt.2.1 pc = .ok (.astore i, 2)) (hL : L.set i none = L') (hi : i < mt.2.2.1) (hn : g_nl L i = true) (kk : Gw l mt R X (pc + 2) L' [] M k n Z) : g_hd l mt R X pc L M k n Z := fun ok q H locs ls hl hP hD hS => lv_astore ok.1 ok.2.1 hd (g_lv_has hl) hi rfl (fun ls' h => kk ok H locs ls' (g_lv_none hn hL h) hP hD hS)
theorem x_astn {i : Fin 4} (hd : decode mt.2.1 pc = .ok (.astore_n i, 1)) (hL : L.set (i : Nat) none = L') (hi : (i : Nat) < mt.2.2.1) (hn : g_nl L (i : Nat) = true) (kk : Gw l mt R X (pc + 1) L' [] M k n Z) : g_hd l mt R X pc L M k n Z := fun ok q H locs ls hl hP hD hS => lv_astore_n ok.1 ok.2.1 hd rfl (g_lv_has hl) hi rfl (fun ls' h => kk ok H locs ls' (g_lv_none hn hL h) hP hD hS)
theorem r_callVX {idx na d' mc' ms' a ci nf : Nat} {vs : List Value} {Q' : Option Value → gMem → Prop} {x : ExceptionTableEntry} (hC : CtX l mt' d' mc' ms' (.ref a :: vs) M Q' Qx) (hm : g_mv mt' na) (hsel : Cond.selects mt'.1.cls mt'.1 mt'.1 ∈ g_TB) (hk : Cond.methodLink mt.1.cls idx mt'.1 ∈ g_TB) (hd : decode mt.2.1 pc = .ok (.invokevirtual idx, 3)) (hn : vs.length = na) (ha : a < M.1) (hs : M.2.1 a = (ci, nf)) (hci : (g_cl[ci]?).map (fun q => q.1) = some mt'.1.cls ∧ ci < 100) (hSe : S = vs.reverse ++ .ref a :: S0) (hR : d' + 1 ≤ R.frames ∧ 8 + (mt'.2.2.1 + 11) + 40 * d' ≤ R.locals) (hw : (S0.map fun v => v.category).sum ≤ 8) (hf : k + mc' ≤ R.cells ∧ n + ms' ≤ R.slots)
    (hx : (g_c X).exceptionTable.toList = [x]) (hcov : covers x pc = true) (h0 : x.catchType ≠ 0) (hlk : Cond.classLink mt.1.cls x.catchType g_nse ∈ g_TB) (hcast : Cond.castable g_nse g_nse ∈ g_NW)
    (kx : ∀ M', Qx M' → g_hd l mt R X x.handlerPc L M' (k + mc') (n + ms') Z)
    (kk : ∀ v M', Q' v M' → Gw l mt R X (pc + 3) L (v.toList ++ S0) M' (k + mc') (n + ms') Z) : Gw l mt R X pc L S M k n Z := by
  intro ok H locs ls hl hP hD hS
  have hG : GoodIn g_TB (wsV mt.1.cls idx mt'.1.cls mt'.1 (g_tb mt')) := by
    intro w hw
    rcases List.mem_append.mp hw with h | h
    · simp at h
      rcases h with rfl | rfl | rfl | rfl
      · exact g_gd hk
      · exact g_gd hm.1
      · exact g_gd hsel
      · exact g_gd hm.2.1
    · exact g_goodT hm.2.2.1 w h
  have he := g_ws_at (cA := g_cA X) (ad := g_ad X) ha
  rw [g_cell_o hs hci.2] at he
  cases hc : g_cl[ci]? with
  | none => rw [hc] at hci; exact absurd hci.1 (by simp)
  | some q =>
    rw [hc] at hci
    have hq : q.1 = mt'.1.cls := Option.some.inj hci.1
    have hrec := va_recv ok.2.2.2.2.2.2.2.2.1 hP hc he
    rw [hq] at hrec
    have hr := vx_runV (l := l) (R := R) (below := g_below X) (meth := g_meth X) (p := X.1) (e := X.2.1) (nL := mt.2.2.1) (locs := locs) (cells := k) (slots := n) (g := F0 (g_m X) pc ls (S.map (g_v (g_ad X)))) (As := vs.map (g_v (g_ad X))) (rest := S0.map (g_v (g_ad X))) ⟨ok.1, ok.2.1, ok.2.2.1, ok.2.2.2.1, ok.2.2.2.2.1⟩ (hC (g_E X)) (cwV na ok.2.2.2.2.1 hG rfl rfl rfl ⟨rfl, hm.2.2.2⟩ hR) ⟨g_Pc_blind _ _ _, hrec, g_pre (vs := .ref a :: vs) ok hP hD hS⟩ rfl (by simpa using hn) hl.1 (by rw [hSe]; simp [g_v]) (g_room hw) hd hf
    intro T hT XX
    rcases hr T hT XX with ⟨v, st₀, t, T', Ls, e0, X', hL, e1, e2, ⟨⟨v', M', hv, hq, hP', hD'⟩, hF⟩, st⟩ | ⟨q9, st₀, t, T', Ls, E9, ce, e0, X', hL, e1, e2, ⟨hE, ⟨M', hq, hP', hD'⟩, hF⟩, hce, hcv, hcl, st⟩
    · cases hv
      obtain ⟨-, -, k3⟩ := vx_keep e0 e1 hS (fun _ _ h => h) (fun _ h => h) hL hF
      obtain ⟨t2, a1, b1⟩ := kk v' M' hq ok T'.heap (locs ++ Ls) ls hl (by rw [e1]; exact hP') hD' k3 T' rfl X'
      have e5 : (v'.toList ++ S0).map (g_v (g_ad X)) = (v'.map (g_v (g_ad X))).toList ++ S0.map (g_v (g_ad X)) := by cases v' <;> simp
      rw [e5] at a1
      exact ⟨t2, st t2 a1, b1⟩
    · obtain ⟨-, -, k3⟩ := vx_keep e0 e1 hS (fun _ _ h => h) (fun _ h => h) hL hF
      subst hE
      have hW := vx_catch (l := l) (R := R) (below := g_below X) (meth := g_meth X) (p := X.1) (e := X.2.1) (Q := Z) (ls := ls) (rest := S0.map (g_v (g_ad X))) (locs := locs ++ Ls) (cells := k + mc') (slots := n + ms') (H := T'.heap) (pc := pc) (q := q9) (ce := ce) (E := g_nse) (name := g_nse) ok.2.2.2.1 [] x [] hx (fun z hz => nomatch hz) hcov h0 (ok.2.2.2.2.1 _ hlk) (va_Nw.use (g_nest_t (List.mem_filter.mp hcast).2) (ok.2.2.2.2.2.2.2.2.2.1 _ hcast)) (by rw [e1]; exact hce) hcv hcl (kx M' hq ok q9 T'.heap (locs ++ Ls) ls hl (by rw [e1]; exact hP') hD' k3)
      obtain ⟨t2, a1, b1⟩ := hW T' rfl X'
      exact ⟨t2, st.trans a1, b1⟩
end THROW
theorem x_lk : Cond.classLink RX11 189 g_nse ∈ g_TB := g_in5 87 (by decide +kernel) rfl
theorem x_ini : Cond.initialized g_nse ∈ g_TB := g_in1 24 (by decide +kernel) rfl
theorem x_lkL : Cond.classLink RL 13 g_nse ∈ g_TB := g_in5 81 (by decide +kernel) rfl
theorem x_cast : Cond.castable g_nse g_nse ∈ g_NW := g_nw5 89 (by decide +kernel) rfl
theorem x_at {mt : gMt} {X : gX} (ok : g_ok mt X) : ∀ w ∈ x_w, w.before (g_args X) (g_s X) = true := by
  intro w hw
  have h1 : w ∈ lw_tbl := List.contains_iff_mem.mp (List.all_eq_true.mp x_in w hw)
  have h2 := List.all_eq_true.mp x_gw w hw
  simp only [Bool.or_eq_true] at h2
  rcases h2 with h2 | h2
  · exact ok.2.2.2.2.1 w (List.mem_filter.mpr ⟨h1, h2⟩)
  · exact va_Nw.use (g_nest_t h2) (ok.2.2.2.2.2.2.2.2.2.1 w (List.mem_filter.mpr ⟨h1, h2⟩))
section THROW2
variable {l : Launch} {mt : gMt} {R : Room} {X : gX} {pc : Nat} {L : List (Option Value)} {S : List Value} {M : gMem} {k n mc ms : Nat} {Q : Option Value → gMem → Prop} {Qx : gMem → Prop}
theorem x_xc {H : Heap} {locs : List Loc} (hP : va_P (g_D X) g_cl (g_w X M) H) (hD : va_D (g_A X) (g_w X M)) (hS : va_S (g_A X) (g_s X).heap H locs) (hq : Qx M) : ∀ t : State, (g_s X).vm.Alike t.vm → H.size ≤ t.heap.size → (∀ q : Nat, q < H.size → t.heap[q]? = H[q]?) → g_Xc (g_E X) Qx g_nse (g_s X) t := by
  intro t _ h1 h2
  exact ⟨rfl, ⟨M, hq, hP.kept (fun k9 x hx => h2 x.1 ((hP k9 x hx).lt)), hD⟩, Nat.le_trans hS.1 h1, fun q h3 h4 => (h2 q (Nat.lt_of_lt_of_le h3 hS.1)).trans (hS.2.1 q h3 h4)⟩
theorem x_throwS {is sa : Nat} {text : String} (hst : l.stackTraces = false) (hm : mt.1.cls = RX11) (ht : ∀ x ∈ (g_c X).exceptionTable.toList, False) (hsr : (RX11, is, text, sa) ∈ g_SR) (d0 : decode mt.2.1 pc = .ok (.new 189, 3)) (d3 : decode mt.2.1 (pc + 3) = .ok (.dup, 1)) (d4 : decode mt.2.1 (pc + 4) = .ok (.ldc is, 2)) (d6 : decode mt.2.1 (pc + 6) = .ok (.invokespecial 193, 3)) (d9 : decode mt.2.1 (pc + 9) = .ok (.athrow, 1))
    (hR : 5 < R.frames ∧ (S.map fun v => v.category).sum + 82 ≤ R.locals ∧ k + 1 ≤ R.cells ∧ n + 6 ≤ R.slots) (hc : k + 1 ≤ mc ∧ n + 6 ≤ ms) (hq : Qx M) : Gw l mt R X pc L S M k n (g_ZX X Q Qx mc ms) := by
  intro ok H locs ls hl hP hD hS
  obtain ⟨-, c2, -, -, -, -, -, -, -, -, c13, c14⟩ := ok.2.2.2.2.2.2.2.2.2
  have hown : (g_s X).vm.findClass RX11 = some (g_m X).cls := by rw [← hm]; exact ok.2.2.2.1
  exact x_thr (A := g_A X) ok.1 ok.2.1 hst hown (ok.2.2.2.2.1 _ x_lk) (ok.2.2.2.2.1 _ x_ini) (c2 _ hsr) (x_at ok) c13 c14 hS (by rw [hl.1]; exact ok.2.2.1.symm) d0 d3 d4 d6 d9 (fun x hx => (ht x hx).elim) hR.1 (by have := hR.2.1; rw [List.map_map]; have e9 : ((fun v => v.category) ∘ g_v (g_ad X)) = (fun v : Value => v.category) := funext (fun v => g_v_cat _ v); rw [e9]; exact this) hR.2.2.1 hR.2.2.2 ok.2.2.2.2.2.1 (x_xc hP hD hS hq) hS.2.2 hc.1 hc.2
theorem x_throwSW {is sa : Nat} {text : String} (hst : l.stackTraces = false) (hm : mt.1.cls = RX11) (ht : ∀ x ∈ (g_c X).exceptionTable.toList, False) (hsr : (RX11, is, text, sa) ∈ g_SR) (d0 : decode mt.2.1 pc = .ok (.new 189, 3)) (d3 : decode mt.2.1 (pc + 3) = .ok (.dup, 1)) (d4 : decode mt.2.1 (pc + 4) = .ok (.ldc_w is, 3)) (d7 : decode mt.2.1 (pc + 7) = .ok (.invokespecial 193, 3)) (d10 : decode mt.2.1 (pc + 10) = .ok (.athrow, 1))
    (hR : 5 < R.frames ∧ (S.map fun v => v.category).sum + 82 ≤ R.locals ∧ k + 1 ≤ R.cells ∧ n + 6 ≤ R.slots) (hc : k + 1 ≤ mc ∧ n + 6 ≤ ms) (hq : Qx M) : Gw l mt R X pc L S M k n (g_ZX X Q Qx mc ms) := by
  intro ok H locs ls hl hP hD hS
  obtain ⟨-, c2, -, -, -, -, -, -, -, -, c13, c14⟩ := ok.2.2.2.2.2.2.2.2.2
  have hown : (g_s X).vm.findClass RX11 = some (g_m X).cls := by rw [← hm]; exact ok.2.2.2.1
  exact x_thrW (A := g_A X) ok.1 ok.2.1 hst hown (ok.2.2.2.2.1 _ x_lk) (ok.2.2.2.2.1 _ x_ini) (c2 _ hsr) (x_at ok) c13 c14 hS (by rw [hl.1]; exact ok.2.2.1.symm) d0 d3 d4 d7 d10 (fun x hx => (ht x hx).elim) hR.1 (by have := hR.2.1; rw [List.map_map]; have e9 : ((fun v => v.category) ∘ g_v (g_ad X)) = (fun v : Value => v.category) := funext (fun v => g_v_cat _ v); rw [e9]; exact this) hR.2.2.1 hR.2.2.2 ok.2.2.2.2.2.1 (x_xc hP hD hS hq) hS.2.2 hc.1 hc.2
end THROW2
