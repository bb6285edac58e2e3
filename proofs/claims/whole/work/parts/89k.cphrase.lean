/-! phrases: the class gathers a whole phrase -/
section CPHR
variable {t : List Nat} {s s' s0 : gS} {Q : Int32 → gS → Prop} {Q' : gS → Prop} {V W M : List Rd} {r c p q n : Nat} {S P T R : List St} {x : St}
/-- a step that stands is one that is known -/
def okP (z : Nat × St × Nat) : Prop := z.1 ≠ 0 → okSt z.2.1
theorem okP0 {x : St} {e : Nat} : okP (0, x, e) := fun h => absurd rfl h
theorem ok_num : okP (sNum t p) := by
  unfold sNum
  split
  · intro _
    simp only [okSt]
    omega
  split
  · split
    · split
      · intro _
        simp only [okSt]
        omega
      split
      · intro _
        simp only [okSt]
        omega
      split
      · intro _
        simp only [okSt]
        omega
      · exact okP0
    · exact okP0
  · exact okP0
theorem ok_day (h : 4 ≤ tk t p ∧ tk t p < 11) : okP (sDay t p) := by
  unfold sDay
  split
  · split
    · intro _
      simp only [okSt]
      omega
    · exact okP0
  · intro _
    simp only [okSt]
    omega
theorem ok_mon (h : 11 ≤ tk t p ∧ tk t p < 23) : okP (sMon t p) := by
  unfold sMon
  split
  · split
    · split
      · split
        · intro _
          simp only [okSt]
          omega
        · exact okP0
      · intro _
        simp only [okSt]
        omega
    · exact okP0
  · intro _
    simp only [okSt]
    omega
theorem ok_fst : okP (sFst t p) := by
  unfold sFst
  split
  · split
    · intro _
      simp only [okSt]
      omega
    · exact okP0
  · exact okP0
theorem ok_ths {c : Nat} {b : Int} (hc : 3 ≤ c ∧ c ≤ 5) (hb : -1 ≤ b ∧ b ≤ 1) : okP (sThs c b t p) := by
  unfold sThs
  split
  · intro _
    simp only [okSt]
    omega
  split
  · split
    · intro _
      simp only [okSt]
      omega
    · intro _
      simp only [okSt]
      omega
  · exact okP0
theorem ok_in : okP (sIn t p) := by
  unfold sIn
  split
  · split
    · intro _
      simp only [okSt]
      omega
    · exact okP0
  · exact okP0
theorem ok_lit {b : Int} {c e : Nat} (hc : c = 0 ∨ 13 ≤ c ∧ c ≤ 15) (hb : -1 ≤ b ∧ b ≤ 1) {d : Nat} : okP (d, (c, 0, b, 0), e) := by
  intro _
  simp only [okSt]
  omega
theorem ok_stp : okP (stp t p) := by
  unfold stp
  by_cases h : 100 ≤ tk t p
  · rw [if_pos h]; exact ok_num
  rw [if_neg h]
  clear h
  by_cases h : 4 ≤ tk t p ∧ tk t p < 11
  · rw [if_pos h]; exact ok_day h
  rw [if_neg h]
  clear h
  by_cases h : 11 ≤ tk t p ∧ tk t p < 23
  · rw [if_pos h]; exact ok_mon h
  rw [if_neg h]
  clear h
  by_cases h : tk t p = 23
  · rw [if_pos h]; exact ok_lit (by omega) (by omega)
  rw [if_neg h]
  clear h
  by_cases h : tk t p = 24
  · rw [if_pos h]; exact ok_lit (by omega) (by omega)
  rw [if_neg h]
  clear h
  by_cases h : tk t p = 25
  · rw [if_pos h]; exact ok_lit (by omega) (by omega)
  rw [if_neg h]
  clear h
  by_cases h : tk t p = 26
  · rw [if_pos h]; exact ok_fst
  rw [if_neg h]
  clear h
  by_cases h : tk t p = 27
  · rw [if_pos h]; exact ok_ths (by omega) (by omega)
  rw [if_neg h]
  clear h
  by_cases h : tk t p = 28
  · rw [if_pos h]; exact ok_lit (by omega) (by omega)
  rw [if_neg h]
  clear h
  by_cases h : tk t p = 29
  · rw [if_pos h]; exact ok_lit (by omega) (by omega)
  rw [if_neg h]
  clear h
  by_cases h : tk t p = 30
  · rw [if_pos h]; exact ok_lit (by omega) (by omega)
  rw [if_neg h]
  clear h
  by_cases h : tk t p = 31
  · rw [if_pos h]; exact ok_in
  rw [if_neg h]
  clear h
  by_cases h : tk t p = 32
  · rw [if_pos h]; exact ok_ths (by omega) (by omega)
  rw [if_neg h]
  clear h
  by_cases h : tk t p = 33
  · rw [if_pos h]; exact ok_ths (by omega) (by omega)
  rw [if_neg h]
  clear h
  exact okP0
theorem spn_ok : ∀ n p, p ≤ t.length → (spn t n p).1 = true → okSp (spn t n p).2.1 := by
  intro n
  induction n with
  | zero => intro p hp h; cases h
  | succ n ih =>
    intro p hp h
    obtain ⟨a1, a2, a3, a4, a5⟩ := far_stp hp
    have ok := ok_stp (t := t) (p := p)
    rw [spn] at h ⊢
    split at h
    · cases h
    next h0 =>
      rw [if_neg h0]
      split at h
      next h2 =>
        rw [if_pos h2]
        exact ⟨(stp t p).2.1, [], rfl, (a4 h2).2, ok h0, fun y hy => by cases hy⟩
      next h2 =>
        rw [if_neg h2]
        have h1 : (stp t p).1 = 1 := by omega
        obtain ⟨b1, b2, b3, b4⟩ := a3 h1
        obtain ⟨x, T, e, x1, x2, x3⟩ := ih (stp t p).2.2 a1 h
        show okSp ((spn t n (stp t p).2.2).2.1 ++ [(stp t p).2.1])
        rw [e]
        refine ⟨x, T ++ [(stp t p).2.1], rfl, x1, x2, fun y hy => ?_⟩
        rcases List.mem_append.mp hy with hy | hy
        · exact x3 y hy
        · rw [List.mem_singleton.mp hy]
          exact ⟨b3, b4, ok h0⟩
theorem g_part (hP : PS S s0) (e : S = P ++ ((prt t p).2.1 ++ R)) (hp : p ≤ t.length) (h : (prt t p).1 = true) (hr : r ≤ 9999) (hc : c ≤ 3) (G : GF s0 s) (F : FD M s) (okM : okV M) (k : ∀ s', GF s0 s' → FD (mgA M ((prv r t p).map (mw c))) s' → wX2_gather_3 (nI r) (nI c) Q' n (nI (P ++ (prt t p).2.1).length) s') : wX2_gather_3 (nI r) (nI c) Q' (n + (prt t p).2.1.length) (nI P.length) s := by
  obtain ⟨a1, a2, a3⟩ := far_spn (t := t) 27 p hp
  have l1' := te_le a1
  unfold prv at k
  unfold prt at e h k ⊢
  by_cases h1 : (spn t 27 p).1 = false
  · rw [if_pos h1] at h
    cases h
  rw [if_neg h1] at e h k ⊢
  have h1' : (spn t 27 p).1 = true := by simpa using h1
  by_cases h38 : tk t (spn t 27 p).2.2 = 38
  · rw [if_pos h38] at e h k ⊢
    rw [if_pos h38] at k
    by_cases h2 : (spn t 27 (te t (spn t 27 p).2.2)).1 = false
    · rw [if_pos h2] at h
      cases h
    rw [if_neg h2] at e k ⊢
    have h2' : (spn t 27 (te t (spn t 27 p).2.2)).1 = true := by simpa using h2
    obtain ⟨A, eA⟩ : ∃ A, A = (spn t 27 p).2.1 := ⟨_, rfl⟩
    obtain ⟨B, eB⟩ : ∃ B, B = (spn t 27 (te t (spn t 27 p).2.2)).2.1 := ⟨_, rfl⟩
    have okA := spn_ok 27 p hp h1'
    have okB := spn_ok 27 _ l1' h2'
    rw [← eA] at okA
    rw [← eB] at okB
    dsimp only at e k ⊢
    rw [← eA, ← eB] at e k ⊢
    have eL : (A ++ [((18 : Nat), (0 : Int), (0 : Int), (0 : Int))] ++ B ++ [((19 : Nat), (0 : Int), (0 : Int), (0 : Int))]).length = B.length + 1 + 1 + A.length := by
      simp only [List.length_append, List.length_singleton]
      omega
    rw [eL, show n + (B.length + 1 + 1 + A.length) = (n + 1 + B.length + 1) + A.length by omega]
    refine g_span (R := [((18 : Nat), (0 : Int), (0 : Int), (0 : Int))] ++ B ++ [((19 : Nat), (0 : Int), (0 : Int), (0 : Int))] ++ R) hP (by rw [e]; simp only [List.append_assoc]) okA hr G (fun s1 V1 k1 => ?_)
    refine g_hold (R := B ++ [((19 : Nat), (0 : Int), (0 : Int), (0 : Int))] ++ R) hP (by rw [e]; simp only [List.append_assoc]; rfl) V1 (k1.2 M F) (fun s2 G2 R2 F2 => ?_)
    have ei : (P ++ A).length + 1 = (P ++ A ++ [((18 : Nat), (0 : Int), (0 : Int), (0 : Int))]).length := by simp only [List.length_append, List.length_singleton]
    rw [ei]
    refine g_span (R := [((19 : Nat), (0 : Int), (0 : Int), (0 : Int))] ++ R) hP (by rw [e]; simp only [List.append_assoc]) okB hr G2 (fun s3 V3 k3 => ?_)
    refine g_join (R := R) hP (by rw [e]; simp only [List.append_assoc]; rfl) V3 (k3.1 _ R2) V1.2.2.1 V1.2.2.2 (k3.2 M F2) okM hc (fun s4 G4 F4 => ?_)
    have := k s4 G4 F4
    have ej : (P ++ (A ++ [((18 : Nat), (0 : Int), (0 : Int), (0 : Int))] ++ B ++ [((19 : Nat), (0 : Int), (0 : Int), (0 : Int))])).length = (P ++ A ++ [((18 : Nat), (0 : Int), (0 : Int), (0 : Int))] ++ B).length + 1 := by
      simp only [List.length_append, List.length_singleton]
      omega
    rw [ej] at this
    exact this
  · rw [if_neg h38] at e k ⊢
    rw [if_neg h38] at k
    obtain ⟨A, eA⟩ : ∃ A, A = (spn t 27 p).2.1 := ⟨_, rfl⟩
    have okA := spn_ok 27 p hp h1'
    rw [← eA] at okA
    dsimp only at e k ⊢
    rw [← eA] at e k ⊢
    have eL : (A ++ [((20 : Nat), (0 : Int), (0 : Int), (0 : Int))]).length = 1 + A.length := by
      simp only [List.length_append, List.length_singleton]
      omega
    rw [eL, show n + (1 + A.length) = n + 1 + A.length by omega]
    refine g_span (R := [((20 : Nat), (0 : Int), (0 : Int), (0 : Int))] ++ R) hP (by rw [e]; simp only [List.append_assoc]) okA hr G (fun s1 V1 k1 => ?_)
    refine g_close (R := R) hP (by rw [e]; simp only [List.append_assoc]; rfl) V1 (k1.2 M F) okM hc (fun s4 G4 F4 => ?_)
    have := k s4 G4 F4
    have ej : (P ++ (A ++ [((20 : Nat), (0 : Int), (0 : Int), (0 : Int))])).length = (P ++ A).length + 1 := by
      simp only [List.length_append, List.length_singleton]
      omega
    rw [ej] at this
    exact this
theorem g_end (hP : PS S s0) (G : GF s0 s) (k : Q' s) : wX2_gather_3 (nI r) (nI c) Q' (n + 1) (nI S.length) s := by
  have H := hP.cg G
  have h80 := H.2.2
  rw [wX2_gather_3, show gi s 3 2 = nI S.length from H.1]
  exact ⟨fun _ => k, fun hc => absurd (nI_le (Nat.le_refl _) (by omega)) hc⟩
theorem g_pho (hP : PS S s0) (hr : r ≤ 9999) (hc : c ≤ 3) : ∀ m p P s M, S = P ++ (pho t m p).2.1 → p ≤ t.length → (pho t m p).1 = true → GF s0 s → FD M s → okV M → (∀ s', GF s0 s' → FD (mgA M ((pov r t m p).map (mw c))) s' → Q' s') → wX2_gather_3 (nI r) (nI c) Q' (1 + (pho t m p).2.1.length) (nI P.length) s := by
  intro m
  induction m with
  | zero => intro p P s M e hp h; cases h
  | succ m ih =>
    intro p P s M e hp h G F okM k
    have l1' := te_le hp
    rw [pho] at e h ⊢
    rw [pov] at k
    by_cases h39 : tk t p = 39
    · rw [if_pos h39] at e h k ⊢
      obtain ⟨a1, a2, a3⟩ := far_prt l1'
      by_cases h1 : (prt t (te t p)).1 = false
      · rw [if_pos h1] at h
        cases h
      rw [if_neg h1] at e h ⊢
      have h1' : (prt t (te t p)).1 = true := by simpa using h1
      have e : S = P ++ ((prt t (te t p)).2.1 ++ (pho t m (prt t (te t p)).2.2).2.1) := e
      have h : (pho t m (prt t (te t p)).2.2).1 = true := h
      show wX2_gather_3 (nI r) (nI c) Q' (1 + ((prt t (te t p)).2.1 ++ (pho t m (prt t (te t p)).2.2).2.1).length) (nI P.length) s
      rw [List.length_append, show 1 + ((prt t (te t p)).2.1.length + (pho t m (prt t (te t p)).2.2).2.1.length) = 1 + (pho t m (prt t (te t p)).2.2).2.1.length + (prt t (te t p)).2.1.length by omega]
      refine g_part hP e l1' h1' hr hc G F okM (fun s1 G1 F1 => ?_)
      refine ih _ (P ++ (prt t (te t p)).2.1) s1 _ (by rw [List.append_assoc]; exact e) a1 h G1 F1 (mgA_ok _ _ okM (mwV_ok prv_ok)) (fun s2 G2 F2 => k s2 G2 ?_)
      rw [List.map_append, mgA_app]
      exact F2
    · rw [if_neg h39] at e h k ⊢
      have e : S = P ++ [] := e
      rw [List.append_nil] at e
      rw [← e]
      exact g_end (n := 0) hP G (k s G F)
theorem far_pho : ∀ n p, p ≤ t.length → (pho t n p).1 = true → p + (pho t n p).2.1.length ≤ t.length := by
  intro n
  induction n with
  | zero => intro p hp h; cases h
  | succ n ih =>
    intro p hp h
    have l1' := te_le hp
    have g1 := te_ge (t := t) p
    obtain ⟨a1, a2, a3⟩ := far_prt l1'
    rw [pho] at h ⊢
    by_cases h39 : tk t p = 39
    · rw [if_pos h39] at h ⊢
      by_cases h1 : (prt t (te t p)).1 = false
      · rw [if_pos h1] at h
        cases h
      rw [if_neg h1] at h ⊢
      have h1' : (prt t (te t p)).1 = true := by simpa using h1
      have h : (pho t n (prt t (te t p)).2.2).1 = true := h
      have b := ih _ a1 h
      have := a3 h1'
      show p + ((prt t (te t p)).2.1 ++ (pho t n (prt t (te t p)).2.2).2.1).length ≤ t.length
      rw [List.length_append]
      omega
    · rw [if_neg h39]
      show p + 0 ≤ t.length
      omega
theorem ph_len (h : (ph t).1 = true) : (ph t).2.1.length ≤ t.length := by
  obtain ⟨a1, a2, a3⟩ := far_prt (t := t) (p := 0) (Nat.zero_le _)
  unfold ph at h ⊢
  by_cases h1 : (prt t 0).1 = false
  · rw [if_pos h1] at h
    cases h
  rw [if_neg h1] at h ⊢
  have h1' : (prt t 0).1 = true := by simpa using h1
  have h : (pho t 81 (prt t 0).2.2).1 = true := h
  have b := far_pho 81 _ a1 h
  have := a3 h1'
  show ((prt t 0).2.1 ++ (pho t 81 (prt t 0).2.2).2.1).length ≤ t.length
  rw [List.length_append]
  omega
theorem c_gather (ht : okT t) (hP : PS (ph t).2.1 s) (h : (ph t).1 = true) (hr : r ≤ 9999) (hc : c ≤ 3) (G : gP s) (F : FD M s) (okM : okV M) (k : ∀ s', GF s s' → FD (mgA M ((phv r t).map (mw c))) s' → Q' s') : wpX2_gather (nI r) (nI c) s Q' := by
  obtain ⟨a1, a2, a3⟩ := far_prt (t := t) (p := 0) (Nat.zero_le _)
  have G0 : GF s s := ⟨fun _ _ => rfl, rfl, G⟩
  obtain ⟨S, eS⟩ : ∃ S, S = (ph t).2.1 := ⟨_, rfl⟩
  rw [← eS] at hP
  unfold phv at k
  unfold ph at h eS
  by_cases h1 : (prt t 0).1 = false
  · rw [if_pos h1] at h
    cases h
  rw [if_neg h1] at h eS
  have h1' : (prt t 0).1 = true := by simpa using h1
  have h : (pho t 81 (prt t 0).2.2).1 = true := h
  have eS : S = [] ++ ((prt t 0).2.1 ++ (pho t 81 (prt t 0).2.2).2.1) := eS
  refine ⟨1 + (pho t 81 (prt t 0).2.2).2.1.length + (prt t 0).2.1.length, ?_⟩
  refine g_part (P := []) hP eS (Nat.zero_le _) h1' hr hc G0 F okM (fun s1 G1 F1 => ?_)
  refine g_pho hP hr hc 81 _ ([] ++ (prt t 0).2.1) s1 _ (by rw [List.append_assoc]; exact eS) a1 h G1 F1 (mgA_ok _ _ okM (mwV_ok prv_ok)) (fun s2 G2 F2 => k s2 G2 ?_)
  rw [List.map_append, mgA_app]
  exact F2
end CPHR
