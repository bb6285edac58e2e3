/-! phrases: what the reference asks of words -/
section MOPS
variable {t : List Nat} {s s' s0 : gS} {Q : Int32 → gS → Prop} {Q' : gS → Prop} {H : List Rd} {r p k N v g a : Nat}
def MS (s0 : gS) (t : List Nat) (p : Nat) (H : List Rd) (r : Nat) (s : gS) : Prop := MR s0 H r s ∧ AT t p s
/-- wrong at p -/
def DE (s0 : gS) (t : List Nat) (p N r : Nat) (s : gS) : Prop := (∃ H, MR s0 H r s ∧ H.length ≤ N) ∧ s.1 177 8 = nI (tb t p)
/-- the text, and the references of Meaning -/
def CX (t : List Nat) (s0 : gS) : Prop := okT t ∧ TX t s0 ∧ gtOk s0
theorem MR.tx (M : MR s0 H r s) (C : CX t s0) : TX t s := C.2.1.cg (M.1.2.1 6 (by decide)) (M.1.1 179 (by decide) (by decide))
theorem MR.gt (M : MR s0 H r s) (C : CX t s0) : gtOk s := by
  have h := C.2.2
  unfold gtOk gt1 gt2 gt3 at h ⊢
  rw [M.1.2.2.2]
  exact h
theorem MR.lx (M : MR s0 H r s) (f : fm [] gF s s') : MR s0 H r s' := by
  refine ⟨M.1.tr (f.mono (by decide) (by decide)), ⟨?_, fun i hi j hj => ?_⟩, ?_⟩
  · rw [f.2.1 14 (by decide)]; exact M.2.1.1
  · rw [f.1 181 (by decide) (by decide)]; exact M.2.1.2 i hi j hj
  · rw [f.2.1 15 (by decide)]; exact M.2.2
theorem AT.cg (A : AT t p s) (f : fm [181] [14] s s') : AT t p s' := by
  unfold AT LVQ at A ⊢
  rw [f.2.1 7 (by decide), f.2.1 8 (by decide), f.2.1 9 (by decide), f.2.1 10 (by decide), f.2.1 11 (by decide), f.2.1 12 (by decide)]
  exact A
theorem MS.up {H' : List Rd} (M : MS s0 t p H r s) (f : fm [181] [14] s s') (h : HP H' s') : MS s0 t p H' r s' := ⟨M.1.up f h, M.2.cg f⟩
theorem bd_no (h : tk t p ≠ 40) : bd t p = false := by
  cases hb : bd t p with
  | false => rfl
  | true => exact absurd (bd_40 hb) h
theorem MS.de (M : MS s0 t p H r s) (h : bd t p = true) (hN : H.length ≤ N) : DE s0 t p N r s := ⟨⟨H, M.1, hN⟩, M.2.bad h⟩
theorem DE.mo {N' : Nat} (D : DE s0 t p N r s) (h : N ≤ N') : DE s0 t p N' r s := by
  obtain ⟨⟨H, M, hH⟩, h8⟩ := D
  exact ⟨⟨H, M, by omega⟩, h8⟩
theorem DE.up (D : DE s0 t p N r s) : ∃ v, v < 1000 ∧ s.1 177 8 = nI v ∨ s.1 177 8 = nI (tb t p) := ⟨tb t p, Or.inr D.2⟩
theorem s_go (C : CX t s0) (M : MS s0 t p H r s) (hp : p ≤ t.length) (hk : tk t p ≠ 40) (kk : ∀ s', MS s0 t (te t p) H r s' → Q' s') : wpX12_goWord s Q' := by
  obtain ⟨a7, a8, _⟩ := M.2.live (bd_no hk)
  exact m_go C.1 (M.1.tx C) (p := te t p) a7 a8 (te_le hp) (fun s' f A => kk s' ⟨M.1.lx f, A⟩)
theorem d_go (hv : v < 1000) (h8 : s.1 177 8 = nI v) (kk : Q' s) : wpX12_goWord s Q' := by
  unfold wpX12_goWord
  rw [m_fine0 hv h8]
  exact j0 kk
theorem s_is (C : CX t s0) (M : MS s0 t p H r s) (hp : p ≤ t.length) (W : okW a k) (k1 : tk t p = k → Q 1 s) (k0 : tk t p ≠ k → Q 0 s) : wpX12_is a s Q := m_is C.1 (M.1.tx C) M.2 hp W k1 k0
theorem d_is (hv : v < 1000) (h8 : s.1 177 8 = nI v) (kk : Q 0 s) : wpX12_is a s Q := by
  unfold wpX12_is
  rw [m_fine0 hv h8]
  exact i0 kk
theorem s_takes (C : CX t s0) (M : MS s0 t p H r s) (hp : p ≤ t.length) (W : okW a k) (k1 : tk t p = k → ∀ s', MS s0 t (te t p) H r s' → Q 1 s') (k0 : tk t p ≠ k → Q 0 s) : wpX12_takes a s Q := by
  unfold wpX12_takes
  have := W.2.1
  exact s_is C M hp W (fun h => j1 (s_go C M hp (by omega) (k1 h))) (fun h => j0 (k0 h))
theorem d_takes (hv : v < 1000) (h8 : s.1 177 8 = nI v) (kk : Q 0 s) : wpX12_takes a s Q := d_is hv h8 (j0 kk)
theorem s_fault (C : CX t s0) (M : MS s0 t p H r s) (hp : p ≤ t.length) (kk : ∀ s', DE s0 t p H.length r s' → Q' s') : wpX12_fault (gi s 177 9) s Q' := by
  have h80 := C.1.1
  have := tb_le hp
  cases hb : bd t p with
  | true =>
    rw [m_fault0 (by omega) (M.2.bad hb)]
    exact kk s (M.de hb (Nat.le_refl _))
  | false =>
    obtain ⟨a7, a8, a9, _⟩ := M.2.live hb
    rw [m_fault1 a8, show gi s 177 9 = nI (tb t p) from a9]
    have f : fm [] gF s (wi s 177 8 (nI (tb t p))) := fm_wf (by decide)
    exact kk _ ⟨⟨H, M.1.lx f, Nat.le_refl _⟩, wi_at _ _ _ _⟩
theorem d_fault {x : Int32} (hv : v < 1000) (h8 : s.1 177 8 = nI v) (kk : Q' s) : wpX12_fault x s Q' := by
  rw [m_fault0 hv h8]
  exact kk
theorem s_needs (C : CX t s0) (M : MS s0 t p H r s) (hp : p ≤ t.length) (W : okW a k) (k1 : tk t p = k → ∀ s', MS s0 t (te t p) H r s' → Q' s') (k0 : tk t p ≠ k → ∀ s', DE s0 t p H.length r s' → Q' s') : wpX12_needs a s Q' := by
  unfold wpX12_needs
  exact s_takes C M hp W (fun h s1 M1 => j1 (k1 h s1 M1)) (fun h => j0 (s_fault C M hp (k0 h)))
theorem d_needs (hv : v < 1000) (h8 : s.1 177 8 = nI v) (kk : Q' s) : wpX12_needs a s Q' := d_takes hv h8 (j0 (d_fault hv h8 kk))
theorem w_days : ∀ k, k < 7 → (g_sb (3000 + 20 * (1014 - 1000) + k)).length = (wd (4 + k)).length ∧ 4 + k < 40 ∧ ∀ j, j < (wd (4 + k)).length → sch (3000 + 20 * (1014 - 1000) + k) j = nI ((wd (4 + k)).getD j 0) ∧ (wd (4 + k)).getD j 0 < 128 := by decide +kernel
theorem w_mons : ∀ k, k < 12 → (g_sb (3000 + 20 * (1023 - 1000) + k)).length = (wd (11 + k)).length ∧ 11 + k < 40 ∧ ∀ j, j < (wd (11 + k)).length → sch (3000 + 20 * (1023 - 1000) + k) j = nI ((wd (11 + k)).getD j 0) ∧ (wd (11 + k)).getD j 0 < 128 := by decide +kernel
theorem s_days (C : CX t s0) (M : MS s0 t p H r s) (hp : p ≤ t.length) (hg : 7 ≤ g) (k1 : 4 ≤ tk t p ∧ tk t p < 11 → Q (nI (tk t p - 4)) s) (k0 : ¬ (4 ≤ tk t p ∧ tk t p < 11) → Q (-1) s) : wpX12_nameOf g 1014 s Q := by
  have e : (g_sb 1014).length / 3 = 7 := by decide +kernel
  refine ⟨Or.inl rfl, by rw [e]; exact hg, ?_⟩
  rw [e]
  have G := M.1.gt C
  have Lp : ∀ m k, k + m = 7 → ¬ (4 ≤ tk t p ∧ tk t p < 4 + k) → wN 1014 Q m k s := by
    intro m
    induction m with
    | zero =>
      intro k hk hn
      rw [wN]
      exact k0 (by omega)
    | succ m ih =>
      intro k hk hn
      rw [wN]
      refine ⟨G, s_is C M hp (w_days k (by omega)) (fun h => ⟨G, fun c => absurd c (by decide), fun _ => ?_⟩) (fun h => ⟨G, fun _ => ih (k + 1) (by omega) (by omega), fun c => absurd rfl c⟩)⟩
      have := k1 (by omega)
      rw [show tk t p - 4 = k by omega] at this
      exact this
  exact Lp 7 0 rfl (by omega)
theorem s_mons (C : CX t s0) (M : MS s0 t p H r s) (hp : p ≤ t.length) (hg : 12 ≤ g) (k1 : 11 ≤ tk t p ∧ tk t p < 23 → Q (nI (tk t p - 11)) s) (k0 : ¬ (11 ≤ tk t p ∧ tk t p < 23) → Q (-1) s) : wpX12_nameOf g 1023 s Q := by
  have e : (g_sb 1023).length / 3 = 12 := by decide +kernel
  refine ⟨Or.inr rfl, by rw [e]; exact hg, ?_⟩
  rw [e]
  have G := M.1.gt C
  have Lp : ∀ m k, k + m = 12 → ¬ (11 ≤ tk t p ∧ tk t p < 11 + k) → wN 1023 Q m k s := by
    intro m
    induction m with
    | zero =>
      intro k hk hn
      rw [wN]
      exact k0 (by omega)
    | succ m ih =>
      intro k hk hn
      rw [wN]
      refine ⟨G, s_is C M hp (w_mons k (by omega)) (fun h => ⟨G, fun c => absurd c (by decide), fun _ => ?_⟩) (fun h => ⟨G, fun _ => ih (k + 1) (by omega) (by omega), fun c => absurd rfl c⟩)⟩
      have := k1 (by omega)
      rw [show tk t p - 11 = k by omega] at this
      exact this
  exact Lp 12 0 rfl (by omega)
theorem okW_of (a k : Nat) (h : (decide ((g_sb a).length = (wd k).length) && decide (k < 40) && (List.range (wd k).length).all (fun j => decide (sch a j = nI ((wd k).getD j 0)) && decide ((wd k).getD j 0 < 128))) = true) : okW a k := by
  simp only [Bool.and_eq_true, decide_eq_true_eq, List.all_eq_true, List.mem_range] at h
  exact ⟨h.1.1, h.1.2, fun j hj => h.2 j hj⟩
theorem W0 : okW 1003 0 := okW_of _ _ (by decide +kernel)
theorem W1 : okW 1004 1 := okW_of _ _ (by decide +kernel)
theorem W2 : okW 1005 2 := okW_of _ _ (by decide +kernel)
theorem W3 : okW 1006 3 := okW_of _ _ (by decide +kernel)
theorem W37 : okW 1007 37 := okW_of _ _ (by decide +kernel)
theorem W35 : okW 1008 35 := okW_of _ _ (by decide +kernel)
theorem W36 : okW 1009 36 := okW_of _ _ (by decide +kernel)
theorem W23 : okW 1010 23 := okW_of _ _ (by decide +kernel)
theorem W24 : okW 1011 24 := okW_of _ _ (by decide +kernel)
theorem W25 : okW 1012 25 := okW_of _ _ (by decide +kernel)
theorem W26 : okW 1013 26 := okW_of _ _ (by decide +kernel)
theorem W34 : okW 1015 34 := okW_of _ _ (by decide +kernel)
theorem W28 : okW 1016 28 := okW_of _ _ (by decide +kernel)
theorem W29 : okW 1017 29 := okW_of _ _ (by decide +kernel)
theorem W30 : okW 1018 30 := okW_of _ _ (by decide +kernel)
theorem W31 : okW 1019 31 := okW_of _ _ (by decide +kernel)
theorem W32 : okW 1020 32 := okW_of _ _ (by decide +kernel)
theorem W33 : okW 1021 33 := okW_of _ _ (by decide +kernel)
theorem W27 : okW 1022 27 := okW_of _ _ (by decide +kernel)
theorem W38 : okW 1024 38 := okW_of _ _ (by decide +kernel)
theorem W39 : okW 1025 39 := okW_of _ _ (by decide +kernel)
theorem jmx {k : Nat} (hk : k < 4) : jmax 0 (nI k) = nI k := by
  have : ∀ k, k < 4 → jmax 0 (nI k) = nI k := by decide
  exact this k hk
theorem s_unit (C : CX t s0) (M : MS s0 t p H r s) (hp : p ≤ t.length) (k1 : tk t p ≤ 3 → ∀ s', MS s0 t (te t p) H r s' → Q (nI (tk t p)) s') (k0 : ¬ tk t p ≤ 3 → ∀ s', DE s0 t p H.length r s' → Q 0 s') : wpX12_needUnit s Q := by
  have h80 := C.1.1
  have hb := tb_le hp
  have fin : ∀ k : Nat, k < 4 → tk t p = k → (¬ nI k = -1 → wX12_needUnit_18 Q (nI k) s) ∧ (nI k = -1 → wpX12_fault (gi s 177 9) s (fun s2 => wX12_needUnit_18 Q (nI k) s2)) := by
    intro k hk e
    refine ⟨fun _ => ?_, fun h => absurd h (nI_ne (by omega))⟩
    unfold wX12_needUnit_18
    rw [jmx hk]
    refine s_go C M hp (by omega) (fun s1 M1 => ?_)
    have := k1 (by omega) s1 M1
    rw [e] at this
    exact this
  unfold wpX12_needUnit wpX12_unitOf
  refine s_is C M hp W0 (fun h => i1 (fin 0 (by decide) h)) (fun h0 => i0 (s_is C M hp W1 (fun h => i1 (fin 1 (by decide) h)) (fun h1 => i0 (s_is C M hp W2 (fun h => i1 (fin 2 (by decide) h)) (fun h2 => i0 (s_is C M hp W3 (fun h => i1 (fin 3 (by decide) h)) (fun h3 => i0 ⟨fun c => absurd rfl c, fun _ => s_fault C M hp (fun s1 D => d_go (by omega) D.2 ?_)⟩)))))))
  exact k0 (by omega) s1 D
theorem d_unit (hv : v < 1000) (h8 : s.1 177 8 = nI v) (kk : Q 0 s) : wpX12_needUnit s Q := by
  unfold wpX12_needUnit wpX12_unitOf
  exact d_is hv h8 (i0 (d_is hv h8 (i0 (d_is hv h8 (i0 (d_is hv h8 (i0 ⟨fun c => absurd rfl c, fun _ => d_fault hv h8 (d_go hv h8 kk)⟩)))))))
theorem d_num {x y : Int32} (hv : v < 1000) (h8 : s.1 177 8 = nI v) (kk : Q (gi s 177 10) s) : wpX12_needNumber x y s Q := by
  have fin : wX12_needNumber_19 x y Q (wX12_needNumber_27 x y Q) s := d_fault hv h8 (d_go hv h8 kk)
  unfold wpX12_needNumber wpX12_in
  refine ⟨fun _ => fin, fun _ => ⟨fun _ => j0 fin, fun _ => ⟨fun _ => j0 fin, fun _ => j1 (d_go hv h8 kk)⟩⟩⟩
theorem s_num {x y : Int32} {lo hi : Nat} (C : CX t s0) (M : MS s0 t p H r s) (hp : p ≤ t.length) (hlo : 101 ≤ lo ∧ lo < 5000) (hhi : 100 ≤ hi ∧ hi < 5000) (ex : x = nI (lo - 100)) (ey : y = nI (hi - 100)) (k1 : lo ≤ tk t p ∧ tk t p ≤ hi → ∀ s', MS s0 t (te t p) H r s' → Q (nI (tk t p - 100)) s') (k0 : ¬ (lo ≤ tk t p ∧ tk t p ≤ hi) → ∀ s' v, DE s0 t p H.length r s' → Q v s') : wpX12_needNumber x y s Q := by
  have h80 := C.1.1
  have hbb := tb_le hp
  subst ex ey
  cases hb : bd t p with
  | true =>
    have := bd_40 hb
    exact d_num (by omega) (M.2.bad hb) (k0 (by omega) s _ (M.de hb (Nat.le_refl _)))
  | false =>
    obtain ⟨a7, a8, a9, a10, a11, a12⟩ := M.2.live hb
    have hk := tk_lt (t := t) p
    have fin : ¬ (lo ≤ tk t p ∧ tk t p ≤ hi) → wX12_needNumber_19 (nI (lo - 100)) (nI (hi - 100)) Q (wX12_needNumber_27 (nI (lo - 100)) (nI (hi - 100)) Q) s := by
      intro h
      unfold wX12_needNumber_19 wX12_needNumber_27
      exact s_fault C M hp (fun s1 D => d_go (by omega) D.2 (k0 h s1 _ D))
    unfold wpX12_needNumber
    rw [show gi s 177 11 = bi (decide (100 ≤ tk t p)) from a11, bi_0, show gi s 177 10 = nI (tk t p - 100) from a10, m_inN (by omega) (by omega) (by omega)]
    refine ⟨fun h => fin (fun c => ?_), fun h => ?_⟩
    · have := of_decide_eq_false h
      omega
    · have h1 : 100 ≤ tk t p := by simpa using h
      by_cases h2 : lo ≤ tk t p ∧ tk t p ≤ hi
      · rw [decide_eq_true (show lo - 100 ≤ tk t p - 100 by omega), decide_eq_true (show tk t p - 100 ≤ hi - 100 by omega)]
        refine j1 ?_
        unfold wX12_needNumber_27
        rw [show gi s 177 10 = nI (tk t p - 100) from a10]
        exact s_go C M hp (by omega) (k1 h2)
      · have : (decide (lo - 100 ≤ tk t p - 100) && decide (tk t p - 100 ≤ hi - 100)) = false := by
          by_cases h3 : lo - 100 ≤ tk t p - 100
          · rw [decide_eq_false (show ¬ tk t p - 100 ≤ hi - 100 by omega), Bool.and_false]
          · rw [decide_eq_false h3, Bool.false_and]
        rw [this]
        exact j0 (fin h2)
end MOPS
