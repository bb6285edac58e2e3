/-! phrases: the reference reads a span -/
section MSPAN
variable {t : List Nat} {s s' s0 : gS} {Q : Int32 → gS → Prop} {Q' : gS → Prop} {H : List Rd} {r p k N v g a n c : Nat} {rcc : Nat → gS → (gS → Prop) → Prop} {b : Int32}
def dZ (a : Nat) (z : Int) (Y : Nat) : Int := if 1 ≤ z ∧ z ≤ 31 then dIM (12 * Y + a) z.toNat else -1
theorem dZ_bd {z : Int} (Y : Nat) : -1 ≤ dZ a z Y ∧ dZ a z Y ≤ 9999 := by
  unfold dZ
  split
  · exact dIM_bd _ _ (by omega)
  · omega
theorem ltr_bd {D : Nat → Int} (hD : ∀ Y, -1 ≤ D Y ∧ D Y ≤ 9999) : ∀ k, -1 ≤ ltr r D k ∧ ltr r D k ≤ 9999 := by
  intro k
  induction k with
  | zero => exact (show (-1 : Int) ≤ -1 ∧ (-1 : Int) ≤ 9999 by omega)
  | succ k ih =>
    rw [ltr]
    split
    · exact hD _
    · exact ih
theorem snr_bd {D : Nat → Int} (hD : ∀ Y, -1 ≤ D Y ∧ D Y ≤ 9999) : ∀ k, -1 ≤ snr r D k ∧ snr r D k ≤ 9999 := by
  intro k
  induction k with
  | zero => exact (show (-1 : Int) ≤ -1 ∧ (-1 : Int) ≤ 9999 by omega)
  | succ k ih =>
    rw [snr]
    split
    · exact hD _
    · exact ih
theorem m_mn {z : Int} {x1 x2 : Int32} (h : HP H s) (hH : H.length + 2 ≤ 1024) (h15 : s.1 177 15 = nI r) (hr : r ≤ 9999) (ha : a < 12) (hz : -2147483648 ≤ z ∧ z ≤ 2147483647) (e1 : x1 = nI (a + 1)) (e2 : x2 = iI z) (k : ∀ s', fm [181] [14] s s' → HP (H ++ (pd (ltr r (dZ a z) 28) 3 ++ pd (snr r (dZ a z) 28) 2)) s' → Q' s') : wX12_readMonthName_86 Q' g x1 x2 s := by
  subst e1 e2
  have hD := dZ_bd (a := a) (z := z)
  have dof : ∀ Y, Y < 28 → ∀ {Q : Int32 → gS → Prop}, Q (iI (dZ a z Y)) s → wpX12_dayOf (nI (2000 + Y)) (nI (a + 1)) (iI z) s Q := by
    intro Y hY Q kq
    refine m_dayOf hY (by omega) (by omega) hz.1 hz.2 ?_
    rw [show 12 * Y + (a + 1 - 1) = 12 * Y + a by omega]
    exact kq
  -- the sooner one
  have L2 : ∀ m Y (l : Int), Y + m = 28 → -1 ≤ l ∧ l ≤ 9999 → l = ltr r (dZ a z) 28 → wX12_readMonthName_137 Q' (m + 1) g (nI (a + 1)) (iI z) (iI l) (iI (snr r (dZ a z) Y)) (nI (2000 + Y)) s := by
    intro m
    induction m with
    | zero =>
      intro Y l hY hl el
      have : Y = 28 := by omega
      subst this
      rw [wX12_readMonthName_137]
      refine ⟨fun _ => ?_, fun hc => absurd (by decide) hc⟩
      refine m_pushD (w := 3) h (by omega) rfl rfl (by omega) (fun s1 f1 h1 => ?_)
      have := pd_le (d := l) (w := 3)
      have hs := snr_bd (r := r) hD 28
      refine m_pushD (w := 2) h1 (by rw [List.length_append]; omega) rfl rfl (by omega) (fun s2 f2 h2 => k s2 (f1.tr f2) ?_)
      rw [← el, ← List.append_assoc]
      exact h2
    | succ m ih =>
      intro Y l hY hl el
      rw [wX12_readMonthName_137]
      refine ⟨fun hc => ?_, fun _ => dof Y (by omega) ?_⟩
      · rw [show (2027 : Int32) = nI 2027 from rfl, nI_ltI (by decide) (by omega)] at hc
        omega
      · have hb := hD Y
        have e9 : nI r - 1 = iI ((r : Int) - 1) := by rw [nI_i, show (1 : Int32) = iI 1 from rfl, iI_sub]
        rw [show gi s 177 15 = nI r from h15, e9, show (0 : Int32) = iI 0 from rfl, m_in (by omega) (by omega) (by decide) (by decide) (by omega) (by omega), nI_1, show 2000 + Y + 1 = 2000 + (Y + 1) by omega]
        have hi := ih (Y + 1) l (by omega) hl el
        rw [snr] at hi
        by_cases hc : 0 ≤ dZ a z Y ∧ dZ a z Y < r
        · rw [if_pos hc] at hi
          rw [decide_eq_true (by omega)]
          exact i1 (dof Y (by omega) hi)
        · rw [if_neg hc] at hi
          rw [decide_eq_false (by omega)]
          exact i0 hi
  -- the later one
  have L1 : ∀ m, m ≤ 28 → wX12_readMonthName_96 Q' (m + 1) g (nI (a + 1)) (iI z) (iI (ltr r (dZ a z) (28 - m))) (-1) (iI (2000 + (m : Int) - 1)) s := by
    intro m
    induction m with
    | zero =>
      intro hm
      rw [wX12_readMonthName_96]
      exact ⟨fun _ => ⟨29, L2 28 0 _ rfl (ltr_bd hD 28) rfl⟩, fun hc => absurd (by decide) hc⟩
    | succ m ih =>
      intro hm
      have e0 : iI (2000 + ((m + 1 : Nat) : Int) - 1) = nI (2000 + m) := by rw [nI_i]; congr 1; omega
      have e9 : nI (2000 + m) + -1 = iI (2000 + (m : Int) - 1) := by
        rw [nI_i, show (-1 : Int32) = iI (-1) from rfl, iI_add]
        exact congrArg iI (by omega)
      rw [wX12_readMonthName_96, e0, e9]
      refine ⟨fun hc => ?_, fun _ => dof m (by omega) ?_⟩
      · rw [show (2000 : Int32) = nI 2000 from rfl, nI_ltI (by omega) (by decide)] at hc
        omega
      · have hb := hD m
        have hi := ih (by omega)
        rw [show 28 - m = (28 - (m + 1)) + 1 by omega, ltr, show 27 - (28 - (m + 1)) = m by omega] at hi
        rw [show gi s 177 15 = nI r from h15, nI_i r, iI_lt (by omega) (by omega) (by omega) (by omega)]
        refine ⟨fun hc => ?_, fun hc => dof m (by omega) ?_⟩
        · rw [if_neg (by omega)] at hi
          exact hi
        · rw [if_pos (by omega)] at hi
          exact hi
  exact ⟨29, L1 28 (by omega)⟩
theorem bs9 {x y z : Int} : bs r (9, x, y, z) = pd (dIM (12 * (z.toNat - 2000) + x.toNat) y.toNat) 3 := rfl
theorem s_monN (C : CX t s0) (M : MS s0 t p H r s) (hp : p ≤ t.length) (hH : H.length ≤ 990) (hr : r ≤ 9999) (hg : 12 ≤ g) (h : 11 ≤ tk t p ∧ tk t p < 23) (K : KS s0 t H r n (sMon t p) Q') : wpX12_readMonthName g s Q' := by
  have h80 := C.1.1
  have l1' := te_le hp
  have l2' := te_le l1'
  have l3' := te_le l2'
  have hb1 := tb_le l1'
  have hb2 := tb_le l2'
  have hb3 := tb_le l3'
  have hk1 := tk_lt (t := t) (te t p)
  have hk2 := tk_lt (t := t) (te t (te t p))
  unfold wpX12_readMonthName
  refine ⟨12, 0, by omega, s_mons C M hp (by omega) (fun _ => ?_) (fun c => absurd h c)⟩
  rw [nI_1]
  refine s_go C M hp (by omega) (fun s1 M1 => ?_)
  have alone : ¬ 100 ≤ tk t (te t p) → wX12_readMonthName_28 Q' 0 (nI (tk t p - 11 + 1)) s1 := by
    intro h1
    have e : sMon t p = (2, (7, ((tk t p - 11 : Nat) : Int), 0, 0), te t p) := by unfold sMon; rw [if_neg h1]
    rw [e] at K
    exact m_pmons M1.1.h (by omega) M1.1.2.2 hr (by omega) rfl (fun s2 f2 h2 => K.m (M1.up f2 h2))
  cases hb : bd t (te t p) with
  | true =>
    have h40 := bd_40 hb
    refine ⟨fun _ => alone (by omega), fun _ => ?_⟩
    rw [m_fine0 (by omega) (M1.2.bad hb)]
    exact j0 (alone (by omega))
  | false =>
    obtain ⟨a7, a8, a9, a10, a11, a12⟩ := M1.2.live hb
    rw [show gi s1 177 11 = bi (decide (100 ≤ tk t (te t p))) from a11, bi_0, m_fine1 a8]
    refine ⟨fun hc => alone (of_decide_eq_false hc), fun hc => j1 ?_⟩
    have h1 : 100 ≤ tk t (te t p) := by simpa using hc
    refine s_num (lo := 101) (hi := 131) C M1 l1' (by decide) (by decide) rfl rfl (fun h2 s2 M2 => ?_) (fun h2 s2 v D => ?_)
    · have two : ¬ 100 ≤ tk t (te t (te t p)) → wX12_readMonthName_86 Q' 0 (nI (tk t p - 11 + 1)) (nI (tk t (te t p) - 100)) s2 := by
        intro h3
        have e : sMon t p = (2, (8, ((tk t p - 11 : Nat) : Int), ((tk t (te t p) - 100 : Nat) : Int), 0), te t (te t p)) := by unfold sMon; rw [if_pos h1, if_pos h2, if_neg h3]
        rw [e] at K
        refine m_mn M2.1.h (by omega) M2.1.2.2 hr (by omega) (by omega) rfl (nI_i _) (fun s3 f3 h4 => K.m (M2.up f3 ?_))
        have e8 : bs r (8, ((tk t p - 11 : Nat) : Int), ((tk t (te t p) - 100 : Nat) : Int), 0) = pd (ltr r (dZ (tk t p - 11) ((tk t (te t p) - 100 : Nat) : Int)) 28) 3 ++ pd (snr r (dZ (tk t p - 11) ((tk t (te t p) - 100 : Nat) : Int)) 28) 2 := by
          have ed : dZ (tk t p - 11) ((tk t (te t p) - 100 : Nat) : Int) = fun Y => dIM (12 * Y + (tk t p - 11)) (tk t (te t p) - 100) := by
            funext Y
            unfold dZ
            rw [if_pos (by omega)]
            rfl
          rw [ed]
          rfl
        rw [e8]
        exact h4
      cases hb' : bd t (te t (te t p)) with
      | true =>
        have h40 := bd_40 hb'
        refine ⟨fun _ => two (by omega), fun _ => ?_⟩
        rw [m_fine0 (by omega) (M2.2.bad hb')]
        exact i0 (two (by omega))
      | false =>
        obtain ⟨c7, c8, c9, c10, c11, c12⟩ := M2.2.live hb'
        rw [show gi s2 177 11 = bi (decide (100 ≤ tk t (te t (te t p)))) from c11, bi_0, m_fine1 c8]
        refine ⟨fun hc => two (of_decide_eq_false hc), fun hc => i1 ?_⟩
        have h3 : 100 ≤ tk t (te t (te t p)) := by simpa using hc
        refine s_num (lo := 2100) (hi := 2127) C M2 l2' (by decide) (by decide) rfl rfl (fun h4 s3 M3 => ?_) (fun h4 s3 v D => ?_)
        · have e : sMon t p = (2, (9, ((tk t p - 11 : Nat) : Int), ((tk t (te t p) - 100 : Nat) : Int), ((tk t (te t (te t p)) - 100 : Nat) : Int)), te t (te t (te t p))) := by unfold sMon; rw [if_pos h1, if_pos h2, if_pos h3, if_pos h4]
          rw [e] at K
          cases hb3' : bd t (te t (te t (te t p))) with
          | true =>
            rw [m_fine0 (by omega) (M3.2.bad hb3')]
            exact i0 (K.md hb3' (M3.de hb3' (Nat.le_refl _)) (by omega))
          | false =>
            rw [m_fine1 (M3.2.live hb3').2.1]
            refine i1 ?_
            obtain ⟨Y, hY⟩ : ∃ Y, tk t (te t (te t p)) - 100 = 2000 + Y := ⟨tk t (te t (te t p)) - 2100, by omega⟩
            rw [hY, nI_i (tk t (te t p) - 100)]
            refine m_dayOf (by omega) (by omega) (by omega) (by omega) (by omega) ?_
            rw [if_pos (by omega)]
            have hdb := dIM_bd (12 * Y + (tk t p - 11 + 1 - 1)) (((tk t (te t p) - 100 : Nat) : Int).toNat) (by omega)
            refine m_pushD (w := 3) M3.1.h (by omega) rfl rfl (by omega) (fun s4 f4 h5 => K.m (M3.up f4 ?_))
            have e9 : bs r (9, ((tk t p - 11 : Nat) : Int), ((tk t (te t p) - 100 : Nat) : Int), ((tk t (te t (te t p)) - 100 : Nat) : Int)) = pd (dIM (12 * Y + (tk t p - 11 + 1 - 1)) (((tk t (te t p) - 100 : Nat) : Int).toNat)) 3 := by
              rw [hY, bs9, show 12 * (((2000 + Y : Nat) : Int).toNat - 2000) + ((tk t p - 11 : Nat) : Int).toNat = 12 * Y + (tk t p - 11 + 1 - 1) by omega]
            rw [e9]
            exact h5
        · have e : sMon t p = (0, st0, te t (te t p)) := by unfold sMon; rw [if_pos h1, if_pos h2, if_pos h3, if_neg h4]
          rw [e] at K
          rw [m_fine0 (by omega) D.2]
          exact i0 (K.d D (by omega))
    · have e : sMon t p = (0, st0, te t p) := by unfold sMon; rw [if_pos h1, if_neg h2]
      rw [e] at K
      have dead : wX12_readMonthName_86 Q' 0 (nI (tk t p - 11 + 1)) v s2 := by
        obtain ⟨⟨H', M', hH'⟩, h8⟩ := D
        refine m_mn (z := v.toInt) M'.h (by omega) M'.2.2 hr (show tk t p - 11 < 12 by omega) ⟨Int32.le_toInt v, Int32.toInt_le v⟩ rfl (Int32.ofInt_toInt v).symm (fun s3 f3 h4 => K.d (N := H.length + 2) ⟨⟨_, M'.up f3 h4, ?_⟩, by rw [f3.2.1 8 (by decide)]; exact h8⟩ (Nat.le_refl _))
        have q1 := pd_le (d := ltr r (dZ (tk t p - 11) v.toInt) 28) (w := 3)
        have q2 := pd_le (d := snr r (dZ (tk t p - 11) v.toInt) 28) (w := 2)
        rw [List.length_append, List.length_append]
        omega
      refine ⟨fun _ => dead, fun _ => ?_⟩
      rw [m_fine0 (by omega) D.2]
      exact i0 dead
end MSPAN
