/-! phrases: the reference reads names -/
section MNAMES
variable {t : List Nat} {s s' s0 : gS} {Q : Int32 → gS → Prop} {Q' : gS → Prop} {H : List Rd} {r p k N v g a n c : Nat} {rcc : Nat → gS → (gS → Prop) → Prop} {b : Int32}
theorem DE.push {d : Int} {w : Nat} {x1 x2 : Int32} (D : DE s0 t p N r s) (hN : N < 1024) (e1 : x1 = iI d) (e2 : x2 = nI w) (hd : -100000 ≤ d ∧ d ≤ 100000) (k : ∀ s', DE s0 t p (N + 1) r s' → s'.1 177 15 = nI r → Q' s') : wpX12_pushDay x1 x2 s Q' := by
  obtain ⟨⟨H, M, hH⟩, h8⟩ := D
  refine m_pushD M.h (by omega) e1 e2 hd (fun s1 f1 h1 => k s1 ⟨⟨_, M.up f1 h1, ?_⟩, by rw [f1.2.1 8 (by decide)]; exact h8⟩ (M.up f1 h1).2.2)
  have := pd_le (d := d) (w := w)
  rw [List.length_append]
  omega
theorem mnd_bd {d : Nat} (h : d ≤ 9999) : -10 ≤ mnd d ∧ mnd d ≤ 9999 := by
  have := wk_bd (d := (d : Int)) (by omega)
  unfold mnd
  omega
theorem l7 {d : Int} : iI d + 7 = iI (d + 7) := by rw [show (7 : Int32) = iI 7 from rfl, iI_add]
theorem l14 {d : Int} : iI d + 14 = iI (d + 14) := by rw [show (14 : Int32) = iI 14 from rfl, iI_add]
theorem l1 {d : Nat} : nI d + 1 = iI ((d : Int) + 1) := by rw [nI_i, show (1 : Int32) = iI 1 from rfl, iI_add]
theorem lm7 {d : Int} : iI d - 7 = iI (d - 7) := by rw [show (7 : Int32) = iI 7 from rfl, iI_sub]
theorem MR.rr (M : MR s0 H r s) : gi s 177 15 = nI r := M.2.2
theorem s_this (C : CX t s0) (M : MS s0 t p H r s) (hp : p ≤ t.length) (hH : H.length ≤ 990) (hr : r ≤ 9999) (hg : 7 ≤ g) (K : KS s0 t H r n (sThs 3 0 t p) Q') : wpX12_readThis g s Q' := by
  have h80 := C.1.1
  have hbp := tb_le hp
  have l1' := te_le hp
  have hb1 := tb_le l1'
  have hm := mnd_bd hr
  unfold wpX12_readThis
  refine ⟨7, 0, by omega, s_days C M hp (by omega) (fun h => ⟨fun _ => ?_, fun c => absurd c (nI_ne (by omega))⟩) (fun h => ⟨fun c => absurd rfl c, fun _ => ?_⟩)⟩
  · have e : sThs 3 0 t p = (2, (3, ((tk t p - 4 : Nat) : Int), 0, 0), te t p) := by unfold sThs; rw [if_neg (by omega), if_pos h, if_neg (by omega)]
    rw [e] at K
    refine s_go C M hp (by omega) (fun s1 M1 => ?_)
    rw [M1.1.rr, nI_i r, nI_i (tk t p - 4), m_inW (by omega)]
    exact m_pushD (w := 3) M1.1.h (by omega) rfl rfl (by omega) (fun s2 f2 h2 => K.m (M1.up f2 h2))
  · refine s_unit C M hp (fun h3 s1 M1 => ?_) (fun h3 s1 D => ?_)
    · have e : sThs 3 0 t p = (2, (0, (tk t p : Int), 0, 0), te t p) := by unfold sThs; rw [if_pos h3]
      rw [e] at K
      cases hb : bd t (te t p) with
      | false =>
        rw [m_fine1 (M1.2.live hb).2.1]
        refine i1 ?_
        rw [M1.1.rr]
        refine m_unit (b := 0) (w := 3) M1.1.h (by omega) (by omega) hr (by omega) rfl rfl (fun s2 f2 h2 => K.m (M1.up f2 ?_))
        have : bs r (0, (tk t p : Int), 0, 0) = uni (tk t p) r 0 3 := by
          show uni (tk t p : Int).toNat r 0 3 ++ (if (tk t p : Int) = 1 ∧ (0 : Int) < 0 then _ else if (tk t p : Int) = 1 ∧ (0 : Int) < 0 then _ else []) = _
          rw [if_neg (by omega), if_neg (by omega), List.append_nil]
          rfl
        rw [this]
        exact h2
      | true =>
        rw [m_fine0 (by omega) (M1.2.bad hb)]
        exact i0 (K.md hb (M1.de hb (Nat.le_refl _)) (by omega))
    · have e : sThs 3 0 t p = (0, st0, p) := by unfold sThs; rw [if_neg h3, if_neg h]
      rw [e] at K
      rw [m_fine0 (by omega) D.2]
      exact i0 (K.d D (by omega))
theorem s_next (C : CX t s0) (M : MS s0 t p H r s) (hp : p ≤ t.length) (hH : H.length ≤ 990) (hr : r ≤ 9999) (hg : 7 ≤ g) (K : KS s0 t H r n (sThs 4 1 t p) Q') : wpX12_readNext g s Q' := by
  have h80 := C.1.1
  have hbp := tb_le hp
  have l1' := te_le hp
  have hb1 := tb_le l1'
  have hm := mnd_bd hr
  unfold wpX12_readNext
  refine ⟨7, 0, by omega, s_days C M hp (by omega) (fun h => ⟨fun _ => ?_, fun c => absurd c (nI_ne (by omega))⟩) (fun h => ⟨fun c => absurd rfl c, fun _ => ?_⟩)⟩
  · have e : sThs 4 1 t p = (2, (4, ((tk t p - 4 : Nat) : Int), 0, 0), te t p) := by unfold sThs; rw [if_neg (by omega), if_pos h, if_neg (by omega)]
    rw [e] at K
    refine s_go C M hp (by omega) (fun s1 M1 => ?_)
    have hnm := nmd_bd (a := ((tk t p - 4 : Nat) : Int)) (d := (r : Int) + 1) (by omega) (by omega)
    rw [M1.1.rr, nI_i r, nI_i (tk t p - 4), m_inW (by omega), l7]
    refine m_pushD (w := 3) (d := mnd r + 7 + ((tk t p - 4 : Nat) : Int)) M1.1.h (by omega) (by congr 1; omega) rfl (by omega) (fun s2 f2 h2 => ?_)
    have M2 := M1.up f2 h2
    have := pd_le (d := mnd r + 7 + ((tk t p - 4 : Nat) : Int)) (w := 3)
    rw [M2.1.rr, l1, m_from (by omega) (by omega)]
    refine m_pushD (w := 2) M2.1.h (by rw [List.length_append]; omega) rfl rfl (by omega) (fun s3 f3 h3 => K.m (M2.up f3 ?_))
    rw [List.append_assoc] at h3
    exact h3
  · refine s_unit C M hp (fun h3 s1 M1 => ?_) (fun h3 s1 D => ?_)
    · have e : sThs 4 1 t p = (2, (0, (tk t p : Int), 1, 0), te t p) := by unfold sThs; rw [if_pos h3]
      rw [e] at K
      cases hb : bd t (te t p) with
      | false =>
        rw [m_fine1 (M1.2.live hb).2.1]
        refine j1 ?_
        rw [M1.1.rr]
        refine m_unit (b := 1) (w := 3) M1.1.h (by omega) (by omega) hr (by omega) rfl rfl (fun s2 f2 h2 => ?_)
        have M2 := M1.up f2 h2
        have hz : (nI (tk t p) = 1) = (tk t p = 1) := by rw [show (1 : Int32) = nI 1 from rfl, nI_eq (by omega) (by decide)]
        have := uni_le (u := tk t p) (n := r) (b := 1) (w := 3)
        rw [hz, M2.1.rr]
        refine ⟨fun h1 => K.m ?_, fun h1 => ?_⟩
        · have : bs r (0, (tk t p : Int), 1, 0) = uni (tk t p) r 1 3 := by
            show uni (tk t p : Int).toNat r 1 3 ++ (if (tk t p : Int) = 1 ∧ (0 : Int) < 1 then _ else if (tk t p : Int) = 1 ∧ (1 : Int) < 0 then _ else []) = _
            rw [if_neg (by omega), if_neg (by omega), List.append_nil]
            rfl
          rw [this]
          exact M2
        · refine m_push (f := (r : Int) + 1) (t' := (r : Int) + 7) (g := 1) (w := 1) M2.1.h (by rw [List.length_append]; omega) l1 (by rw [nI_i, l7]) rfl rfl (by omega) (by omega) (by omega) (fun s3 f3 h4 => K.m (M2.up f3 ?_))
          have : bs r (0, (tk t p : Int), 1, 0) = uni (tk t p) r 1 3 ++ pu ((r : Int) + 1) ((r : Int) + 7) 1 1 := by
            show uni (tk t p : Int).toNat r 1 3 ++ (if (tk t p : Int) = 1 ∧ (0 : Int) < 1 then _ else if (tk t p : Int) = 1 ∧ (1 : Int) < 0 then _ else []) = _
            rw [if_pos (by omega)]
            rfl
          rw [this, ← List.append_assoc]
          exact h4
      | true =>
        rw [m_fine0 (by omega) (M1.2.bad hb)]
        exact j0 (K.md hb (M1.de hb (Nat.le_refl _)) (by omega))
    · have e : sThs 4 1 t p = (0, st0, p) := by unfold sThs; rw [if_neg h3, if_neg h]
      rw [e] at K
      rw [m_fine0 (by omega) D.2]
      exact j0 (K.d D (by omega))
theorem s_last (C : CX t s0) (R : RCs s0 t r n rcc) (M : MS s0 t p H r s) (hp : p ≤ t.length) (hn : t.length < p + 3 * n) (hH : H.length ≤ 990) (hr : r ≤ 9999) (hg : 7 + gs t n (sThs 5 (-1) t p) ≤ g) (K : KS s0 t H r n (sThs 5 (-1) t p) Q') : wfX12_readLast rcc g s Q' := by
  have h80 := C.1.1
  have hbp := tb_le hp
  have l1' := te_le hp
  have hb1 := tb_le l1'
  have hm := mnd_bd hr
  have g1 := te_ge (t := t) p
  have g2 := te_ge (t := t) (te t p)
  unfold wfX12_readLast
  refine ⟨7, g - 7, by omega, s_days C M hp (by omega) (fun h => ⟨fun _ => ?_, fun c => absurd c (nI_ne (by omega))⟩) (fun h => ⟨fun c => absurd rfl c, fun _ => ?_⟩)⟩
  · refine s_go C M hp (by omega) (fun s1 M1 => s_is C M1 l1' W34 (fun h1 => i1 ⟨g - 7, 0, by omega, ?_⟩) (fun h1 => i0 ?_))
    · have e : sThs 5 (-1) t p = (1, (17, ((tk t p - 4 : Nat) : Int), 0, 0), te t (te t p)) := by unfold sThs; rw [if_neg (by omega), if_pos h, if_pos ⟨rfl, h1⟩]
      rw [e] at K hg
      exact s_of C R M1 l1' (by omega) hH (by omega) (Or.inl ⟨rfl, rfl⟩) (fun _ => by omega) (fun _ => K) (fun h2 => absurd h1 h2)
    · have e : sThs 5 (-1) t p = (2, (5, ((tk t p - 4 : Nat) : Int), 0, 0), te t p) := by unfold sThs; rw [if_neg (by omega), if_pos h, if_neg (by omega)]
      rw [e] at K
      have hnm := nmd_bd (a := ((tk t p - 4 : Nat) : Int)) (d := (r : Int)) (by omega) (by omega)
      rw [M1.1.rr, nI_i r, nI_i (tk t p - 4), m_ahd (by omega) (by omega)]
      refine m_pushD (w := 3) M1.1.h (by omega) rfl rfl (by omega) (fun s2 f2 h2 => ?_)
      have M2 := M1.up f2 h2
      have := pd_le (d := nmd ((tk t p - 4 : Nat) : Int) r - 7) (w := 3)
      rw [M2.1.rr, nI_i r, m_inW (by omega), lm7]
      refine m_pushD (w := 2) (d := mnd r - 7 + ((tk t p - 4 : Nat) : Int)) M2.1.h (by rw [List.length_append]; omega) (by congr 1; omega) rfl (by omega) (fun s3 f3 h3 => K.m (M2.up f3 ?_))
      rw [List.append_assoc] at h3
      exact h3
  · refine s_unit C M hp (fun h3 s1 M1 => ?_) (fun h3 s1 D => ?_)
    · have e : sThs 5 (-1) t p = (2, (0, (tk t p : Int), -1, 0), te t p) := by unfold sThs; rw [if_pos h3]
      rw [e] at K
      cases hb : bd t (te t p) with
      | false =>
        rw [m_fine1 (M1.2.live hb).2.1]
        refine j1 ?_
        rw [M1.1.rr]
        refine m_unit (b := -1) (w := 3) M1.1.h (by omega) (by omega) hr (by omega) rfl rfl (fun s2 f2 h2 => ?_)
        have M2 := M1.up f2 h2
        have hz : (nI (tk t p) = 1) = (tk t p = 1) := by rw [show (1 : Int32) = nI 1 from rfl, nI_eq (by omega) (by decide)]
        have := uni_le (u := tk t p) (n := r) (b := -1) (w := 3)
        rw [hz, M2.1.rr]
        refine ⟨fun h1 => K.m ?_, fun h1 => ?_⟩
        · have : bs r (0, (tk t p : Int), -1, 0) = uni (tk t p) r (-1) 3 := by
            show uni (tk t p : Int).toNat r (-1) 3 ++ (if (tk t p : Int) = 1 ∧ (0 : Int) < -1 then _ else if (tk t p : Int) = 1 ∧ (-1 : Int) < 0 then _ else []) = _
            rw [if_neg (by omega), if_neg (by omega), List.append_nil]
            rfl
          rw [this]
          exact M2
        · refine m_push (f := (r : Int) - 7) (t' := (r : Int) - 1) (g := 1) (w := 1) M2.1.h (by rw [List.length_append]; omega) (by rw [nI_i, lm7]) (by rw [nI_i, show (1 : Int32) = iI 1 from rfl, iI_sub]) rfl rfl (by omega) (by omega) (by omega) (fun s3 f3 h4 => K.m (M2.up f3 ?_))
          have : bs r (0, (tk t p : Int), -1, 0) = uni (tk t p) r (-1) 3 ++ pu ((r : Int) - 7) ((r : Int) - 1) 1 1 := by
            show uni (tk t p : Int).toNat r (-1) 3 ++ (if (tk t p : Int) = 1 ∧ (0 : Int) < -1 then _ else if (tk t p : Int) = 1 ∧ (-1 : Int) < 0 then _ else []) = _
            rw [if_neg (by omega), if_pos (by omega)]
            rfl
          rw [this, ← List.append_assoc]
          exact h4
      | true =>
        rw [m_fine0 (by omega) (M1.2.bad hb)]
        exact j0 (K.md hb (M1.de hb (Nat.le_refl _)) (by omega))
    · have e : sThs 5 (-1) t p = (0, st0, p) := by unfold sThs; rw [if_neg h3, if_neg h]
      rw [e] at K
      rw [m_fine0 (by omega) D.2]
      exact j0 (K.d D (by omega))
theorem s_dayN (C : CX t s0) (M : MS s0 t p H r s) (hp : p ≤ t.length) (hH : H.length ≤ 990) (hr : r ≤ 9999) (hg : 7 ≤ g) (h : 4 ≤ tk t p ∧ tk t p < 11) (K : KS s0 t H r n (sDay t p) Q') : wpX12_readDayName g s Q' := by
  have h80 := C.1.1
  have l1' := te_le hp
  have l2' := te_le l1'
  have hb2 := tb_le l2'
  have hm := mnd_bd hr
  have hn1 := nmd_bd (a := ((tk t p - 4 : Nat) : Int)) (d := (r : Int)) (by omega) (by omega)
  have hn2 := nmd_bd (a := ((tk t p - 4 : Nat) : Int)) (d := (r : Int) + 1) (by omega) (by omega)
  unfold wpX12_readDayName
  refine ⟨7, 0, by omega, s_days C M hp (by omega) (fun _ => ?_) (fun c => absurd h c)⟩
  refine s_go C M hp (by omega) (fun s1 M1 => s_takes C M1 l1' W35 (fun h1 s2 M2 => i1 ?_) (fun h1 => i0 ?_))
  · refine s_needs C M2 l2' W33 (fun h2 s3 M3 => ?_) (fun h2 s3 D => ?_)
    · have e : sDay t p = (2, (6, ((tk t p - 4 : Nat) : Int), 0, 0), te t (te t (te t p))) := by unfold sDay; rw [if_pos h1, if_pos h2]
      rw [e] at K
      rw [M3.1.rr, l1, nI_i (tk t p - 4), m_from (by omega) (by omega), l7]
      refine m_pushD (w := 3) M3.1.h (by omega) rfl rfl (by omega) (fun s4 f4 h4 => ?_)
      have M4 := M3.up f4 h4
      have := pd_le (d := nmd ((tk t p - 4 : Nat) : Int) ((r : Int) + 1) + 7) (w := 3)
      rw [M4.1.rr, nI_i r, m_inW (by omega), l14]
      refine m_pushD (w := 2) (d := mnd r + 14 + ((tk t p - 4 : Nat) : Int)) M4.1.h (by rw [List.length_append]; omega) (by congr 1; omega) rfl (by omega) (fun s5 f5 h5 => K.m (M4.up f5 ?_))
      rw [List.append_assoc] at h5
      exact h5
    · have e : sDay t p = (0, st0, te t (te t p)) := by unfold sDay; rw [if_pos h1, if_neg h2]
      rw [e] at K
      have hr3 : gi s3 177 15 = nI r := by
        obtain ⟨⟨H', M', _⟩, _⟩ := D
        exact M'.rr
      rw [hr3, l1, nI_i (tk t p - 4), m_from (by omega) (by omega), l7]
      refine D.push (by omega) rfl rfl (by omega) (fun s4 D4 hr4 => ?_)
      rw [show gi s4 177 15 = nI r from hr4, nI_i r, m_inW (by omega), l14]
      exact D4.push (by omega) rfl rfl (by omega) (fun s5 D5 _ => K.d D5 (by omega))
  · have e : sDay t p = (2, (2, ((tk t p - 4 : Nat) : Int), 0, 0), te t p) := by unfold sDay; rw [if_neg h1]
    rw [e] at K
    rw [M1.1.rr, nI_i r, nI_i (tk t p - 4), m_from (by omega) (by omega)]
    refine m_pushD (w := 3) M1.1.h (by omega) rfl rfl (by omega) (fun s2 f2 h2 => ?_)
    have M2 := M1.up f2 h2
    have := pd_le (d := nmd ((tk t p - 4 : Nat) : Int) r) (w := 3)
    rw [M2.1.rr, nI_i r, m_ahd (by omega) (by omega)]
    refine m_pushD (w := 1) M2.1.h (by rw [List.length_append]; omega) rfl rfl (by omega) (fun s3 f3 h3 => K.m (M2.up f3 ?_))
    rw [List.append_assoc] at h3
    exact h3
end MNAMES
