/-! phrases: the reference reads what stands ahead of a span -/
section MREAD
variable {t : List Nat} {s s' s0 : gS} {Q : Int32 → gS → Prop} {Q' : gS → Prop} {H : List Rd} {r p k N v g a n c : Nat} {rcc : Nat → gS → (gS → Prop) → Prop} {b : Int32}
/-- what a step of the reference leaves behind; n: how deep the spans behind it go -/
def KS (s0 : gS) (t : List Nat) (H : List Rd) (r n : Nat) (x : Nat × St × Nat) (Q' : gS → Prop) : Prop :=
  (x.1 = 0 → ∀ s', DE s0 t x.2.2 (H.length + 2) r s' → Q' s') ∧
  (x.1 = 2 → (bd t x.2.2 = false → ∀ s', MS s0 t x.2.2 (H ++ bs r x.2.1) r s' → Q' s') ∧ (bd t x.2.2 = true → ∀ s', DE s0 t x.2.2 (H.length + 2) r s' → Q' s')) ∧
  (x.1 = 1 → ((spn t n x.2.2).1 = true → bd t (spn t n x.2.2).2.2 = false → ∀ s', MS s0 t (spn t n x.2.2).2.2 (H ++ (spv r [] (spn t n x.2.2).2.1).flatMap (cg1 x.2.1)) r s' → Q' s') ∧ ((spn t n x.2.2).1 = false ∨ bd t (spn t n x.2.2).2.2 = true → ∀ s', DE s0 t (spn t n x.2.2).2.2 (H.length + 2) r s' → Q' s'))
def RCs (s0 : gS) (t : List Nat) (r n : Nat) (rcc : Nat → gS → (gS → Prop) → Prop) : Prop :=
  (∀ p H s g Q', MS s0 t p H r s → p ≤ t.length → t.length < p + 3 * n → H.length ≤ 990 → 11 * ((spn t n p).2.2 - p) + (if (spn t n p).1 = true then 0 else 31) ≤ g → ((spn t n p).1 = true → bd t (spn t n p).2.2 = false → ∀ s', MS s0 t (spn t n p).2.2 (H ++ spv r [] (spn t n p).2.1) r s' → Q' s') → ((spn t n p).1 = false ∨ bd t (spn t n p).2.2 = true → ∀ s', DE s0 t (spn t n p).2.2 (H.length + 2) r s' → Q' s') → rcc g s Q') ∧ (∀ s g v Q', v < 1000 → s.1 177 8 = nI v → Q' s → rcc g s Q')
def gs (t : List Nat) (n : Nat) (x : Nat × St × Nat) : Nat := if x.1 = 1 then 11 * ((spn t n x.2.2).2.2 - x.2.2) + (if (spn t n x.2.2).1 = true then 0 else 31) else 0
theorem KS.d {x : St} (K : KS s0 t H r n (0, x, p) Q') (D : DE s0 t p N r s) (h : N ≤ H.length + 2) : Q' s := K.1 rfl s (D.mo h)
theorem KS.m {x : St} (K : KS s0 t H r n (2, x, p) Q') (M : MS s0 t p (H ++ bs r x) r s) : Q' s := by
  have hb := bs_le (r := r) (x := x)
  cases h : bd t p with
  | false => exact (K.2.1 rfl).1 h s M
  | true => exact (K.2.1 rfl).2 h s (M.de h (by rw [List.length_append]; omega))
theorem KS.md {x : St} (K : KS s0 t H r n (2, x, p) Q') (h : bd t p = true) (D : DE s0 t p N r s) (hN : N ≤ H.length + 2) : Q' s := (K.2.1 rfl).2 h s (D.mo hN)
theorem KS.w {x : St} (C : CX t s0) (K : KS s0 t H r n (1, x, p) Q') (R : RCs s0 t r n rcc) (M : MS s0 t p H r s) (hp : p ≤ t.length) (hn : t.length < p + 3 * n) (hH : H.length ≤ 990) (hg : gs t n (1, x, p) ≤ g) {Q2 : Int32 → gS → Prop} (k1 : ∀ V s1, V.length ≤ 2 → okV V → MR s0 (H ++ V) r s1 → (∀ s', fm [181] [14] s1 s' → HP (H ++ V.flatMap (cg1 x)) s' → Q' s') → Q2 1 s1) (k0 : ∀ s1, Q' s1 → Q2 0 s1) : rcc g s (fun s13 => wpX12_fine s13 Q2) := by
  have h80 := C.1.1
  have hb := tb_le (far_spn (t := t) n p hp).1
  refine R.1 p H s g _ M hp hn hH hg (fun h1 h2 s1 M1 => ?_) (fun h s1 D => ?_)
  · rw [m_fine1 (M1.2.live h2).2.1]
    exact k1 _ s1 (spv_le _ _ (by simp)) (spv_ok _ _ ok_nil) M1.1 (fun s2 f2 h3 => (K.2.2 rfl).1 h1 h2 s2 (M1.up f2 h3))
  · rw [m_fine0 (by omega) D.2]
    exact k0 s1 ((K.2.2 rfl).2 h s1 D)
theorem MR.hl (M : MR s0 H r s) : gi s 177 14 = nI H.length := M.2.1.1
theorem s_third (C : CX t s0) (R : RCs s0 t r n rcc) (M : MS s0 t p H r s) (hp : p ≤ t.length) (hk : tk t p ≠ 40) (hn : t.length < te t p + 3 * n) (hH : H.length ≤ 990) (hb : (b = 0 ∧ c = 13) ∨ (b = 1 ∧ c = 14) ∨ (b = 2 ∧ c = 15)) (hg : gs t n (1, (c, 0, 0, 0), te t p) ≤ g) (K : KS s0 t H r n (1, (c, 0, 0, 0), te t p) Q') : wX12_readThird_27 rcc Q' g b s := by
  unfold wX12_readThird_27
  refine s_go C M hp hk (fun s1 M1 => ⟨g, 0, by omega, ?_⟩)
  rw [M1.1.hl]
  refine K.w C R M1 (te_le hp) hn hH hg (fun V s2 hV ok M2 k => j1 ?_) (fun s2 k => j0 k)
  rw [M2.hl]
  exact m_third hV (by omega) ok hb M2.h k
theorem s_of (C : CX t s0) (R : RCs s0 t r n rcc) (M : MS s0 t p H r s) (hp : p ≤ t.length) (hn : t.length < te t p + 3 * n) (hH : H.length ≤ 990) (ha : a < 7) (hb : (b = 0 ∧ c = 17) ∨ (b = 1 ∧ c = 16)) (hg : tk t p = 34 → gs t n (1, (c, a, 0, 0), te t p) ≤ g) (K : tk t p = 34 → KS s0 t H r n (1, (c, a, 0, 0), te t p) Q') (K0 : tk t p ≠ 34 → ∀ s', DE s0 t p (H.length + 2) r s' → Q' s') : wfX12_readOf rcc g (nI a) b s Q' := by
  have h80 := C.1.1
  have hbb := tb_le hp
  unfold wfX12_readOf
  refine s_needs C M hp W34 (fun h s1 M1 => ⟨g, 0, by omega, ?_⟩) (fun h s1 D => ⟨g, 0, by omega, R.2 s1 g _ _ (by omega) D.2 ?_⟩)
  · rw [M1.1.hl]
    refine (K h).w C R M1 (te_le hp) hn hH (hg h) (fun V s2 hV ok M2 k => j1 ?_) (fun s2 k => j0 k)
    rw [M2.hl]
    exact m_ofL hV (by omega) ok ha hb M2.h k
  · rw [m_fine0 (by omega) D.2]
    exact j0 (K0 h s1 (D.mo (by omega)))
theorem d_of {x y : Int32} (R : RCs s0 t r n rcc) (hv : v < 1000) (h8 : s.1 177 8 = nI v) (k : Q' s) : wfX12_readOf rcc g x y s Q' := by
  unfold wfX12_readOf
  refine d_needs hv h8 ⟨g, 0, by omega, R.2 s g _ _ hv h8 ?_⟩
  rw [m_fine0 hv h8]
  exact j0 k
theorem d_n91 {x y z : Int32} (R : RCs s0 t r n rcc) (hv : v < 1000) (h8 : s.1 177 8 = nI v) (k : Q' s) : wX12_readNumbered_91 rcc Q' g x y z s := by
  unfold wX12_readNumbered_91
  refine d_go hv h8 ⟨g, 0, by omega, R.2 s g _ _ hv h8 ?_⟩
  rw [m_fine0 hv h8]
  exact j0 k
theorem s_n91 {m u : Nat} (C : CX t s0) (R : RCs s0 t r n rcc) (M : MS s0 t p H r s) (hp : p ≤ t.length) (hk : tk t p ≠ 40) (hn : t.length < te t p + 3 * n) (hH : H.length ≤ 990) (hm : m ≤ 99) (hu : u < 4) (hb : (b = 0 ∧ c = 12) ∨ (b = 1 ∧ c = 11)) (hg : gs t n (1, (c, u, m, 0), te t p) ≤ g) (K : KS s0 t H r n (1, (c, u, m, 0), te t p) Q') : wX12_readNumbered_91 rcc Q' g (nI m) (nI u) b s := by
  unfold wX12_readNumbered_91
  refine s_go C M hp hk (fun s1 M1 => ⟨g, 0, by omega, ?_⟩)
  rw [M1.1.hl]
  refine K.w C R M1 (te_le hp) hn hH hg (fun V s2 hV ok M2 k => j1 ?_) (fun s2 k => j0 k)
  rw [M2.hl]
  exact m_num hV (by omega) ok hm hu hb M2.h k
theorem s_numb (C : CX t s0) (R : RCs s0 t r n rcc) (M : MS s0 t p H r s) (hp : p ≤ t.length) (hn : t.length < p + 3 * (n + 1)) (hH : H.length ≤ 990) (hr : r ≤ 9999) (h100 : 100 ≤ tk t p) (hg : gs t n (sNum t p) ≤ g) (K : KS s0 t H r n (sNum t p) Q') : wfX12_readNumbered rcc g s Q' := by
  have h80 := C.1.1
  have hk := tk_lt (t := t) p
  have hbp := tb_le hp
  have l1 := te_le hp
  have l2 := te_le l1
  have g1 := (te_num h100).1
  have hb1 := tb_le l1
  have hb2 := tb_le l2
  obtain ⟨a7, a8, a9, a10, a11, a12⟩ := M.2.live (bd_no (by omega))
  unfold wfX12_readNumbered
  rw [show gi s 177 10 = nI (tk t p - 100) from a10, show wpX12_in (nI (tk t p - 100)) 2000 2027 = wpX12_in (nI (tk t p - 100)) (nI 2000) (nI 2027) from rfl, m_inN (by omega) (by decide) (by decide)]
  by_cases h1 : 2100 ≤ tk t p ∧ tk t p ≤ 2127
  · rw [decide_eq_true (show 2000 ≤ tk t p - 100 by omega), decide_eq_true (show tk t p - 100 ≤ 2027 by omega)]
    have e : sNum t p = (2, (10, ((tk t p - 100 : Nat) : Int), 0, 0), te t p) := by unfold sNum; rw [if_pos h1]
    rw [e] at K
    refine i1 ?_
    rw [show gi s 177 10 = nI (tk t p - 100) from a10]
    refine m_pyear (w := 3) (z := ((tk t p - 100 : Nat) : Int) - 2000) M.1.h (by omega) (by omega) (by rw [nI_i]; congr 1; omega) rfl (fun s1 f1 h2 => ?_)
    exact s_go C (M.up f1 h2) hp (by omega) (fun s2 M2 => K.m M2)
  · have hin : (decide (2000 ≤ tk t p - 100) && decide (tk t p - 100 ≤ 2027)) = false := by
      by_cases h3 : 2000 ≤ tk t p - 100
      · rw [decide_eq_false (show ¬ tk t p - 100 ≤ 2027 by omega), Bool.and_false]
      · rw [decide_eq_false h3, Bool.false_and]
    rw [hin]
    refine i0 (s_num (lo := 101) (hi := 199) C M hp (by decide) (by decide) rfl rfl (fun h2 s1 M1 => ?_) (fun h2 s1 v D => ?_))
    · refine s_unit C M1 l1 (fun h3 s2 M2 => ?_) (fun h3 s2 D => ?_)
      · have g2 := te3 (show tk t (te t p) < 31 by omega) l1
        have g3 := te_ge (t := t) (te t (te t p))
        refine s_takes C M2 l2 W37 (fun h4 s3 M3 => i1 ?_) (fun h4 => i0 ?_)
        · have e : sNum t p = (2, (1, (tk t (te t p) : Int), -((tk t p - 100 : Nat) : Int), 0), te t (te t (te t p))) := by unfold sNum; rw [if_neg h1, if_pos h2, if_pos h3, if_pos h4]
          rw [e] at K
          have a8' : bd t (te t (te t (te t p))) = false → s3.1 177 8 = -1 := fun hb => (M3.2.live hb).2.1
          cases hb : bd t (te t (te t (te t p))) with
          | false => exact m_moved M3.1.h (by omega) (a8' hb) M3.1.2.2 (by omega) hr (by omega) (by rw [nI_i, iI_neg]) (fun s4 f4 h5 => K.m (M3.up f4 h5))
          | true =>
            have hb3 := tb_le (te_le l2)
            exact m_movedD (by omega) (M3.2.bad hb) (K.md hb (M3.de hb (Nat.le_refl _)) (by omega))
        · refine s_is C M2 l2 W35 (fun h5 => j1 ?_) (fun h5 => j0 (s_is C M2 l2 W36 (fun h6 => j1 ?_) (fun h6 => j0 (s_fault C M2 l2 (fun s3 D => d_n91 R (by omega) D.2 ?_)))))
          · have e : sNum t p = (1, (11, (tk t (te t p) : Int), ((tk t p - 100 : Nat) : Int), 0), te t (te t (te t p))) := by unfold sNum; rw [if_neg h1, if_pos h2, if_pos h3, if_neg (by omega), if_pos h5]
            rw [e] at K hg
            exact s_n91 C R M2 l2 (by omega) (by omega) hH (by omega) (by omega) (Or.inr ⟨rfl, rfl⟩) hg K
          · have e : sNum t p = (1, (12, (tk t (te t p) : Int), ((tk t p - 100 : Nat) : Int), 0), te t (te t (te t p))) := by unfold sNum; rw [if_neg h1, if_pos h2, if_pos h3, if_neg (by omega), if_neg (by omega), if_pos h6]
            rw [e] at K hg
            exact s_n91 C R M2 l2 (by omega) (by omega) hH (by omega) (by omega) (Or.inl ⟨rfl, rfl⟩) hg K
          · have e : sNum t p = (0, st0, te t (te t p)) := by unfold sNum; rw [if_neg h1, if_pos h2, if_pos h3, if_neg h4, if_neg h5, if_neg h6]
            rw [e] at K
            exact K.d D (by omega)
      · have e : sNum t p = (0, st0, te t p) := by unfold sNum; rw [if_neg h1, if_pos h2, if_neg h3]
        rw [e] at K
        have kf := K.d D (by omega)
        exact d_takes (by omega) D.2 (i0 (d_is (by omega) D.2 (j0 (d_is (by omega) D.2 (j0 (d_fault (by omega) D.2 (d_n91 R (by omega) D.2 kf)))))))
    · have e : sNum t p = (0, st0, p) := by unfold sNum; rw [if_neg h1, if_neg h2]
      rw [e] at K
      have kf := K.d D (by omega)
      exact d_unit (by omega) D.2 (d_takes (by omega) D.2 (i0 (d_is (by omega) D.2 (j0 (d_is (by omega) D.2 (j0 (d_fault (by omega) D.2 (d_n91 R (by omega) D.2 kf))))))))
theorem s_in (C : CX t s0) (M : MS s0 t p H r s) (hp : p ≤ t.length) (hH : H.length ≤ 990) (hr : r ≤ 9999) (K : KS s0 t H r n (sIn t p) Q') : wpX12_readIn s Q' := by
  have h80 := C.1.1
  have hbp := tb_le hp
  have l1 := te_le hp
  have hb1 := tb_le l1
  have hb2 := tb_le (te_le l1)
  unfold wpX12_readIn
  refine s_num (lo := 101) (hi := 199) C M hp (by decide) (by decide) rfl rfl (fun h2 s1 M1 => ?_) (fun h2 s1 v D => ?_)
  · refine s_unit C M1 l1 (fun h3 s2 M2 => ?_) (fun h3 s2 D => ?_)
    · have e : sIn t p = (2, (1, (tk t (te t p) : Int), ((tk t p - 100 : Nat) : Int), 0), te t (te t p)) := by unfold sIn; rw [if_pos h2, if_pos h3]
      rw [e] at K
      cases hb : bd t (te t (te t p)) with
      | false => exact m_moved M2.1.h (by omega) (M2.2.live hb).2.1 M2.1.2.2 (by omega) hr (by omega) (nI_i _) (fun s4 f4 h5 => K.m (M2.up f4 h5))
      | true => exact m_movedD (by omega) (M2.2.bad hb) (K.md hb (M2.de hb (Nat.le_refl _)) (by omega))
    · have e : sIn t p = (0, st0, te t p) := by unfold sIn; rw [if_pos h2, if_neg h3]
      rw [e] at K
      exact m_movedD (by omega) D.2 (K.d D (by omega))
  · have e : sIn t p = (0, st0, p) := by unfold sIn; rw [if_neg h2]
    rw [e] at K
    exact d_unit (by omega) D.2 (m_movedD (by omega) D.2 (K.d D (by omega)))
end MREAD
