/-! phrases: the reference reads a phrase -/
section MPHRASE
variable {t : List Nat} {s s' s0 : gS} {Q : Int32 → gS → Prop} {Q' : gS → Prop} {H V W : List Rd} {r p k N v g a n c : Nat} {rcc : Nat → gS → (gS → Prop) → Prop} {b : Int32}
theorem s_thr (C : CX t s0) (R : RCs s0 t r n rcc) (M : MS s0 t p H r s) (hp : p ≤ t.length) (hn : t.length < p + 3 * (n + 1)) (hH : H.length ≤ 990) (h : tk t p = 23 ∨ tk t p = 24 ∨ tk t p = 25) (hg : gs t n (stp t p) ≤ g) (K : KS s0 t H r n (stp t p) Q') : wX12_readSpan_49 rcc Q' g s := by
  have g3 := te3 (show tk t p < 31 by omega) hp
  refine ⟨g, 0, by omega, ?_⟩
  unfold wfX12_readThird
  refine s_is C M hp W23 (fun h1 => i1 ?_) (fun h1 => i0 (s_is C M hp W24 (fun h2 => i1 ?_) (fun h2 => i0 ?_)))
  · have e : stp t p = (1, (13, 0, 0, 0), te t p) := by unfold stp; rw [h1]; rfl
    rw [e] at K hg
    exact s_third C R M hp (by omega) (by omega) hH (Or.inl ⟨rfl, rfl⟩) hg K
  · have e : stp t p = (1, (14, 0, 0, 0), te t p) := by unfold stp; rw [h2]; rfl
    rw [e] at K hg
    exact s_third C R M hp (by omega) (by omega) hH (Or.inr (Or.inl ⟨rfl, rfl⟩)) hg K
  · have h3 : tk t p = 25 := by omega
    have e : stp t p = (1, (15, 0, 0, 0), te t p) := by unfold stp; rw [h3]; rfl
    rw [e] at K hg
    exact s_third C R M hp (by omega) (by omega) hH (Or.inr (Or.inr ⟨rfl, rfl⟩)) hg K
theorem jmx7 {k : Nat} (hk : k < 7) : jmax 0 (nI k) = nI k := by
  have : ∀ k, k < 7 → jmax 0 (nI k) = nI k := by decide
  exact this k hk
theorem s_fst (C : CX t s0) (R : RCs s0 t r n rcc) (M : MS s0 t p H r s) (hp : p ≤ t.length) (hn : t.length < p + 3 * n) (hH : H.length ≤ 990) (hg : 7 + gs t n (sFst t p) ≤ g) (K : KS s0 t H r n (sFst t p) Q') : ∃ g25a g25b, g25a + g25b ≤ g ∧ wpX12_needDayName g25a s (fun r25 s25 => ∃ g26a g26b, g26a + g26b ≤ g25b ∧ wfX12_readOf rcc g26a r25 1 s25 (fun s26 => Q' s26)) := by
  have h80 := C.1.1
  have hbp := tb_le hp
  have l1' := te_le hp
  have g1 := te_ge (t := t) p
  have g2 := te_ge (t := t) (te t p)
  refine ⟨7, g - 7, by omega, 7, 0, by omega, s_days C M hp (by omega) (fun h => ⟨fun _ => ?_, fun c => absurd c (nI_ne (by omega))⟩) (fun h => ⟨fun c => absurd rfl c, fun _ => s_fault C M hp (fun s1 D => d_go (by omega) D.2 ⟨g - 7, 0, by omega, d_of R (by omega) D.2 ?_⟩)⟩)⟩
  · unfold wX12_needDayName_20
    rw [jmx7 (by omega)]
    refine s_go C M hp (by omega) (fun s1 M1 => ⟨g - 7, 0, by omega, s_of (c := 16) C R M1 l1' (by omega) hH (by omega) (Or.inr ⟨rfl, rfl⟩) (fun h1 => ?_) (fun h1 => ?_) (fun h1 s2 D => ?_)⟩)
    · have e : sFst t p = (1, (16, ((tk t p - 4 : Nat) : Int), 0, 0), te t (te t p)) := by unfold sFst; rw [if_pos h, if_pos h1]
      rw [e] at hg
      omega
    · have e : sFst t p = (1, (16, ((tk t p - 4 : Nat) : Int), 0, 0), te t (te t p)) := by unfold sFst; rw [if_pos h, if_pos h1]
      rw [e] at K
      exact K
    · have e : sFst t p = (0, st0, te t p) := by unfold sFst; rw [if_pos h, if_neg h1]
      rw [e] at K
      exact K.d D (Nat.le_refl _)
  · have e : sFst t p = (0, st0, p) := by unfold sFst; rw [if_neg h]
    rw [e] at K
    exact K.d D (by omega)
theorem s_step (C : CX t s0) (R : RCs s0 t r n rcc) (M : MS s0 t p H r s) (hp : p ≤ t.length) (hn : t.length < p + 3 * (n + 1)) (hH : H.length ≤ 990) (hr : r ≤ 9999) (hg : 31 + gs t n (stp t p) ≤ g) (K : KS s0 t H r n (stp t p) Q') : wfX12_readSpan rcc g s Q' := by
  have h80 := C.1.1
  have hbp := tb_le hp
  have l1' := te_le hp
  unfold wfX12_readSpan
  cases hb : bd t p with
  | true =>
    have h40 := bd_40 hb
    have e : stp t p = (0, st0, p) := by unfold stp; rw [h40]; rfl
    rw [e] at K
    rw [m_fine0 (by omega) (M.2.bad hb)]
    exact j0 (K.d (M.de hb (Nat.le_refl _)) (by omega))
  | false =>
    obtain ⟨a7, a8, a9, a10, a11, a12⟩ := M.2.live hb
    rw [m_fine1 a8, show gi s 177 11 = bi (decide (100 ≤ tk t p)) from a11, bi_0]
    refine j1 ⟨fun hc => ?_, fun hc => ⟨g, 0, by omega, ?_⟩⟩
    · have h100 := of_decide_eq_false hc
      refine s_is C M hp W23 (fun h => j1 (s_thr C R M hp hn hH (Or.inl h) (by omega) K)) (fun h23 => j0 (s_is C M hp W24 (fun h => j1 (s_thr C R M hp hn hH (Or.inr (Or.inl h)) (by omega) K)) (fun h24 => j0 (s_is C M hp W25 (fun h => i1 (s_thr C R M hp hn hH (Or.inr (Or.inr h)) (by omega) K)) (fun h25 => i0 ?_)))))
      refine s_takes C M hp W26 (fun h s1 M1 => i1 ?_) (fun h26 => i0 ?_)
      · have g3 := te3 (show tk t p < 31 by omega) hp
        have e : stp t p = sFst t (te t p) := by unfold stp; rw [h]; rfl
        rw [e] at K hg
        exact s_fst C R M1 l1' (by omega) hH (by omega) K
      refine s_takes C M hp W28 (fun h s1 M1 => i1 ?_) (fun h28 => i0 ?_)
      · have e : stp t p = (2, (0, 0, 0, 0), te t p) := by unfold stp; rw [h]; rfl
        rw [e] at K
        refine m_pushD (w := 3) (d := (r : Int) + 0) M1.1.h (by omega) (by rw [M1.1.rr, nI_i]; exact congrArg iI (by omega)) rfl (by omega) (fun s2 f2 h2 => K.m (M1.up f2 ?_))
        have : bs r (0, 0, 0, 0) = pd ((r : Int) + 0) 3 := by
          show pd ((r : Int) + 0) 3 ++ [] = _
          rw [List.append_nil]
        rw [this]
        exact h2
      refine s_takes C M hp W29 (fun h s1 M1 => i1 ?_) (fun h29 => i0 ?_)
      · have e : stp t p = (2, (0, 0, 1, 0), te t p) := by unfold stp; rw [h]; rfl
        rw [e] at K
        refine m_pushD (w := 3) (d := (r : Int) + 1) M1.1.h (by omega) (by rw [M1.1.rr, l1]) rfl (by omega) (fun s2 f2 h2 => K.m (M1.up f2 ?_))
        have : bs r (0, 0, 1, 0) = pd ((r : Int) + 1) 3 := by
          show pd ((r : Int) + 1) 3 ++ [] = _
          rw [List.append_nil]
        rw [this]
        exact h2
      refine s_takes C M hp W30 (fun h s1 M1 => i1 ?_) (fun h30 => i0 ?_)
      · have e : stp t p = (2, (0, 0, -1, 0), te t p) := by unfold stp; rw [h]; rfl
        rw [e] at K
        refine m_pushD (w := 3) (d := (r : Int) + -1) M1.1.h (by omega) (by rw [M1.1.rr, nI_i, show (1 : Int32) = iI 1 from rfl, iI_sub]; rfl) rfl (by omega) (fun s2 f2 h2 => K.m (M1.up f2 ?_))
        have : bs r (0, 0, -1, 0) = pd ((r : Int) + -1) 3 := by
          show pd ((r : Int) + -1) 3 ++ [] = _
          rw [List.append_nil]
        rw [this]
        exact h2
      refine s_takes C M hp W31 (fun h s1 M1 => i1 ?_) (fun h31 => i0 ?_)
      · have e : stp t p = sIn t (te t p) := by unfold stp; rw [h]; rfl
        rw [e] at K
        exact s_in C M1 l1' hH hr K
      refine s_takes C M hp W32 (fun h s1 M1 => i1 ⟨g, 0, by omega, ?_⟩) (fun h32 => i0 ?_)
      · have e : stp t p = sThs 3 0 t (te t p) := by unfold stp; rw [h]; rfl
        rw [e] at K
        exact s_this C M1 l1' hH hr (by omega) K
      refine s_takes C M hp W33 (fun h s1 M1 => i1 ⟨g, 0, by omega, ?_⟩) (fun h33 => i0 ?_)
      · have e : stp t p = sThs 4 1 t (te t p) := by unfold stp; rw [h]; rfl
        rw [e] at K
        exact s_next C M1 l1' hH hr (by omega) K
      refine s_takes C M hp W27 (fun h s1 M1 => i1 ⟨g, 0, by omega, ?_⟩) (fun h27 => i0 ?_)
      · have g3 := te3 (show tk t p < 31 by omega) hp
        have e : stp t p = sThs 5 (-1) t (te t p) := by unfold stp; rw [h]; rfl
        rw [e] at K hg
        exact s_last C R M1 l1' (by omega) hH hr (by omega) K
      refine ⟨7, g - 7, by omega, s_days C M hp (by omega) (fun h => ⟨fun c => absurd c (nI_ne (by omega)), fun _ => ⟨g - 7, 0, by omega, ?_⟩⟩) (fun hd => ⟨fun _ => ⟨12, g - 19, by omega, s_mons C M hp (by omega) (fun h => ⟨fun c => absurd c (nI_ne (by omega)), fun _ => ⟨g - 19, 0, by omega, ?_⟩⟩) (fun hm => ⟨fun _ => s_fault C M hp (fun s1 D => ?_), fun c => absurd rfl c⟩)⟩, fun c => absurd rfl c⟩)⟩
      · have e : stp t p = sDay t p := by unfold stp; rw [if_neg h100, if_pos h]
        rw [e] at K
        exact s_dayN C M hp hH hr (by omega) h K
      · have e : stp t p = sMon t p := by unfold stp; rw [if_neg h100, if_neg hd, if_pos h]
        rw [e] at K
        exact s_monN C M hp hH hr (by omega) h K
      · have e : stp t p = (0, st0, p) := by unfold stp; rw [if_neg h100, if_neg hd, if_neg hm, if_neg h23, if_neg h24, if_neg h25, if_neg h26, if_neg h27, if_neg h28, if_neg h29, if_neg h30, if_neg h31, if_neg h32, if_neg h33]
        rw [e] at K
        exact K.d D (by omega)
    · have h100 : 100 ≤ tk t p := by simpa using hc
      have e : stp t p = sNum t p := by unfold stp; rw [if_pos h100]
      rw [e] at K hg
      exact s_numb C R M hp hn hH hr h100 (by omega) K
theorem s_span (C : CX t s0) (hr : r ≤ 9999) : ∀ n d, n ≤ d → RCs s0 t r n (fun g s Q' => wpX12_readSpan (d + 1) g s Q') := by
  have dead : ∀ d (s : gS) g v Q', v < 1000 → s.1 177 8 = nI v → Q' s → wpX12_readSpan (d + 1) g s Q' := by
    intro d s g v Q' hv h8 k
    rw [wpX12_readSpan, wfX12_readSpan, m_fine0 hv h8]
    exact j0 k
  intro n
  induction n with
  | zero =>
    intro d hd
    exact ⟨fun p H s g Q' M hp hn => by omega, dead d⟩
  | succ n ih =>
    intro d hd
    refine ⟨fun p H s g Q' M hp hn hH hg k1 k0 => ?_, dead d⟩
    cases d with
    | zero => omega
    | succ d =>
      show wpX12_readSpan (d + 1 + 1) g s Q'
      rw [wpX12_readSpan]
      obtain ⟨f1, f2, f3, f4, f5⟩ := far_stp hp
      rw [spn] at hg k1 k0
      by_cases h0 : (stp t p).1 = 0
      · rw [if_pos h0] at hg k1 k0
        refine s_step C (ih d (by omega)) M hp hn hH hr ?_ ⟨fun _ => k0 (Or.inl rfl), fun h2 => by omega, fun h1 => by omega⟩
        unfold gs
        rw [if_neg (by omega)]
        simp at hg
        omega
      · rw [if_neg h0] at hg k1 k0
        by_cases h2 : (stp t p).1 = 2
        · rw [if_pos h2] at hg k1 k0
          obtain ⟨q1, q2⟩ := f4 h2
          refine s_step C (ih d (by omega)) M hp hn hH hr ?_ ⟨fun h => by omega, fun _ => ⟨fun hb s' M' => k1 rfl hb s' ?_, fun hb => k0 (Or.inr hb)⟩, fun h1 => by omega⟩
          · unfold gs
            rw [if_neg (by omega)]
            simp at hg
            omega
          · have : spv r [] [(stp t p).2.1] = bs r (stp t p).2.1 := by
              show (if (stp t p).2.1.1 < 11 then bs r (stp t p).2.1 else _) = _
              rw [if_pos q2]
            show MS s0 t (stp t p).2.2 (H ++ spv r [] [(stp t p).2.1]) r s'
            rw [this]
            exact M'
        · rw [if_neg h2] at hg k1 k0
          have h1 : (stp t p).1 = 1 := by omega
          obtain ⟨q1, q2, q3, q4⟩ := f3 h1
          obtain ⟨b1, b2, b3⟩ := far_spn (t := t) n (stp t p).2.2 f1
          refine s_step C (ih d (by omega)) M hp hn hH hr ?_ ⟨fun h => by omega, fun h => by omega, fun _ => ⟨fun e1 e2 s' M' => k1 e1 e2 s' ?_, fun e1 => k0 e1⟩⟩
          · unfold gs
            rw [if_pos h1]
            have hg : 11 * ((spn t n (stp t p).2.2).2.2 - p) + (if (spn t n (stp t p).2.2).1 = true then 0 else 31) ≤ g := hg
            omega
          · show MS s0 t (spn t n (stp t p).2.2).2.2 (H ++ spv r [] ((spn t n (stp t p).2.2).2.1 ++ [(stp t p).2.1])) r s'
            rw [spv_app, if_neg (by omega)]
            exact M'
end MPHRASE
