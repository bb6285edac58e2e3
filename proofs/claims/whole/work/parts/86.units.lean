/-! phrases: the reference pushes days, units, months -/
section UNITS
variable {t : List Nat} {s s' s0 : gS} {Q : Int32 → gS → Prop} {Q' : gS → Prop} {H V W : List Rd} {r : Nat} {rcc : Nat → gS → (gS → Prop) → Prop}
theorem m_wk {d : Int} (h : -5 ≤ d ∧ d ≤ 100000) : wpX12_weekday (iI d) s Q = Q (iI (wk d)) s := by
  unfold wpX12_weekday wk
  rw [show (5 : Int32) = iI 5 from rfl, show (7 : Int32) = iI 7 from rfl, iI_add, iI_rem (by omega) (by omega) (by decide) (by decide)]
theorem m_inW {d a : Int} (h : -5 ≤ d ∧ d ≤ 100000) : wpX12_inWeek (iI d) (iI a) s Q = Q (iI (mnd d + a)) s := by
  unfold wpX12_inWeek mnd
  rw [m_wk h, iI_sub, iI_add]
theorem wk_bd {d : Int} (h : -5 ≤ d) : 0 ≤ wk d ∧ wk d < 7 := by
  unfold wk
  omega
theorem m_from {d a : Int} (h : -5 ≤ d ∧ d ≤ 100000) (ha : 0 ≤ a ∧ a < 7) : wpX12_from (iI d) (iI a) s Q = Q (iI (nmd a d)) s := by
  have := wk_bd h.1
  unfold wpX12_from nmd
  rw [m_wk h, iI_sub, show (7 : Int32) = iI 7 from rfl, iI_add, iI_rem (by omega) (by omega) (by decide) (by decide), iI_add]
theorem m_ahd {d a : Int} (h : 0 ≤ d ∧ d ≤ 100000) (ha : 0 ≤ a ∧ a < 7) : wpX12_ahead (iI d) (iI a) s Q = Q (iI (nmd a d - 7)) s := by
  have e : d - 1 - (wk (d - 1) - a + 7) % 7 = nmd a d - 7 := by
    unfold nmd wk
    omega
  have := wk_bd (d := d - 1) (by omega)
  unfold wpX12_ahead
  rw [show (1 : Int32) = iI 1 from rfl, iI_sub, m_wk (by omega), iI_sub, show (7 : Int32) = iI 7 from rfl, iI_add, iI_rem (by omega) (by omega) (by decide) (by decide), iI_sub, e]
theorem nmd_bd {a d : Int} (h : -5 ≤ d) (ha : 0 ≤ a ∧ a < 7) : d ≤ nmd a d ∧ nmd a d < d + 7 := by
  have := wk_bd h
  unfold nmd
  omega
theorem m_ofL {c a g : Nat} {b : Int32} (hV : V.length ≤ 2) (hH : H.length ≤ 1000) (ok : okV V) (ha : a < 7) (hb : (b = 0 ∧ c = 17) ∨ (b = 1 ∧ c = 16)) (h : HP (H ++ V) s) (k : ∀ s', fm [181] [14] s s' → HP (H ++ V.flatMap (cg1 (c, a, 0, 0))) s' → Q' s') : ∃ n0, wX12_readOf_33 rcc (nI a) b Q' n0 g (nI H.length) (nI (H ++ V).length) (nI H.length) s := by
  have Lp : ∀ m i W s1, i + m = V.length → fm [181] [14] s s1 → HP (H ++ V ++ W) s1 → W.length ≤ i → W ++ (V.drop i).flatMap (cg1 (c, a, 0, 0)) = V.flatMap (cg1 (c, a, 0, 0)) → wX12_readOf_33 rcc (nI a) b Q' (m + 1) g (nI H.length) (nI (H ++ V).length) (nI (H.length + i)) s1 := by
    intro m
    induction m with
    | zero =>
      intro i W s1 hi f hp hW e
      rw [wX12_readOf_33]
      refine ⟨fun _ => m_drop hp (by simp only [List.length_append]; omega) rfl rfl (fun s2 f2 h2 => k s2 (f.tr f2) ?_), fun hh => absurd (nI_le (by rw [List.length_append]; omega) (by omega)) hh⟩
      rw [List.drop_of_length_le (by omega), List.flatMap_nil, List.append_nil] at e
      rw [← e]
      exact h2
    | succ m ih =>
      intro i W s1 hi f hp hW e
      have hiV : i < V.length := by omega
      obtain ⟨y, hy⟩ : ∃ y, y = V.getD i r0 := ⟨_, rfl⟩
      obtain ⟨o1, o2, o3, o4⟩ := ok _ (getD_mem (d := r0) hiV)
      rw [← hy] at o1 o2 o3 o4
      have hl : (H ++ V ++ W).length ≤ 1024 := by simp only [List.length_append]; omega
      have hli : H.length + i < (H ++ V ++ W).length := by simp only [List.length_append]; omega
      have e' : W ++ (V.drop i).flatMap (cg1 (c, a, 0, 0)) = W ++ cg1 (c, a, 0, 0) y ++ (V.drop (i + 1)).flatMap (cg1 (c, a, 0, 0)) := by
        rw [drop_cons (d := r0) hiV, List.flatMap_cons, List.append_assoc, hy]
      rw [e'] at e
      have eh0 : ∀ {Q : Int32 → gS → Prop}, wpX12_h (nI (H.length + i)) 0 s1 Q = Q (nI y.1) s1 := by
        intro Q
        rw [m_h (x := 0) hp hli hl (j := 0) (by decide) rfl, hv_at hiV, hy]
        rfl
      have eh1 : ∀ {Q : Int32 → gS → Prop}, wpX12_h (nI (H.length + i)) 1 s1 Q = Q (nI y.2.1) s1 := by
        intro Q
        rw [m_h (x := 1) hp hli hl (j := 1) (by decide) rfl, hv_at hiV, hy]
        rfl
      have eh3 : ∀ {Q : Int32 → gS → Prop}, wpX12_h (nI (H.length + i)) 3 s1 Q = Q (nI y.2.2.2) s1 := by
        intro Q
        rw [m_h (x := 3) hp hli hl (j := 3) (by decide) rfl, hv_at hiV, hy]
        rfl
      -- at the end of the search
      have out : ∀ d : Int, -10 ≤ d ∧ d ≤ 20000 → ¬ ((y.1 : Int) ≤ d ∧ d ≤ y.2.1) → cg1 (c, a, 0, 0) y = [] → wX12_readOf_111 rcc (nI a) b Q' (fun g y3 y4 y5 s => wX12_readOf_33 rcc (nI a) b Q' (m + 1) g y3 y4 y5 s) g (nI H.length) (nI (H ++ V).length) (nI (H.length + i)) (iI d) s1 := by
        intro d hd hn he
        unfold wX12_readOf_111
        rw [eh0, eh1, nI_i y.1, nI_i y.2.1, m_in (by omega) (by omega) (by omega) (by omega) (by omega) (by omega), decide_eq_false hn, nI_1]
        refine ⟨fun _ => ?_, fun hh => absurd rfl hh⟩
        rw [he, List.append_nil] at e
        exact ih (i + 1) W s1 (by omega) f hp (by omega) e
      have hit : ∀ d : Int, ((y.1 : Int) ≤ d ∧ d ≤ y.2.1) → cg1 (c, a, 0, 0) y = pd d y.2.2.2 → wX12_readOf_111 rcc (nI a) b Q' (fun g y3 y4 y5 s => wX12_readOf_33 rcc (nI a) b Q' (m + 1) g y3 y4 y5 s) g (nI H.length) (nI (H ++ V).length) (nI (H.length + i)) (iI d) s1 := by
        intro d hd he
        unfold wX12_readOf_111
        rw [eh0, eh1, nI_i y.1, nI_i y.2.1, m_in (by omega) (by omega) (by omega) (by omega) (by omega) (by omega), decide_eq_true hd, nI_1]
        refine ⟨fun hh => absurd hh (by decide), fun _ => ?_⟩
        rw [eh3]
        refine m_pushD hp (by simp only [List.length_append]; omega) rfl rfl (by omega) (fun s2 f2 h2 => ?_)
        have h2' : HP (H ++ V ++ (W ++ cg1 (c, a, 0, 0) y)) s2 := by
          rw [he, ← List.append_assoc]
          exact h2
        have := cg1_le (x := (c, (a : Int), (0 : Int), (0 : Int))) (y := y)
        exact ih (i + 1) _ s2 (by omega) (f.tr f2) h2' (by rw [List.length_append]; omega) e
      have hwk : ∀ d : Int, -5 ≤ d → (iI (wk d) = nI a) = (wk d = a) := fun d hd => by
        have := wk_bd hd
        rw [nI_i, iI_eq (by omega) (by omega) (by omega) (by omega)]
      rw [wX12_readOf_33]
      refine ⟨fun hh => absurd ((nI_leI (by rw [List.length_append]; omega) (by omega)).mp hh) (by rw [List.length_append]; omega), fun _ => ?_⟩
      rcases hb with ⟨b1, b2⟩ | ⟨b1, b2⟩
      · subst b1 b2
        refine i0 ?_
        rw [eh1, nI_i y.2.1]
        have tg : nmd a ((y.2.1 : Int) + 1) - 7 = y.2.1 - (wk y.2.1 - a + 7) % 7 := by
          unfold nmd wk
          omega
        obtain ⟨w0, w1⟩ := wk_bd (d := (y.2.1 : Int)) (by omega)
        have Lq : ∀ q j : Nat, (j : Int) + q = (wk y.2.1 - a + 7) % 7 → wX12_readOf_63 rcc (nI a) 0 Q' (fun g y3 y4 y5 s => wX12_readOf_33 rcc (nI a) 0 Q' (m + 1) g y3 y4 y5 s) (q + 1) g (nI H.length) (nI (H ++ V).length) (nI (H.length + i)) (iI ((y.2.1 : Int) - j)) s1 := by
          intro q
          induction q with
          | zero =>
            intro j hj
            rw [wX12_readOf_63, eh0, eh1, nI_i y.1, nI_i y.2.1, m_in (by omega) (by omega) (by omega) (by omega) (by omega) (by omega)]
            by_cases hd : (y.1 : Int) ≤ (y.2.1 : Int) - j ∧ (y.2.1 : Int) - j ≤ y.2.1
            · rw [decide_eq_true hd]
              refine ⟨fun hh => absurd hh (by decide), fun _ => ?_⟩
              rw [m_wk (by omega), hwk _ (by omega)]
              have hw : wk ((y.2.1 : Int) - j) = a := by
                unfold wk at hj w0 w1 ⊢
                omega
              refine ⟨fun _ => hit _ hd ?_, fun hh => absurd hw hh⟩
              unfold cg1
              rw [if_neg (by simp), if_neg (by simp), if_neg (by simp), if_pos rfl, if_pos (by rw [tg]; omega), tg]
              congr 1
              omega
            · rw [decide_eq_false hd]
              refine ⟨fun _ => out _ (by omega) hd ?_, fun hh => absurd rfl hh⟩
              unfold cg1
              rw [if_neg (by simp), if_neg (by simp), if_neg (by simp), if_pos rfl, if_neg (by rw [tg]; omega)]
          | succ q ihq =>
            intro j hj
            rw [wX12_readOf_63, eh0, eh1, nI_i y.1, nI_i y.2.1, m_in (by omega) (by omega) (by omega) (by omega) (by omega) (by omega)]
            by_cases hd : (y.1 : Int) ≤ (y.2.1 : Int) - j ∧ (y.2.1 : Int) - j ≤ y.2.1
            · rw [decide_eq_true hd]
              refine ⟨fun hh => absurd hh (by decide), fun _ => ?_⟩
              rw [m_wk (by omega), hwk _ (by omega)]
              have hw : wk ((y.2.1 : Int) - j) ≠ a := by
                unfold wk at hj w0 w1 ⊢
                omega
              refine ⟨fun hh => absurd hh hw, fun _ => i0 ?_⟩
              have := ihq (j + 1) (by omega)
              rw [show (-1 : Int32) = iI (-1) from rfl, iI_add, show (y.2.1 : Int) - j + -1 = (y.2.1 : Int) - ((j + 1 : Nat) : Int) by omega]
              exact this
            · rw [decide_eq_false hd]
              refine ⟨fun _ => out _ (by omega) hd ?_, fun hh => absurd rfl hh⟩
              unfold cg1
              rw [if_neg (by simp), if_neg (by simp), if_neg (by simp), if_pos rfl, if_neg (by rw [tg]; omega)]
        have := Lq ((wk y.2.1 - a + 7) % 7).toNat 0 (by omega)
        rw [show (y.2.1 : Int) - ((0 : Nat) : Int) = y.2.1 by omega] at this
        exact ⟨_, this⟩
      · subst b1 b2
        refine i1 ?_
        rw [eh0, nI_i y.1]
        have tg : nmd a (y.1 : Int) = y.1 + (a - wk y.1 + 7) % 7 := rfl
        obtain ⟨w0, w1⟩ := wk_bd (d := (y.1 : Int)) (by omega)
        have Lq : ∀ q j : Nat, (j : Int) + q = (a - wk y.1 + 7) % 7 → wX12_readOf_63 rcc (nI a) 1 Q' (fun g y3 y4 y5 s => wX12_readOf_33 rcc (nI a) 1 Q' (m + 1) g y3 y4 y5 s) (q + 1) g (nI H.length) (nI (H ++ V).length) (nI (H.length + i)) (iI ((y.1 : Int) + j)) s1 := by
          intro q
          induction q with
          | zero =>
            intro j hj
            rw [wX12_readOf_63, eh0, eh1, nI_i y.1, nI_i y.2.1, m_in (by omega) (by omega) (by omega) (by omega) (by omega) (by omega)]
            by_cases hd : (y.1 : Int) ≤ (y.1 : Int) + j ∧ (y.1 : Int) + j ≤ y.2.1
            · rw [decide_eq_true hd]
              refine ⟨fun hh => absurd hh (by decide), fun _ => ?_⟩
              rw [m_wk (by omega), hwk _ (by omega)]
              have hw : wk ((y.1 : Int) + j) = a := by
                unfold wk at hj w0 w1 ⊢
                omega
              refine ⟨fun _ => hit _ hd ?_, fun hh => absurd hw hh⟩
              unfold cg1
              rw [if_neg (by simp), if_neg (by simp), if_pos rfl, if_pos (by rw [tg]; omega), tg]
              congr 1
              omega
            · rw [decide_eq_false hd]
              refine ⟨fun _ => out _ (by omega) hd ?_, fun hh => absurd rfl hh⟩
              unfold cg1
              rw [if_neg (by simp), if_neg (by simp), if_pos rfl, if_neg (by rw [tg]; omega)]
          | succ q ihq =>
            intro j hj
            rw [wX12_readOf_63, eh0, eh1, nI_i y.1, nI_i y.2.1, m_in (by omega) (by omega) (by omega) (by omega) (by omega) (by omega)]
            by_cases hd : (y.1 : Int) ≤ (y.1 : Int) + j ∧ (y.1 : Int) + j ≤ y.2.1
            · rw [decide_eq_true hd]
              refine ⟨fun hh => absurd hh (by decide), fun _ => ?_⟩
              rw [m_wk (by omega), hwk _ (by omega)]
              have hw : wk ((y.1 : Int) + j) ≠ a := by
                unfold wk at hj w0 w1 ⊢
                omega
              refine ⟨fun hh => absurd hh hw, fun _ => i1 ?_⟩
              have := ihq (j + 1) (by omega)
              rw [show (1 : Int32) = iI 1 from rfl, iI_add, show (y.1 : Int) + j + 1 = (y.1 : Int) + ((j + 1 : Nat) : Int) by omega]
              exact this
            · rw [decide_eq_false hd]
              refine ⟨fun _ => out _ (by omega) hd ?_, fun hh => absurd rfl hh⟩
              unfold cg1
              rw [if_neg (by simp), if_neg (by simp), if_pos rfl, if_neg (by rw [tg]; omega)]
        have := Lq ((a - wk y.1 + 7) % 7).toNat 0 (by omega)
        rw [show (y.1 : Int) + ((0 : Nat) : Int) = y.1 by omega] at this
        exact ⟨_, this⟩
  refine ⟨V.length + 1, Lp V.length 0 [] s (by omega) fm.rf (by rw [List.append_nil]; exact h) (by simp) (by simp)⟩
end UNITS
