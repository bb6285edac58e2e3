/-! phrases: the reference changes the readings of a span -/
section MAPS
variable {t : List Nat} {s s' s0 : gS} {Q : Int32 → gS → Prop} {Q' : gS → Prop} {H V W : List Rd} {r : Nat} {rcc : Nat → gS → (gS → Prop) → Prop}
theorem hv_at {i : Nat} (h : i < V.length) : (H ++ V ++ W).getD (H.length + i) r0 = V.getD i r0 := by
  rw [gD_ap, if_pos (by rw [List.length_append]; omega), gD_ap, if_neg (by omega), Nat.add_sub_cancel_left]
theorem getD_mem {α : Type} {V : List α} {i : Nat} {d : α} (h : i < V.length) : V.getD i d ∈ V := by
  rw [List.getD_eq_getElem?_getD, List.getElem?_eq_getElem h]
  exact List.getElem_mem h
theorem drop_cons {α : Type} {V : List α} {i : Nat} {d : α} (h : i < V.length) : V.drop i = V.getD i d :: V.drop (i + 1) := by
  rw [List.drop_eq_getElem_cons h, List.getD_eq_getElem?_getD, List.getElem?_eq_getElem h]
  rfl
theorem m_num {c n u g : Nat} {b : Int32} (hV : V.length ≤ 2) (hH : H.length ≤ 1000) (ok : okV V) (hn : n ≤ 99) (hu : u < 4) (hb : (b = 0 ∧ c = 12) ∨ (b = 1 ∧ c = 11)) (h : HP (H ++ V) s) (k : ∀ s', fm [181] [14] s s' → HP (H ++ V.flatMap (cg1 (c, u, n, 0))) s' → Q' s') : ∃ n0, wX12_readNumbered_123 rcc Q' n0 g (nI n) (nI u) b (nI H.length) (nI (H ++ V).length) (nI H.length) s := by
  have Lp : ∀ m i W s1, i + m = V.length → fm [181] [14] s s1 → HP (H ++ V ++ W) s1 → W.length ≤ i → W ++ (V.drop i).flatMap (cg1 (c, u, n, 0)) = V.flatMap (cg1 (c, u, n, 0)) → wX12_readNumbered_123 rcc Q' (m + 1) g (nI n) (nI u) b (nI H.length) (nI (H ++ V).length) (nI (H.length + i)) s1 := by
    intro m
    induction m with
    | zero =>
      intro i W s1 hi f hp hW e
      rw [wX12_readNumbered_123]
      refine ⟨fun _ => m_drop hp (by simp only [List.length_append]; omega) rfl rfl (fun s2 f2 h2 => k s2 (f.tr f2) ?_), fun hh => absurd (nI_le (by rw [List.length_append]; omega) (by omega)) hh⟩
      rw [List.drop_of_length_le (by omega), List.flatMap_nil, List.append_nil] at e
      rw [← e]
      exact h2
    | succ m ih =>
      intro i W s1 hi f hp hW e
      have hiV : i < V.length := by omega
      obtain ⟨o1, o2, o3, o4⟩ := ok _ (getD_mem (d := r0) hiV)
      have hl : (H ++ V ++ W).length ≤ 1024 := by simp only [List.length_append]; omega
      have hli : H.length + i < (H ++ V ++ W).length := by simp only [List.length_append]; omega
      have e' : W ++ (V.drop i).flatMap (cg1 (c, u, n, 0)) = W ++ cg1 (c, u, n, 0) (V.getD i r0) ++ (V.drop (i + 1)).flatMap (cg1 (c, u, n, 0)) := by
        rw [drop_cons (d := r0) hiV, List.flatMap_cons, List.append_assoc]
      rw [e'] at e
      rw [wX12_readNumbered_123]
      refine ⟨fun hh => absurd ((nI_leI (by rw [List.length_append]; omega) (by omega)).mp hh) (by rw [List.length_append]; omega), fun _ => ?_⟩
      have fin : ∀ z : Int, -1 ≤ z ∧ z ≤ 9999 → cg1 (c, u, n, 0) (V.getD i r0) = pd z (V.getD i r0).2.2.2 → wX12_readNumbered_162 rcc Q' (fun g y1 y2 y3 y4 y5 y6 s => wX12_readNumbered_123 rcc Q' (m + 1) g y1 y2 y3 y4 y5 y6 s) g (nI n) (nI u) b (nI H.length) (nI (H ++ V).length) (nI (H.length + i)) (iI z) s1 := by
        intro z hz he
        unfold wX12_readNumbered_162
        rw [nI_1]
        refine ⟨fun hm => ?_, fun hm => ?_⟩
        · have hz1 : z = -1 := by
            rw [show (-1 : Int32) = iI (-1) from rfl, iI_eq (by omega) (by omega) (by decide) (by decide)] at hm
            exact hm
          have : cg1 (c, u, n, 0) (V.getD i r0) = [] := by
            rw [he, hz1]
            unfold pd pu
            rw [if_neg (by omega)]
          rw [this, List.append_nil] at e
          exact ih (i + 1) W s1 (by omega) f hp (by omega) e
        · rw [m_h (x := 3) hp hli hl (j := 3) (by decide) rfl, hv_at hiV]
          refine m_pushD hp (by simp only [List.length_append]; omega) rfl rfl (by omega) (fun s2 f2 h2 => ?_)
          have h2' : HP (H ++ V ++ (W ++ cg1 (c, u, n, 0) (V.getD i r0))) s2 := by
            rw [he, ← List.append_assoc]
            exact h2
          have := cg1_le (x := (c, (u : Int), (n : Int), (0 : Int))) (y := V.getD i r0)
          exact ih (i + 1) _ s2 (by omega) (f.tr f2) h2' (by rw [List.length_append]; omega) e
      rcases hb with ⟨b1, b2⟩ | ⟨b1, b2⟩
      · subst b1 b2
        refine i0 ?_
        rw [m_h (x := 0) hp hli hl (j := 0) (by decide) rfl, hv_at hiV, nI_i n, iI_neg]
        refine m_move (d := (V.getD i r0).1) (by omega) hu (by omega) ?_
        rw [← nI_i n]
        exact fin _ (mvS_bd _ _ _) rfl
      · subst b1 b2
        refine i1 ?_
        rw [m_h (x := 1) hp hli hl (j := 1) (by decide) rfl, hv_at hiV, nI_i n]
        refine m_move (d := (V.getD i r0).2.1) o2 hu (by omega) ?_
        rw [← nI_i n]
        exact fin _ (mvS_bd _ _ _) rfl
  refine ⟨V.length + 1, Lp V.length 0 [] s (by omega) fm.rf (by rw [List.append_nil]; exact h) (by simp) (by simp)⟩
theorem m_third {c g : Nat} {b : Int32} (hV : V.length ≤ 2) (hH : H.length ≤ 1000) (ok : okV V) (hb : (b = 0 ∧ c = 13) ∨ (b = 1 ∧ c = 14) ∨ (b = 2 ∧ c = 15)) (h : HP (H ++ V) s) (k : ∀ s', fm [181] [14] s s' → HP (H ++ V.flatMap (cg1 (c, 0, 0, 0))) s' → Q' s') : ∃ n0, wX12_readThird_57 rcc Q' n0 g b (nI H.length) (nI (H ++ V).length) (nI H.length) s := by
  have Lp : ∀ m i W s1, i + m = V.length → fm [181] [14] s s1 → HP (H ++ V ++ W) s1 → W.length ≤ i → W ++ (V.drop i).flatMap (cg1 (c, 0, 0, 0)) = V.flatMap (cg1 (c, 0, 0, 0)) → wX12_readThird_57 rcc Q' (m + 1) g b (nI H.length) (nI (H ++ V).length) (nI (H.length + i)) s1 := by
    intro m
    induction m with
    | zero =>
      intro i W s1 hi f hp hW e
      rw [wX12_readThird_57]
      refine ⟨fun _ => m_drop hp (by simp only [List.length_append]; omega) rfl rfl (fun s2 f2 h2 => k s2 (f.tr f2) ?_), fun hh => absurd (nI_le (by rw [List.length_append]; omega) (by omega)) hh⟩
      rw [List.drop_of_length_le (by omega), List.flatMap_nil, List.append_nil] at e
      rw [← e]
      exact h2
    | succ m ih =>
      intro i W s1 hi f hp hW e
      have hiV : i < V.length := by omega
      obtain ⟨y, hy⟩ : ∃ y, y = V.getD i r0 := ⟨_, rfl⟩
      obtain ⟨o1, o2, o3, o4⟩ := ok _ (getD_mem (d := r0) hiV)
      rw [← hy] at o1 o2 o3 o4
      have hl : (H ++ V ++ W).length ≤ 1024 := by simp only [List.length_append]; omega
      have hli : H.length + i < (H ++ V ++ W).length := by simp only [List.length_append]; omega
      have e' : W ++ (V.drop i).flatMap (cg1 (c, 0, 0, 0)) = W ++ cg1 (c, 0, 0, 0) y ++ (V.drop (i + 1)).flatMap (cg1 (c, 0, 0, 0)) := by
        rw [drop_cons (d := r0) hiV, List.flatMap_cons, List.append_assoc, hy]
      rw [e'] at e
      have e3 : (nI y.2.1 - nI y.1 + 1) / 3 = nI ((y.2.1 - y.1 + 1) / 3) := by
        have : nI y.2.1 - nI y.1 + 1 = nI (y.2.1 - y.1 + 1) := by
          rw [nI_subI, show (1 : Int32) = iI 1 from rfl, iI_add, nI_i]
          congr 1
          omega
        rw [this, show (3 : Int32) = nI 3 from rfl, nI_div (by omega) (by decide) (by decide)]
      have eh0 : ∀ {Q : Int32 → gS → Prop}, wpX12_h (nI (H.length + i)) 0 s1 Q = Q (nI y.1) s1 := by
        intro Q
        rw [m_h (x := 0) hp hli hl (j := 0) (by decide) rfl, hv_at hiV, hy]
        rfl
      have eh1 : ∀ {Q : Int32 → gS → Prop}, wpX12_h (nI (H.length + i)) 1 s1 Q = Q (nI y.2.1) s1 := by
        intro Q
        rw [m_h (x := 1) hp hli hl (j := 1) (by decide) rfl, hv_at hiV, hy]
        rfl
      have eh2 : ∀ {Q : Int32 → gS → Prop}, wpX12_h (nI (H.length + i)) 2 s1 Q = Q (nI y.2.2.1) s1 := by
        intro Q
        rw [m_h (x := 2) hp hli hl (j := 2) (by decide) rfl, hv_at hiV, hy]
        rfl
      have eh3 : ∀ {Q : Int32 → gS → Prop}, wpX12_h (nI (H.length + i)) 3 s1 Q = Q (nI y.2.2.2) s1 := by
        intro Q
        rw [m_h (x := 3) hp hli hl (j := 3) (by decide) rfl, hv_at hiV, hy]
        rfl
      obtain ⟨th, hth⟩ : ∃ th, th = (y.2.1 - y.1 + 1) / 3 := ⟨_, rfl⟩
      rw [wX12_readThird_57, eh1, eh0, e3, ← hth, nI_1]
      refine ⟨fun hh => absurd ((nI_leI (by rw [List.length_append]; omega) (by omega)).mp hh) (by rw [List.length_append]; omega), fun _ => ?_⟩
      have hz : (nI th = 0) = (th = 0) := by rw [show (0 : Int32) = nI 0 from rfl, nI_eq (by omega) (by decide)]
      rw [hz]
      refine ⟨fun h0 => ?_, fun h0 => ?_⟩
      · have fin : ∀ lo hi : Int, -100000 ≤ lo ∧ lo ≤ hi ∧ hi ≤ 100000 → ∀ xl xh : Int32, xl = iI lo → xh = iI hi → cg1 (c, 0, 0, 0) y = pu lo hi y.2.2.1 y.2.2.2 → wX12_readThird_182 rcc Q' (fun g y1 y2 y3 y4 s => wX12_readThird_57 rcc Q' (m + 1) g y1 y2 y3 y4 s) g b (nI H.length) (nI (H ++ V).length) (nI (H.length + i)) xl xh s1 := by
          intro lo hi hb1 xl xh el eh he
          unfold wX12_readThird_182
          rw [eh2, eh3, nI_1]
          refine m_push hp (by simp only [List.length_append]; omega) el eh rfl rfl (by omega) (by omega) (by omega) (fun s2 f2 h2 => ?_)
          have h2' : HP (H ++ V ++ (W ++ cg1 (c, 0, 0, 0) y)) s2 := by
            rw [he, ← List.append_assoc]
            exact h2
          have := cg1_le (x := (c, (0 : Int), (0 : Int), (0 : Int))) (y := y)
          exact ih (i + 1) _ s2 (by omega) (f.tr f2) h2' (by rw [List.length_append]; omega) e
        rcases hb with ⟨b1, b2⟩ | ⟨b1, b2⟩ | ⟨b1, b2⟩
        · subst b1 b2
          refine ⟨fun hh => absurd rfl hh, fun _ => ?_⟩
          rw [eh0]
          refine ⟨fun hh => absurd rfl hh, fun _ => ?_⟩
          rw [eh0]
          refine fin y.1 ((y.1 : Int) + (th : Nat) - 1) (by omega) _ _ (nI_i _) ?_ ?_
          · rw [nI_i, nI_i, iI_add, show (1 : Int32) = iI 1 from rfl, iI_sub]
          · unfold cg1
            rw [if_neg (by decide), if_neg (by decide), if_neg (by decide), if_neg (by decide), if_neg (by rw [← hth]; exact h0), if_pos rfl, ← hth]
        · subst b1 b2
          refine ⟨fun _ => ⟨fun hh => absurd rfl hh, fun _ => ?_⟩, fun hh => absurd hh (by decide)⟩
          rw [eh0]
          refine ⟨fun _ => ⟨fun hh => absurd rfl hh, fun _ => ?_⟩, fun hh => absurd hh (by decide)⟩
          rw [eh1]
          refine fin ((y.1 : Int) + (th : Nat)) ((y.2.1 : Int) - (th : Nat)) (by omega) _ _ ?_ ?_ ?_
          · rw [nI_i, nI_i, iI_add]
          · rw [nI_i, nI_i, iI_sub]
          · unfold cg1
            rw [if_neg (by decide), if_neg (by decide), if_neg (by decide), if_neg (by decide), if_neg (by rw [← hth]; exact h0), if_neg (by decide), if_neg (by decide), ← hth]
        · subst b1 b2
          refine ⟨fun _ => ⟨fun _ => ?_, fun hh => absurd hh (by decide)⟩, fun hh => absurd hh (by decide)⟩
          rw [eh1]
          refine ⟨fun _ => ⟨fun _ => ?_, fun hh => absurd hh (by decide)⟩, fun hh => absurd hh (by decide)⟩
          rw [eh1]
          refine fin ((y.2.1 : Int) - (th : Nat) + 1) y.2.1 (by omega) _ _ ?_ (nI_i _) ?_
          · rw [nI_i, nI_i, iI_sub, show (1 : Int32) = iI 1 from rfl, iI_add]
          · unfold cg1
            rw [if_neg (by decide), if_neg (by decide), if_neg (by decide), if_neg (by decide), if_neg (by rw [← hth]; exact h0), if_neg (by decide), if_pos rfl, ← hth]
      · have : cg1 (c, 0, 0, 0) y = [] := by
          unfold cg1
          rw [if_neg (by show ¬ c = 11; omega), if_neg (by show ¬ c = 12; omega), if_neg (by show ¬ c = 16; omega), if_neg (by show ¬ c = 17; omega), if_pos (by rw [← hth]; exact h0)]
        rw [this, List.append_nil] at e
        exact ih (i + 1) W s1 (by omega) f hp (by omega) e
  refine ⟨V.length + 1, Lp V.length 0 [] s (by omega) fm.rf (by rw [List.append_nil]; exact h) (by simp) (by simp)⟩
end MAPS
