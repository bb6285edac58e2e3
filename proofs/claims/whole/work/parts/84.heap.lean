/-! phrases: the reference's heap -/
section HEAP
variable {t : List Nat} {s s' s0 : gS} {Q : Int32 → gS → Prop} {Q' : gS → Prop} {H V W : List Rd} {r : Nat}
def HP (H : List Rd) (s : gS) : Prop := s.1 177 14 = nI H.length ∧ ∀ i, i < H.length → ∀ j, j < 4 → s.1 181 (4 * i + j) = nI (rc (H.getD i r0) j)
def rF : List Nat := [7, 8, 9, 10, 11, 12, 14, 15]
def MR (s0 : gS) (H : List Rd) (r : Nat) (s : gS) : Prop := fm [181] rF s0 s ∧ HP H s ∧ s.1 177 15 = nI r
theorem MR.h (M : MR s0 H r s) : HP H s := M.2.1
theorem MR.up {H' : List Rd} (M : MR s0 H r s) (f : fm [181] [14] s s') (h : HP H' s') : MR s0 H' r s' := ⟨M.1.tr (f.mono (by decide) (by decide)), h, by rw [f.2.1 15 (by decide)]; exact M.2.2⟩
theorem four_n (n : Nat) : 4 * nI n = nI (4 * n) := by
  rw [show (4 : Int32) = nI 4 from rfl, nI_mul]
theorem m_push {f t' : Int} {g w : Nat} {x1 x2 x3 x4 : Int32} (h : HP H s) (hH : H.length < 1024) (e1 : x1 = iI f) (e2 : x2 = iI t') (e3 : x3 = nI g) (e4 : x4 = nI w) (hf : -100000 ≤ f ∧ f ≤ 100000) (ht : -100000 ≤ t' ∧ t' ≤ 100000) (hle : f ≤ t') (k : ∀ s', fm [181] [14] s s' → HP (H ++ pu f t' g w) s' → Q' s') : wpX12_push x1 x2 x3 x4 s Q' := by
  subst e1 e2 e3 e4
  unfold wpX12_push
  rw [m_isDay (by omega) (by omega), bi_0]
  by_cases h1 : 0 ≤ f ∧ f ≤ 9999
  · rw [decide_eq_true h1]
    refine ⟨fun c => (by cases c), fun _ => ?_⟩
    rw [m_isDay (by omega) (by omega), bi_0]
    by_cases h2 : 0 ≤ t' ∧ t' ≤ 9999
    · rw [decide_eq_true h2]
      have ep : pu f t' g w = [(f.toNat, t'.toNat, g, w)] := by unfold pu; rw [if_pos (by omega)]
      rw [ep] at k
      have gg : ∀ (x : gS) i v, gi (wi x 181 i v) 177 14 = gi x 177 14 := fun x i v => by
        show (wi x 181 i v).1 177 14 = x.1 177 14
        rw [wi_na _ _ _ _ (by decide)]
      simp only [gg]
      rw [show gi s 177 14 = nI H.length from h.1, four_n, show nI (4 * H.length) + 1 = nI (4 * H.length + 1) from n4a _ 1, show nI (4 * H.length) + 2 = nI (4 * H.length + 2) from n4a _ 2, show nI (4 * H.length) + 3 = nI (4 * H.length + 3) from n4a _ 3, ix_nI (by omega), ix_nI (by omega), ix_nI (by omega), ix_nI (by omega), nI_1]
      have v : ∀ j, j < 4 → vp_in (nI (4 * H.length + j)) 4096 := fun j hj => vp_in_nI (by omega) (by decide)
      refine ⟨fun _ => ⟨v 0 (by omega), v 1 (by omega), v 2 (by omega), v 3 (by omega), ?_⟩, fun c => (by cases c)⟩
      refine k _ ((fm_wi (by decide) (by decide)).tr ((fm_wi (by decide) (by decide)).tr ((fm_wi (by decide) (by decide)).tr ((fm_wi (by decide) (by decide)).tr (fm_wf (by decide)))))) ⟨?_, fun i hi j hj => ?_⟩
      · rw [wi_at, List.length_append]
        rfl
      · rw [List.length_append] at hi
        have hi : i < H.length + 1 := hi
        rw [wi_na _ _ _ _ (by decide), gD_app]
        by_cases hh : i = H.length
        · subst hh
          rw [if_pos rfl]
          by_cases c3 : j = 3
          · subst c3; rw [wi_at]; rfl
          rw [wi_ne _ _ _ _ (by omega)]
          by_cases c2 : j = 2
          · subst c2; rw [wi_at]; rfl
          rw [wi_ne _ _ _ _ (by omega)]
          by_cases c1 : j = 1
          · subst c1; rw [wi_at, nI_i]; show iI t' = iI (t'.toNat : Int); congr 1; omega
          rw [wi_ne _ _ _ _ (by omega)]
          have c0 : j = 0 := by omega
          subst c0
          show (wi s 181 (4 * H.length) (iI f)).1 181 (4 * H.length) = _
          rw [wi_at, nI_i]
          show iI f = iI (f.toNat : Int)
          congr 1
          omega
        · rw [if_neg hh, wi_ne _ _ _ _ (by omega), wi_ne _ _ _ _ (by omega), wi_ne _ _ _ _ (by omega), wi_ne _ _ _ _ (by omega)]
          exact h.2 i (by omega) j hj
    · rw [decide_eq_false h2]
      have ep : pu f t' g w = [] := by unfold pu; rw [if_neg (by omega)]
      rw [ep, List.append_nil] at k
      exact ⟨fun c => absurd rfl c, fun _ => k s fm.rf h⟩
  · rw [decide_eq_false h1]
    have ep : pu f t' g w = [] := by unfold pu; rw [if_neg (by omega)]
    rw [ep, List.append_nil] at k
    exact ⟨fun _ => k s fm.rf h, fun c => absurd rfl c⟩
theorem m_pushD {d : Int} {w : Nat} {x1 x2 : Int32} (h : HP H s) (hH : H.length < 1024) (e1 : x1 = iI d) (e2 : x2 = nI w) (hd : -100000 ≤ d ∧ d ≤ 100000) (k : ∀ s', fm [181] [14] s s' → HP (H ++ pd d w) s' → Q' s') : wpX12_pushDay x1 x2 s Q' := m_push h hH e1 e1 rfl e2 hd hd (by omega) k
theorem m_h {i j : Nat} {x : Int32} (h : HP H s) (hi : i < H.length) (hH : H.length ≤ 1024) (hj : j < 4) (hx : x = nI j) : wpX12_h (nI i) x s Q = Q (nI (rc (H.getD i r0) j)) s := by
  subst hx
  unfold wpX12_h
  rw [four_n, n4a, ix_nI (by omega), show gi s 181 (4 * i + j) = _ from h.2 i hi j hj]
  have : vp_in (nI (4 * i + j)) 4096 := vp_in_nI (by omega) (by decide)
  simp only [this, true_and]
theorem m_copy {a b : Nat} (ha : a < 1024) (hb : b < 1024) (k : ∀ s', fm [181] [] s s' → (∀ i, s'.1 181 i = if 4 * a ≤ i ∧ i < 4 * a + 4 then s.1 181 (4 * b + (i - 4 * a)) else s.1 181 i) → Q' s') : wpX12_copyOver (nI a) (nI b) s Q' := by
  have Lp : ∀ m j s1, j + m = 4 → fm [181] [] s s1 → (∀ i, s1.1 181 i = if 4 * a ≤ i ∧ i < 4 * a + j then s.1 181 (4 * b + (i - 4 * a)) else s.1 181 i) → wX12_copyOver_2 (nI a) (nI b) Q' (m + 1) (nI j) s1 := by
    intro m
    induction m with
    | zero =>
      intro j s1 hj f hc
      have : j = 4 := by omega
      subst this
      rw [wX12_copyOver_2]
      exact ⟨fun _ => k s1 f hc, fun h => absurd (by decide) h⟩
    | succ m ih =>
      intro j s1 hj f hc
      have h4 : ¬ (4 : Int32) ≤ nI j := by
        rw [show (4 : Int32) = nI 4 from rfl, nI_leI (by decide) (by omega)]
        omega
      rw [wX12_copyOver_2, four_n, four_n, n4a, n4a, ix_nI (by omega), ix_nI (by omega), nI_1]
      refine ⟨fun h => absurd h h4, fun _ => ⟨vp_in_nI (by omega) (by decide), vp_in_nI (by omega) (by decide), ih (j + 1) _ (by omega) (f.tr (fm_wi (by decide) (by decide))) (fun i => ?_)⟩⟩
      have hr : gi s1 181 (4 * b + j) = s.1 181 (4 * b + j) := by
        show s1.1 181 (4 * b + j) = _
        rw [hc]
        split
        next hh =>
          congr 1
          omega
        next => rfl
      rw [hr]
      by_cases e : i = 4 * a + j
      · rw [e, wi_at, if_pos (by omega), show 4 * a + j - 4 * a = j by omega]
      · rw [wi_ne _ _ _ _ e, hc]
        by_cases h2 : 4 * a ≤ i ∧ i < 4 * a + j
        · rw [if_pos h2, if_pos (by omega)]
        · rw [if_neg h2, if_neg (by omega)]
  exact ⟨5, Lp 4 0 s rfl fm.rf (fun i => by rw [if_neg (by omega)])⟩
theorem gD_ap {α : Type} {A B : List α} {d : α} {i : Nat} : (A ++ B).getD i d = if i < A.length then A.getD i d else B.getD (i - A.length) d := by
  rw [List.getD_eq_getElem?_getD, List.getD_eq_getElem?_getD, List.getD_eq_getElem?_getD]
  by_cases h : i < A.length
  · rw [List.getElem?_append_left h, if_pos h]
  · rw [List.getElem?_append_right (by omega), if_neg h]
theorem m_drop {x1 x2 : Int32} (h : HP (H ++ V ++ W) s) (hl : (H ++ V ++ W).length ≤ 1024) (e1 : x1 = nI H.length) (e2 : x2 = nI (H ++ V).length) (k : ∀ s', fm [181] [14] s s' → HP (H ++ W) s' → Q' s') : wpX12_drop x1 x2 s Q' := by
  subst e1 e2
  simp only [List.length_append] at hl
  unfold wpX12_drop
  have e0 : gi s 177 14 - nI (H ++ V).length = nI W.length := by
    rw [show gi s 177 14 = _ from h.1, nI_subI, nI_i]
    congr 1
    simp only [List.length_append]
    omega
  rw [e0]
  have Lp : ∀ m y s1, y + m = W.length → fm [181] [14] s s1 → (∀ i, i < 4 * H.length → s1.1 181 i = s.1 181 i) → (∀ i, i < y → ∀ j, j < 4 → s1.1 181 (4 * (H.length + i) + j) = nI (rc (W.getD i r0) j)) → (∀ i, 4 * (H.length + y) ≤ i → s1.1 181 i = s.1 181 i) → wX12_drop_10 (nI H.length) (nI (H ++ V).length) Q' (m + 1) (nI W.length) (nI y) s1 := by
    intro m
    induction m with
    | zero =>
      intro y s1 hy f c1 c2 c3
      have : y = W.length := by omega
      subst this
      rw [wX12_drop_10]
      refine ⟨fun _ => k _ (f.tr (fm_wf (by decide))) ⟨?_, fun i hi j hj => ?_⟩, fun hh => absurd (nI_le (Nat.le_refl _) (by omega)) hh⟩
      · rw [wi_at, n4a, List.length_append]
      · rw [wi_na _ _ _ _ (by decide), gD_ap]
        rw [List.length_append] at hi
        split
        next hh =>
          rw [c1 _ (by omega), h.2 i (by simp only [List.length_append]; omega) j hj, gD_ap, if_pos (by rw [List.length_append]; omega), gD_ap, if_pos hh]
        next hh =>
          have := c2 (i - H.length) (by omega) j hj
          rw [show H.length + (i - H.length) = i by omega] at this
          exact this
    | succ m ih =>
      intro y s1 hy f c1 c2 c3
      have hle : ¬ nI W.length ≤ nI y := by
        rw [nI_leI (by omega) (by omega)]
        omega
      rw [wX12_drop_10, n4a, n4a, n4a, nI_1]
      refine ⟨fun hh => absurd hh hle, fun _ => m_copy (by omega) (by rw [List.length_append]; omega) (fun s2 f2 hc => ih (y + 1) s2 (by omega) (f.tr (f2.mono (by decide) (by decide))) (fun i hi => ?_) (fun i hi j hj => ?_) (fun i hi => ?_))⟩
      · rw [hc, if_neg (by omega)]
        exact c1 i hi
      · rw [hc]
        by_cases e : i = y
        · rw [if_pos (by omega), e, List.length_append, c3 _ (by omega)]
          have := h.2 (H.length + V.length + y) (by simp only [List.length_append]; omega) j hj
          rw [show 4 * (H.length + V.length + y) + (4 * (H.length + y) + j - 4 * (H.length + y)) = 4 * (H.length + V.length + y) + j by omega, this, gD_ap, if_neg (by rw [List.length_append]; omega), List.length_append, show H.length + V.length + y - (H.length + V.length) = y by omega]
        · rw [if_neg (by omega)]
          exact c2 i (by omega) j hj
      · rw [hc, if_neg (by omega)]
        exact c3 i (by omega)
  exact ⟨W.length + 1, Lp W.length 0 s (by omega) fm.rf (fun i hi => rfl) (fun i hi => by omega) (fun i hi => rfl)⟩
end HEAP
