/-! phrases: readings of the same days are one -/
abbrev sm (y x : Rd) : Prop := y.1 = x.1 ∧ y.2.1 = x.2.1
def mx (y x : Rd) : Rd := (y.1, y.2.1, min y.2.2.1 x.2.2.1, max y.2.2.2 x.2.2.2)
def mg : List Rd → Rd → List Rd
  | [], x => [x]
  | y :: M, x => if y.1 = x.1 ∧ y.2.1 = x.2.1 then mx y x :: M else y :: mg M x
def mgA (M X : List Rd) : List Rd := X.foldl mg M
def mw (c : Nat) (x : Rd) : Rd := (x.1, x.2.1, x.2.2.1, min x.2.2.2 c)
def FD (M : List Rd) (s : gS) : Prop := s.1 10 1 = nI (min 6 M.length) ∧ s.1 10 2 = bi (decide (6 < M.length)) ∧ ∀ i, i < 6 → i < M.length → ∀ j, j < 4 → s.1 11 (4 * i + j) = nI (rc (M.getD i r0) j)
section CMERGE
variable {s s' s0 : gS} {Q : Int32 → gS → Prop} {Q' : gS → Prop} {V W M : List Rd} {a b r c : Nat} {x y : Rd}
theorem mg_at : ∀ (J : List Rd) i, i < J.length → (∀ l, l < i → ¬ sm (J.getD l r0) x) → sm (J.getD i r0) x → mg J x = J.set i (mx (J.getD i r0) x) := by
  intro J
  induction J with
  | nil => intro i hi; exact absurd hi (Nat.not_lt_zero _)
  | cons y J ih =>
    intro i hi hn hm
    cases i with
    | zero =>
      have hm : sm y x := hm
      rw [mg, if_pos hm]
      rfl
    | succ i =>
      have h0 : ¬ sm y x := hn 0 (by omega)
      rw [mg, if_neg h0, ih i (by simp only [List.length_cons] at hi; omega) (fun l hl => hn (l + 1) (by omega)) hm]
      rfl
theorem mg_none : ∀ (J : List Rd), (∀ l, l < J.length → ¬ sm (J.getD l r0) x) → mg J x = J ++ [x] := by
  intro J
  induction J with
  | nil => intro _; rfl
  | cons y J ih =>
    intro hn
    have h0 : ¬ sm y x := hn 0 (by simp)
    rw [mg, if_neg h0, ih (fun l hl => hn (l + 1) (by simp only [List.length_cons]; omega))]
    rfl
theorem mg_pre : ∀ (J : List Rd) i, i ≤ J.length → (∀ l, l < i → ¬ sm (J.getD l r0) x) → (∀ l, l < i → (mg J x).getD l r0 = J.getD l r0) ∧ i < (mg J x).length := by
  intro J
  induction J with
  | nil =>
    intro i hi _
    have : i = 0 := by simpa using hi
    subst this
    exact ⟨fun l hl => absurd hl (Nat.not_lt_zero _), by simp [mg]⟩
  | cons y J ih =>
    intro i hi hn
    cases i with
    | zero =>
      refine ⟨fun l hl => absurd hl (Nat.not_lt_zero _), ?_⟩
      rw [mg]
      split <;> simp
    | succ i =>
      have h0 : ¬ sm y x := hn 0 (by omega)
      obtain ⟨i1, i2⟩ := ih i (by simp only [List.length_cons] at hi; omega) (fun l hl => hn (l + 1) (by omega))
      rw [mg, if_neg h0]
      refine ⟨fun l hl => ?_, by simp only [List.length_cons]; omega⟩
      cases l with
      | zero => rfl
      | succ l => exact i1 l (by omega)
theorem mx_ok (hy : okRd y) (hx : okRd x) : okRd (mx y x) := by
  obtain ⟨a1, a2, a3, a4⟩ := hy
  obtain ⟨b1, b2, b3, b4⟩ := hx
  refine ⟨a1, a2, ?_, ?_⟩
  · show min y.2.2.1 x.2.2.1 ≤ 3
    omega
  · show max y.2.2.2 x.2.2.2 ≤ 3
    omega
theorem mg_ok (hx : okRd x) : ∀ J, okV J → okV (mg J x) := by
  intro J
  induction J with
  | nil =>
    intro _ z hz
    rw [List.mem_singleton.mp hz]
    exact hx
  | cons y J ih =>
    intro hJ z hz
    rw [mg] at hz
    have hy := hJ y (by simp)
    have hJ' : okV J := fun w hw => hJ w (by simp [hw])
    split at hz
    · rcases List.mem_cons.mp hz with e | e
      · rw [e]; exact mx_ok hy hx
      · exact hJ' z e
    · rcases List.mem_cons.mp hz with e | e
      · rw [e]; exact hy
      · exact ih hJ' z e
theorem mgA_ok : ∀ X M, okV M → okV X → okV (mgA M X) := by
  intro X
  induction X with
  | nil => intro M h _; exact h
  | cons x X ih => intro M h hX; exact ih _ (mg_ok (hX x (by simp)) M h) (fun w hw => hX w (by simp [hw]))
theorem mw_ok (h : okRd x) : okRd (mw c x) := by
  obtain ⟨a1, a2, a3, a4⟩ := h
  refine ⟨a1, a2, a3, ?_⟩
  show min x.2.2.2 c ≤ 3
  omega
theorem mwV_ok (h : okV V) : okV (V.map (mw c)) := by
  intro z hz
  obtain ⟨w, hw, rfl⟩ := List.mem_map.mp hz
  exact mw_ok (h w hw)
theorem mgA_app {X Y : List Rd} : mgA M (X ++ Y) = mgA (mgA M X) Y := List.foldl_append
theorem set_gD {J : List Rd} {i l : Nat} {v : Rd} (hi : i < J.length) : (J.set i v).getD l r0 = if l = i then v else J.getD l r0 := by
  rw [List.getD_eq_getElem?_getD, List.getD_eq_getElem?_getD, List.getElem?_set]
  by_cases h : i = l
  · rw [if_pos h, if_pos h.symm, if_pos (by omega)]
    rfl
  · rw [if_neg h, if_neg (fun c => h c.symm)]
theorem c_merge {x1 x2 x3 x4 : Int32} (F : FD M s) (okM : okV M) (okx : okRd x) (e1 : x1 = nI x.1) (e2 : x2 = nI x.2.1) (e3 : x3 = nI x.2.2.1) (e4 : x4 = nI x.2.2.2) (k : ∀ s', fR (rdD 10) s s' → FD (mg M x) s' → Q' s') : wpX5_merge 10 x1 x2 x3 x4 s Q' := by
  subst e1 e2 e3 e4
  obtain ⟨ox1, ox2, ox3, ox4⟩ := okx
  obtain ⟨F1, F2, F3⟩ := F
  have Lp : ∀ m i, i + m = 7 → i ≤ 6 → i ≤ M.length → (∀ l, l < i → ¬ sm (M.getD l r0) x) → wX5_merge_3 10 (nI x.1) (nI x.2.1) (nI x.2.2.1) (nI x.2.2.2) Q' m (nI i) s := by
    intro m
    induction m with
    | zero => intro i hi h6; omega
    | succ m ih =>
      intro i hi h6 hM hn
      have q0 : 4 * i + 0 < 2 ^ 31 := by omega
      have v : ∀ j, j < 4 → i < 6 → vp_in (nI (4 * i + j)) 24 := fun j hj h => vp_in_nI (by omega) (by decide)
      have hA : ∀ j, j < 4 → ix (nI (4 * i + j)) = 4 * i + j := fun j hj => ix_nI (by omega)
      have gg : ∀ (q : gS) v, gi (wi q (10 + 1) (4 * i + 2) v) (10 + 1) (4 * i + 3) = gi q (10 + 1) (4 * i + 3) := fun q v => by
        show (wi q 11 (4 * i + 2) v).1 11 (4 * i + 3) = q.1 11 (4 * i + 3)
        rw [wi_ne _ _ _ _ (by omega)]
      rw [wX5_merge_3, show gi s 10 1 = nI (min 6 M.length) from F1, n4, show nI (4 * i) + 0 = nI (4 * i + 0) from n4a _ 0, show nI (4 * i) + 1 = nI (4 * i + 1) from n4a _ 1, show nI (4 * i) + 2 = nI (4 * i + 2) from n4a _ 2, show nI (4 * i) + 3 = nI (4 * i + 3) from n4a _ 3, hA 0 (by decide), hA 1 (by decide), hA 2 (by decide), hA 3 (by decide), nI_1, gg]
      have add : min 6 M.length ≤ i → wX5_merge_103 10 (nI x.1) (nI x.2.1) (nI x.2.2.1) (nI x.2.2.2) Q' s := by
        intro hle
        unfold wX5_merge_103
        by_cases hl : M.length < 6
        · have ei : i = M.length := by omega
          have R : RdS 10 M s := ⟨by rw [F1]; exact congrArg nI (by omega), fun l hl2 j hj => F3 l (by omega) hl2 j hj⟩
          have em : mg M x = M ++ pu x.1 x.2.1 x.2.2.1 x.2.2.2 := by
            rw [mg_none M (fun l hl2 => hn l (by omega))]
            unfold pu
            rw [if_pos (by omega)]
            rfl
          refine c_radd R hl (nI_i _) (nI_i _) rfl rfl (by omega) (by omega) (fun s1 f1 g2 h1 => k s1 f1 ?_)
          rw [← em] at h1
          have hlen : (mg M x).length = M.length + 1 := by rw [mg_none M (fun l hl2 => hn l (by omega)), List.length_append]; rfl
          refine ⟨by rw [h1.1]; exact congrArg nI (by omega), ?_, fun l _ hl2 j hj => h1.2 l hl2 j hj⟩
          rw [g2, F2, decide_eq_false (by omega), decide_eq_false (by omega)]
        · have ei : i = 6 := by omega
          subst ei
          obtain ⟨w1, w2⟩ := mg_pre M 6 (by omega) hn
          unfold wpX5_add wX5_add_33
          have z1 : ¬ ((9999 : Int32) < nI x.2.1) := by
            rw [show (9999 : Int32) = nI 9999 from rfl, nI_ltI (by decide) (by omega)]
            omega
          refine ⟨fun hc => absurd hc (nI_nn (by omega)), fun _ => ⟨fun hc => absurd hc z1, fun _ => ⟨fun _ => ?_, fun hc => absurd (nI_le ox1 (by omega)) hc⟩⟩⟩
          have F1' : gi s 10 1 = nI 6 := by
            rw [show gi s 10 1 = nI (min 6 M.length) from F1]
            exact congrArg nI (by omega)
          rw [F1']
          refine ⟨fun hc => absurd hc (nI_nn (by decide)), fun _ => ⟨fun hc => absurd hc (by decide), fun _ => k _ (fR_wi rdD_1) ⟨?_, ?_, fun l h6 hl2 j hj => ?_⟩⟩⟩
          · rw [wi_ne _ _ _ _ (by decide), F1]
            exact congrArg nI (by omega)
          · rw [wi_at, decide_eq_true w2]
            rfl
          · rw [wi_na _ _ _ _ (by decide), w1 l h6]
            exact F3 l h6 (by omega) j hj
      refine ⟨fun hc => add ((nI_leI (by omega) (by omega)).mp hc), fun hc => ?_⟩
      have hc : ¬ min 6 M.length ≤ i := fun h => hc (nI_le h (by omega))
      have hi6 : i < 6 := by omega
      have hiM : i < M.length := by omega
      obtain ⟨y, hy⟩ : ∃ y, y = M.getD i r0 := ⟨_, rfl⟩
      obtain ⟨p1, p2, p3, p4⟩ := okM _ (getD_mem (d := r0) hiM)
      rw [← hy] at p1 p2 p3 p4
      have val : ∀ j, j < 4 → gi s (10 + 1) (4 * i + j) = nI (rc y j) := fun j hj => by
        rw [hy]
        exact F3 i hi6 hiM j hj
      rw [val 0 (by decide), val 1 (by decide), val 2 (by decide), val 3 (by decide), show rc y 0 = y.1 from rfl, show rc y 1 = y.2.1 from rfl, show rc y 2 = y.2.2.1 from rfl, show rc y 3 = y.2.2.2 from rfl, nI_eq (by omega) (by omega), nI_eq (by omega) (by omega)]
      have next : ¬ sm y x → wX5_merge_3 10 (nI x.1) (nI x.2.1) (nI x.2.2.1) (nI x.2.2.2) Q' m (nI (i + 1)) s := by
        intro hns
        refine ih (i + 1) (by omega) (by omega) (by omega) (fun l hl => ?_)
        by_cases e : l = i
        · rw [e, ← hy]; exact hns
        · exact hn l (by omega)
      refine ⟨fun h6' => absurd ((nI_leI (by decide) (by omega)).mp (show nI 6 ≤ nI i from h6')) (by omega), fun _ => ⟨v 0 (by decide) hi6, fun hne => next (fun c => hne c.1), fun he1 => ⟨v 1 (by decide) hi6, fun hne => next (fun c => hne c.2), fun he2 => ⟨v 2 (by decide) hi6, v 2 (by decide) hi6, v 3 (by decide) hi6, v 3 (by decide) hi6, ?_⟩⟩⟩⟩
      have em := mg_at M i hiM hn (by rw [← hy]; exact ⟨he1, he2⟩)
      rw [← hy] at em
      have emn : jmin (nI y.2.2.1) (nI x.2.2.1) = nI (min y.2.2.1 x.2.2.1) := by
        rw [nI_i, nI_i, iI_min (by omega) (by omega) (by omega) (by omega), nI_i]
        exact congrArg iI (by omega)
      have emx : jmax (nI y.2.2.2) (nI x.2.2.2) = nI (max y.2.2.2 x.2.2.2) := by
        rw [nI_i, nI_i, iI_max (by omega) (by omega) (by omega) (by omega), nI_i]
        exact congrArg iI (by omega)
      rw [emn, emx]
      refine k _ ((fR_wi rdD_2).tr (fR_wi rdD_2)) ?_
      rw [em]
      refine ⟨?_, ?_, fun l h6 hl2 j hj => ?_⟩
      · rw [wi_na _ _ _ _ (by decide), wi_na _ _ _ _ (by decide), List.length_set]
        exact F1
      · rw [wi_na _ _ _ _ (by decide), wi_na _ _ _ _ (by decide), List.length_set]
        exact F2
      · rw [List.length_set] at hl2
        rw [set_gD hiM]
        by_cases e : l = i
        · subst e
          rw [if_pos rfl]
          by_cases c3 : j = 3
          · subst c3
            rw [wi_at]
            rfl
          rw [wi_ne _ _ _ _ (by omega)]
          by_cases c2 : j = 2
          · subst c2
            rw [wi_at]
            rfl
          rw [wi_ne _ _ _ _ (by omega), F3 l (by omega) hl2 j hj, ← hy]
          have : j = 0 ∨ j = 1 := by omega
          rcases this with rfl | rfl <;> rfl
        · rw [if_neg e, wi_ne _ _ _ _ (by omega), wi_ne _ _ _ _ (by omega)]
          exact F3 l h6 hl2 j hj
  exact ⟨7, Lp 7 0 rfl (by decide) (Nat.zero_le _) (fun l hl => absurd hl (Nat.not_lt_zero _))⟩
end CMERGE
