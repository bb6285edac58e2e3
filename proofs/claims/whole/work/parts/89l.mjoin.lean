/-! phrases: the reference joins readings of the same days -/
def pos (V : List Rd) : Prop := ∀ x, x ∈ V → 1 ≤ x.2.2.2
section MJOIN
variable {t : List Nat} {s s' s0 : gS} {Q : Int32 → gS → Prop} {Q' : gS → Prop} {H V W M A R : List Rd} {r p n g w c : Nat} {x y : Rd} {f t' d : Int}
theorem pos.ap (h1 : pos V) (h2 : pos W) : pos (V ++ W) := fun x hx => (List.mem_append.mp hx).elim (h1 x) (h2 x)
theorem pos_nil : pos [] := fun x hx => by cases hx
theorem pu_pos (hw : 1 ≤ w) : pos (pu f t' g w) := by
  unfold pu
  split
  · intro x hx
    rw [List.mem_singleton.mp hx]
    exact hw
  · exact pos_nil
theorem pd_pos (hw : 1 ≤ w) : pos (pd d w) := pu_pos hw
theorem mos_pos {m : Int} {k : Nat} (hw : 1 ≤ w) : pos (mos m k g w) := by
  unfold mos
  split
  · exact pu_pos hw
  · exact pos_nil
theorem uni_pos {u : Nat} {b : Int} (hw : 1 ≤ w) : pos (uni u n b w) := by
  unfold uni
  split
  · exact pd_pos hw
  split
  · exact pu_pos hw
  split
  · exact mos_pos hw
  · exact mos_pos hw
theorem bs_pos {x : St} : pos (bs r x) := by
  unfold bs
  split
  · refine (uni_pos (by decide)).ap ?_
    split
    · exact pu_pos (by decide)
    split
    · exact pu_pos (by decide)
    · exact pos_nil
  split
  · split
    · exact pos_nil
    · refine (pd_pos (by decide)).ap ?_
      split
      · exact pos_nil
      · exact uni_pos (by decide)
  split
  · exact (pd_pos (by decide)).ap (pd_pos (by decide))
  split
  · exact pd_pos (by decide)
  split
  · exact (pd_pos (by decide)).ap (pd_pos (by decide))
  split
  · exact (pd_pos (by decide)).ap (pd_pos (by decide))
  split
  · exact (pd_pos (by decide)).ap (pd_pos (by decide))
  split
  · exact (mos_pos (by decide)).ap (mos_pos (by decide))
  split
  · exact (pd_pos (by decide)).ap (pd_pos (by decide))
  split
  · exact pd_pos (by decide)
  · exact mos_pos (by decide)
theorem cg1_pos {x : St} (h : 1 ≤ y.2.2.2) : pos (cg1 x y) := by
  unfold cg1
  split
  · exact pd_pos h
  split
  · exact pd_pos h
  split
  · split
    · exact pd_pos h
    · exact pos_nil
  split
  · split
    · exact pd_pos h
    · exact pos_nil
  split
  · exact pos_nil
  split
  · exact pu_pos h
  split
  · exact pu_pos h
  · exact pu_pos h
theorem fl_pos {f : Rd → List Rd} (h : ∀ a, 1 ≤ a.2.2.2 → pos (f a)) (hV : pos V) : pos (V.flatMap f) := by
  intro x hx
  obtain ⟨a, ha, hx⟩ := List.mem_flatMap.mp hx
  exact h a (hV a ha) x hx
theorem spv_pos : ∀ S V, pos V → pos (spv r V S) := by
  intro S
  induction S with
  | nil => intro V h; exact h
  | cons x S ih =>
    intro V h
    refine ih _ ?_
    dsimp only
    split
    · exact bs_pos
    · exact fl_pos (fun a => cg1_pos) h
theorem jnA_pos (h1 : pos V) (h2 : pos W) : pos (jnA V W) := by
  intro z hz
  obtain ⟨a, ha, hz⟩ := List.mem_flatMap.mp hz
  obtain ⟨b, hb, hz⟩ := List.mem_flatMap.mp hz
  have q1 := h1 a ha
  have q2 := h2 b hb
  unfold jn1 at hz
  split at hz
  · rw [List.mem_singleton.mp hz]
    show 1 ≤ min a.2.2.2 b.2.2.2
    omega
  · cases hz
theorem prv_pos : pos (prv r t p) := by
  unfold prv
  split
  · exact jnA_pos (spv_pos _ _ pos_nil) (spv_pos _ _ pos_nil)
  · exact spv_pos _ _ pos_nil
theorem pov_pos : ∀ n p, pos (pov r t n p) := by
  intro n
  induction n with
  | zero => intro p; exact pos_nil
  | succ n ih =>
    intro p
    rw [pov]
    split
    · exact prv_pos.ap (ih _)
    · exact pos_nil
theorem phv_pos : pos (phv r t) := prv_pos.ap (pov_pos _ _)
theorem mw_pos (hc : 1 ≤ c) (h : pos V) : pos (V.map (mw c)) := by
  intro z hz
  obtain ⟨w, hw, rfl⟩ := List.mem_map.mp hz
  have := h w hw
  show 1 ≤ min w.2.2.2 c
  omega
theorem mg_pos (hx : 1 ≤ x.2.2.2) : ∀ J, pos J → pos (mg J x) := by
  intro J
  induction J with
  | nil =>
    intro _ z hz
    rw [List.mem_singleton.mp hz]
    exact hx
  | cons y J ih =>
    intro hJ z hz
    rw [mg] at hz
    have hy := hJ y (by simp)
    have hJ' : pos J := fun w hw => hJ w (by simp [hw])
    split at hz
    · rcases List.mem_cons.mp hz with e | e
      · rw [e]
        show 1 ≤ max y.2.2.2 x.2.2.2
        omega
      · exact hJ' z e
    · rcases List.mem_cons.mp hz with e | e
      · rw [e]; exact hy
      · exact ih hJ' z e
theorem mgA_pos : ∀ X M, pos M → pos X → pos (mgA M X) := by
  intro X
  induction X with
  | nil => intro M h _; exact h
  | cons x X ih => intro M h hX; exact ih _ (mg_pos (hX x (by simp)) M h) (fun w hw => hX w (by simp [hw]))
theorem mw3 (h : okV V) : V.map (mw 3) = V := by
  induction V with
  | nil => rfl
  | cons x V ih =>
    rw [List.map_cons, ih (fun w hw => h w (by simp [hw]))]
    have hx := (h x (by simp)).2.2.2
    have : mw 3 x = x := by
      obtain ⟨a, b, c, d⟩ := x
      unfold mw
      dsimp only at hx ⊢
      rw [Nat.min_eq_left hx]
    rw [this]
theorem pov_le : ∀ n p, p ≤ t.length → (pho t n p).1 = true → (pov r t n p).length ≤ t.length - p := by
  intro n
  induction n with
  | zero => intro p hp h; cases h
  | succ n ih =>
    intro p hp h
    have l1' := te_le hp
    obtain ⟨a1, a2, a3⟩ := far_prt l1'
    rw [pho] at h
    rw [pov]
    by_cases h39 : tk t p = 39
    · rw [if_pos h39] at h ⊢
      have g2 := te2 (show tk t p < 40 by omega) hp
      by_cases h1 : (prt t (te t p)).1 = false
      · rw [if_pos h1] at h
        cases h
      rw [if_neg h1] at h
      have h1' : (prt t (te t p)).1 = true := by simpa using h1
      have h : (pho t n (prt t (te t p)).2.2).1 = true := h
      have b := ih _ a1 h
      have c := prt2 l1' h1'
      have d := prv_le (r := r) (t := t) (p := te t p)
      rw [List.length_append]
      omega
    · rw [if_neg h39]
      exact Nat.zero_le _
theorem phv_le (ht : okT t) (h : (ph t).1 = true) : (phv r t).length ≤ 84 := by
  have h80 := ht.1
  obtain ⟨a1, a2, a3⟩ := far_prt (t := t) (p := 0) (Nat.zero_le _)
  unfold ph at h
  by_cases h1 : (prt t 0).1 = false
  · rw [if_pos h1] at h
    cases h
  rw [if_neg h1] at h
  have h : (pho t 81 (prt t 0).2.2).1 = true := h
  have b := pov_le (r := r) 81 _ a1 h
  have d := prv_le (r := r) (t := t) (p := 0)
  unfold phv
  rw [List.length_append]
  omega
theorem m_hv {i j : Nat} {v x1 : Int32} (h : s.1 181 (4 * i + j) = v) (hi : i < 1024) (hj : j < 4) (e : x1 = nI j) : wpX12_h (nI i) x1 s Q = Q v s := by
  subst e
  unfold wpX12_h
  rw [four_n, n4a, ix_nI (by omega), show gi s 181 (4 * i + j) = v from h]
  have : vp_in (nI (4 * i + j)) 4096 := vp_in_nI (by omega) (by decide)
  simp only [this, true_and]
theorem m_join (h : HP H s) (hH : H.length ≤ 1000) (ok : okV H) (k : ∀ s', fm [181] [14] s s' → HP (mgA [] H) s' → Q' s') : wpX12_join s Q' := by
  have Lp : ∀ m i J s1, i + m = H.length → fm [181] [14] s s1 → s1.1 177 14 = nI H.length → (∀ l, l < J.length → ∀ j, j < 4 → s1.1 181 (4 * l + j) = nI (rc (J.getD l r0) j)) → (∀ l, i ≤ l → l < H.length → ∀ j, j < 4 → s1.1 181 (4 * l + j) = nI (rc (H.getD l r0) j)) → J.length ≤ i → okV J → mgA J (H.drop i) = mgA [] H → wX12_join_4 Q' (m + 1) (nI J.length) (nI i) s1 := by
    intro m
    induction m with
    | zero =>
      intro i J s1 hi f h14 hJ hR hl okJ e
      rw [List.drop_of_length_le (by omega)] at e
      have e : J = mgA [] H := e
      rw [wX12_join_4, show gi s1 177 14 = nI H.length from h14]
      refine ⟨fun _ => k _ (f.tr (fm_wf (by decide))) ⟨?_, fun l hl2 j hj => ?_⟩, fun hc => absurd (nI_le (by omega) (by omega)) hc⟩
      · rw [wi_at, e]
      · rw [wi_na _ _ _ _ (by decide), ← e]
        exact hJ l (by rw [e]; exact hl2) j hj
    | succ m ih =>
      intro i J s1 hi f h14 hJ hR hl okJ e
      have hiH : i < H.length := by omega
      obtain ⟨x, hx⟩ : ∃ x, x = H.getD i r0 := ⟨_, rfl⟩
      have okx := ok _ (getD_mem (d := r0) hiH)
      rw [← hx] at okx
      have okm := mg_ok okx J okJ
      obtain ⟨p1, p2, p3, p4⟩ := okx
      rw [drop_cons (d := r0) hiH, ← hx] at e
      have e : mgA (mg J x) (H.drop (i + 1)) = mgA [] H := e
      have vx : ∀ j, j < 4 → s1.1 181 (4 * i + j) = nI (rc x j) := fun j hj => by rw [hx]; exact hR i (Nat.le_refl _) hiH j hj
      rw [wX12_join_4, show gi s1 177 14 = nI H.length from h14]
      refine ⟨fun hc => ?_, fun _ => ⟨J.length + 1, ?_⟩⟩
      · rw [nI_leI (by omega) (by omega)] at hc
        omega
      have Li : ∀ m' l, l + m' = J.length → (∀ q, q < l → ¬ sm (J.getD q r0) x) → wX12_join_14 Q' (fun y1 y2 s => wX12_join_4 Q' (m + 1) y1 y2 s) (m' + 1) (nI J.length) (nI i) (nI l) s1 := by
        intro m'
        induction m' with
        | zero =>
          intro l hl2 hn
          have : l = J.length := by omega
          subst this
          have em := mg_none J hn
          rw [wX12_join_14]
          refine ⟨fun _ => ⟨fun hc => absurd rfl hc, fun _ => m_copy (by omega) (by omega) (fun s2 f2 hc => ?_)⟩, fun hc => absurd (nI_le (Nat.le_refl _) (by omega)) hc⟩
          rw [nI_1, nI_1]
          have hlen : (mg J x).length = J.length + 1 := by rw [em, List.length_append]; rfl
          rw [← hlen]
          refine ih (i + 1) (mg J x) s2 (by omega) (f.tr (f2.mono (by decide) (by decide))) ?_ (fun q hq j hj => ?_) (fun q h1 h2 j hj => ?_) (by omega) okm e
          · rw [f2.2.1 14 (by decide)]; exact h14
          · rw [hlen] at hq
            rw [hc, em, gD_app]
            by_cases e2 : q = J.length
            · rw [if_pos (by omega), if_pos e2, show 4 * i + (4 * q + j - 4 * J.length) = 4 * i + j by omega]
              exact vx j hj
            · rw [if_neg (by omega), if_neg e2]
              exact hJ q (by omega) j hj
          · rw [hc, if_neg (by omega)]
            exact hR q (by omega) h2 j hj
        | succ m' ihl =>
          intro l hl2 hn
          have hlJ : l < J.length := by omega
          obtain ⟨y, hy⟩ : ∃ y, y = J.getD l r0 := ⟨_, rfl⟩
          have oky := okJ _ (getD_mem (d := r0) hlJ)
          rw [← hy] at oky
          obtain ⟨q1, q2, q3, q4⟩ := oky
          have vy : ∀ j, j < 4 → s1.1 181 (4 * l + j) = nI (rc y j) := fun j hj => by rw [hy]; exact hJ l hlJ j hj
          have next : ¬ sm y x → wX12_join_14 Q' (fun y1 y2 s => wX12_join_4 Q' (m + 1) y1 y2 s) (m' + 1) (nI J.length) (nI i) (nI l + 1) s1 := by
            intro hns
            rw [nI_1]
            refine ihl (l + 1) (by omega) (fun q hq => ?_)
            by_cases e2 : q = l
            · rw [e2, ← hy]; exact hns
            · exact hn q (by omega)
          rw [wX12_join_14]
          refine ⟨fun hc => ?_, fun _ => ?_⟩
          · rw [nI_leI (by omega) (by omega)] at hc
            omega
          rw [m_hv (x1 := 0) (vy 0 (by decide)) (by omega) (by decide) rfl, m_hv (x1 := 0) (vx 0 (by decide)) (by omega) (by decide) rfl, show rc y 0 = y.1 from rfl, show rc x 0 = x.1 from rfl, nI_eq (by omega) (by omega)]
          refine ⟨fun hne => next (fun hc => hne hc.1), fun he1 => ?_⟩
          rw [m_hv (x1 := 1) (vy 1 (by decide)) (by omega) (by decide) rfl, m_hv (x1 := 1) (vx 1 (by decide)) (by omega) (by decide) rfl, show rc y 1 = y.2.1 from rfl, show rc x 1 = x.2.1 from rfl, nI_eq (by omega) (by omega)]
          refine ⟨fun he2 => ?_, fun hne => next (fun hc => hne hc.2)⟩
          have em := mg_at J l hlJ hn (by rw [← hy]; exact ⟨he1, he2⟩)
          rw [← hy] at em
          unfold wX12_join_55
          refine ⟨fun _ => ?_, fun hc => absurd ((nI_eq (by omega) (by omega)).mp hc) (by omega)⟩
          have z2 : 4 * nI l + 2 = nI (4 * l + 2) := by rw [four_n]; exact n4a _ 2
          have z3 : 4 * nI l + 3 = nI (4 * l + 3) := by rw [four_n]; exact n4a _ 3
          rw [m_hv (x1 := 2) (vy 2 (by decide)) (by omega) (by decide) rfl, m_hv (x1 := 2) (vx 2 (by decide)) (by omega) (by decide) rfl, z2, z3, ix_nI (by omega), ix_nI (by omega), show rc y 2 = y.2.2.1 from rfl, show rc x 2 = x.2.2.1 from rfl, min_n (by omega) (by omega)]
          refine ⟨vp_in_nI (by omega) (by decide), ?_⟩
          have wy : ∀ v, (wi s1 181 (4 * l + 2) v).1 181 (4 * l + 3) = nI y.2.2.2 := fun v => by rw [wi_ne _ _ _ _ (by omega)]; exact vy 3 (by decide)
          have wx : ∀ v, (wi s1 181 (4 * l + 2) v).1 181 (4 * i + 3) = nI x.2.2.2 := fun v => by rw [wi_ne _ _ _ _ (by omega)]; exact vx 3 (by decide)
          rw [m_hv (x1 := 3) (wy _) (by omega) (by decide) rfl, m_hv (x1 := 3) (wx _) (by omega) (by decide) rfl, max_n (by omega) (by omega), nI_1]
          refine ⟨vp_in_nI (by omega) (by decide), ?_⟩
          have hlen : (mg J x).length = J.length := by rw [em, List.length_set]
          rw [← hlen]
          refine ih (i + 1) (mg J x) _ (by omega) (f.tr ((fm_wi (by decide) (by decide)).tr (fm_wi (by decide) (by decide)))) ?_ (fun q hq j hj => ?_) (fun q h1 h2 j hj => ?_) (by omega) okm e
          · rw [wi_na _ _ _ _ (by decide), wi_na _ _ _ _ (by decide)]; exact h14
          · rw [hlen] at hq
            rw [em, set_gD hlJ]
            by_cases e2 : q = l
            · subst e2
              rw [if_pos rfl]
              by_cases c3 : j = 3
              · subst c3
                rw [wi_at]
                rfl
              rw [wi_ne _ _ _ _ (by omega)]
              by_cases c2 : j = 2
              · subst c2
                rw [wi_at]
                rfl
              rw [wi_ne _ _ _ _ (by omega), vy j hj]
              have : j = 0 ∨ j = 1 := by omega
              rcases this with rfl | rfl <;> rfl
            · rw [if_neg e2, wi_ne _ _ _ _ (by omega), wi_ne _ _ _ _ (by omega)]
              exact hJ q hq j hj
          · rw [wi_ne _ _ _ _ (by omega), wi_ne _ _ _ _ (by omega)]
            exact hR q (by omega) h2 j hj
      exact Li J.length 0 (by omega) (fun q hq => absurd hq (Nat.not_lt_zero _))
  exact ⟨H.length + 1, Lp H.length 0 [] s (by omega) fm.rf h.1 (fun l hl => absurd hl (Nat.not_lt_zero _)) (fun l _ hl j hj => h.2 l hl j hj) (Nat.zero_le _) ok_nil (by rw [List.drop_zero])⟩
end MJOIN
