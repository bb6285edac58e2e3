/-! phrases: the reference reads parts and a phrase -/
def prv (r : Nat) (t : List Nat) (p : Nat) : List Rd := if tk t (spn t 27 p).2.2 = 38 then jnA (spv r [] (spn t 27 p).2.1) (spv r [] (spn t 27 (te t (spn t 27 p).2.2)).2.1) else spv r [] (spn t 27 p).2.1
def pov (r : Nat) (t : List Nat) : Nat → Nat → List Rd
  | 0, _ => []
  | n + 1, p => if tk t p = 39 then prv r t (te t p) ++ pov r t n (prt t (te t p)).2.2 else []
def phv (r : Nat) (t : List Nat) : List Rd := prv r t 0 ++ pov r t 81 (prt t 0).2.2
section MPART
variable {t : List Nat} {s s' s0 : gS} {Q : Int32 → gS → Prop} {Q' : gS → Prop} {H V1 V2 W : List Rd} {r p k N v g a n c : Nat}
theorem m_jn (h1 : V1.length ≤ 2) (h2 : V2.length ≤ 2) (ok1 : okV V1) (ok2 : okV V2) (hH : H.length ≤ 1000) (h : HP (H ++ (V1 ++ V2)) s) (kk : ∀ s', fm [181] [14] s s' → HP (H ++ jnA V1 V2) s' → Q' s') : ∃ n45, wX12_readPart_45 Q' n45 g (nI H.length) (nI (H ++ V1).length) (nI (H ++ (V1 ++ V2)).length) (nI H.length) s := by
  have Lp : ∀ m i W s1, i + m = V1.length → fm [181] [14] s s1 → HP (H ++ (V1 ++ V2) ++ W) s1 → W.length ≤ 2 * i → W ++ jnA (V1.drop i) V2 = jnA V1 V2 → wX12_readPart_45 Q' (m + 1) g (nI H.length) (nI (H ++ V1).length) (nI (H ++ (V1 ++ V2)).length) (nI (H.length + i)) s1 := by
    intro m
    induction m with
    | zero =>
      intro i W s1 hi f hp hW e
      rw [wX12_readPart_45]
      refine ⟨fun _ => m_drop hp (by simp only [List.length_append]; omega) rfl rfl (fun s2 f2 h2 => kk s2 (f.tr f2) ?_), fun hh => absurd (nI_le (by rw [List.length_append]; omega) (by omega)) hh⟩
      rw [List.drop_of_length_le (by omega)] at e
      have e : W ++ [] = jnA V1 V2 := e
      rw [List.append_nil] at e
      rw [← e]
      exact h2
    | succ m ih =>
      intro i W s1 hi f hp hW e
      have hiV : i < V1.length := by omega
      obtain ⟨x, hx⟩ : ∃ x, x = V1.getD i r0 := ⟨_, rfl⟩
      have okx := ok1 _ (getD_mem (d := r0) hiV)
      rw [← hx] at okx
      obtain ⟨o1, o2, o3, o4⟩ := okx
      have e' : W ++ jnA (V1.drop i) V2 = W ++ V2.flatMap (jn1 x) ++ jnA (V1.drop (i + 1)) V2 := by
        rw [drop_cons (d := r0) hiV, hx, List.append_assoc]
        rfl
      rw [e'] at e
      rw [wX12_readPart_45]
      refine ⟨fun hh => absurd ((nI_leI (by rw [List.length_append]; omega) (by omega)).mp hh) (by rw [List.length_append]; omega), fun _ => ⟨V2.length + 1, ?_⟩⟩
      have Li : ∀ m' j W' s2, j + m' = V2.length → fm [181] [14] s s2 → HP (H ++ (V1 ++ V2) ++ W') s2 → W'.length ≤ 2 * i + j → W' ++ (V2.drop j).flatMap (jn1 x) = W ++ V2.flatMap (jn1 x) → wX12_readPart_54 Q' (fun g y1 y2 y3 y4 s => wX12_readPart_45 Q' (m + 1) g y1 y2 y3 y4 s) (m' + 1) g (nI H.length) (nI (H ++ V1).length) (nI (H ++ (V1 ++ V2)).length) (nI (H.length + i)) (nI (H.length + (V1.length + j))) s2 := by
        intro m'
        induction m' with
        | zero =>
          intro j W' s2 hj f2 hp2 hW' e2
          rw [wX12_readPart_54, nI_1]
          refine ⟨fun _ => ?_, fun hh => absurd (nI_le (by simp only [List.length_append]; omega) (by omega)) hh⟩
          rw [List.drop_of_length_le (by omega), List.flatMap_nil, List.append_nil] at e2
          rw [← e2] at e
          exact ih (i + 1) W' s2 (by omega) f2 hp2 (by omega) e
        | succ m' ihj =>
          intro j W' s2 hj f2 hp2 hW' e2
          have hjV : j < V2.length := by omega
          obtain ⟨y, hy⟩ : ∃ y, y = V2.getD j r0 := ⟨_, rfl⟩
          have oky := ok2 _ (getD_mem (d := r0) hjV)
          rw [← hy] at oky
          obtain ⟨q1, q2, q3, q4⟩ := oky
          have hl : (H ++ (V1 ++ V2) ++ W').length ≤ 1024 := by simp only [List.length_append]; omega
          have hx' : ∀ (l : Nat) {z : Int32} {Q : Int32 → gS → Prop}, l < 4 → z = nI l → wpX12_h (nI (H.length + i)) z s2 Q = Q (nI (rc x l)) s2 := fun l z Q hl4 hz => by
            rw [m_h hp2 (by simp only [List.length_append]; omega) hl hl4 hz, hv_at (by rw [List.length_append]; omega), gD_ap, if_pos hiV, hx]
          have hy' : ∀ (l : Nat) {z : Int32} {Q : Int32 → gS → Prop}, l < 4 → z = nI l → wpX12_h (nI (H.length + (V1.length + j))) z s2 Q = Q (nI (rc y l)) s2 := fun l z Q hl4 hz => by
            rw [m_h hp2 (by simp only [List.length_append]; omega) hl hl4 hz, hv_at (by rw [List.length_append]; omega), gD_ap, if_neg (by omega), Nat.add_sub_cancel_left, hy]
          have e3 : W' ++ (V2.drop j).flatMap (jn1 x) = W' ++ jn1 x y ++ (V2.drop (j + 1)).flatMap (jn1 x) := by
            rw [drop_cons (d := r0) hjV, List.flatMap_cons, List.append_assoc, hy]
          rw [e3] at e2
          rw [wX12_readPart_54, nI_1 (H.length + (V1.length + j))]
          refine ⟨fun hh => absurd ((nI_leI (by simp only [List.length_append]; omega) (by omega)).mp hh) (by simp only [List.length_append]; omega), fun _ => ?_⟩
          rw [hx' 0 (z := 0) (by decide) rfl, hy' 1 (z := 1) (by decide) rfl]
          have er0 : rc x 0 = x.1 := rfl
          have er1 : rc y 1 = y.2.1 := rfl
          rw [er0, er1, nI_ltI (by omega) (by omega)]
          refine ⟨fun hc => ?_, fun hc => ?_⟩
          · have : jn1 x y = [] := by unfold jn1; rw [if_neg (by omega)]
            rw [this, List.append_nil] at e2
            exact ihj (j + 1) W' s2 (by omega) f2 hp2 (by omega) e2
          · rw [hx' 0 (z := 0) (by decide) rfl, hy' 1 (z := 1) (by decide) rfl, hx' 2 (z := 2) (by decide) rfl, hy' 2 (z := 2) (by decide) rfl, hx' 3 (z := 3) (by decide) rfl, hy' 3 (z := 3) (by decide) rfl]
            have ej : jn1 x y = pu (x.1 : Int) (y.2.1 : Int) (max x.2.2.1 y.2.2.1) (min x.2.2.2 y.2.2.2) := by
              unfold jn1 pu
              rw [if_pos (by omega), if_pos (by omega)]
              rfl
            have emx : jmax (nI (rc x 2)) (nI (rc y 2)) = nI (max x.2.2.1 y.2.2.1) := by
              show jmax (nI x.2.2.1) (nI y.2.2.1) = _
              rw [nI_i, nI_i, iI_max (by omega) (by omega) (by omega) (by omega), nI_i]
              congr 1
              omega
            have emn : jmin (nI (rc x 3)) (nI (rc y 3)) = nI (min x.2.2.2 y.2.2.2) := by
              show jmin (nI x.2.2.2) (nI y.2.2.2) = _
              rw [nI_i, nI_i, iI_min (by omega) (by omega) (by omega) (by omega), nI_i]
              congr 1
              omega
            refine m_push (f := (x.1 : Int)) (t' := (y.2.1 : Int)) hp2 (by simp only [List.length_append]; omega) (nI_i _) (nI_i _) emx emn (by omega) (by omega) (by omega) (fun s3 f3 h3 => ?_)
            rw [← ej, List.append_assoc] at h3
            have := jn1_le (x := x) (y := y)
            exact ihj (j + 1) _ s3 (by omega) (f2.tr f3) h3 (by rw [List.length_append]; omega) e2
      have := Li V2.length 0 W s1 (by omega) f hp (by omega) (by rw [List.drop_zero])
      rw [show (H ++ V1).length = H.length + (V1.length + 0) by rw [List.length_append]; omega] at this ⊢
      exact this
  refine ⟨V1.length + 1, Lp V1.length 0 [] s (by omega) fm.rf (by rw [List.append_nil]; exact h) (by simp) (by rw [List.drop_zero]; rfl)⟩
theorem s_part (C : CX t s0) (hr : r ≤ 9999) (M : MS s0 t p H r s) (hp : p ≤ t.length) (hH : H.length ≤ 985) (hg : 11 * ((prt t p).2.2 - p) + (if (prt t p).1 = true then 0 else 31) ≤ g) (k1 : (prt t p).1 = true → bd t (prt t p).2.2 = false → ∀ s', MS s0 t (prt t p).2.2 (H ++ prv r t p) r s' → Q' s') (k0 : (prt t p).1 = false ∨ bd t (prt t p).2.2 = true → ∀ s', DE s0 t (prt t p).2.2 (H.length + 4) r s' → Q' s') : wpX12_readPart g s Q' := by
  have h80 := C.1.1
  obtain ⟨a1, a2, a3⟩ := far_spn (t := t) 27 p hp
  have l1' := te_le a1
  have g1 := te_ge (t := t) (spn t 27 p).2.2
  obtain ⟨b1, b2, b3⟩ := far_spn (t := t) 27 (te t (spn t 27 p).2.2) l1'
  have tb1 := tb_le a1
  have tb2 := tb_le b1
  unfold prt at hg k1 k0
  unfold prv at k1
  unfold wpX12_readPart
  have sp1 : ∀ {g : Nat} {Q' : gS → Prop}, 11 * ((spn t 27 p).2.2 - p) + (if (spn t 27 p).1 = true then 0 else 31) ≤ g → ((spn t 27 p).1 = true → bd t (spn t 27 p).2.2 = false → ∀ s', MS s0 t (spn t 27 p).2.2 (H ++ spv r [] (spn t 27 p).2.1) r s' → Q' s') → ((spn t 27 p).1 = false ∨ bd t (spn t 27 p).2.2 = true → ∀ s', DE s0 t (spn t 27 p).2.2 (H.length + 2) r s' → Q' s') → wpX12_readSpan 30 g s Q' := fun hg x y => (s_span C hr 27 29 (by omega)).1 p H s _ _ M hp (by omega) (by omega) hg x y
  cases hs : (spn t 27 p).1 with
  | false =>
    rw [hs] at sp1
    rw [if_pos hs] at hg k1 k0
    refine ⟨g, 0, by omega, sp1 (by simpa using hg) (fun h => by cases h) (fun _ s1 D => d_takes (by omega) D.2 (j0 (k0 (Or.inl rfl) s1 (D.mo (by omega)))))⟩
  | true =>
    rw [hs] at sp1
    rw [if_neg (by rw [hs]; decide)] at hg k1 k0
    have hv1 := spv_le (r := r) (spn t 27 p).2.1 [] (by simp)
    refine ⟨11 * ((spn t 27 p).2.2 - p), g - 11 * ((spn t 27 p).2.2 - p), ?_, sp1 (by simp) (fun _ hb s1 M1 => ?_) (fun hb s1 D => d_takes (by omega) D.2 (j0 ?_))⟩
    · by_cases h38 : tk t (spn t 27 p).2.2 = 38
      · rw [if_pos h38] at hg
        by_cases h2 : (spn t 27 (te t (spn t 27 p).2.2)).1 = false
        · rw [if_pos h2] at hg
          simp at hg
          omega
        · rw [if_neg h2] at hg
          simp at hg
          omega
      · rw [if_neg h38] at hg
        simp at hg
        omega
    · refine s_takes C M1 a1 W38 (fun h38 s2 M2 => j1 ?_) (fun h38 => j0 ?_)
      · rw [if_pos h38] at hg k1 k0
        rw [if_pos h38] at k1
        have hH2 : (H ++ spv r [] (spn t 27 p).2.1).length ≤ H.length + 2 := by rw [List.length_append]; omega
        refine ⟨g - 11 * ((spn t 27 p).2.2 - p), 0, by omega, (s_span C hr 27 29 (by omega)).1 _ _ s2 _ _ M2 l1' (by omega) (by omega) ?_ (fun h3 hb3 s3 M3 => ?_) (fun h3 s3 D => ?_)⟩
        · by_cases h2 : (spn t 27 (te t (spn t 27 p).2.2)).1 = false
          · rw [if_pos h2] at hg
            rw [if_neg (by rw [h2]; decide)]
            simp at hg
            omega
          · rw [if_neg h2] at hg
            rw [if_pos (by simpa using h2)]
            simp at hg
            omega
        · rw [if_neg (by rw [h3]; decide)] at k1
          rw [m_fine1 (M3.2.live hb3).2.1]
          refine j1 ?_
          rw [M.1.hl, M2.1.hl, M3.1.hl]
          have hv2 := spv_le (r := r) (spn t 27 (te t (spn t 27 p).2.2)).2.1 [] (by simp)
          have h3' := M3.1.h
          rw [List.append_assoc] at h3' ⊢
          exact m_jn hv1 hv2 (spv_ok _ _ ok_nil) (spv_ok _ _ ok_nil) (by omega) h3' (fun s4 f4 h4 => k1 rfl hb3 s4 (M3.up f4 h4))
        · rw [m_fine0 (by omega) D.2]
          refine j0 ?_
          by_cases h2 : (spn t 27 (te t (spn t 27 p).2.2)).1 = false
          · rw [if_pos h2] at k0
            exact k0 (Or.inl rfl) s3 (D.mo (by omega))
          · rw [if_neg h2] at k0
            exact k0 (Or.inr (h3.resolve_left h2)) s3 (D.mo (by omega))
      · rw [if_neg h38] at k1
        rw [if_neg h38] at k1
        exact k1 rfl hb s1 M1
    · have hb' : bd t (spn t 27 p).2.2 = true := hb.resolve_left (by decide)
      have h40 := bd_40 hb'
      rw [if_neg (by omega)] at k0
      exact k0 (Or.inr hb') s1 (D.mo (by omega))
theorem prt2 (hp : p ≤ t.length) (h : (prt t p).1 = true) : p + 2 ≤ (prt t p).2.2 := by
  obtain ⟨a1, a2, a3⟩ := far_prt hp
  have h3 := a3 h
  have : 2 ≤ (prt t p).2.1.length ∨ p + 2 ≤ (prt t p).2.2 := by
    obtain ⟨b1, b2, b3⟩ := far_spn (t := t) 27 p hp
    unfold prt at h ⊢
    split at h
    · cases h
    next h1 =>
      rw [if_neg h1]
      split at h
      next h2 =>
        rw [if_pos h2]
        split at h
        · cases h
        next h4 =>
          rw [if_neg h4]
          left
          simp only [List.length_append, List.length_singleton]
          omega
      next h2 =>
        rw [if_neg h2]
        right
        have := b3 (by simpa using h1)
        have hl : 1 ≤ (spn t 27 p).2.1.length := by
          have h1' : (spn t 27 p).1 = true := by simpa using h1
          rw [spn] at h1' ⊢
          split at h1'
          · cases h1'
          next x1 =>
            rw [if_neg x1]
            split at h1'
            next x2 => rw [if_pos x2]; exact Nat.le_refl _
            next x2 =>
              rw [if_neg x2]
              simp only [List.length_append, List.length_singleton]
              omega
        show p + 2 ≤ (spn t 27 p).2.2
        omega
  omega
theorem prv_le : (prv r t p).length ≤ 4 := by
  have h1 := spv_le (r := r) (spn t 27 p).2.1 [] (by simp)
  have h2 := spv_le (r := r) (spn t 27 (te t (spn t 27 p).2.2)).2.1 [] (by simp)
  unfold prv
  split
  · have h3 := jnA_le (B := spv r [] (spn t 27 (te t (spn t 27 p).2.2)).2.1) (spv r [] (spn t 27 p).2.1)
    have h4 := Nat.mul_le_mul h1 h2
    omega
  · omega
theorem prv_ok : okV (prv r t p) := by
  unfold prv
  split
  · exact jnA_ok (spv_ok _ _ ok_nil) (spv_ok _ _ ok_nil)
  · exact spv_ok _ _ ok_nil
theorem pov_ok : ∀ n p, okV (pov r t n p) := by
  intro n
  induction n with
  | zero => intro p; exact ok_nil
  | succ n ih =>
    intro p
    rw [pov]
    split
    · exact prv_ok.ap (ih _)
    · exact ok_nil
theorem phv_ok : okV (phv r t) := prv_ok.ap (pov_ok _ _)
theorem d_64 {x : Int32} (hv : v < 1000) (h8 : s.1 177 8 = nI v) (kk : Q 0 s) : wX12_readPhrase_64 x Q g s := by
  unfold wX12_readPhrase_64
  rw [m_fine0 hv h8]
  exact i0 kk
theorem d_18 {x : Int32} (hv : v < 1000) (h8 : s.1 177 8 = nI v) (kk : Q 0 s) : wX12_readPhrase_18 x Q (n + 1) g s := by
  rw [wX12_readPhrase_18]
  refine d_takes hv h8 (i0 ?_)
  rw [m_fine0 hv h8]
  exact i0 (d_64 hv h8 kk)
theorem s_pho {x : Int32} {B : Nat} (C : CX t s0) (hr : r ≤ 9999) (hB : B ≤ 810) : ∀ n p H s g, MS s0 t p H r s → p ≤ t.length → t.length < p + n → H.length ≤ B + 2 * p → 11 * ((pho t n p).2.2 - p) + 31 ≤ g → ((pho t n p).1 = true → ∀ s', MR s0 (H ++ pov r t n p) r s' → s'.1 177 8 = -1 → Q 1 s') → ((pho t n p).1 = false → ∀ s', s'.1 177 8 = nI (tb t (pho t n p).2.2) → (∃ H', MR s0 H' r s') → Q 0 s') → wX12_readPhrase_18 x Q n g s := by
  have h80 := C.1.1
  intro n
  induction n with
  | zero => intro p H s g M hp hn; omega
  | succ n ih =>
    intro p H s g M hp hn hH hg k1 k0
    have hbp := tb_le hp
    rw [pho] at hg k1 k0
    rw [pov] at k1
    rw [wX12_readPhrase_18]
    refine s_takes C M hp W39 (fun h39 s1 M1 => i1 ?_) (fun h39 => i0 ?_)
    · rw [if_pos h39] at hg k1 k0
      rw [if_pos h39] at k1
      have l1' := te_le hp
      have g2 := te2 (show tk t p < 40 by omega) hp
      obtain ⟨a1, a2, a3⟩ := far_prt l1'
      have tb1 := tb_le a1
      have hv := prv_le (r := r) (t := t) (p := te t p)
      cases hs : (prt t (te t p)).1 with
      | false =>
        rw [if_pos hs] at hg k1 k0
        refine ⟨g, 0, by omega, s_part C hr M1 l1' (by omega) (by rw [hs]; have hg : 11 * ((prt t (te t p)).2.2 - p) + 31 ≤ g := hg; simp; omega) (fun h => by rw [hs] at h; cases h) (fun _ s2 D => ?_)⟩
        cases n with
        | zero => omega
        | succ n =>
          obtain ⟨⟨H', M', _⟩, h8⟩ := D
          exact d_18 (by omega) h8 (k0 rfl s2 h8 ⟨H', M'⟩)
      | true =>
        rw [if_neg (by rw [hs]; decide)] at hg k1 k0
        have hp2 := prt2 l1' hs
        have hgo : (prt t (te t p)).2.2 ≤ (pho t n (prt t (te t p)).2.2).2.2 := by
          have : ∀ n p, p ≤ t.length → p ≤ (pho t n p).2.2 := by
            intro n
            induction n with
            | zero => intro p hp; exact Nat.le_refl _
            | succ n ihn =>
              intro p hp
              have l1' := te_le hp
              obtain ⟨a1, a2, a3⟩ := far_prt l1'
              have g1 := te_ge (t := t) p
              rw [pho]
              split
              · split
                · show p ≤ (prt t (te t p)).2.2
                  omega
                · have := ihn (prt t (te t p)).2.2 a1
                  show p ≤ (pho t n (prt t (te t p)).2.2).2.2
                  omega
              · exact Nat.le_refl _
          exact this n _ a1
        have hg : 11 * ((pho t n (prt t (te t p)).2.2).2.2 - p) + 31 ≤ g := hg
        refine ⟨11 * ((prt t (te t p)).2.2 - te t p), g - 11 * ((prt t (te t p)).2.2 - te t p), by omega, s_part C hr M1 l1' (by omega) (by rw [hs]; simp) (fun _ hb s2 M2 => ?_) (fun hb s2 D => ?_)⟩
        · refine ih _ _ s2 _ M2 a1 (by omega) (by rw [List.length_append]; omega) (by omega) (fun h3 s3 M3 => k1 h3 s3 ?_) (fun h3 => k0 h3)
          rw [List.append_assoc] at M3
          exact M3
        · have hb' : bd t (prt t (te t p)).2.2 = true := hb.resolve_left (by rw [hs]; decide)
          have h40 := bd_40 hb'
          cases n with
          | zero => omega
          | succ n =>
            obtain ⟨⟨H', M', _⟩, h8⟩ := D
            rw [pho, if_neg (by omega)] at k0
            exact d_18 (by omega) h8 (k0 (decide_eq_false (by omega)) s2 h8 ⟨H', M'⟩)
    · rw [if_neg h39] at hg k1 k0
      rw [if_neg h39, List.append_nil] at k1
      cases hb : bd t p with
      | true =>
        have h40 := bd_40 hb
        rw [m_fine0 (by omega) (M.2.bad hb)]
        exact i0 (d_64 (by omega) (M.2.bad hb) (k0 (decide_eq_false (by omega)) s (M.2.bad hb) ⟨H, M.1⟩))
      | false =>
        obtain ⟨a7, a8, a9, a10, a11, a12⟩ := M.2.live hb
        rw [m_fine1 a8, show gi s 177 11 = bi (decide (100 ≤ tk t p)) from a11, show gi s 177 12 = bi (decide (tk t p ≤ 40)) from a12, bi_0, bi_0]
        have bad : tk t p ≠ 41 → wX12_readPhrase_56 x Q (wX12_readPhrase_64 x Q) g s := by
          intro h41
          unfold wX12_readPhrase_56
          refine s_fault C M hp (fun s1 D => ?_)
          obtain ⟨⟨H', M', _⟩, h8⟩ := D
          exact d_64 (by omega) h8 (k0 (decide_eq_false h41) s1 h8 ⟨H', M'⟩)
        refine i1 ⟨fun hc => bad ?_, fun hc => ⟨fun hd => ?_, fun hd => bad ?_⟩⟩
        · have : 100 ≤ tk t p := by simpa using hc
          omega
        · have h1 := of_decide_eq_false hc
          have h2 := of_decide_eq_false hd
          have h41 : tk t p = 41 := by
            have := tk_cases (t := t) p
            omega
          unfold wX12_readPhrase_64
          rw [m_fine1 a8]
          refine i1 ?_
          have T := M.1.tx C
          have hte : t.length ≤ te t p := by
            unfold tk tkQ at h41
            unfold te teQ
            split at h41
            next q1 => rw [if_pos q1]; exact q1
            next q1 =>
              split at h41
              · split at h41 <;> omega
              · have := idx_le (slc t (tq t p) (tL t (tq t p)))
                omega
          have l1' := te_le hp
          unfold wpX12_wasRight wX12_wasRight_19
          rw [show gi s 177 6 = nI t.length from T.1, show gi s 177 7 = nI (te t p) from a7, m_fine1 a8]
          exact ⟨fun _ => ⟨Or.inr rfl, i1 (k1 (decide_eq_true h41) s M.1 a8)⟩, fun hc => absurd (nI_le hte (by omega)) hc⟩
        · have : tk t p ≤ 40 := by simpa using hd
          omega
theorem s_phr {B : Nat} {x : Int32} (ht : okT t) (T : TX t s) (G : gtOk s) (h8 : s.1 177 8 = -1) (hr : r ≤ 9999) (hH : H.length ≤ B) (hB : B ≤ 810) (h : HP H s) (hg : 11 * t.length + 31 ≤ g) (ex : x = nI r) (k1 : (ph t).1 = true → ∀ s', MR s (H ++ phv r t) r s' → s'.1 177 8 = -1 → Q 1 s') (k0 : (ph t).1 = false → ∀ s', s'.1 177 8 = nI (tb t (ph t).2.2) → (∃ H', MR s H' r s') → Q 0 s') : wpX12_readPhrase g x s Q := by
  have h80 := ht.1
  subst ex
  have C : CX t s := ⟨ht, T, G⟩
  unfold wpX12_readPhrase
  have f1 : fm [181] rF s (wi (wi s 177 15 (nI r)) 177 7 0) := (fm_wf (by decide)).tr (fm_wf (by decide))
  have M0 : MR s H r (wi (wi s 177 15 (nI r)) 177 7 0) := by
    refine ⟨f1, ⟨?_, fun i hi j hj => ?_⟩, ?_⟩
    · rw [wi_ne _ _ _ _ (by decide), wi_ne _ _ _ _ (by decide)]; exact h.1
    · rw [wi_na _ _ _ _ (by decide), wi_na _ _ _ _ (by decide)]; exact h.2 i hi j hj
    · rw [wi_ne _ _ _ _ (by decide), wi_at]
  refine m_go (p := 0) ht (M0.tx C) (by rw [wi_at]; rfl) (by rw [wi_ne _ _ _ _ (by decide), wi_ne _ _ _ _ (by decide)]; exact h8) (Nat.zero_le _) (fun s1 f2 A => ?_)
  have M1 : MS s t 0 H r s1 := ⟨M0.lx f2, A⟩
  obtain ⟨a1, a2, a3⟩ := far_prt (t := t) (p := 0) (Nat.zero_le _)
  have tb1 := tb_le a1
  have hv := prv_le (r := r) (t := t) (p := 0)
  unfold ph at k1 k0
  unfold phv at k1
  cases hs : (prt t 0).1 with
  | false =>
    rw [if_pos hs] at k1 k0
    refine ⟨g, 0, by omega, s_part C hr M1 (Nat.zero_le _) (by omega) (by rw [hs]; simp; omega) (fun h => by rw [hs] at h; cases h) (fun _ s2 D => ⟨1, ?_⟩)⟩
    obtain ⟨⟨H', M', _⟩, h8⟩ := D
    exact d_18 (by omega) h8 (k0 rfl s2 h8 ⟨H', M'⟩)
  | true =>
    rw [if_neg (by rw [hs]; decide)] at k1 k0
    have hp2 := prt2 (Nat.zero_le _) hs
    refine ⟨11 * (prt t 0).2.2, g - 11 * (prt t 0).2.2, by omega, s_part C hr M1 (Nat.zero_le _) (by omega) (by rw [hs]; simp) (fun _ hb s2 M2 => ⟨81, ?_⟩) (fun hb s2 D => ⟨81, ?_⟩)⟩
    · have hle : (pho t 81 (prt t 0).2.2).2.2 ≤ t.length := by
        have : ∀ n p, p ≤ t.length → (pho t n p).2.2 ≤ t.length := by
          intro n
          induction n with
          | zero => intro p hp; exact hp
          | succ n ihn =>
            intro p hp
            obtain ⟨a1, a2, a3⟩ := far_prt (te_le hp)
            rw [pho]
            split
            · split
              · exact a1
              · exact ihn (prt t (te t p)).2.2 a1
            · exact hp
        exact this 81 _ a1
      refine s_pho (B := B) C hr hB 81 _ _ s2 _ M2 a1 (by omega) (by rw [List.length_append]; omega) (by omega) (fun h3 s3 M3 => k1 h3 s3 ?_) (fun h3 => k0 h3)
      rw [List.append_assoc] at M3
      exact M3
    · have hb' : bd t (prt t 0).2.2 = true := hb.resolve_left (by rw [hs]; decide)
      have h40 := bd_40 hb'
      obtain ⟨⟨H', M', _⟩, h8⟩ := D
      rw [pho, if_neg (by omega)] at k0
      exact d_18 (by omega) h8 (k0 (decide_eq_false (by omega)) s2 h8 ⟨H', M'⟩)
end MPART
