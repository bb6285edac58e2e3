/-! order, goes -/
section MUT
variable {t : List Nat} {L : List Int32} {g g' : Sy} {us us' : List Sy} {ks : Nat → Option Sy} {s s' : gS} {K : gS → Prop} {N : Nat}
def adO (g : Sy) (k x y : Nat) : Sy := up (up (up (up g (188 + 3 * no g) (nI k)) (188 + 3 * no g + 1) (nI x)) (188 + 3 * no g + 2) (nI y)) 1 (nI (no g + 1))
def oEx (g : Sy) (k x y : Nat) : Prop := ∃ o, o < no g ∧ kd g o = k ∧ ox g o = x ∧ oy g o = y
theorem ad_h {k x y j : Nat} (h1 : j ≠ 1) (h2 : j < 188 + 3 * no g ∨ 188 + 3 * no g + 3 ≤ j) : adO g k x y j = g j := by
  unfold adO
  rw [up_ne _ _ h1, up_ne _ _ (by omega), up_ne _ _ (by omega), up_ne _ _ (by omega)]
theorem ad_no {k x y : Nat} (h : no g < 100) : no (adO g k x y) = no g + 1 := by
  show ix (adO g k x y 1) = _
  unfold adO
  rw [up_at]
  exact ix_nI (by omega)
theorem ad_v {k x y : Nat} (hk : k < 5) (hx : x < 6) (hy : y < 6) : kd (adO g k x y) (no g) = k ∧ ox (adO g k x y) (no g) = x ∧ oy (adO g k x y) (no g) = y ∧ adO g k x y (188 + 3 * no g) = nI k ∧ adO g k x y (188 + 3 * no g + 1) = nI x ∧ adO g k x y (188 + 3 * no g + 2) = nI y := by
  have e0 : adO g k x y (188 + 3 * no g) = nI k := by
    unfold adO
    rw [up_ne _ _ (by omega), up_ne _ _ (by omega), up_ne _ _ (by omega), up_at]
  have e1 : adO g k x y (188 + 3 * no g + 1) = nI x := by
    unfold adO
    rw [up_ne _ _ (by omega), up_ne _ _ (by omega), up_at]
  have e2 : adO g k x y (188 + 3 * no g + 2) = nI y := by
    unfold adO
    rw [up_ne _ _ (by omega), up_at]
  refine ⟨?_, ?_, ?_, e0, e1, e2⟩
  · unfold kd; rw [e0]; exact ix_nI (by omega)
  · unfold ox; rw [e1]; exact ix_nI (by omega)
  · unfold oy; rw [e2]; exact ix_nI (by omega)
theorem ad_o {k x y o : Nat} (h : o < no g) : kd (adO g k x y) o = kd g o ∧ ox (adO g k x y) o = ox g o ∧ oy (adO g k x y) o = oy g o := ⟨v_kd (ad_h (by omega) (by omega)), v_ox (ad_h (by omega) (by omega)), v_oy (ad_h (by omega) (by omega))⟩
theorem ok_ad {k x y N' : Nat} (O : okS N g) (hN : N ≤ 11) (hN' : no g + 1 ≤ N') (hk : k < 5) (hx : x < 6) (hy : y < 6) (hxy : x ≠ y) : okS N' (adO g k x y) := by
  have hn := O.2.1.2
  obtain ⟨v1, v2, v3, v4, v5, v6⟩ := ad_v (g := g) hk hx hy
  have hno : no (adO g k x y) = no g + 1 := ad_no (by omega)
  have hm : ∀ e, e < 6 → mn (adO g k x y) e = mn g e := fun e he => v_mn (ad_h (by omega) (by omega))
  refine ⟨?_, ⟨?_, ?_⟩, fun o ho => ?_, fun e he => ?_, fun e he i hi => ?_⟩
  · rw [ad_h (by omega) (by omega)]; exact O.1
  · rw [hno]
    unfold adO
    rw [up_at]
  · rw [hno]; exact hN'
  · rw [hno] at ho
    by_cases h : o = no g
    · subst h
      unfold okO
      rw [v1, v2, v3]
      exact ⟨v4, v5, v6, hk, hx, hy, hxy⟩
    · have ho2 : o < no g := by omega
      obtain ⟨w1, w2, w3⟩ := ad_o (g := g) (k := k) (x := x) (y := y) ho2
      have := O.2.2.1 o ho2
      unfold okO at *
      rw [w1, w2, w3, ad_h (by omega) (by omega), ad_h (by omega) (by omega), ad_h (by omega) (by omega)]
      exact this
  · rw [v_tl (ad_h (by omega) (by omega)), hm e he, ad_h (by omega) (by omega)]; exact O.2.2.2.1 e he
  · rw [hm e he] at hi
    have hm2 := (O.2.2.2.1 e he).2
    exact v_okR (fun w hw => ad_h (by omega) (by omega)) (O.2.2.2.2 e he i hi)
theorem re_ad {f : Sy} {k x y : Nat} (O : okS N g) (hN : N ≤ 11) (hn : no g < 11) (R : repC f g) (hk : k < 5) (hx : x < 6) (hy : y < 6) : repC (up (up f (3 + no g) (nI (100 * k + 10 * x + y))) 2 (nI (no g + 1))) (adO g k x y) := by
  obtain ⟨v1, v2, v3, v4, v5, v6⟩ := ad_v (g := g) hk hx hy
  have hno : no (adO g k x y) = no g + 1 := ad_no (by omega)
  have hm : ∀ e, e < 6 → mn (adO g k x y) e = mn g e := fun e he => v_mn (ad_h (by omega) (by omega))
  refine ⟨?_, ?_, ?_, fun o ho => ?_, fun e he => ⟨?_, ?_⟩, fun e he i hi w hw => ?_⟩
  · rw [up_ne _ _ (by omega), up_ne _ _ (by omega), ad_h (by omega) (by omega)]; exact R.1
  · rw [up_at]
    unfold adO
    rw [up_at]
  · rw [up_ne _ _ (by omega), up_ne _ _ (by omega), R.2.2.1]
    exact congrArg nI (bts_cg (fun e he => (v_tl (ad_h (by omega) (by omega))).symm))
  · rw [hno] at ho
    rw [up_ne _ _ (by omega)]
    by_cases h : o = no g
    · subst h
      rw [up_at]
      unfold cd
      rw [v1, v2, v3]
    · have ho2 : o < no g := by omega
      obtain ⟨w1, w2, w3⟩ := ad_o (g := g) (k := k) (x := x) (y := y) ho2
      rw [up_ne _ _ (by omega), R.2.2.2.1 o ho2]
      unfold cd
      rw [w1, w2, w3]
  · rw [hm e he, up_ne _ _ (by omega), up_ne _ _ (by omega)]; exact (R.2.2.2.2.1 e he).1
  · rw [up_ne _ _ (by omega), up_ne _ _ (by omega), (R.2.2.2.2.1 e he).2]
    exact congrArg nI (bts_cg (fun i hi => (v_inn (ad_h (by omega) (by omega)) (ad_h (by omega) (by omega))).symm))
  · rw [hm e he] at hi
    have hm2 := (O.2.2.2.1 e he).2
    rw [up_ne _ _ (by omega), up_ne _ _ (by omega), ad_h (by omega) (by omega)]
    exact R.2.2.2.2.2 e he i hi w hw
theorem c_addOrder {a k x y m : Nat} {Q : Int32 → gS → Prop} (O : okS N g) (hN : N ≤ m) (hm : m ≤ 11) (R : repC (s.1 (a + 1)) g) (hk : k < 5) (hx : x < 6) (hy : y < 6) (hxy : x ≠ y) (k2 : oEx g k x y → Q (-2) s) (k3 : ¬ oEx g k x y → no g = m → Q (-3) s) (k1 : ¬ oEx g k x y → no g < m → ∀ s', fR (fun c => c == a + 1) s s' → repC (s'.1 (a + 1)) (adO g k x y) → Q (nI (no g)) s') : wpX8_addOrder a (nI k) (nI x) (nI y) (nI m) s Q := by
  have hn := O.2.1.2
  unfold wpX8_addOrder
  rw [c_isEvent hx, c_isEvent hy, c_orders O R]
  have h5 : ¬ 5 ≤ nI k := by
    rw [show (5 : Int32) = nI 5 from rfl, nI_leI (by decide) (by omega)]
    omega
  have ec : 100 * nI k + 10 * nI x + nI y = nI (100 * k + 10 * x + y) := by
    simp only [lit_i, nI_i, iI_add, iI_mul]
    congr 1
  have hxy2 : ¬ nI x = nI y := by
    rw [nI_eq (by omega) (by omega)]
    exact hxy
  refine ⟨fun h => absurd h (nI_pos (by omega)), fun _ => ⟨fun h => absurd h h5, fun _ => ⟨fun h => absurd h (by decide), fun _ => ⟨fun h => absurd h (by decide), fun _ => ⟨fun _ => ?_, fun h => absurd h hxy2⟩⟩⟩⟩⟩
  rw [ec]
  have hcd : ∀ o, o < no g → (cd g o = 100 * k + 10 * x + y ↔ kd g o = k ∧ ox g o = x ∧ oy g o = y) := by
    intro o ho
    obtain ⟨-, -, -, h1, h2, h3, -⟩ := O.2.2.1 o ho
    unfold cd
    omega
  have Lp : ∀ n i, i + n = no g → (∀ o, o < i → ¬ cd g o = 100 * k + 10 * x + y) → wX8_addOrder_52 a (nI k) (nI x) (nI y) (nI m) Q (n + 1) (nI (100 * k + 10 * x + y)) (nI (no g)) (nI i) s := by
    intro n
    induction n with
    | zero =>
      intro i hi hnone
      have : i = no g := by omega
      subst this
      have hne : ¬ oEx g k x y := fun ⟨o, h1, h2⟩ => hnone o h1 ((hcd o h1).mpr h2)
      rw [wX8_addOrder_52]
      refine ⟨fun _ => ⟨fun h => absurd h (nI_pos (by omega)), fun _ => ?_⟩, fun h => absurd (nI_le (Nat.le_refl _) (by omega)) h⟩
      rw [nI_leI (by omega) (by omega), show (11 : Int32) = nI 11 from rfl, nI_ltI (by omega) (by decide)]
      refine ⟨fun h => k3 hne (by omega), fun h => ⟨fun _ => ?_, fun h2 => by omega⟩⟩
      have e1 : 3 + nI (no g) = nI (3 + no g) := nI_add 3 (no g)
      rw [e1, ix_nI (by omega), nI_1]
      refine ⟨vp_in_nI (by omega) (by decide), k1 hne (by omega) _ (fR.tr (fR_wi (by simp)) (fR_wi (by simp))) ?_⟩
      rw [wi_up, wi_up]
      exact re_ad O (by omega) (by omega) R hk hx hy
    | succ n ih =>
      intro i hi hnone
      rw [wX8_addOrder_52]
      refine ⟨fun h => ?_, fun _ => ?_⟩
      · rw [nI_leI (by omega) (by omega)] at h; omega
      · rw [c_code (by omega) O R (by omega), nI_1]
        have hlt : cd g i < 2 ^ 31 := by
          obtain ⟨-, -, -, h1, h2, h3, -⟩ := O.2.2.1 i (by omega)
          unfold cd
          omega
        rw [nI_eq hlt (by omega)]
        refine ⟨fun h => ih (i + 1) (by omega) (fun o ho => ?_), fun h => k2 ⟨i, by omega, (hcd i (by omega)).mp h⟩⟩
        by_cases hoi : o = i
        · subst hoi; exact h
        · exact hnone o (by omega)
  exact ⟨no g + 1, Lp (no g) 0 (by omega) (fun o ho => by omega)⟩
/-- three ints that are an order, or not -/
def oBad (a b c : Int32) : Prop := (a < 0 ∨ 5 ≤ a) ∨ (b < 0 ∨ 6 ≤ b) ∨ (c < 0 ∨ 6 ≤ c) ∨ b = c
theorem o_or (a b c : Int32) : (∃ k x y, k < 5 ∧ x < 6 ∧ y < 6 ∧ x ≠ y ∧ a = nI k ∧ b = nI x ∧ c = nI y) ∨ oBad a b c := by
  rcases ev_or a 5 (by decide) with ⟨k, hk, rfl⟩ | ha
  · rcases ev_or b 6 (by decide) with ⟨x, hx, rfl⟩ | hb
    · rcases ev_or c 6 (by decide) with ⟨y, hy, rfl⟩ | hc
      · by_cases h : x = y
        · exact Or.inr (Or.inr (Or.inr (Or.inr (by rw [h]))))
        · exact Or.inl ⟨k, x, y, hk, hx, hy, h, rfl, rfl, rfl⟩
      · exact Or.inr (Or.inr (Or.inr (Or.inl hc)))
    · exact Or.inr (Or.inr (Or.inl hb))
  · exact Or.inr (Or.inl ha)
theorem c_addOrder0 {a : Nat} {x1 x2 x3 x4 : Int32} {Q : Int32 → gS → Prop} (h : oBad x1 x2 x3) (k : Q (-1) s) : wpX8_addOrder a x1 x2 x3 x4 s Q := by
  unfold wpX8_addOrder
  by_cases h1 : x1 < 0
  · exact ⟨fun _ => k, fun h => absurd h1 h⟩
  refine ⟨fun h => absurd h h1, fun _ => ?_⟩
  by_cases h2 : 5 ≤ x1
  · exact ⟨fun _ => k, fun h => absurd h2 h⟩
  refine ⟨fun h => absurd h h2, fun _ => ?_⟩
  rcases ev_or x2 6 (by decide) with ⟨x, hx, rfl⟩ | hb
  · rw [c_isEvent hx]
    refine ⟨fun h => absurd h (by decide), fun _ => ?_⟩
    rcases ev_or x3 6 (by decide) with ⟨y, hy, rfl⟩ | hc
    · rw [c_isEvent hy]
      refine ⟨fun h => absurd h (by decide), fun _ => ⟨fun h5 => ?_, fun _ => k⟩⟩
      rcases h with (h | h) | (h | h) | (h | h) | h
      · exact absurd h h1
      · exact absurd h h2
      · exact absurd h (nI_pos (by omega))
      · exact absurd h (by rw [ge6 hx]; exact id)
      · exact absurd h (nI_pos (by omega))
      · exact absurd h (by rw [ge6 hy]; exact id)
      · exact absurd h h5
    · rw [c_isEvent0 hc]
      exact ⟨fun _ => k, fun h => absurd rfl h⟩
  · rw [c_isEvent0 hb]
    exact ⟨fun _ => k, fun h => absurd rfl h⟩
theorem m_isOrder {k x y : Nat} {Q : Int32 → gS → Prop} (hk : k < 5) (hx : x < 6) (hy : y < 6) (hxy : x ≠ y) (kk : Q 1 s) : wpX12_isOrder (nI k) (nI x) (nI y) s Q := by
  unfold wpX12_isOrder
  rw [show (4 : Int32) = nI 5 - 1 from by decide, m_in0 (by decide), or_in hk (by decide), m_isEvent hx, m_isEvent hy]
  have hxy2 : ¬ nI x = nI y := by
    rw [nI_eq (by omega) (by omega)]
    exact hxy
  exact ⟨fun h => absurd h (by decide), fun _ => ⟨fun h => absurd h (by decide), fun _ => ⟨fun h => absurd h (by decide), fun _ => ⟨fun h => absurd h hxy2, fun _ => kk⟩⟩⟩⟩
theorem m_isOrder0 {x1 x2 x3 : Int32} {Q : Int32 → gS → Prop} (h : oBad x1 x2 x3) (k : Q 0 s) : wpX12_isOrder x1 x2 x3 s Q := by
  unfold wpX12_isOrder
  rcases ev_or x1 5 (by decide) with ⟨kk, hk, rfl⟩ | ha
  · rw [show (4 : Int32) = nI 5 - 1 from by decide, m_in0 (by decide), or_in hk (by decide)]
    refine ⟨fun h => absurd h (by decide), fun _ => ?_⟩
    rcases ev_or x2 6 (by decide) with ⟨x, hx, rfl⟩ | hb
    · rw [m_isEvent hx]
      refine ⟨fun h => absurd h (by decide), fun _ => ?_⟩
      rcases ev_or x3 6 (by decide) with ⟨y, hy, rfl⟩ | hc
      · rw [m_isEvent hy]
        refine ⟨fun h => absurd h (by decide), fun _ => ⟨fun _ => k, fun h5 => ?_⟩⟩
        rcases h with (h | h) | (h | h) | (h | h) | h
        · exact absurd h (nI_pos (by omega))
        · rw [show (5 : Int32) = nI 5 from rfl, nI_leI (by decide) (by omega)] at h; omega
        · exact absurd h (nI_pos (by omega))
        · exact absurd h (by rw [ge6 hx]; exact id)
        · exact absurd h (nI_pos (by omega))
        · exact absurd h (by rw [ge6 hy]; exact id)
        · exact absurd h h5
      · rw [m_isEvent0 hc]
        exact ⟨fun _ => k, fun h => absurd rfl h⟩
    · rw [m_isEvent0 hb]
      exact ⟨fun _ => k, fun h => absurd rfl h⟩
  · rw [show (4 : Int32) = nI 5 - 1 from by decide, m_in0 (by decide), or_out ha]
    exact ⟨fun _ => k, fun h => absurd rfl h⟩
theorem m_refO {k x y : Nat} {Q : Int32 → gS → Prop} (M : s.1 178 = g) (O : okS 10 g) (hk : k < 5) (hx : x < 6) (hy : y < 6) (hxy : x ≠ y) (k2 : oEx g k x y → Q (-2) s) (k3 : ¬ oEx g k x y → no g = 10 → Q (-3) s) (k1 : ¬ oEx g k x y → no g < 10 → Q 0 s) : wpX12_refusesOrder (nI k) (nI x) (nI y) s Q := by
  have hn := O.2.1.2
  have en : gi s 178 1 = nI (no g) := by rw [← O.2.1.1, ← M]; rfl
  unfold wpX12_refusesOrder
  refine m_isOrder hk hx hy hxy ⟨fun _ => ⟨no g + 1, ?_⟩, fun h => absurd h (by decide)⟩
  have Lp : ∀ n i, i + n = no g → (∀ o, o < i → ¬ (kd g o = k ∧ ox g o = x ∧ oy g o = y)) → wX12_refusesOrder_15 (nI k) (nI x) (nI y) Q (n + 1) (nI i) s := by
    intro n
    induction n with
    | zero =>
      intro i hi hnone
      have : i = no g := by omega
      subst this
      have hne : ¬ oEx g k x y := fun ⟨o, h1, h2⟩ => hnone o h1 h2
      rw [wX12_refusesOrder_15, en]
      refine ⟨fun _ => ?_, fun h => absurd (nI_le (Nat.le_refl _) (by omega)) h⟩
      rw [show (10 : Int32) = nI 10 from rfl, nI_eq (by omega) (by decide)]
      exact ⟨fun h => k1 hne (by omega), fun h => k3 hne h⟩
    | succ n ih =>
      intro i hi hnone
      obtain ⟨c1, c2, c3, c4, c5, c6, c7⟩ := O.2.2.1 i (by omega)
      have a0 : 188 + 3 * nI i = nI (188 + 3 * i) := by
        simp only [lit_i, nI_i, iI_add, iI_mul]
        congr 1
      have a1 : nI (188 + 3 * i) + 1 = nI (188 + 3 * i + 1) := nI_1 _
      have a2 : nI (188 + 3 * i) + 2 = nI (188 + 3 * i + 2) := nI_add _ 2
      have b0 : gi s 178 (188 + 3 * i) = nI (kd g i) := by rw [← c1, ← M]; rfl
      have b1 : gi s 178 (188 + 3 * i + 1) = nI (ox g i) := by rw [← c2, ← M]; rfl
      have b2 : gi s 178 (188 + 3 * i + 2) = nI (oy g i) := by rw [← c3, ← M]; rfl
      have next : ¬ (kd g i = k ∧ ox g i = x ∧ oy g i = y) → wX12_refusesOrder_15 (nI k) (nI x) (nI y) Q (n + 1) (nI (i + 1)) s := fun h => ih (i + 1) (by omega) (fun o ho => by
        by_cases hoi : o = i
        · subst hoi; exact h
        · exact hnone o (by omega))
      rw [wX12_refusesOrder_15, en]
      refine ⟨fun h => ?_, fun _ => ?_⟩
      · rw [nI_leI (by omega) (by omega)] at h; omega
      · simp only [a0, a1, a2, ix_nI (show 188 + 3 * i < 2 ^ 31 by omega), ix_nI (show 188 + 3 * i + 1 < 2 ^ 31 by omega), ix_nI (show 188 + 3 * i + 2 < 2 ^ 31 by omega), b0, b1, b2, vp_in_nI (show 188 + 3 * i < 218 by omega) (show 218 < 2 ^ 31 by decide), vp_in_nI (show 188 + 3 * i + 1 < 218 by omega) (show 218 < 2 ^ 31 by decide), vp_in_nI (show 188 + 3 * i + 2 < 218 by omega) (show 218 < 2 ^ 31 by decide), true_and, nI_1, nI_eq (show kd g i < 2 ^ 31 by omega) (show k < 2 ^ 31 by omega), nI_eq (show ox g i < 2 ^ 31 by omega) (show x < 2 ^ 31 by omega), nI_eq (show oy g i < 2 ^ 31 by omega) (show y < 2 ^ 31 by omega)]
        refine ⟨fun h => next (fun h2 => h h2.1), fun h => ⟨fun h2 => next (fun h3 => h2 h3.2.1), fun h2 => ⟨fun h3 => next (fun h4 => h3 h4.2.2), fun h3 => k2 ⟨i, by omega, h, h2, h3⟩⟩⟩⟩
  exact Lp (no g) 0 (by omega) (fun o ho => by omega)
theorem m_refO0 {x1 x2 x3 : Int32} {Q : Int32 → gS → Prop} (h : oBad x1 x2 x3) (k : Q (-1) s) : wpX12_refusesOrder x1 x2 x3 s Q := by
  unfold wpX12_refusesOrder
  exact m_isOrder0 h ⟨fun h => absurd rfl h, fun _ => k⟩
theorem m_goOrder {k x y : Nat} {Q : gS → Prop} (M : s.1 178 = g) (O : okS 10 g) (hn : no g < 10) (kk : ∀ s', fm [178] [] s s' → s'.1 178 = adO g k x y → Q s') : wpX12_goOrder (nI k) (nI x) (nI y) s Q := by
  have en : gi s 178 1 = nI (no g) := by rw [← O.2.1.1, ← M]; rfl
  unfold wpX12_goOrder
  have a0 : 188 + 3 * nI (no g) = nI (188 + 3 * no g) := by
    simp only [lit_i, nI_i, iI_add, iI_mul]
    congr 1
  have a1 : nI (188 + 3 * no g) + 1 = nI (188 + 3 * no g + 1) := nI_1 _
  have a2 : nI (188 + 3 * no g) + 2 = nI (188 + 3 * no g + 2) := nI_add _ 2
  rw [en, a0, a1, a2, ix_nI (by omega), ix_nI (by omega), ix_nI (by omega)]
  refine ⟨vp_in_nI (by omega) (by decide), vp_in_nI (by omega) (by decide), vp_in_nI (by omega) (by decide), ?_⟩
  rw [show gi (wi (wi (wi s 178 (188 + 3 * no g) (nI k)) 178 (188 + 3 * no g + 1) (nI x)) 178 (188 + 3 * no g + 2) (nI y)) 178 1 = nI (no g) from by
    show (wi (wi (wi s 178 (188 + 3 * no g) (nI k)) 178 (188 + 3 * no g + 1) (nI x)) 178 (188 + 3 * no g + 2) (nI y)).1 178 1 = _
    rw [wi_ne _ _ _ _ (by omega), wi_ne _ _ _ _ (by omega), wi_ne _ _ _ _ (by omega)]
    exact en, nI_1]
  refine kk _ (fm.tr (fm_wi (by decide) (by decide)) (fm.tr (fm_wi (by decide) (by decide)) (fm.tr (fm_wi (by decide) (by decide)) (fm_wi (by decide) (by decide))))) ?_
  rw [wi_up, wi_up, wi_up, wi_up, M]
  rfl
theorem ok_adU {k x y : Nat} (O : okU g) (hn : no g < 10) (hk : k < 5) (hx : x < 6) (hy : y < 6) (hxy : x ≠ y) : okU (adO g k x y) := ⟨ok_ad O.1 (by decide) (by omega) hk hx hy hxy, fun j hj => by rw [ad_h (by omega) (by omega)]; exact O.2 j hj⟩
theorem S_order {x1 x2 x3 : Int32} (A : okA t L g us ks) (C : CI t L g us ks s) (M : MI t L g us ks s) (kk : KK t K) : wpX11_order x1 x2 x3 s (fun r s1 => wpX12_order x1 x2 x3 s1 (eqK K r)) := by
  have O := A.2.2.1.1
  have hn := O.2.1.2
  have M0 : ∀ s1, MI t L g us ks s1 → (wi s1 177 5 0).1 178 = g := fun s1 h => by rw [wi_na _ _ _ _ (by decide)]; exact h.2.2.1
  rcases o_or x1 x2 x3 with ⟨k, x, y, hk, hx, hy, hxy, rfl, rfl, rfl⟩ | hb
  · by_cases hex : oEx g k x y
    · refine S_m0 (r := -2) (WO := wpX8_addOrder 20 (nI k) (nI x) (nI y) (nI 10)) (WM := wpX12_order (nI k) (nI x) (nI y)) A C M kk (by decide) (fun s1 R1 Q kq => c_addOrder O (Nat.le_refl _) (by decide) R1 hk hx hy hxy (fun _ => kq) (fun h => absurd hex h) (fun h => absurd hex h)) (fun s1 M1 Q kq => ?_)
      unfold wpX12_order
      refine m_refO (M0 s1 M1) O hk hx hy hxy (fun _ => ?_) (fun h => absurd hex h) (fun h => absurd hex h)
      exact ⟨fun h => absurd h (by decide), fun _ => qM_th M1 kq⟩
    · by_cases h10 : no g = 10
      · refine S_m0 (r := -3) (WO := wpX8_addOrder 20 (nI k) (nI x) (nI y) (nI 10)) (WM := wpX12_order (nI k) (nI x) (nI y)) A C M kk (by decide) (fun s1 R1 Q kq => c_addOrder O (Nat.le_refl _) (by decide) R1 hk hx hy hxy (fun h => absurd h hex) (fun _ _ => kq) (fun _ h => by omega)) (fun s1 M1 Q kq => ?_)
        unfold wpX12_order
        refine m_refO (M0 s1 M1) O hk hx hy hxy (fun h => absurd h hex) (fun _ _ => ?_) (fun _ h => by omega)
        exact ⟨fun h => absurd h (by decide), fun _ => qM_th M1 kq⟩
      · have h9 : no g < 10 := by omega
        refine S_m1 (r := nI (no g)) (g' := adO g k x y) (WO := wpX8_addOrder 20 (nI k) (nI x) (nI y) (nI 10)) (WM := wpX12_order (nI k) (nI x) (nI y)) A C M kk (nI_nn (by omega)) (ok_adU A.2.2.1 h9 hk hx hy hxy) (fun s1 R1 Q kq => c_addOrder O (Nat.le_refl _) (by decide) R1 hk hx hy hxy (fun h => absurd h hex) (fun _ h => absurd h h10) (fun _ _ s' f R' => kq s' f R')) (fun s1 M1 Q kq => ?_)
        unfold wpX12_order
        refine m_refO (M0 s1 M1) O hk hx hy hxy (fun h => absurd h hex) (fun _ h => absurd h h10) (fun _ _ => ?_)
        refine ⟨fun _ => ?_, fun h => absurd (by decide) h⟩
        refine m_chg A M1 (fun s2 f2 h2 P2 R2 => ?_)
        refine m_goOrder h2 O h9 (fun s3 f3 h3 => ?_)
        have e1 : gi s3 178 1 - 1 = nI (no g) := by
          rw [show gi s3 178 1 = nI (no g + 1) from by
            show s3.1 178 1 = _
            rw [h3]
            unfold adO
            rw [up_at]]
          exact nI_pred _
        rw [e1]
        exact kq s3 (f2.tr (f3.mono (by decide) (by decide))) h3 (P2.cg (f3.2.1 26 (by decide)) (f3.1 187 (by decide) (by decide))) (R2.cg (f3.2.1 4 (by decide)) (f3.2.2.1 180 (by decide)))
  · refine S_m0 (r := -1) (WO := wpX8_addOrder 20 x1 x2 x3 10) (WM := wpX12_order x1 x2 x3) A C M kk (by decide) (fun s1 R1 Q k => c_addOrder0 hb k) (fun s1 M1 Q k => ?_)
    unfold wpX12_order
    refine m_refO0 hb ?_
    exact ⟨fun h => absurd h (by decide), fun _ => qM_th M1 k⟩
end MUT
