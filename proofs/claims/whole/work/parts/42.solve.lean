/-! the class's solver: what it lays out -/
section LAYOUT
variable {a so N : Nat} {s : gS} {g : Nat → Int32}
theorem c_vA0 {Q : Int32 → gS → Prop} {e i : Nat} (h : e < 6) (hi : i < 6) : wpX8_value a (nI e) (nI i) 0 s Q = Q (s.1 (a + 1) (26 + 24 * e + 4 * i)) s := c_valueA (w := 0) h hi (by decide)
theorem c_vA1 {Q : Int32 → gS → Prop} {e i : Nat} (h : e < 6) (hi : i < 6) : wpX8_value a (nI e) (nI i) 1 s Q = Q (s.1 (a + 1) (26 + 24 * e + 4 * i + 1)) s := c_valueA (w := 1) h hi (by decide)
theorem c_vA3 {Q : Int32 → gS → Prop} {e i : Nat} (h : e < 6) (hi : i < 6) : wpX8_value a (nI e) (nI i) 3 s Q = Q (s.1 (a + 1) (26 + 24 * e + 4 * i + 3)) s := c_valueA (w := 3) h hi (by decide)
theorem c_v0 {e i : Nat} (R : repC (s.1 (a + 1)) g) (h : e < 6) (hi : i < mn g e) : s.1 (a + 1) (26 + 24 * e + 4 * i) = iI (vl g e i 0) := by
  show s.1 (a + 1) (26 + 24 * e + 4 * i + 0) = iI (vl g e i 0)
  rw [R.2.2.2.2.2 e h i hi 0 (by decide)]
  exact i_of _
theorem c_v1 {e i : Nat} (R : repC (s.1 (a + 1)) g) (h : e < 6) (hi : i < mn g e) : s.1 (a + 1) (26 + 24 * e + 4 * i + 1) = iI (vl g e i 1) := by
  rw [R.2.2.2.2.2 e h i hi 1 (by decide)]
  exact i_of _
theorem c_v3 {e i : Nat} (R : repC (s.1 (a + 1)) g) (h : e < 6) (hi : i < mn g e) : s.1 (a + 1) (26 + 24 * e + 4 * i + 3) = iI (vl g e i 3) := by
  rw [R.2.2.2.2.2 e h i hi 3 (by decide)]
  exact i_of _
theorem c_holdsA {Q : Int32 → gS → Prop} {x0 x1 x2 x3 x4 : Int32} (k0 : Q 0 s) (k1 : Q 1 s) : wpX8_holds x0 x1 x2 x3 x4 s Q := by
  unfold wpX8_holds
  exact ⟨fun _ => ⟨fun _ => k0, fun _ => k1⟩, fun _ => ⟨fun _ => k0, fun _ => ⟨fun _ => k0, fun _ => k1⟩⟩, fun _ => ⟨fun _ => k0, fun _ => ⟨fun _ => k0, fun _ => k1⟩⟩, fun _ => ⟨fun _ => k0, fun _ => k1⟩, fun _ _ _ _ => ⟨fun _ => k0, fun _ => ⟨fun _ => k0, fun _ => k1⟩⟩⟩
/-- how an order holds by readings of its events -/
def hh (g : Nat → Int32) (o i k : Nat) : Bool := hld (kd g o) (vl g (ox g o) i 0) (vl g (ox g o) i 1) (vl g (oy g o) k 0) (vl g (oy g o) k 1)
theorem c_bth {Q : Int32 → gS → Prop} {o i : Nat} (O : okS N g) (R : repC (s.1 (a + 1)) g) (ho : o < no g) (hi : i < 6) (K : ∀ p : Nat → Bool, (i < mn g (ox g o) → ∀ k, k < mn g (oy g o) → p k = hh g o i k) → Q (nI (bts 6 p)) s) : wpX8_bitsThatHold a (nI (cd g o)) (nI i) s Q := by
  obtain ⟨-, -, -, h1, h2, h3, -⟩ := O.2.2.1 o ho
  obtain ⟨e1, e2, e3⟩ := cd_y h1 h2 h3
  have hmy := (O.2.2.2.1 _ h3).2
  unfold wpX8_bitsThatHold
  rw [show cd g o = 100 * kd g o + 10 * ox g o + oy g o from rfl, e1, e2, c_vA0 h2 hi, c_vA1 h2 hi]
  have L : ∀ n k, k + n = 6 → ∀ p : Nat → Bool, (i < mn g (ox g o) → ∀ j, j < k → j < mn g (oy g o) → p j = hh g o i j) → wX8_bitsThatHold_38 a (nI (100 * kd g o + 10 * ox g o + oy g o)) (nI i) Q (n + 1) (nI (oy g o)) (s.1 (a + 1) (26 + 24 * ox g o + 4 * i)) (s.1 (a + 1) (26 + 24 * ox g o + 4 * i + 1)) (nI (bts k p)) (nI k) s := by
    intro n
    induction n with
    | zero =>
      intro k hk p hp
      have : k = 6 := by omega
      subst this
      rw [wX8_bitsThatHold_38]
      exact ⟨fun _ => K p (fun hix j hj => hp hix j (by omega) hj), fun h => absurd (by decide) h⟩
    | succ n ih =>
      intro k hk p hp
      have hk6 : k < 6 := by omega
      rw [wX8_bitsThatHold_38, c_vA0 h3 hk6, c_vA1 h3 hk6, e3, nI_1]
      simp only [ge6 hk6, false_implies, true_and, not_false_eq_true, true_implies]
      have step : ∀ b : Bool, (i < mn g (ox g o) → k < mn g (oy g o) → b = hh g o i k) → ((bi b = 0 → wX8_bitsThatHold_38 a (nI (100 * kd g o + 10 * ox g o + oy g o)) (nI i) Q (n + 1) (nI (oy g o)) (s.1 (a + 1) (26 + 24 * ox g o + 4 * i)) (s.1 (a + 1) (26 + 24 * ox g o + 4 * i + 1)) (nI (bts k p)) (nI (k + 1)) s) ∧ (¬ (bi b = 0) → wX8_bitsThatHold_38 a (nI (100 * kd g o + 10 * ox g o + oy g o)) (nI i) Q (n + 1) (nI (oy g o)) (s.1 (a + 1) (26 + 24 * ox g o + 4 * i)) (s.1 (a + 1) (26 + 24 * ox g o + 4 * i + 1)) (nI (bts k p) ||| jshl 1 (nI k)) (nI (k + 1)) s)) := by
        intro b hb
        have hcg : bts k (fun j => if j = k then b else p j) = bts k p := bts_cg (fun j hj => by
          have : ¬ j = k := by omega
          simp [this])
        have hpp : i < mn g (ox g o) → ∀ j, j < k + 1 → j < mn g (oy g o) → (fun j => if j = k then b else p j) j = hh g o i j := by
          intro hix j hj hjy
          by_cases hjk : j = k
          · subst hjk
            simp
            exact hb hix hjy
          · simp [hjk]
            exact hp hix j (by omega) hjy
        have := ih (k + 1) (by omega) (fun j => if j = k then b else p j) hpp
        rw [bts_s, hcg] at this
        rw [bts_st (by omega)]
        cases b with
        | false =>
          refine ⟨fun _ => ?_, fun h => absurd rfl h⟩
          simpa using this
        | true =>
          refine ⟨fun h => absurd h (by decide), fun _ => ?_⟩
          simpa using this
      by_cases hc : i < mn g (ox g o) ∧ k < mn g (oy g o)
      · rw [c_v0 R h2 hc.1, c_v1 R h2 hc.1, c_v0 R h3 hc.2, c_v1 R h3 hc.2] at *
        obtain ⟨b1, b2⟩ := okS_r O h2 hc.1
        obtain ⟨b3, b4⟩ := okS_r O h3 hc.2
        rw [c_holds h1 b1 b2 b3 b4]
        exact step _ (fun _ _ => rfl)
      · exact c_holdsA (step false (fun h1 h2 => absurd ⟨h1, h2⟩ hc)) (step true (fun h1 h2 => absurd ⟨h1, h2⟩ hc))
  exact ⟨7, L 6 0 rfl (fun _ => false) (fun _ j hj => by omega)⟩
def fo (so : Nat) (s s' : gS) : Prop := (∀ a, ¬ (so ≤ a ∧ a < so + 50) → s'.1 a = s.1 a) ∧ s'.2 = s.2
theorem fo.rf {s : gS} : fo so s s := ⟨fun _ _ => rfl, rfl⟩
theorem fo.tr {s s1 s2 : gS} (h : fo so s s1) (h2 : fo so s1 s2) : fo so s s2 := ⟨fun a d => (h2.1 a d).trans (h.1 a d), h2.2.trans h.2⟩
theorem fo_wi {s : gS} {a i : Nat} {v : Int32} (h1 : so ≤ a) (h2 : a < so + 50) : fo so s (wi s a i v) := ⟨fun b hb => wi_na _ _ _ _ (by omega), rfl⟩
theorem fo_fS {d : Nat} {s s' : gS} (h : fS so d s s') : fo so s s' := ⟨fun a ha => h.1 a (by omega) (by omega), h.2.2⟩
theorem c_lay68 {Q : gS → Prop} {k29 : Int32 → gS → Prop} {x2 y : Int32} {pl : Nat} (hp : pl < 36) : ∀ n k, k + n = 6 → ∀ s : gS, (∀ j, j < k → s.1 (so + 3 + 1 + pl) j = 63) → (∀ s', (∀ b, b ≠ so + 3 + 1 + pl → s'.1 b = s.1 b) → s'.2 = s.2 → (∀ j, j < 6 → s'.1 (so + 3 + 1 + pl) j = 63) → k29 (y + 1) s') → wX7_layOut_68 so a x2 Q k29 (n + 1) y (nI pl) (nI k) s := by
  intro n
  induction n with
  | zero =>
    intro k hk s h K
    have : k = 6 := by omega
    subst this
    rw [wX7_layOut_68]
    exact ⟨fun _ => K s (fun _ _ => rfl) rfl h, fun h => absurd (by decide) h⟩
  | succ n ih =>
    intro k hk s h K
    have hk6 : k < 6 := by omega
    rw [wX7_layOut_68, nI_1 k]
    simp only [ge6 hk6, ix_nI (show k < 2 ^ 31 by omega), ix_nI (show pl < 2 ^ 31 by omega), vp_in_nI hp (show 36 < 2 ^ 31 by decide), vp_in_nI hk6 (show 6 < 2 ^ 31 by decide), false_implies, true_and, not_false_eq_true, true_implies]
    refine ih (k + 1) (by omega) _ (fun j hj => ?_) (fun s' f1 f2 f3 => K s' (fun b hb => (f1 b hb).trans (wi_na _ _ _ _ hb)) f2 f3)
    by_cases hjk : j = k
    · subst hjk; rw [wi_at]
    · rw [wi_ne _ _ _ _ hjk]; exact h j (by omega)
def dn (so : Nat) (g : Nat → Int32) (e j : Nat) (s : gS) : Prop := (j < mn g e → s.1 (so + 2) (6 * e + j) = iI (vl g e j 3)) ∧ s.1 (so + 49) (6 * e + j) = 0 ∧ ∀ k, k < 6 → s.1 (so + 3 + 1 + (6 * e + j)) k = 63
theorem c_lay29 {Q : gS → Prop} {e : Nat} (hso : a + 1 < so) (he : e < 6) : ∀ n i, i + n = 6 → ∀ s : gS, repC (s.1 (a + 1)) g → (∀ j, j < i → dn so g e j s) → (∀ s', (∀ b, b ≠ so + 2 → b ≠ so + 49 → ¬ (so + 3 + 1 + 6 * e ≤ b ∧ b < so + 3 + 1 + 6 * e + 6) → s'.1 b = s.1 b) → (∀ k, ¬ (6 * e ≤ k ∧ k < 6 * e + 6) → s'.1 (so + 2) k = s.1 (so + 2) k ∧ s'.1 (so + 49) k = s.1 (so + 49) k) → s'.2 = s.2 → (∀ j, j < 6 → dn so g e j s') → Q s') → wX7_layOut_29 so a (nI e) Q (n + 1) (nI i) s := by
  intro n
  induction n with
  | zero =>
    intro i hi s R h K
    have : i = 6 := by omega
    subst this
    rw [wX7_layOut_29]
    exact ⟨fun _ => K s (fun _ _ _ _ => rfl) (fun _ _ => ⟨rfl, rfl⟩) rfl h, fun h => absurd (by decide) h⟩
  | succ n ih =>
    intro i hi s R h K
    have hi6 : i < 6 := by omega
    have e1 : nI e * 6 + nI i = nI (6 * e + i) := by
      simp only [lit_i, nI_i, iI_add, iI_mul]
      congr 1
      simp
      omega
    rw [wX7_layOut_29, c_vA3 he hi6]
    simp only [ge6 hi6, e1, ix_nI (show 6 * e + i < 2 ^ 31 by omega), vp_in_nI (show 6 * e + i < 36 by omega) (show 36 < 2 ^ 31 by decide), false_implies, true_and, not_false_eq_true, true_implies]
    refine ⟨7, c_lay68 (by omega) 6 0 rfl _ (fun j hj => by omega) (fun s' f1 f2 f3 => ?_)⟩
    rw [nI_1]
    have g49 : s'.1 (so + 49) = (wi (wi s (so + 2) (6 * e + i) (s.1 (a + 1) (26 + 24 * e + 4 * i + 3))) (so + 49) (6 * e + i) 0).1 (so + 49) := f1 _ (by omega)
    have g2 : s'.1 (so + 2) = (wi s (so + 2) (6 * e + i) (s.1 (a + 1) (26 + 24 * e + 4 * i + 3))).1 (so + 2) := (f1 _ (by omega)).trans (wi_na _ _ _ _ (by omega))
    have g0 : ∀ b, b ≠ so + 2 → b ≠ so + 49 → b ≠ so + 3 + 1 + (6 * e + i) → s'.1 b = s.1 b := fun b h1 h2 h3 => ((f1 b h3).trans (wi_na _ _ _ _ h2)).trans (wi_na _ _ _ _ h1)
    refine ih (i + 1) (by omega) s' (by rw [g0 _ (by omega) (by omega) (by omega)]; exact R) (fun j hj => ?_) (fun s2 k1 k2 k3 k4 => K s2 (fun b h1 h2 h3 => ?_) (fun k hk => ?_) (k3.trans f2) k4)
    · by_cases hji : j = i
      · subst hji
        refine ⟨fun hm => ?_, ?_, f3⟩
        · rw [g2, wi_at]
          exact c_v3 R he hm
        · rw [g49, wi_at]
      · obtain ⟨d1, d2, d3⟩ := h j (by omega)
        refine ⟨fun hm => ?_, ?_, fun k hk => ?_⟩
        · rw [g2, wi_ne _ _ _ _ (by omega)]; exact d1 hm
        · rw [g49, wi_ne _ _ _ _ (by omega), wi_na _ _ _ _ (by omega)]; exact d2
        · rw [g0 _ (by omega) (by omega) (by omega)]; exact d3 k hk
    · rw [k1 b h1 h2 h3, g0 b h1 h2 (by omega)]
    · rw [(k2 k hk).1, (k2 k hk).2, g2, g49, wi_ne _ _ _ _ (by omega), wi_ne _ _ _ _ (by omega), wi_na _ _ _ _ (by omega)]
      exact ⟨rfl, rfl⟩
theorem c_layOut {Q : gS → Prop} {e : Nat} (hso : a + 1 < so) (he : e < 6) (R : repC (s.1 (a + 1)) g) (K : ∀ s', (∀ b, b ≠ so + 2 → b ≠ so + 47 → b ≠ so + 48 → b ≠ so + 49 → b ≠ so + 40 + 1 + 0 → ¬ (so + 3 + 1 + 6 * e ≤ b ∧ b < so + 3 + 1 + 6 * e + 6) → s'.1 b = s.1 b) → (∀ k, ¬ (6 * e ≤ k ∧ k < 6 * e + 6) → s'.1 (so + 2) k = s.1 (so + 2) k ∧ s'.1 (so + 49) k = s.1 (so + 49) k) → (∀ k, k ≠ e → s'.1 (so + 47) k = s.1 (so + 47) k ∧ s'.1 (so + 48) k = s.1 (so + 48) k ∧ s'.1 (so + 40 + 1 + 0) k = s.1 (so + 40 + 1 + 0) k) → s'.2 = s.2 → (∀ j, j < 6 → dn so g e j s') → s'.1 (so + 47) e = -1 → s'.1 (so + 48) e = -1 → s'.1 (so + 40 + 1 + 0) e = nI (bts 6 (inn g e)) → Q s') : wpX7_layOut so a (nI e) s Q := by
  unfold wpX7_layOut
  have R1 : repC ((wi (wi s (so + 48) (ix (nI e)) (-1)) (so + 47) (ix (nI e)) (-1)).1 (a + 1)) g := by
    rw [wi_na _ _ _ _ (by omega), wi_na _ _ _ _ (by omega)]; exact R
  refine ⟨vp_in_nI he (by decide), vp_in_nI he (by decide), ?_⟩
  rw [c_inBits R1 he]
  refine ⟨vp_in_nI he (by decide), 7, ?_⟩
  rw [ix_nI (by omega)] at *
  refine c_lay29 hso he 6 0 rfl _ (by rw [wi_na _ _ _ _ (by omega)]; exact R1) (fun j hj => by omega) (fun s' f1 f2 f3 f4 => ?_)
  have n47 : s'.1 (so + 47) = up (s.1 (so + 47)) e (-1) := by
    rw [f1 _ (by omega) (by omega) (by omega), wi_na _ _ _ _ (by omega)]
    funext k
    by_cases hk : k = e
    · subst hk; rw [wi_at, up_at]
    · rw [wi_ne _ _ _ _ hk, up_ne _ _ hk, wi_na _ _ _ _ (by omega)]
  have n48 : s'.1 (so + 48) = up (s.1 (so + 48)) e (-1) := by
    rw [f1 _ (by omega) (by omega) (by omega), wi_na _ _ _ _ (by omega), wi_na _ _ _ _ (by omega)]
    funext k
    by_cases hk : k = e
    · subst hk; rw [wi_at, up_at]
    · rw [wi_ne _ _ _ _ hk, up_ne _ _ hk]
  have n41 : s'.1 (so + 40 + 1 + 0) = up (s.1 (so + 40 + 1 + 0)) e (nI (bts 6 (inn g e))) := by
    rw [f1 _ (by omega) (by omega) (by omega)]
    funext k
    by_cases hk : k = e
    · subst hk; rw [wi_at, up_at]
    · rw [wi_ne _ _ _ _ hk, up_ne _ _ hk, wi_na _ _ _ _ (by omega), wi_na _ _ _ _ (by omega)]
  refine K s' (fun b h1 h2 h3 h4 h5 h6 => ?_) (fun k hk => ?_) (fun k hk => ?_) f3 f4 (by rw [n47, up_at]) (by rw [n48, up_at]) (by rw [n41, up_at])
  · rw [f1 b h1 h4 h6, wi_na _ _ _ _ h5, wi_na _ _ _ _ h2, wi_na _ _ _ _ h3]
  · rw [(f2 k hk).1, (f2 k hk).2, wi_na _ _ _ _ (by omega), wi_na _ _ _ _ (by omega), wi_na _ _ _ _ (by omega), wi_na _ _ _ _ (by omega), wi_na _ _ _ _ (by omega), wi_na _ _ _ _ (by omega)]
    exact ⟨rfl, rfl⟩
  · rw [n47, n48, n41, up_ne _ _ hk, up_ne _ _ hk, up_ne _ _ hk]
    exact ⟨rfl, rfl, rfl⟩
end LAYOUT
