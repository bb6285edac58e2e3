/-! work: the reference does an act -/
section WORK
variable {t : List Nat} {L : List Int32} {g g' : Sy} {us us' : List Sy} {ks : Nat → Option Sy} {s s' : gS} {K : gS → Prop}
theorem m_act {x p : Nat} {Q : Int32 → gS → Prop} (ht : okT t) (hx : x + 4 ≤ 320) (U : okU g) (M : s.1 178 = g) (D : AD t x p s) (hk : ∃ k, dgN (sg t p) = some k) (k0 : acP t g p = none → ∀ s', fm [178, 182, 183, 184] [17, 18, 21] s s' → s'.1 178 = g → Q 0 s') (k1 : ∀ g', acP t g p = some g' → ∀ s', fm [178, 182, 183, 184] [17, 18, 21] s s' → s'.1 178 = g' → Q 1 s') : wpX12_act (nI x) s Q := by
  have O := U.1
  have hno := O.2.1.2
  have h80 := ht.1
  have hc := sg_lt ht p
  have e1 : nI x + 1 = nI (x + 1) := nI_1 x
  have e2 : nI x + 2 = nI (x + 2) := nI_add x 2
  have e3 : nI x + 3 = nI (x + 3) := nI_add x 3
  have v0 : vp_in (nI x) 320 := vp_in_nI (by omega) (by decide)
  have v1 : vp_in (nI (x + 1)) 320 := vp_in_nI (by omega) (by decide)
  have v2 : vp_in (nI (x + 2)) 320 := vp_in_nI (by omega) (by decide)
  have v3 : vp_in (nI (x + 3)) 320 := vp_in_nI (by omega) (by decide)
  have dc : ∀ k, dgN (sg t p) = some k → sg t p ≠ 102 → ∀ j, j < k → gi s 189 (x + 1 + j) = nI (dg t (p + 1 + j)) := fun k hk h j hj => D.2.2 h k hk j hj
  have d102 : sg t p = 102 → gi s 189 (x + 1) = nI (dg t (p + 1) * 1000 + dg t (p + 2) * 100 + dg t (p + 3) * 10 + dg t (p + 4)) := D.2.1
  have d0 : gi s 189 x = nI (sg t p) := D.1
  unfold wpX12_act wX12_act_173 wX12_act_200
  rw [e1, e2, e3, ix_nI (n := x) (by omega), ix_nI (n := x + 1) (by omega), ix_nI (n := x + 2) (by omega), ix_nI (n := x + 3) (by omega), d0]
  have ha := dg_lt t (p + 1)
  have hb := dg_lt t (p + 2)
  have hd := dg_lt t (p + 3)
  have he := dg_lt t (p + 4)
  unfold acP at k0 k1
  have c1 : ∀ k, dgN (sg t p) = some k → sg t p ≠ 102 → 0 < k → gi s 189 (x + 1) = nI (dg t (p + 1)) := fun k hk h hj => dc k hk h 0 hj
  have c2 : ∀ k, dgN (sg t p) = some k → sg t p ≠ 102 → 1 < k → gi s 189 (x + 2) = nI (dg t (p + 2)) := fun k hk h hj => dc k hk h 1 hj
  have c3 : ∀ k, dgN (sg t p) = some k → sg t p ≠ 102 → 2 < k → gi s 189 (x + 3) = nI (dg t (p + 3)) := fun k hk h hj => dc k hk h 2 hj
  clear dc D
  generalize dg t (p + 1) = a at *
  generalize dg t (p + 2) = b at *
  generalize dg t (p + 3) = d at *
  generalize dg t (p + 4) = e at *
  generalize sg t p = c at *
  have z : ∀ k : Nat, k < 256 → (nI c = nI k) = (c = k) := fun k hk => by rw [nI_eq (by omega) (by omega)]
  have z1 : (nI c = 100) = (c = 100) := z 100 (by decide)
  have z3 : (nI c = 103) = (c = 103) := z 103 (by decide)
  have z4 : (nI c = 105) = (c = 105) := z 105 (by decide)
  have z5 : (nI c = 110) = (c = 110) := z 110 (by decide)
  have z6 : (nI c = 111) = (c = 111) := z 111 (by decide)
  have z7 : (nI c = 114) = (c = 114) := z 114 (by decide)
  have f0 : fm [178, 182, 183, 184] [17, 18, 21] s s := fm.rf
  have st : ∀ s s', fm [178] [] s s' → fm [178, 182, 183, 184] [17, 18, 21] s s' := fun s s' f => f.mono (by decide) (by decide)
  have su : ∀ s s', fm [182, 183, 184] [17, 18, 21] s s' → fm [178, 182, 183, 184] [17, 18, 21] s s' := fun s s' f => f.mono (by decide) (by decide)
  have hs0 : ∀ y : Nat, 6 ≤ y → y < 100 → (6 : Int32) ≤ nI y := fun y h h2 => by rw [show (6 : Int32) = nI 6 from rfl]; exact nI_le h (by omega)
  -- a reading put in or out
  have rule : ∀ B : Bool, (c = 114 ↔ B = true) → ac1 g c a b d e = (if a < 6 ∧ b < mn g a ∧ inn g a b = B then some (ruG g a b (!B)) else none) → wpX12_refusesRule (nI a) (nI b) (bi B) s (fun r18 s18 => (0 ≤ r18 → vp_in (nI x) 320 ∧ ((¬ gi s18 189 x = 114 → wpX12_goRule (nI a) (nI b) 0 s18 (fun s17 => Q 1 s17)) ∧ (gi s18 189 x = 114 → wpX12_goRule (nI a) (nI b) 1 s18 (fun s17 => Q 1 s17)))) ∧ (¬ (0 ≤ r18) → Q 0 s18)) := by
    intro B hB hac
    by_cases hr : a < 6 ∧ b < mn g a
    · refine m_refRule M O hr.1 hr.2 ?_
      by_cases hi : inn g a b = B
      · rw [if_pos hi, d0, z7]
        have go : wpX12_goRule (nI a) (nI b) (bi B) s (fun s17 => Q 1 s17) := m_goRule M O hr.1 hr.2 (fun s' f e2 => k1 _ (by rw [hac, if_pos ⟨hr.1, hr.2, hi⟩]) s' (st s s' f) e2)
        refine ⟨fun _ => ⟨v0, fun h => ?_, fun h => ?_⟩, fun h => absurd (by decide) h⟩
        · cases B with
          | false => exact go
          | true => exact absurd (hB.mpr rfl) h
        · rw [hB.mp h] at go
          exact go
      · rw [if_neg hi]
        exact ⟨fun h => absurd h (by decide), fun _ => k0 (by rw [hac, if_neg (fun h => hi h.2.2)]) s f0 M⟩
    · refine m_refRule0 M O ?_ ⟨fun h => absurd h (by decide), fun _ => k0 (by rw [hac, if_neg (fun h => hr ⟨h.1, h.2.1⟩)]) s f0 M⟩
      by_cases ha6 : a < 6
      · refine Or.inr ⟨a, ha6, rfl, ?_⟩
        rw [hs_nI O ha6 (by omega)]
        simp
        have : ¬ b < mn g a := fun h => hr ⟨ha6, h⟩
        omega
      · exact Or.inl (Or.inr (hs0 a (by omega) (by omega)))
  rw [z1, z3, z4, z5, z6, z7]
  refine ⟨v1, v2, v0, fun h => ?_, fun h => ?_, fun h => ?_, fun h => ?_, fun h => ?_, fun h => ?_, fun n1 n3 n4 n5 n6 n7 => ?_⟩
  · subst h
    rw [c1 1 rfl (by decide) (by decide)]
    by_cases ha6 : a < 6
    · rw [m_isTold M ha6]
      cases hta : tl g a with
      | true =>
        refine ⟨fun _ => m_goDrop M ha6 (fun s' f e2 => k1 _ (by simp [ac1, ha6, hta]) s' (st s s' f) e2), fun h => absurd h (by decide)⟩
      | false =>
        exact ⟨fun h => absurd rfl h, fun _ => k0 (by simp [ac1, hta]) s f0 M⟩
    · rw [m_isTold0 (Or.inr (hs0 a (by omega) (by omega)))]
      exact ⟨fun h => absurd rfl h, fun _ => k0 (by simp [ac1, ha6]) s f0 M⟩
  · subst h
    rw [c1 1 rfl (by decide) (by decide), show gi s 178 1 = nI (no g) from by
      show s.1 178 1 = _
      rw [M]; exact O.2.1.1, nI_ltI (by omega) (by omega)]
    refine ⟨fun h => m_goGo M O h (fun s' f e2 => k1 _ (by simp [ac1, h]) s' (st s s' f) e2), fun h => k0 (by simp [ac1, h]) s f0 M⟩
  · subst h
    rw [c1 2 rfl (by decide) (by decide), c2 2 rfl (by decide) (by decide)]
    refine ⟨v0, fun _ => rule false (by decide) (by rw [ac1]; simp), fun h => absurd h (by decide)⟩
  · subst h
    refine m_refNarrow M O (fun hch s' f => ⟨fun h => absurd h (by decide), fun _ => k0 (by simp [ac1, hch]) s' (su s s' f) (by rw [f.1 178 (by decide) (by decide)]; exact M)⟩) (fun hch s' f S => ?_)
    have M' : s'.1 178 = g := by rw [f.1 178 (by decide) (by decide)]; exact M
    have hn6 := nOut_le (g := g) 6
    by_cases h0 : nOut g 6 = 0
    · rw [if_pos h0]
      exact ⟨fun h => absurd h (by decide), fun _ => k0 (by simp [ac1, h0]) s' (su s s' f) M'⟩
    · rw [if_neg h0]
      refine ⟨fun _ => m_goNarrow M' O S (fun s2 f2 e2 => k1 _ (by simp [ac1, h0, hch]) s2 ((su s s' f).tr (st s' s2 f2)) e2), fun h => absurd ?_ h⟩
      rw [show (0 : Int32) = nI 0 from rfl]
      exact nI_le (by omega) (by omega)
  · subst h
    rw [c1 3 rfl (by decide) (by decide), c2 3 rfl (by decide) (by decide), c3 3 rfl (by decide) (by decide)]
    refine ⟨v3, ?_⟩
    by_cases hv : a < 5 ∧ b < 6 ∧ d < 6 ∧ b ≠ d
    · refine m_refO M O hv.1 hv.2.1 hv.2.2.1 hv.2.2.2 (fun h => ⟨fun h => absurd h (by decide), fun _ => k0 ?_ s f0 M⟩) (fun h h10 => ⟨fun h => absurd h (by decide), fun _ => k0 ?_ s f0 M⟩) (fun h h9 => ⟨fun _ => ⟨v3, ?_⟩, fun h => absurd (by decide) h⟩)
      · have := exB_iff.mpr h
        simp [ac1, this]
      · simp [ac1, h10]
      · rw [c3 3 rfl (by decide) (by decide)]
        refine m_goOrder M O h9 (fun s' f e2 => k1 _ ?_ s' (st s s' f) e2)
        have : exB g a b d = false := by
          cases he : exB g a b d with
          | false => rfl
          | true => exact absurd (exB_iff.mp he) h
        simp [ac1, this, h9, hv]
    · refine m_refO0 ?_ ⟨fun h => absurd h (by decide), fun _ => k0 ?_ s f0 M⟩
      · rcases o_or (nI a) (nI b) (nI d) with ⟨k, x, y, hk, hx, hy, hxy, q1, q2, q3⟩ | hbad
        · exfalso
          rw [nI_eq (by omega) (by omega)] at q1 q2 q3
          exact hv (by omega)
        · exact hbad
      · have : ¬ (a < 5 ∧ b < 6 ∧ d < 6 ∧ b ≠ d ∧ exB g a b d = false ∧ no g < 10) := fun h => hv ⟨h.1, h.2.1, h.2.2.1, h.2.2.2.1⟩
        unfold ac1
        rw [if_neg (by decide), if_neg (by decide), if_neg (by decide), if_neg (by decide), if_neg (by decide), if_pos rfl, if_neg this]
  · subst h
    rw [c1 2 rfl (by decide) (by decide), c2 2 rfl (by decide) (by decide)]
    refine ⟨v0, fun h => absurd rfl h, fun _ => rule true (by decide) (by rw [ac1]; simp)⟩
  · have h102 : c = 102 := by
      obtain ⟨k, hk⟩ := hk
      by_cases h2 : c = 102
      · exact h2
      · unfold dgN at hk
        rw [if_neg n1, if_neg h2, if_neg n3, if_neg n4, if_neg n5, if_neg n6, if_neg n7] at hk
        cases hk
    subst h102
    rw [d102 rfl, nI_i]
    have hm : gi s 178 0 = g 0 := by
      show s.1 178 0 = _
      rw [M]
    unfold wpX12_refusesRef
    rw [m_isDay (by omega) (by omega), hm]
    have hdd : (0 : Int) ≤ ((a * 1000 + b * 100 + d * 10 + e : Nat) : Int) ∧ ((a * 1000 + b * 100 + d * 10 + e : Nat) : Int) ≤ 9999 := by omega
    simp only [hdd, and_self, decide_true]
    rw [← nI_i]
    refine ⟨fun _ => ⟨fun hne => ⟨fun _ => ?_, fun h => absurd (by decide) h⟩, fun heq => ⟨fun h => absurd h (by decide), fun _ => k0 (by simp [ac1, heq]) s f0 M⟩⟩, fun h => absurd h (by decide)⟩
    refine k1 (up g 0 (nI (a * 1000 + b * 100 + d * 10 + e))) ?_ _ (fm_wi (by decide) (by decide)) (by rw [wi_up, M])
    have : ¬ g 0 = nI (a * 1000 + b * 100 + d * 10 + e) := fun h => hne h.symm
    simp [ac1, this]
end WORK
