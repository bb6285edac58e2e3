/-! tells: the reference -/
/-- what tells answers, and the story and the past behind it, by what was gathered -/
def teR (t : List Nat) (X : List Rd) : Int32 := if (ph t).1 = false then iI (-1 - (tb t (ph t).2.2 : Int)) else if (mgA [] X).length = 0 then -200 else if 6 < (mgA [] X).length then -300 else nI (mgA [] X).length
def teY (t : List Nat) (X : List Rd) : Bool := (ph t).1 && decide (1 ≤ (mgA [] X).length) && decide ((mgA [] X).length ≤ 6)
def teG (t : List Nat) (X : List Rd) (g : Sy) (e : Nat) : Sy := if teY t X = true then tlG g e (mgA [] X) else g
def teU (t : List Nat) (X : List Rd) (g : Sy) (us : List Sy) : List Sy := if teY t X = true then pushU us g else us
section MTELLS
variable {t : List Nat} {L L' : List Int32} {g g' : Sy} {us us' : List Sy} {ks : Nat → Option Sy} {s s' s0 : gS} {K : gS → Prop} {N e b r gas : Nat} {J H V W R X : List Rd} {Q : Int32 → gS → Prop} {Q' : gS → Prop}
theorem tl_0 : tlQ g e J 0 = up g (2 + e) (nI J.length) := by
  funext j
  unfold tlQ up
  by_cases h : j = 2 + e
  · rw [if_pos h, if_pos h]
  · rw [if_neg h, if_neg h, if_neg (by omega)]
def tF : List Nat := [2, 5, 6, 7, 8, 9, 10, 11, 12, 14, 15]
theorem m_185 {x2 : Int32} (A : okA t L g us ks) (M : MI t L g us ks s0) (hp : (ph t).1 = true) (he : e < 6) (F : fm [181] tF s0 s) (b2 : s.1 177 2 = 0) (h : HP X s) (hX : X.length ≤ 1000) (ok : okV X) (k : ∀ s', moF s0 s' → MI [] L (teG t X g e) (teU t X g us) ks s' → Q (teR t X) s') : wX12_tells_185 (nI e) x2 Q gas s := by
  have hJ := mgA_len X []
  have hJ : (mgA [] X).length ≤ 1000 := by
    have hJ : (mgA [] X).length ≤ 0 + X.length := hJ
    omega
  obtain ⟨J, eJ⟩ : ∃ J, J = mgA [] X := ⟨_, rfl⟩
  unfold teG teU teR at k
  unfold teY at k
  rw [hp, if_neg (show ¬ (true = false) by decide), Bool.true_and, ← eJ] at k
  rw [← eJ] at hJ
  have no : ∀ s', fm [181] tF s0 s' → s'.1 177 2 = 0 → MI [] L g us ks s' := fun s' f h2 => M.be (f.mono (by decide) (by decide)) h2 (by rw [f.1 178 (by decide) (by decide)]; exact M.2.2.1) (M.2.2.2.1.cg (f.2.1 26 (by decide)) (f.1 187 (by decide) (by decide))) (M.2.1.cg (f.2.1 4 (by decide)) (f.2.2.1 180 (by decide)))
  unfold wX12_tells_185
  refine m_join h hX ok (fun s1 f1 h1 => ?_)
  rw [← eJ] at h1
  have F1 : fm [181] tF s0 s1 := F.tr (f1.mono (by decide) (by decide))
  have b21 : s1.1 177 2 = 0 := by rw [f1.2.1 2 (by decide)]; exact b2
  refine m_refuse h1.1 (by omega) (fun h0 => ⟨fun c => absurd c (by decide), fun _ => ?_⟩) (fun h6 => ⟨fun c => absurd c (by decide), fun _ => ?_⟩) (fun q1 q6 => ⟨fun _ => ?_, fun c => absurd (by decide) c⟩)
  · rw [if_pos h0, decide_eq_false (by omega), Bool.false_and, if_neg (by decide), if_neg (by decide)] at k
    exact k s1 (F1.mo (by decide)) (no s1 F1 b21)
  · rw [if_neg (show ¬ J.length = 0 by omega), if_pos h6, decide_eq_false (show ¬ J.length ≤ 6 by omega), Bool.and_false, if_neg (by decide), if_neg (by decide)] at k
    exact k s1 (F1.mo (by decide)) (no s1 F1 b21)
  · rw [if_neg (show ¬ J.length = 0 by omega), if_neg (show ¬ 6 < J.length by omega), decide_eq_true q1, decide_eq_true q6, if_pos (by decide), if_pos (by decide)] at k
    have P1 : PM us s1 := M.2.2.2.1.cg (F1.2.1 26 (by decide)) (F1.1 187 (by decide) (by decide))
    have M1 : s1.1 178 = g := by rw [F1.1 178 (by decide) (by decide)]; exact M.2.2.1
    refine m_change A.2.2.2.1 P1 M1 (fun s2 f2 P2 => ?_)
    have e2 : 2 + nI e = nI (2 + e) := nI_add 2 e
    have h14 : gi s2 177 14 = nI J.length := by
      show s2.1 177 14 = _
      rw [f2.2.1 14 (by decide)]
      exact h1.1
    rw [e2, ix_nI (by omega), h14]
    refine ⟨vp_in_nI (by omega) (by decide), J.length + 1, ?_⟩
    have f3 : fm [178] [] s2 (wi s2 178 (2 + e) (nI J.length)) := fm_wi (by decide) (by decide)
    have h2 : HP J s2 := ⟨by rw [f2.2.1 14 (by decide)]; exact h1.1, fun i hi j hj => by rw [f2.1 181 (by decide) (by decide)]; exact h1.2 i hi j hj⟩
    refine m_wr (s := s2) (g := g) he q6 (fun s4 f4 g4 => ?_) J.length 0 _ (by omega) (h2.c8 f3) f3 ?_
    · have F4 : fm (178 :: 187 :: mD) (26 :: 2 :: mF) s0 s4 := (F1.mono (by decide) (by decide)).tr ((f2.mono (by decide) (by decide)).tr (f4.mono (by decide) (by decide)))
      refine k s4 (F4.mo (by decide)) (M.be F4 ?_ g4 (P2.cg (f4.2.1 26 (by decide)) (f4.1 187 (by decide) (by decide))) (M.2.1.cg ?_ ?_))
      · rw [f4.2.1 2 (by decide), f2.2.1 2 (by decide)]; exact b21
      · rw [f4.2.1 4 (by decide), f2.2.1 4 (by decide), F1.2.1 4 (by decide)]
      · rw [f4.2.2.1 180 (by decide), f2.2.2.1 180 (by decide), F1.2.2.1 180 (by decide)]
    · rw [wi_up, f2.1 178 (by decide) (by decide), M1, Nat.mul_zero, tl_0]
theorem G_fm {D F : List Nat} (G : gtOk s) (f : fm D F s s') : gtOk s' := by
  unfold gtOk gt1 gt2 gt3 at G ⊢
  rw [f.2.2.2]
  exact G
theorem m_89 {x1 : Int32} {k185 : Nat → gS → Prop} (ht : okT t) (hp : (ph t).1 = true) (O : okS N g) (hb : b < 6) (htl : tl g b = true) : ∀ m i H s gas, i + m = mn g b → TX t s → gtOk s → s.1 177 8 = -1 → HP H s → H.length ≤ 84 * i → s.1 178 = g → (11 * t.length + 31) * m ≤ gas → (∀ s' gas', fm [181] rF s s' → HP (H ++ byV g b t m i) s' → (H ++ byV g b t m i).length ≤ 84 * (i + m) → k185 gas' s') → wX12_tells_89 x1 (nI b) Q k185 (m + 1) gas (nI i) s := by
  have hm6 := (O.2.2.2.1 b hb).2
  have hcell := ((O.2.2.2.1 b hb).1 htl).1
  have e2 : 2 + nI b = nI (2 + b) := nI_add 2 b
  intro m
  induction m with
  | zero =>
    intro i H s gas hi T G h8 h hl M hg k
    rw [wX12_tells_89, e2, ix_nI (by omega), show gi s 178 (2 + b) = nI (mn g b) from by show s.1 178 (2 + b) = _; rw [M]; exact hcell]
    refine ⟨vp_in_nI (by omega) (by decide), fun _ => k s gas fm.rf ?_ ?_, fun hc => absurd (nI_le (by omega) (by omega)) hc⟩
    · rw [byV, List.append_nil]; exact h
    · rw [byV, List.append_nil]; omega
  | succ m ih =>
    intro i H s gas hi T G h8 h hl M hg k
    have hi6 : i < 6 := by omega
    have hin : i < mn g b := by omega
    obtain ⟨r1, r2, r3, r4, r5, r6, r7, r8⟩ := O.2.2.2.2 b hb i hin
    rw [byV] at k
    rw [wX12_tells_89, e2, ix_nI (by omega), show gi s 178 (2 + b) = nI (mn g b) from by show s.1 178 (2 + b) = _; rw [M]; exact hcell, nI_1 i]
    refine ⟨vp_in_nI (by omega) (by decide), fun hc => ?_, fun _ => ?_⟩
    · rw [nI_leI (by omega) (by omega)] at hc
      omega
    have m4 : ∀ {Q : Int32 → gS → Prop}, wpX12_of (nI b) (nI i) 4 s Q = Q (g (8 + 5 * (6 * b + i) + 4)) s := fun {Q} => m_of (w := 4) M hb hi6 (by decide)
    rw [m4]
    have hmul : (11 * t.length + 31) * (m + 1) = (11 * t.length + 31) * m + (11 * t.length + 31) := Nat.mul_succ _ _
    refine ⟨fun hc => ?_, fun hc => ?_⟩
    · have c1 : g (8 + 5 * (6 * b + i) + 4) = 1 := r8.resolve_left hc
      have hinn : inn g b i = true := by
        unfold inn
        rw [decide_eq_true hin, c1]
        rfl
      rw [if_pos hinn] at k
      rw [m_of3 (x := 0) (w := 0) M hb hi6 (by decide) rfl]
      refine ⟨11 * t.length + 31, gas - (11 * t.length + 31), by omega, ?_⟩
      refine s_phr (B := 84 * i) (r := (vl g b i 0).toNat) ht T G h8 (by omega) hl (by omega) h (Nat.le_refl _) (by rw [nI_i]; exact congrArg iI (by omega)) (fun _ s1 M1 h81 => ?_) (fun hpf => by rw [hp] at hpf; cases hpf)
      have hv := phv_le (r := (vl g b i 0).toNat) ht hp
      have C : CX t s := ⟨ht, T, G⟩
      have M178 : s1.1 178 = g := by rw [M1.1.1 178 (by decide) (by decide)]; exact M
      refine ⟨(phv (vl g b i 0).toNat t).length + 1, ?_⟩
      rw [show gi s 177 14 = nI H.length from h.1]
      refine m_cap (c := (vl g b i 3).toNat) (gas := gas - (11 * t.length + 31)) M178 hb hi6 (by omega) (by omega) _ H s1 fm.rf M1.h phv_ok (by rw [List.length_append]; omega) (fun s2 f2 h2 => ?_)
      have g1 : fm [181] rF s s2 := M1.1.tr (f2.mono (by decide) (by decide))
      have hlen : (H ++ (phv (vl g b i 0).toNat t).map (mw (vl g b i 3).toNat)).length ≤ 84 * (i + 1) := by
        rw [List.length_append, List.length_map]
        omega
      refine ih (i + 1) _ s2 _ (by omega) (T.cg (g1.2.1 6 (by decide)) (g1.1 179 (by decide) (by decide))) (G_fm G g1) (by rw [f2.2.1 8 (by decide)]; exact h81) h2 hlen (by rw [f2.1 178 (by decide) (by decide)]; exact M178) (by omega) (fun s3 gas3 f3 h3 l3 => k s3 gas3 (g1.tr f3) ?_ ?_)
      · rw [← List.append_assoc]; exact h3
      · rw [← List.append_assoc, show i + (m + 1) = i + 1 + m by omega]; exact l3
    · have hinn : inn g b i = false := by
        unfold inn
        rw [hc]
        simp
      rw [hinn, if_neg (by decide), List.nil_append] at k
      exact ih (i + 1) H s gas (by omega) T G h8 h (by omega) M (by omega) (fun s3 gas3 f3 h3 l3 => k s3 gas3 f3 h3 (by rw [show i + (m + 1) = i + 1 + m by omega]; exact l3))
theorem M_fault (M : MI t L g us ks s0) (hp : (ph t).1 = false) (F : fm [181] tF s0 s) (b2 : s.1 177 2 = 0) (h8 : s.1 177 8 = nI (tb t (ph t).2.2)) (k : ∀ s', moF s0 s' → MI [] L (teG t X g e) (teU t X g us) ks s' → Q (teR t X) s') : Q (-1 - gi s 177 8) s := by
  unfold teG teU teR at k
  unfold teY at k
  rw [hp, if_pos rfl, Bool.false_and, Bool.false_and, if_neg (by decide), if_neg (by decide)] at k
  rw [show gi s 177 8 = nI (tb t (ph t).2.2) from h8, show (-1 : Int32) - nI (tb t (ph t).2.2) = iI (-1 - (tb t (ph t).2.2 : Int)) from by rw [nI_i, show (-1 : Int32) = iI (-1) from rfl, iI_sub]]
  exact k s (F.mo (by decide)) (M.be (F.mono (by decide) (by decide)) b2 (by rw [F.1 178 (by decide) (by decide)]; exact M.2.2.1) (M.2.2.2.1.cg (F.2.1 26 (by decide)) (F.1 187 (by decide) (by decide))) (M.2.1.cg (F.2.1 4 (by decide)) (F.2.2.1 180 (by decide))))
/-- refused -/
theorem M_tells0 {x y : Int32} (M : MI t L g us ks s) (h : (x < 0 ∨ 6 ≤ x) ∨ (¬ y = -1 ∧ (y = x ∨ (y < 0 ∨ 6 ≤ y) ∨ ∃ b, b < 6 ∧ y = nI b ∧ tl g b = false))) (k : ∀ s', moF s s' → MI [] L g us ks s' → Q (-1) s') : wpX12_tells gas x y s Q := by
  unfold wpX12_tells
  refine m_beg M (fun s1 f1 T1 h8 h2 => ?_)
  have M1 : s1.1 178 = g := by rw [f1.1 178 (by decide) (by decide)]; exact M.2.2.1
  have fin : Q (-1) s1 := k s1 (f1.mo (by decide)) (M.be (f1.mono (by decide) (by decide)) h2 M1 (M.2.2.2.1.cg (f1.2.1 26 (by decide)) (f1.1 187 (by decide) (by decide))) (M.2.1.cg (f1.2.1 4 (by decide)) (f1.2.2.1 180 (by decide))))
  rcases ev_or x 6 (by decide) with ⟨e, he, rfl⟩ | hx
  · rw [m_isEvent he]
    refine ⟨fun c => absurd c (by decide), fun _ => ?_⟩
    rcases h with h | ⟨hn, h⟩
    · exfalso
      rcases h with h | h
      · exact nI_nn (by omega) h
      · rw [ge6 he] at h
        exact h
    · refine ⟨fun c => absurd c hn, fun _ => ?_⟩
      rcases ev_or y 6 (by decide) with ⟨b, hb, rfl⟩ | hy
      · rw [m_isTold M1 hb]
        cases htl : tl g b with
        | false => exact ⟨fun _ => fin, fun c => absurd rfl c⟩
        | true =>
          refine ⟨fun c => absurd c (by decide), fun _ => ⟨fun c => ?_, fun _ => fin⟩⟩
          exfalso
          rcases h with h | h | ⟨b', hb', e1, e2⟩
          · exact c h
          · rcases h with h | h
            · exact nI_nn (by omega) h
            · rw [ge6 hb] at h
              exact h
          · rw [nI_eq (by omega) (by omega)] at e1
            subst e1
            rw [htl] at e2
            cases e2
      · rw [m_isTold0 hy]
        exact ⟨fun _ => fin, fun c => absurd rfl c⟩
  · rw [m_isEvent0 hx]
    exact ⟨fun _ => fin, fun c => absurd rfl c⟩
/-- from the day of reference -/
theorem M_tellsR (A : okA t L g us ks) (M : MI t L g us ks s) (G : gtOk s) (he : e < 6) (hg : 11 * t.length + 31 ≤ gas) (k : ∀ s', moF s s' → MI [] L (teG t (phv (g 0).toInt.toNat t) g e) (teU t (phv (g 0).toInt.toNat t) g us) ks s' → Q (teR t (phv (g 0).toInt.toNat t)) s') : wpX12_tells gas (nI e) (-1) s Q := by
  have ht := A.1
  have O := A.2.2.1.1
  unfold wpX12_tells
  refine m_beg M (fun s1 f1 T1 h8 h2 => ?_)
  rw [m_isEvent he]
  refine ⟨fun c => absurd c (by decide), fun _ => ⟨fun _ => ?_, fun c => absurd rfl c⟩⟩
  refine ⟨fun c => absurd rfl c, fun _ => ?_⟩
  have f2 : fm [181] tF s (wi s1 177 14 0) := (f1.mono (by decide) (by decide)).tr (fm_wf (by decide))
  have T2 : TX t (wi s1 177 14 0) := T1.cg (wi_ne _ _ _ _ (by decide)) (wi_na _ _ _ _ (by decide))
  have M2 : (wi s1 177 14 0).1 178 = g := by rw [f2.1 178 (by decide) (by decide)]; exact M.2.2.1
  have e0 : gi (wi s1 177 14 0) 178 0 = nI (g 0).toInt.toNat := by
    show (wi s1 177 14 0).1 178 0 = _
    rw [M2, nI_i, show ((g 0).toInt.toNat : Int) = (g 0).toInt by have := O.1; omega]
    exact i_of _
  unfold wX12_tells_64
  refine ⟨gas, 0, by omega, ?_⟩
  refine s_phr (B := 0) (H := []) (r := (g 0).toInt.toNat) ht T2 (G_fm G f2) (by rw [wi_ne _ _ _ _ (by decide)]; exact h8) (by have := O.1; omega) (Nat.le_refl _) (by decide) HP0 hg e0 (fun hp s3 M3 h83 => ?_) (fun hp s3 h83 hM3 => ?_)
  · rw [List.nil_append] at M3
    have hl := phv_le (r := (g 0).toInt.toNat) ht hp
    have F3 : fm [181] tF s s3 := f2.tr (M3.1.mono (by decide) (by decide))
    refine ⟨fun _ => ⟨fun _ => ?_, fun c => absurd rfl c⟩, fun c => absurd c (by decide)⟩
    exact m_185 A M hp he F3 (by rw [M3.1.2.1 2 (by decide), wi_ne _ _ _ _ (by decide)]; exact h2) M3.h (by omega) phv_ok k
  · obtain ⟨H', M3⟩ := hM3
    have F3 : fm [181] tF s s3 := f2.tr (M3.1.mono (by decide) (by decide))
    refine ⟨fun c => absurd rfl c, fun _ => ?_⟩
    exact M_fault M hp F3 (by rw [M3.1.2.1 2 (by decide), wi_ne _ _ _ _ (by decide)]; exact h2) h83 k
/-- by another event -/
theorem M_tellsB (A : okA t L g us ks) (M : MI t L g us ks s) (G : gtOk s) (he : e < 6) (hb : b < 6) (hbe : b ≠ e) (htl : tl g b = true) (hg : 99 * t.length + 279 ≤ gas) (k : ∀ s', moF s s' → MI [] L (teG t (byV g b t (mn g b) 0) g e) (teU t (byV g b t (mn g b) 0) g us) ks s' → Q (teR t (byV g b t (mn g b) 0)) s') : wpX12_tells gas (nI e) (nI b) s Q := by
  have ht := A.1
  have O := A.2.2.1.1
  have hm1 := ((O.2.2.2.1 b hb).1 htl).2
  have hm6 := (O.2.2.2.1 b hb).2
  obtain ⟨r1, r2, r3, r4, r5, r6, r7, r8⟩ := O.2.2.2.2 b hb 0 (by omega)
  have hn1 : ¬ nI b = -1 := nI_ne (by omega)
  unfold wpX12_tells
  refine m_beg M (fun s1 f1 T1 h8 h2 => ?_)
  have M1 : s1.1 178 = g := by rw [f1.1 178 (by decide) (by decide)]; exact M.2.2.1
  rw [m_isEvent he]
  refine ⟨fun c => absurd c (by decide), fun _ => ⟨fun c => absurd c hn1, fun _ => ?_⟩⟩
  rw [m_isTold M1 hb, htl]
  refine ⟨fun c => absurd c (by decide), fun _ => ⟨fun _ => ?_, fun c => absurd ((nI_eq (by omega) (by omega)).mp c) hbe⟩⟩
  refine ⟨fun _ => ?_, fun c => absurd c hn1⟩
  have f2 : fm [181] tF s (wi s1 177 14 0) := (f1.mono (by decide) (by decide)).tr (fm_wf (by decide))
  have T2 : TX t (wi s1 177 14 0) := T1.cg (wi_ne _ _ _ _ (by decide)) (wi_na _ _ _ _ (by decide))
  have M2 : (wi s1 177 14 0).1 178 = g := by rw [f2.1 178 (by decide) (by decide)]; exact M.2.2.1
  have e0 : ∀ {Q : Int32 → gS → Prop}, wpX12_of (nI b) 0 0 (wi s1 177 14 0) Q = Q (iI (vl g b 0 0)) (wi s1 177 14 0) := fun {Q} => m_ofv (i := 0) (w := 0) M2 hb (by decide) (by decide)
  rw [e0]
  unfold wX12_tells_64
  refine ⟨11 * t.length + 31, gas - (11 * t.length + 31), by omega, ?_⟩
  refine s_phr (B := 0) (H := []) (r := (vl g b 0 0).toNat) ht T2 (G_fm G f2) (by rw [wi_ne _ _ _ _ (by decide)]; exact h8) (by omega) (Nat.le_refl _) (by decide) HP0 (Nat.le_refl _) (by rw [nI_i]; exact congrArg iI (by omega)) (fun hp s3 M3 h83 => ?_) (fun hp s3 h83 hM3 => ?_)
  · have F3 : fm [181] tF s s3 := f2.tr (M3.1.mono (by decide) (by decide))
    have C : CX t (wi s1 177 14 0) := ⟨ht, T2, G_fm G f2⟩
    refine ⟨fun _ => ⟨fun c => absurd c hn1, fun _ => ⟨mn g b + 1, ?_⟩⟩, fun c => absurd c (by decide)⟩
    have f4 : fm [181] tF s3 (wi s3 177 14 0) := fm_wf (by decide)
    have F4 : fm [181] tF s (wi s3 177 14 0) := F3.tr f4
    have hgas : (11 * t.length + 31) * mn g b ≤ gas - (11 * t.length + 31) := by
      have : (11 * t.length + 31) * mn g b ≤ (11 * t.length + 31) * 6 := Nat.mul_le_mul_left _ hm6
      omega
    refine m_89 ht hp O hb htl (mn g b) 0 [] (wi s3 177 14 0) _ (by omega) ((M3.tx C).cg (wi_ne _ _ _ _ (by decide)) (wi_na _ _ _ _ (by decide))) (G_fm G F4) (by rw [wi_ne _ _ _ _ (by decide)]; exact h83) HP0 (by simp) (by rw [F4.1 178 (by decide) (by decide)]; exact M.2.2.1) hgas (fun s5 gas5 f5 h5 l5 => ?_)
    rw [List.nil_append] at h5 l5
    have F5 : fm [181] tF s s5 := F4.tr (f5.mono (by decide) (by decide))
    refine m_185 A M hp he F5 ?_ h5 (by omega) (byV_ok _ _) k
    rw [f5.2.1 2 (by decide), wi_ne _ _ _ _ (by decide), M3.1.2.1 2 (by decide), wi_ne _ _ _ _ (by decide)]
    exact h2
  · obtain ⟨H', M3⟩ := hM3
    have F3 : fm [181] tF s s3 := f2.tr (M3.1.mono (by decide) (by decide))
    refine ⟨fun c => absurd rfl c, fun _ => ?_⟩
    exact M_fault M hp F3 (by rw [M3.1.2.1 2 (by decide), wi_ne _ _ _ _ (by decide)]; exact h2) h83 k
end MTELLS
