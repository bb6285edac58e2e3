/-! tells and means: both -/
section STELLS
variable {t : List Nat} {L L' : List Int32} {g g' : Sy} {us us' : List Sy} {ks : Nat → Option Sy} {s s' s0 : gS} {K : gS → Prop} {N e b r n gas : Nat} {J H V W R X M : List Rd} {S : List St} {Q : Int32 → gS → Prop} {Q' : gS → Prop}
theorem clF.tr {s1 s2 : gS} (h : clF s s1) (h2 : clF s1 s2) : clF s s2 := ⟨fun a ha => (h2.1 a ha).trans (h.1 a ha), fun a ha => (h2.2 a ha).trans (h.2 a ha)⟩
theorem ph_tb (ht : okT t) : tb t (ph t).2.2 < 1000 := by
  have h80 := ht.1
  have : (ph t).2.2 ≤ t.length := by
    obtain ⟨a1, a2, a3⟩ := far_prt (t := t) (p := 0) (Nat.zero_le _)
    have hgo : ∀ n p, p ≤ t.length → (pho t n p).2.2 ≤ t.length := by
      intro n
      induction n with
      | zero => intro p hp; exact hp
      | succ n ihn =>
        intro p hp
        obtain ⟨a1, a2, a3⟩ := far_prt (te_le hp)
        rw [pho]
        split
        · split
          · exact a1
          · exact ihn (prt t (te t p)).2.2 a1
        · exact hp
    unfold ph
    split
    · exact a1
    · exact hgo 81 _ a1
  have := tb_le this
  omega
theorem c_tend {x2 : Int32} (A : okA t L g us ks) (C : CI t L g us ks s0) (hp : (ph t).1 = true) (he : e < 6) (w : WX s0 s) (F : FD (mgA [] X) s) (hX : X.length ≤ 1000) (k : ∀ s', clF s0 s' → CI [] L (teG t X g e) (teU t X g us) ks s' → Q (teR t X) s') : wX11_tells_92 (nI e) x2 Q (n + 1) (nI 6) s := by
  have O := A.2.2.1.1
  have C1 := w.ci C
  have hJ := mgA_len X []
  have hJ : (mgA [] X).length ≤ 1000 := by
    have hJ : (mgA [] X).length ≤ 0 + X.length := hJ
    omega
  obtain ⟨J, eJ⟩ : ∃ J, J = mgA [] X := ⟨_, rfl⟩
  unfold teG teU teR at k
  unfold teY at k
  rw [hp, if_neg (show ¬ (true = false) by decide), Bool.true_and, ← eJ] at k
  rw [← eJ] at hJ F
  rw [wX11_tells_92]
  refine ⟨fun _ => c_answer F (by omega) (fun h0 => ⟨fun _ => c_rec0 (by decide) ?_, fun h => absurd (by decide) h⟩) (fun h6 => ⟨fun _ => c_rec0 (by decide) ?_, fun h => absurd (by decide) h⟩) (fun q1 q6 => ⟨fun h => ?_, fun _ => ?_⟩), fun hc => absurd (by decide) hc⟩
  · rw [if_pos h0, decide_eq_false (by omega), Bool.false_and, if_neg (by decide), if_neg (by decide)] at k
    exact k s w.cl C1
  · rw [if_neg (show ¬ J.length = 0 by omega), if_pos h6, decide_eq_false (show ¬ J.length ≤ 6 by omega), Bool.and_false, if_neg (by decide), if_neg (by decide)] at k
    exact k s w.cl C1
  · rw [show (0 : Int32) = nI 0 from rfl, nI_leI (by omega) (by decide)] at h
    omega
  · rw [if_neg (show ¬ J.length = 0 by omega), if_neg (show ¬ 6 < J.length by omega), decide_eq_true q1, decide_eq_true q6, if_pos (by decide), if_pos (by decide)] at k
    refine c_save O C1.2.2.1 (fun s1 f1 R1 => ?_)
    have F1 : FD J s1 := by
      unfold FD at F ⊢
      rw [f1.1 10 rfl, f1.1 11 rfl]
      exact F
    refine c_tell (by decide) O (by rw [f1.1 21 rfl]; exact C1.2.2.1) he F1 q6 (fun s2 f2 R2 => ?_)
    unfold wX11_tells_184
    have P2 : PC us s2 := C1.2.2.2.2.1.cg (by rw [f2.1 25 rfl, f1.1 25 rfl]) (fun a h1 h2 => by rw [f2.1 a (by simp; omega), f1.1 a (by simp; omega)])
    refine c_recorded (nI_nn (by omega)) O A.2.2.2.1 A.2.2.2.2.1 P2 (by rw [f2.1 24 rfl]; exact R1) (fun s3 f3 g3 v3 P3 => ?_)
    have f4 : fR uD s s3 := (f1.mono e24_u).tr ((f2.mono e21_u).tr (f3.mono pD_u))
    exact k s3 (w.cl.tr (f4.cl uD_cl)) (C1.mut f4 (fun j hj => by rw [g3 j hj, f2.1 0 rfl, f1.1 0 rfl]) (by rw [f3.1 21 rfl]; exact R2) (Or.inl v3) P3)
theorem c_92 (A : okA t L g us ks) (C : CI t L g us ks s0) (hp : (ph t).1 = true) (he : e < 6) (hb : b < 6) (hX : X.length ≤ 1000) (k : ∀ s', clF s0 s' → CI [] L (teG t X g e) (teU t X g us) ks s' → Q (teR t X) s') : ∀ m i M1 s1, i + m = 6 → WX s0 s1 → PS (ph t).2.1 s1 → FD M1 s1 → okV M1 → mgA M1 (byV g b t m i) = mgA [] X → wX11_tells_92 (nI e) (nI b) Q (m + 1) (nI i) s1 := by
  have O := A.2.2.1.1
  intro m
  induction m with
  | zero =>
    intro i M1 s1 hi w hP F ok1 em
    have : i = 6 := by omega
    subst this
    have em : M1 = mgA [] X := em
    rw [em] at F
    exact c_tend A C hp he w F hX k
  | succ m ih =>
    intro i M1 s1 hi w hP F ok1 em
    have hi6 : i < 6 := by omega
    have R1 : repC (s1.1 (20 + 1)) g := (w.ci C).2.2.1
    rw [byV, mgA_app] at em
    rw [wX11_tells_92, c_isIn O R1 hb hi6, nI_1 i, ge6 hi6, bi_0]
    refine ⟨fun hc => hc.elim, fun _ => ⟨fun hin => ?_, fun hin => ?_⟩⟩
    · rw [hin, if_neg (by decide)] at em
      exact ih (i + 1) M1 s1 (by omega) w hP F ok1 em
    · have hin : inn g b i = true := by simpa using hin
      have him := inn_lt hin
      obtain ⟨r1, r2, r3, r4, r5, r6, r7, r8⟩ := O.2.2.2.2 b hb i him
      rw [if_pos hin] at em
      have v0 : ∀ {Q : Int32 → gS → Prop}, wpX8_value 20 (nI b) (nI i) 0 s1 Q = Q (nI (vl g b i 0).toNat) s1 := fun {Q} => by
        rw [show wpX8_value 20 (nI b) (nI i) 0 s1 Q = Q (iI (vl g b i 0)) s1 from c_value (w := 0) R1 hb him hi6 (by decide), nI_i, show ((vl g b i 0).toNat : Int) = vl g b i 0 by omega]
      have v3 : ∀ {Q : Int32 → gS → Prop}, wpX8_value 20 (nI b) (nI i) 3 s1 Q = Q (nI (vl g b i 3).toNat) s1 := fun {Q} => by
        rw [show wpX8_value 20 (nI b) (nI i) 3 s1 Q = Q (iI (vl g b i 3)) s1 from c_value (w := 3) R1 hb him hi6 (by decide), nI_i, show ((vl g b i 3).toNat : Int) = vl g b i 3 by omega]
      rw [v0, v3]
      exact c_gath A.1 hp (by omega) (by omega) w hP F ok1 (fun s2 w2 hP2 F2 => ih (i + 1) _ s2 (by omega) w2 hP2 F2 (mgA_ok _ _ ok1 (mwV_ok phv_ok)) em)
theorem c_92n (A : okA t L g us ks) (C : CI t L g us ks s0) (hp : (ph t).1 = true) (he : e < 6) (hX : X.length ≤ 1000) (w : WX s0 s) (F : FD (mgA [] X) s) (k : ∀ s', clF s0 s' → CI [] L (teG t X g e) (teU t X g us) ks s' → Q (teR t X) s') : ∀ m i, i + m = 6 → wX11_tells_92 (nI e) (-1) Q (m + 1) (nI i) s := by
  intro m
  induction m with
  | zero =>
    intro i hi
    have : i = 6 := by omega
    subst this
    exact c_tend A C hp he w F hX k
  | succ m ih =>
    intro i hi
    have hi6 : i < 6 := by omega
    rw [wX11_tells_92, c_isIn0 (x := -1) (Or.inl (by decide)), nI_1 i, ge6 hi6]
    exact ⟨fun hc => hc.elim, fun _ => i0 (ih (i + 1) (by omega))⟩
def tlsQ (x1 x2 : Int32) (Q : Int32 → gS → Prop) : Int32 → gS → Prop := fun r1 s2 => wpX11_isEvent x1 s2 (fun r3 s3 => (r3 = 0 → Q (-1) s3) ∧ (¬ (r3 = 0) → (x2 = (-1) → wX11_tells_49 x1 x2 Q r1 s3) ∧ (¬ (x2 = (-1)) → (x2 = x1 → Q (-1) s3) ∧ (¬ (x2 = x1) → wpX8_isTold 20 x2 s3 (fun r4 s4 => (¬ r4 = 0 → wX11_tells_49 x1 x2 Q r1 s4) ∧ (r4 = 0 → Q (-1) s4))))))
theorem C_tells0 {x y : Int32} (A : okA t L g us ks) (C : CI t L g us ks s) (h : (x < 0 ∨ 6 ≤ x) ∨ (¬ y = -1 ∧ (y = x ∨ (y < 0 ∨ 6 ≤ y) ∨ ∃ b, b < 6 ∧ y = nI b ∧ tl g b = false))) (k : ∀ s', clF s s' → CI [] L g us ks s' → Q (-1) s') : wpX11_tells x y s Q := by
  unfold wpX11_tells
  have fin : ∀ r1 s1, WX s s1 → tlsQ x y Q r1 s1 := by
    intro r1 s1 w1
    have kq := k s1 w1.cl (w1.ci C)
    have R1 : repC (s1.1 (20 + 1)) g := (w1.ci C).2.2.1
    unfold tlsQ
    rcases ev_or x 6 (by decide) with ⟨e, he, rfl⟩ | hx
    · rw [c_isEvent he]
      refine i1 ?_
      rcases h with h | ⟨hn, h⟩
      · exfalso
        rcases h with h | h
        · exact nI_nn (by omega) h
        · rw [ge6 he] at h
          exact h
      · refine ⟨fun c => absurd c hn, fun _ => ⟨fun _ => kq, fun hne => ?_⟩⟩
        rcases ev_or y 6 (by decide) with ⟨b, hb, rfl⟩ | hy
        · rw [c_isTold R1 hb]
          cases htl : tl g b with
          | false => exact j0 kq
          | true =>
            exfalso
            rcases h with h | h | ⟨b', hb', e1, e2⟩
            · exact hne h
            · rcases h with h | h
              · exact nI_nn (by omega) h
              · rw [ge6 hb] at h
                exact h
            · rw [nI_eq (by omega) (by omega)] at e1
              subst e1
              rw [htl] at e2
              cases e2
        · rw [c_isTold0 hy]
          exact j0 kq
    · rw [c_isEvent0 hx]
      exact i0 kq
  exact c_read (Q := tlsQ x y Q) C A.1 (fun hp s1 w1 hP => fin _ s1 w1) (fun hp s1 w1 => fin _ s1 w1)
theorem c_49f {x1 x2 : Int32} (ht : okT t) (hp : (ph t).1 = false) (C : CI t L g us ks s0) (w : WX s0 s) (k : ∀ s', clF s0 s' → CI [] L (teG t X g e) (teU t X g us) ks s' → Q (teR t X) s') : wX11_tells_49 x1 x2 Q (nI (tb t (ph t).2.2)) s := by
  have hb := ph_tb ht
  unfold teG teU teR at k
  unfold teY at k
  rw [hp, if_pos rfl, Bool.false_and, Bool.false_and, if_neg (by decide), if_neg (by decide)] at k
  unfold wX11_tells_49
  refine ⟨fun h => absurd h (nI_ne (by omega)), fun _ => ?_⟩
  rw [show (-1 : Int32) - nI (tb t (ph t).2.2) = iI (-1 - (tb t (ph t).2.2 : Int)) from by rw [nI_i, show (-1 : Int32) = iI (-1) from rfl, iI_sub]]
  exact k s w.cl (w.ci C)
theorem C_tellsR (A : okA t L g us ks) (C : CI t L g us ks s) (he : e < 6) (k : ∀ s', clF s s' → CI [] L (teG t (phv (g 0).toInt.toNat t) g e) (teU t (phv (g 0).toInt.toNat t) g us) ks s' → Q (teR t (phv (g 0).toInt.toNat t)) s') : wpX11_tells (nI e) (-1) s Q := by
  have O := A.2.2.1.1
  have h80 := A.1.1
  unfold wpX11_tells
  refine c_read (Q := tlsQ (nI e) (-1) Q) C A.1 (fun hp s1 w1 hP => ?_) (fun hp s1 w1 => ?_)
  · unfold tlsQ
    rw [c_isEvent he]
    refine i1 ⟨fun _ => ?_, fun c => absurd rfl c⟩
    have hl := phv_le (r := (g 0).toInt.toNat) A.1 hp
    refine ⟨fun _ => c_start w1 hP (fun s2 w2 hP2 F2 => ⟨fun c => absurd rfl c, fun _ => ?_⟩), fun c => absurd rfl c⟩
    have e0 : gi s2 (20 + 1) 0 = nI (g 0).toInt.toNat := by
      show s2.1 21 0 = _
      rw [(w2.ci C).2.2.1.1, nI_i, show ((g 0).toInt.toNat : Int) = (g 0).toInt by have := O.1; omega]
      exact i_of _
    unfold wpX8_refDay
    rw [e0]
    refine c_gath (c := 3) A.1 hp (by have := O.1; omega) (by decide) w2 hP2 F2 ok_nil (fun s3 w3 hP3 F3 => ⟨7, ?_⟩)
    rw [mw3 phv_ok] at F3
    exact c_92n A C hp he (by omega) w3 F3 k 6 0 rfl
  · unfold tlsQ
    rw [c_isEvent he]
    exact i1 ⟨fun _ => c_49f A.1 hp C w1 k, fun c => absurd rfl c⟩
theorem byV_le (ht : okT t) (hp : (ph t).1 = true) : ∀ m i, (byV g b t m i).length ≤ 84 * m := by
  intro m
  induction m with
  | zero => intro i; exact Nat.le_refl _
  | succ m ih =>
    intro i
    rw [byV, List.length_append]
    have h1 := ih (i + 1)
    have h2 := phv_le (r := (vl g b i 0).toNat) ht hp
    split
    · rw [List.length_map]
      omega
    · rw [List.length_nil]
      omega
theorem C_tellsB (A : okA t L g us ks) (C : CI t L g us ks s) (he : e < 6) (hb : b < 6) (hbe : b ≠ e) (htl : tl g b = true) (k : ∀ s', clF s s' → CI [] L (teG t (byV g b t (mn g b) 0) g e) (teU t (byV g b t (mn g b) 0) g us) ks s' → Q (teR t (byV g b t (mn g b) 0)) s') : wpX11_tells (nI e) (nI b) s Q := by
  have O := A.2.2.1.1
  have h80 := A.1.1
  have hm6 := (O.2.2.2.1 b hb).2
  have hn1 : ¬ nI b = -1 := nI_ne (by omega)
  have hne : ¬ nI b = nI e := fun c => hbe ((nI_eq (by omega) (by omega)).mp c)
  unfold wpX11_tells
  refine c_read (Q := tlsQ (nI e) (nI b) Q) C A.1 (fun hp s1 w1 hP => ?_) (fun hp s1 w1 => ?_)
  · unfold tlsQ
    rw [c_isEvent he]
    refine i1 ⟨fun c => absurd c hn1, fun _ => ⟨fun c => absurd c hne, fun _ => ?_⟩⟩
    rw [c_isTold (w1.ci C).2.2.1 hb, htl]
    refine j1 ⟨fun _ => c_start w1 hP (fun s2 w2 hP2 F2 => ⟨fun _ => ⟨7, ?_⟩, fun c => absurd c hn1⟩), fun c => absurd rfl c⟩
    have hl := byV_le (g := g) (b := b) A.1 hp (mn g b) 0
    exact c_92 A C hp he hb (by omega) k 6 0 [] s2 rfl w2 hP2 F2 ok_nil (by rw [byV_fu 6 (mn g b) 0 (by omega) (by omega)])
  · unfold tlsQ
    rw [c_isEvent he]
    refine i1 ⟨fun c => absurd c hn1, fun _ => ⟨fun c => absurd c hne, fun _ => ?_⟩⟩
    rw [c_isTold (w1.ci C).2.2.1 hb, htl]
    exact j1 (c_49f A.1 hp C w1 k)
/-- what is asked of what comes behind: the text is empty -/
def KE (K : gS → Prop) : Prop := ∀ L g us ks s, okA [] L g us ks → CI [] L g us ks s → MI [] L g us ks s → K s
theorem gP.ok (G : gP s) : gtOk s := by
  obtain ⟨G1, G2, G3, _⟩ := G
  exact ⟨lt_Rd G1, lt_Rd G2, lt_Rd G3⟩
theorem meR_le (hL : L.length ≤ 24) : (meR t L r).2.length ≤ 24 := by
  unfold meR
  split
  · exact hL
  split
  · exact hL
  split
  · exact hL
  next h1 h2 h3 =>
    show (rws (mgA [] (phv r t))).length ≤ 24
    rw [rws_len]
    omega
theorem okA_te (A : okA t L g us ks) (he : e < 6) (okX : okV X) (psX : pos X) : okA [] L (teG t X g e) (teU t X g us) ks := by
  unfold teG teU
  by_cases h : teY t X = true
  · rw [if_pos h, if_pos h]
    unfold teY at h
    simp only [Bool.and_eq_true, decide_eq_true_eq] at h
    have U := ok_tg A.2.2.1 he h.1.2 h.2 (mgA_ok X [] ok_nil okX) (mgA_pos X [] pos_nil psX)
    exact ⟨okT_nil, (A.mut U).2⟩
  · rw [if_neg h, if_neg h]
    exact ⟨okT_nil, A.2⟩
theorem S_means {x : Int32} {G : Nat} {K : Nat → gS → Prop} (A : okA t L g us ks) (C : CI t L g us ks s) (M : MI t L g us ks s) (hG : gas ≤ G) (kk : KE (K (G - gas))) (hg : 99 * t.length + 279 ≤ gas) : wpX11_means x s (fun r s1 => ∃ ga gb, ga + gb ≤ G ∧ wpX12_means ga x s1 (eqK (K gb) r)) := by
  by_cases hx : 0 ≤ x.toInt ∧ x.toInt ≤ 9999
  · have ex : x = nI x.toInt.toNat := by
      rw [nI_i, show (x.toInt.toNat : Int) = x.toInt by omega]
      exact i_of x
    rw [ex]
    refine C_means A C (by omega) (fun s1 f1 C1 => ⟨gas, G - gas, by omega, M_means A (M.cl f1) C1.2.2.2.2.2.2.ok (by omega) (by omega) (fun s2 f2 M2 => ⟨fun _ => ?_, fun h => h rfl⟩)⟩)
    exact kk _ g us ks s2 ⟨okT_nil, meR_le A.2.1, A.2.2⟩ (C1.mo f2) M2
  · refine C_means0 A C hx (fun s1 f1 C1 => ⟨gas, G - gas, by omega, M_means0 (M.cl f1) hx (fun s2 f2 M2 => ⟨fun _ => ?_, fun h => h rfl⟩)⟩)
    exact kk _ g us ks s2 ⟨okT_nil, A.2⟩ (C1.mo f2) M2
theorem S_tells {x y : Int32} {G : Nat} {K : Nat → gS → Prop} (A : okA t L g us ks) (C : CI t L g us ks s) (M : MI t L g us ks s) (hG : gas ≤ G) (kk : KE (K (G - gas))) (hg : 99 * t.length + 279 ≤ gas) : wpX11_tells x y s (fun r s1 => ∃ ga gb, ga + gb ≤ G ∧ wpX12_tells ga x y s1 (eqK (K gb) r)) := by
  have O := A.2.2.1.1
  have ref : ((x < 0 ∨ 6 ≤ x) ∨ (¬ y = -1 ∧ (y = x ∨ (y < 0 ∨ 6 ≤ y) ∨ ∃ b, b < 6 ∧ y = nI b ∧ tl g b = false))) → wpX11_tells x y s (fun r s1 => ∃ ga gb, ga + gb ≤ G ∧ wpX12_tells ga x y s1 (eqK (K gb) r)) := by
    intro h
    refine C_tells0 A C h (fun s1 f1 C1 => ⟨gas, G - gas, by omega, M_tells0 (M.cl f1) h (fun s2 f2 M2 => ⟨fun _ => ?_, fun h => h rfl⟩)⟩)
    exact kk _ g us ks s2 ⟨okT_nil, A.2⟩ (C1.mo f2) M2
  rcases ev_or x 6 (by decide) with ⟨e, he, rfl⟩ | hx
  · by_cases hy : y = -1
    · subst hy
      refine C_tellsR A C he (fun s1 f1 C1 => ⟨gas, G - gas, by omega, M_tellsR A (M.cl f1) C1.2.2.2.2.2.2.ok he (by omega) (fun s2 f2 M2 => ⟨fun _ => ?_, fun h => h rfl⟩)⟩)
      exact kk _ _ _ ks s2 (okA_te A he phv_ok phv_pos) (C1.mo f2) M2
    · rcases ev_or y 6 (by decide) with ⟨b, hb, rfl⟩ | hy2
      · by_cases hbe : b = e
        · exact ref (Or.inr ⟨hy, Or.inl (by rw [hbe])⟩)
        · cases htl : tl g b with
          | false => exact ref (Or.inr ⟨hy, Or.inr (Or.inr ⟨b, hb, rfl, htl⟩)⟩)
          | true =>
            refine C_tellsB A C he hb hbe htl (fun s1 f1 C1 => ⟨gas, G - gas, by omega, M_tellsB A (M.cl f1) C1.2.2.2.2.2.2.ok he hb hbe htl hg (fun s2 f2 M2 => ⟨fun _ => ?_, fun h => h rfl⟩)⟩)
            exact kk _ _ _ ks s2 (okA_te A he (byV_ok _ _) (byV_pos O hb _ _)) (C1.mo f2) M2
      · exact ref (Or.inr ⟨hy, Or.inr (Or.inl hy2)⟩)
  · exact ref (Or.inl hx)
end STELLS
