/-! tells and means: the class -/
def WX (s s' : gS) : Prop := (∀ a, a = 0 ∨ 18 ≤ a → s'.1 a = s.1 a) ∧ s'.2.1 = s.2.1 ∧ gP s' ∧ s'.1 1 1 = 0
section CTELLS
variable {t : List Nat} {L L' : List Int32} {g g' : Sy} {us us' : List Sy} {ks : Nat → Option Sy} {s s' s0 : gS} {K : gS → Prop} {N e b r : Nat} {J H V W R X M : List Rd} {S : List St} {Q : Int32 → gS → Prop} {Q' : gS → Prop}
theorem WX.gf (w : WX s s0) (G : GF s0 s') : WX s s' := ⟨fun a ha => by rw [G.1 a (by omega)]; exact w.1 a ha, by rw [G.2.1]; exact w.2.1, G.2.2, by rw [G.1 1 (by omega)]; exact w.2.2.2⟩
theorem WX.cl (w : WX s s') : clF s s' := ⟨fun a ha => w.1 a (by omega), fun a _ => by rw [w.2.1]⟩
theorem WX.ci (C : CI t L g us ks s) (w : WX s s') : CI [] L g us ks s' := by
  obtain ⟨h1, h2, h3, h4, h5, h6, h7⟩ := C
  refine ⟨⟨w.2.2.2, fun i hi => absurd hi (Nat.not_lt_zero _)⟩, ⟨?_, h2.2.1, fun i hi => ?_⟩, ?_, ?_, h5.cg (w.1 25 (by omega)) (fun a p1 p2 => w.1 a (by omega)), ⟨?_, fun i hi u hu => ?_⟩, w.2.2.1⟩
  · rw [w.1 18 (by omega)]; exact h2.1
  · rw [w.1 19 (by omega)]; exact h2.2.2 i hi
  · rw [w.1 21 (by omega)]; exact h3
  · exact h4.cg (w.1 0 (by omega)) (fun a p1 p2 => w.1 a (by omega))
  · rw [w.1 0 (by omega)]; exact h6.1
  · rw [w.1 (36 + i) (by omega)]; exact h6.2 i hi u hu
theorem CI.rw' (C : CI t L g us ks s) (f : fR rD s s') (R : RC L' s') : CI t L' g us ks s' := by
  refine C.q (f.mono rD_q).fr (fun j _ => by rw [f.1 0 rfl]) R (rD_v f C.2.2.2.1)
/-- the text is read, and is there no more -/
theorem c_read (C : CI t L g us ks s) (ht : okT t) (k1 : (ph t).1 = true → ∀ s', WX s s' → PS (ph t).2.1 s' → Q (-1) s') (k0 : (ph t).1 = false → ∀ s', WX s s' → Q (nI (tb t (ph t).2.2)) s') : wpX4_parse s (fun r1 s1 => wpX9_clear s1 (fun s2 => Q r1 s2)) := by
  have h80 := ht.1
  have w : ∀ s1, fR phD s s1 → WX s (wi s1 1 1 0) := by
    intro s1 f
    refine ⟨fun a ha => ?_, ?_, ?_, wi_at _ _ _ _⟩
    · rw [wi_na _ _ _ _ (by omega)]
      refine f.1 a ?_
      unfold phD
      simp
      omega
    · show s1.2.1 = s.2.1
      rw [f.2]
    · exact C.2.2.2.2.2.2.cg (by show s1.2.2 = s.2.2; rw [f.2])
  refine c_parse ht C.1 (fun h s1 f h3 h7 => ?_) (fun h s1 f => ?_)
  · refine k1 h _ (w s1 f) ⟨?_, fun i hi j hj => ?_, Nat.le_trans (ph_len h) h80⟩
    · rw [wi_na _ _ _ _ (by decide)]; exact h3
    · rw [wi_na _ _ _ _ (by decide)]; exact h7 i hi j hj
  · exact k0 h _ (w s1 f)
theorem GF_10 (G : gP s) (f : fR (rdD 10) s s') : GF s s' := GF.cg ⟨fun _ _ => rfl, rfl, G⟩ isRd_10 f
theorem c_start (w : WX s0 s) (hP : PS S s) (k : ∀ s', WX s0 s' → PS S s' → FD [] s' → Q' s') : wpX2_start s Q' := by
  refine c_rclr (a := 10) (fun s1 f1 h2 h1 => ?_)
  have G := GF_10 w.2.2.1 f1
  exact k s1 (w.gf G) (hP.cg G) ⟨h1.1, h2, fun i _ hi => absurd hi (Nat.not_lt_zero _)⟩
theorem c_gath (ht : okT t) (hp : (ph t).1 = true) (hr : r ≤ 9999) {c : Nat} (hc : c ≤ 3) (w : WX s0 s) (hP : PS (ph t).2.1 s) (F : FD M s) (okM : okV M) (k : ∀ s', WX s0 s' → PS (ph t).2.1 s' → FD (mgA M ((phv r t).map (mw c))) s' → Q' s') : wpX2_gather (nI r) (nI c) s Q' := c_gather ht hP hp hr hc w.2.2.1 F okM (fun s1 G1 F1 => k s1 (w.gf G1) (hP.cg G1) F1)
theorem c_answer (F : FD J s) (hl : J.length < 2000) (k0 : J.length = 0 → Q (-200) s) (k3 : 6 < J.length → Q (-300) s) (k1 : 1 ≤ J.length → J.length ≤ 6 → Q (nI J.length) s) : wpX2_answer s Q := by
  obtain ⟨F1, F2, F3⟩ := F
  unfold wpX2_answer
  rw [show gi s 10 2 = bi (decide (6 < J.length)) from F2, show gi s 10 1 = nI (min 6 J.length) from F1, bi_0]
  have z0 : (nI (min 6 J.length) = 0) = (J.length = 0) := by
    rw [show (0 : Int32) = nI 0 from rfl, nI_eq (by omega) (by decide)]
    apply propext
    omega
  rw [z0]
  refine ⟨fun h => ⟨fun h0 => ?_, fun h0 => k0 h0⟩, fun h => k3 (by simpa using h)⟩
  have h6 := of_decide_eq_false h
  have := k1 (by omega) (by omega)
  rw [show min 6 J.length = J.length by omega]
  exact this
theorem c_found (hJ : J.length ≤ 6) (F : FD J s) (k : ∀ s', fR rD s s' → RC (rws J) s' → Q' s') : wpX11_tellFound s Q' := by
  have hT := rws_len J
  have hR : ∀ s', fR rD s s' → RdS 10 J s' := fun s' f => ⟨by rw [f.1 10 rfl, F.1]; exact congrArg nI (by omega), fun i hi j hj => by rw [f.1 (10 + 1) rfl]; exact F.2.2 i (by omega) hi j hj⟩
  unfold wpX11_tellFound
  refine c_clear (fun s0 f0 R0 => ⟨J.length + 1, ?_⟩)
  have Lp : ∀ m i s1, i + m = J.length → fR rD s s1 → RC ((rws J).take (4 * i)) s1 → wX11_tellFound_9 Q' (m + 1) (nI i) s1 := by
    intro m
    induction m with
    | zero =>
      intro i s1 hi f R1
      rw [wX11_tellFound_9, show gi s1 10 1 = nI J.length from (hR s1 f).1]
      refine ⟨fun _ => k s1 f ?_, fun hc => absurd (nI_le (by omega) (by omega)) hc⟩
      rw [List.take_of_length_le (by omega)] at R1
      exact R1
    | succ m ih =>
      intro i s1 hi f R1
      rw [wX11_tellFound_9, show gi s1 10 1 = nI J.length from (hR s1 f).1]
      refine ⟨fun hc => ?_, fun _ => ⟨5, ?_⟩⟩
      · rw [nI_leI (by omega) (by omega)] at hc
        omega
      have Li : ∀ m' w s2, w + m' = 4 → fR rD s s2 → RC ((rws J).take (4 * i + w)) s2 → wX11_tellFound_25 Q' (fun y1 s => wX11_tellFound_9 Q' (m + 1) y1 s) (m' + 1) (nI i) (nI w) s2 := by
        intro m'
        induction m' with
        | zero =>
          intro w s2 hw f2 R2
          have : w = 4 := by omega
          subst this
          rw [wX11_tellFound_25, nI_1 i]
          exact ⟨fun _ => ih (i + 1) s2 (by omega) f2 R2, fun hc => absurd (by decide) hc⟩
        | succ m' ihw =>
          intro w s2 hw f2 R2
          rw [wX11_tellFound_25, nI_1 w]
          refine ⟨fun hc => ?_, fun _ => c_val (hR s2 f2) (show i < J.length by omega) hJ (show w < 4 by omega) rfl rfl (c_add R2 ?_ (fun s3 f3 R3 => ihw (w + 1) s3 (by omega) (f2.tr f3) ?_))⟩
          · rw [show (4 : Int32) = nI 4 from rfl, nI_leI (by decide) (by omega)] at hc
            omega
          · rw [List.length_take]
            omega
          · rw [show 4 * i + (w + 1) = 4 * i + w + 1 by omega, tk_s (by omega), rws_get J i (by omega) w (by omega)]
            exact R3
      exact Li 4 0 s1 rfl f R1
  exact Lp J.length 0 s0 (by omega) f0 R0
theorem C_means0 {x : Int32} (A : okA t L g us ks) (C : CI t L g us ks s) (hx : ¬ (0 ≤ x.toInt ∧ x.toInt ≤ 9999)) (k : ∀ s', clF s s' → CI [] L g us ks s' → Q (-1) s') : wpX11_means x s Q := by
  unfold wpX11_means
  refine c_read (Q := fun r1 s2 => wpX11_isDay x s2 (fun r3 s3 => (¬ r3 = 0 → (r1 = (-1) → wpX2_start s3 (fun s4 => wpX2_gather x 3 s4 (fun s5 => wpX2_answer s5 (fun r6 s6 => (r6 ≤ 0 → Q r6 s6) ∧ (¬ (r6 ≤ 0) → wpX11_tellFound s6 (fun s7 => Q r6 s7)))))) ∧ (¬ (r1 = (-1)) → Q ((-1) - r1) s3)) ∧ (r3 = 0 → Q (-1) s3))) C A.1 (fun hp s1 w1 hP => ?_) (fun hp s1 w1 => ?_)
  · rw [i_of x, c_isDay (i_lo x) (i_hi x), decide_eq_false hx]
    exact ⟨fun h => absurd rfl h, fun _ => k s1 w1.cl (w1.ci C)⟩
  · rw [i_of x, c_isDay (i_lo x) (i_hi x), decide_eq_false hx]
    exact ⟨fun h => absurd rfl h, fun _ => k s1 w1.cl (w1.ci C)⟩
theorem C_means (A : okA t L g us ks) (C : CI t L g us ks s) (hr : r ≤ 9999) (k : ∀ s', clF s s' → CI [] (meR t L r).2 g us ks s' → Q (meR t L r).1 s') : wpX11_means (nI r) s Q := by
  have h80 := A.1.1
  unfold wpX11_means
  have dy : ∀ s2 {Q : Int32 → gS → Prop}, wpX11_isDay (nI r) s2 Q = Q 1 s2 := fun s2 {Q} => by
    rw [nI_i, c_isDay (by omega) (by omega), decide_eq_true (by omega)]
    rfl
  refine c_read (Q := fun r1 s2 => wpX11_isDay (nI r) s2 (fun r3 s3 => (¬ r3 = 0 → (r1 = (-1) → wpX2_start s3 (fun s4 => wpX2_gather (nI r) 3 s4 (fun s5 => wpX2_answer s5 (fun r6 s6 => (r6 ≤ 0 → Q r6 s6) ∧ (¬ (r6 ≤ 0) → wpX11_tellFound s6 (fun s7 => Q r6 s7)))))) ∧ (¬ (r1 = (-1)) → Q ((-1) - r1) s3)) ∧ (r3 = 0 → Q (-1) s3))) C A.1 (fun hp s1 w1 hP => ?_) (fun hp s1 w1 => ?_)
  · rw [dy]
    refine j1 ⟨fun _ => ?_, fun h => absurd rfl h⟩
    have hl := phv_le (r := r) A.1 hp
    refine c_start w1 hP (fun s2 w2 hP2 F2 => c_gath (c := 3) A.1 hp hr (by decide) w2 hP2 F2 ok_nil (fun s3 w3 hP3 F3 => ?_))
    rw [mw3 phv_ok] at F3
    have hJ := mgA_len (phv r t) []
    have hJ : (mgA [] (phv r t)).length ≤ 84 := by
      have hJ : (mgA [] (phv r t)).length ≤ 0 + (phv r t).length := hJ
      omega
    obtain ⟨J, eJ⟩ : ∃ J, J = mgA [] (phv r t) := ⟨_, rfl⟩
    unfold meR at k
    rw [if_neg (by rw [hp]; decide)] at k
    rw [← eJ] at k hJ F3
    refine c_answer F3 (by omega) (fun h0 => ⟨fun _ => ?_, fun h => absurd (by decide) h⟩) (fun h6 => ⟨fun _ => ?_, fun h => absurd (by decide) h⟩) (fun q1 q6 => ⟨fun h => ?_, fun _ => ?_⟩)
    · rw [if_pos h0] at k
      exact k s3 w3.cl (w3.ci C)
    · rw [if_neg (by omega), if_pos h6] at k
      exact k s3 w3.cl (w3.ci C)
    · rw [show (0 : Int32) = nI 0 from rfl, nI_leI (by omega) (by decide)] at h
      omega
    · rw [if_neg (by omega), if_neg (by omega)] at k
      refine c_found q6 F3 (fun s4 f4 R4 => k s4 ?_ ((w3.ci C).rw' f4 R4))
      refine ⟨fun a ha => ?_, fun a ha => ?_⟩
      · rw [f4.1 a (by unfold rD; simp; omega)]
        exact w3.1 a (by omega)
      · rw [f4.2, w3.2.1]
  · rw [dy]
    have hb := tb_le (t := t) (p := (ph t).2.2)
    unfold meR at k
    rw [if_pos hp] at k
    have hlt : tb t (ph t).2.2 < 2 ^ 31 := by
      have : (ph t).2.2 ≤ t.length := by
        obtain ⟨a1, a2, a3⟩ := far_prt (t := t) (p := 0) (Nat.zero_le _)
        have hgo : ∀ n p, p ≤ t.length → (pho t n p).2.2 ≤ t.length := by
          intro n
          induction n with
          | zero => intro p hp; exact hp
          | succ n ihn =>
            intro p hp
            obtain ⟨a1, a2, a3⟩ := far_prt (te_le hp)
            rw [pho]
            split
            · split
              · exact a1
              · exact ihn (prt t (te t p)).2.2 a1
            · exact hp
        unfold ph
        split
        · exact a1
        · exact hgo 81 _ a1
      have := hb this
      omega
    refine j1 ⟨fun h => absurd h (nI_ne hlt), fun _ => ?_⟩
    rw [show (-1 : Int32) - nI (tb t (ph t).2.2) = iI (-1 - (tb t (ph t).2.2 : Int)) from by rw [nI_i, show (-1 : Int32) = iI (-1) from rfl, iI_sub]]
    exact k s1 w1.cl (w1.ci C)
end CTELLS
