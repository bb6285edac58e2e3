/-! phrases: the class gathers what a phrase means from a day -/
section CCLOSE
variable {s s' s0 : gS} {Q : Int32 → gS → Prop} {Q' : gS → Prop} {V W M : List Rd} {r c : Nat}
theorem min_n {a b : Nat} (ha : a ≤ 1000) (hb : b ≤ 1000) : jmin (nI a) (nI b) = nI (min a b) := by
  rw [nI_i, nI_i, iI_min (by omega) (by omega) (by omega) (by omega), nI_i]
  exact congrArg iI (by omega)
theorem max_n {a b : Nat} (ha : a ≤ 1000) (hb : b ≤ 1000) : jmax (nI a) (nI b) = nI (max a b) := by
  rw [nI_i, nI_i, iI_max (by omega) (by omega) (by omega) (by omega), nI_i]
  exact congrArg iI (by omega)
theorem c_close20 {x1 : Int32} (G : gP s) (h : RdS (gt1 s) V s) (hV : V.length ≤ 2) (okv : okV V) (F : FD M s) (okM : okV M) (hc : c ≤ 3) (k : ∀ s', fR (rdD 10) s s' → FD (mgA M (V.map (mw c))) s' → Q' s') : ∃ n, wX2_close_43 x1 (nI c) Q' n 0 s := by
  obtain ⟨G1, G2, G3, G4, G5, G6, G7, G8, G9⟩ := G
  obtain ⟨a, ea⟩ : ∃ a, a = gt1 s := ⟨_, rfl⟩
  rw [← ea] at G1 h G4
  have Lp : ∀ m i M1 s1, i + m = V.length → fR (rdD 10) s s1 → FD M1 s1 → okV M1 → mgA M1 ((V.drop i).map (mw c)) = mgA M (V.map (mw c)) → wX2_close_43 x1 (nI c) Q' (m + 1) (nI i) s1 := by
    intro m
    induction m with
    | zero =>
      intro i M1 s1 hi f F1 ok1 e
      have hV1 : RdS a V s1 := h.cg f.1 isRd_10 G1 (fun c => G4 c.symm)
      have t1 : gt1 s1 = a := by rw [f.g1, ea]
      rw [List.drop_of_length_le (by omega)] at e
      have e : M1 = mgA M (V.map (mw c)) := e
      rw [wX2_close_43, t1]
      refine ⟨G1, fun _ => k s1 f (by rw [← e]; exact F1), fun hc => absurd ?_ hc⟩
      rw [show gi s1 a 1 = nI V.length from hV1.1]
      exact nI_le (by omega) (by omega)
    | succ m ih =>
      intro i M1 s1 hi f F1 ok1 e
      have hV1 : RdS a V s1 := h.cg f.1 isRd_10 G1 (fun c => G4 c.symm)
      have t1 : gt1 s1 = a := by rw [f.g1, ea]
      have hiV : i < V.length := by omega
      obtain ⟨y, hy⟩ : ∃ y, y = V.getD i r0 := ⟨_, rfl⟩
      have oky := okv _ (getD_mem (d := r0) hiV)
      rw [← hy] at oky
      obtain ⟨p1, p2, p3, p4⟩ := oky
      have val : ∀ (j : Nat) {x2 : Int32} {Q : Int32 → gS → Prop}, j < 4 → x2 = nI j → Q (nI (rc y j)) s1 → wpX5_value a (nI i) x2 s1 Q := fun j x2 Q hj hx kq => c_val hV1 hiV (by omega) hj rfl hx (by rw [← hy]; exact kq)
      rw [drop_cons (d := r0) hiV, ← hy, List.map_cons] at e
      have e : mgA (mg M1 (mw c y)) ((V.drop (i + 1)).map (mw c)) = mgA M (V.map (mw c)) := e
      rw [wX2_close_43, t1]
      refine ⟨G1, fun hc => ?_, fun _ => ⟨G1, val 3 (by decide) rfl ?_⟩⟩
      · rw [show gi s1 a 1 = nI V.length from hV1.1, nI_leI (by omega) (by omega)] at hc
        omega
      rw [t1]
      refine ⟨G1, val 0 (by decide) rfl ?_⟩
      rw [t1]
      refine ⟨G1, val 1 (by decide) rfl ?_⟩
      rw [t1]
      refine ⟨G1, val 2 (by decide) rfl ?_⟩
      rw [show rc y 3 = y.2.2.2 from rfl, min_n (by omega) (by omega), nI_1]
      exact c_merge (x := mw c y) F1 ok1 (mw_ok ⟨p1, p2, p3, p4⟩) rfl rfl rfl rfl (fun s2 f2 F2 => ih (i + 1) _ s2 (by omega) (f.tr f2) F2 (mg_ok (mw_ok ⟨p1, p2, p3, p4⟩) _ ok1) e)
  exact ⟨V.length + 1, Lp V.length 0 M s (by omega) fR.rf F okM (by rw [List.drop_zero])⟩
theorem c_join (G : gP s) (h : RdS (gt1 s) V s) (hV : V.length ≤ 2) (okv : okV V) (h2 : RdS (gt2 s) W s) (hW : W.length ≤ 2) (okw : okV W) (F : FD M s) (okM : okV M) (hc : c ≤ 3) (k : ∀ s', fR (rdD 10) s s' → FD (mgA M ((jnA W V).map (mw c))) s' → Q' s') : wpX2_join (nI c) s Q' := by
  obtain ⟨G1, G2, G3, G4, G5, G6, G7, G8, G9⟩ := G
  obtain ⟨a, ea⟩ : ∃ a, a = gt1 s := ⟨_, rfl⟩
  obtain ⟨b, eb⟩ : ∃ b, b = gt2 s := ⟨_, rfl⟩
  rw [← ea] at G1 h G4 G7
  rw [← eb] at G2 h2 G5 G7
  have Lp : ∀ m i M1 s1, i + m = W.length → fR (rdD 10) s s1 → FD M1 s1 → okV M1 → mgA M1 ((jnA (W.drop i) V).map (mw c)) = mgA M ((jnA W V).map (mw c)) → wX2_join_2 (nI c) Q' (m + 1) (nI i) s1 := by
    intro m
    induction m with
    | zero =>
      intro i M1 s1 hi f F1 ok1 e
      have hW1 : RdS b W s1 := h2.cg f.1 isRd_10 G2 (fun c => G5 c.symm)
      have t2 : gt2 s1 = b := by rw [f.g2, eb]
      rw [List.drop_of_length_le (by omega)] at e
      have e : M1 = mgA M ((jnA W V).map (mw c)) := e
      rw [wX2_join_2, t2]
      refine ⟨G2, fun _ => k s1 f (by rw [← e]; exact F1), fun hc => absurd ?_ hc⟩
      rw [show gi s1 b 1 = nI W.length from hW1.1]
      exact nI_le (by omega) (by omega)
    | succ m ih =>
      intro i M1 s1 hi f F1 ok1 e
      have hW1 : RdS b W s1 := h2.cg f.1 isRd_10 G2 (fun c => G5 c.symm)
      have t2 : gt2 s1 = b := by rw [f.g2, eb]
      have hiW : i < W.length := by omega
      obtain ⟨x, hx⟩ : ∃ x, x = W.getD i r0 := ⟨_, rfl⟩
      have okx := okw _ (getD_mem (d := r0) hiW)
      rw [← hx] at okx
      have e' : jnA (W.drop i) V = V.flatMap (jn1 x) ++ jnA (W.drop (i + 1)) V := by
        rw [drop_cons (d := r0) hiW, hx]
        rfl
      rw [e', List.map_append, mgA_app] at e
      rw [wX2_join_2, t2]
      refine ⟨G2, fun hc => ?_, fun _ => ⟨V.length + 1, ?_⟩⟩
      · rw [show gi s1 b 1 = nI W.length from hW1.1, nI_leI (by omega) (by omega)] at hc
        omega
      have Li : ∀ m' j M2 s2, j + m' = V.length → fR (rdD 10) s s2 → FD M2 s2 → okV M2 → mgA M2 (((V.drop j).flatMap (jn1 x)).map (mw c)) = mgA M1 ((V.flatMap (jn1 x)).map (mw c)) → wX2_join_15 (nI c) Q' (fun y2 s => wX2_join_2 (nI c) Q' (m + 1) y2 s) (m' + 1) (nI i) (nI j) s2 := by
        intro m'
        induction m' with
        | zero =>
          intro j M2 s2 hj f2 F2 ok2 e2
          have hV2 : RdS a V s2 := h.cg f2.1 isRd_10 G1 (fun c => G4 c.symm)
          have t1 : gt1 s2 = a := by rw [f2.g1, ea]
          rw [List.drop_of_length_le (by omega), List.flatMap_nil] at e2
          have e2 : M2 = mgA M1 ((V.flatMap (jn1 x)).map (mw c)) := e2
          rw [← e2] at e
          rw [wX2_join_15, t1, nI_1]
          refine ⟨G1, fun _ => ih (i + 1) M2 s2 (by omega) f2 F2 ok2 e, fun hc => absurd ?_ hc⟩
          rw [show gi s2 a 1 = nI V.length from hV2.1]
          exact nI_le (by omega) (by omega)
        | succ m' ihj =>
          intro j M2 s2 hj f2 F2 ok2 e2
          have hV2 : RdS a V s2 := h.cg f2.1 isRd_10 G1 (fun c => G4 c.symm)
          have hW2 : RdS b W s2 := h2.cg f2.1 isRd_10 G2 (fun c => G5 c.symm)
          have t1 : gt1 s2 = a := by rw [f2.g1, ea]
          have t2 : gt2 s2 = b := by rw [f2.g2, eb]
          have hjV : j < V.length := by omega
          obtain ⟨y, hy⟩ : ∃ y, y = V.getD j r0 := ⟨_, rfl⟩
          have oky := okv _ (getD_mem (d := r0) hjV)
          rw [← hy] at oky
          have vx : ∀ (l : Nat) {x2 : Int32} {Q : Int32 → gS → Prop}, l < 4 → x2 = nI l → Q (nI (rc x l)) s2 → wpX5_value b (nI i) x2 s2 Q := fun l x2 Q hl hz kq => c_val hW2 hiW (by omega) hl rfl hz (by rw [← hx]; exact kq)
          have vy : ∀ (l : Nat) {x2 : Int32} {Q : Int32 → gS → Prop}, l < 4 → x2 = nI l → Q (nI (rc y l)) s2 → wpX5_value a (nI j) x2 s2 Q := fun l x2 Q hl hz kq => c_val hV2 hjV (by omega) hl rfl hz (by rw [← hy]; exact kq)
          have okj := jn1_ok okx oky
          obtain ⟨p1, p2, p3, p4⟩ := okx
          obtain ⟨q1, q2, q3, q4⟩ := oky
          rw [drop_cons (d := r0) hjV, ← hy, List.flatMap_cons, List.map_append, mgA_app] at e2
          rw [wX2_join_15, t1, t2, nI_1 j]
          refine ⟨G1, fun hc => ?_, fun _ => ⟨G2, vx 0 (by decide) rfl ?_⟩⟩
          · rw [show gi s2 a 1 = nI V.length from hV2.1, nI_leI (by omega) (by omega)] at hc
            omega
          rw [t1]
          refine ⟨G1, vy 1 (by decide) rfl ?_⟩
          rw [show rc x 0 = x.1 from rfl, show rc y 1 = y.2.1 from rfl, nI_ltI (by omega) (by omega), t2]
          refine ⟨fun hlt => ?_, fun hlt => ⟨G2, vx 2 (by decide) rfl ?_⟩⟩
          · have : jn1 x y = [] := by unfold jn1; rw [if_neg (by omega)]
            rw [this] at e2
            exact ihj (j + 1) M2 s2 (by omega) f2 F2 ok2 e2
          rw [t1]
          refine ⟨G1, vy 2 (by decide) rfl ?_⟩
          rw [t2]
          refine ⟨G2, vx 3 (by decide) rfl ?_⟩
          rw [t1]
          refine ⟨G1, vy 3 (by decide) rfl ?_⟩
          have ej : jn1 x y = [(x.1, y.2.1, max x.2.2.1 y.2.2.1, min x.2.2.2 y.2.2.2)] := by unfold jn1; rw [if_pos (by omega)]
          rw [ej] at e2 okj
          have okz := mw_ok (c := c) (okj (x.1, y.2.1, max x.2.2.1 y.2.2.1, min x.2.2.2 y.2.2.2) (by simp))
          rw [show rc x 2 = x.2.2.1 from rfl, show rc y 2 = y.2.2.1 from rfl, show rc x 3 = x.2.2.2 from rfl, show rc y 3 = y.2.2.2 from rfl, max_n (by omega) (by omega), min_n (by omega) (by omega), min_n (by omega) (by omega)]
          exact c_merge (x := mw c (x.1, y.2.1, max x.2.2.1 y.2.2.1, min x.2.2.2 y.2.2.2)) F2 ok2 okz rfl rfl rfl rfl (fun s3 f3 F3 => ihj (j + 1) _ s3 (by omega) (f2.tr f3) F3 (mg_ok okz _ ok2) e2)
      exact Li V.length 0 M1 s1 (by omega) f F1 ok1 (by rw [List.drop_zero])
  exact ⟨W.length + 1, Lp W.length 0 M s (by omega) fR.rf F okM (by rw [List.drop_zero])⟩
end CCLOSE
def GF (s0 s : gS) : Prop := (∀ a, a < 10 ∨ 18 ≤ a → s.1 a = s0.1 a) ∧ s.2.1 = s0.2.1 ∧ gP s
def GV (s0 : gS) (V : List Rd) (s : gS) : Prop := GF s0 s ∧ RdS (gt1 s) V s ∧ V.length ≤ 2 ∧ okV V
/-- what is held and what is found stays -/
def KP (s s' : gS) : Prop := (∀ W, RdS (gt2 s) W s → RdS (gt2 s') W s') ∧ (∀ M, FD M s → FD M s')
def okSp (T : List St) : Prop := ∃ x T', T = x :: T' ∧ x.1 < 11 ∧ okSt x ∧ ∀ y, y ∈ T' → 11 ≤ y.1 ∧ y.1 < 18 ∧ okSt y
section CGATHER
variable {t : List Nat} {s s' s0 : gS} {Q : Int32 → gS → Prop} {Q' : gS → Prop} {V W M : List Rd} {r c p n : Nat} {S P T R : List St} {x : St}
theorem KP.rf : KP s s := ⟨fun _ h => h, fun _ h => h⟩
theorem KP.tr {s1 s2 : gS} (h : KP s s1) (h2 : KP s1 s2) : KP s s2 := ⟨fun W w => h2.1 W (h.1 W w), fun M m => h2.2 M (h.2 M m)⟩
theorem FD.cg {a : Nat} (F : FD M s) (ha : isRd a) (hn : a ≠ 10) (f : ∀ y, rdD a y = false → s'.1 y = s.1 y) : FD M s' := by
  unfold isRd at ha
  unfold FD at F ⊢
  rw [f 10 (rdD_f (by omega) (by omega)), f 11 (rdD_f (by omega) (by omega))]
  exact F
theorem gP.cg (G : gP s) (h : s'.2.2 = s.2.2) : gP s' := by
  unfold gP gt1 gt2 gt3 at G ⊢
  rw [h]
  exact G
theorem GF.cg {a : Nat} (G : GF s0 s) (ha : isRd a) (f : fR (rdD a) s s') : GF s0 s' := by
  unfold isRd at ha
  refine ⟨fun y hy => ?_, by rw [f.2]; exact G.2.1, G.2.2.cg (by rw [f.2])⟩
  rw [f.1 y (rdD_f (by omega) (by omega))]
  exact G.1 y hy
theorem c_stepV {i j : Nat} {x2 : Int32} (hs : SL 7 S s) (hi : i < S.length) (hS : S.length ≤ 80) (hj : j < 4) (e : x2 = nI j) (k : Q (iI (stc (S.getD i st0) j)) s) : wpX4_step (nI i) x2 s Q := by
  subst e
  unfold wpX4_step
  have hv : gi s 7 (4 * i + j) = iI (stc (S.getD i st0) j) := hs i hi j (by rw [if_pos rfl]; exact hj)
  rw [n4, n4a, ix_nI (by omega), hv]
  refine ⟨fun c => absurd c (nI_nn (by omega)), fun _ => ⟨fun c => ?_, fun _ => ⟨fun c => absurd c (nI_nn (by omega)), fun _ => ⟨fun c => ?_, fun _ => ⟨vp_in_nI (by omega) (by decide), k⟩⟩⟩⟩⟩
  · rw [show (80 : Int32) = nI 80 from rfl, nI_leI (by decide) (by omega)] at c
    omega
  · rw [show (4 : Int32) = nI 4 from rfl, nI_leI (by decide) (by omega)] at c
    omega
/-- the phrase that is held -/
def PS (S : List St) (s : gS) : Prop := s.1 3 2 = nI S.length ∧ SL 7 S s ∧ S.length ≤ 80
theorem PS.cg (h : PS S s0) (G : GF s0 s) : PS S s := by
  refine ⟨by rw [G.1 3 (by omega)]; exact h.1, fun i hi j hj => ?_, h.2.2⟩
  rw [G.1 7 (by omega)]
  exact h.2.1 i hi j hj
theorem gr_at {x : St} (hP : PS S s0) (G : GF s0 s) (e : S = P ++ (x :: R)) (k : (6 < nI x.1 → (10 < nI x.1 → (18 ≤ nI x.1 → wpX2_close (nI x.1) (nI c) s (fun s4 => wX2_gather_3 (nI r) (nI c) Q' n (nI (P.length + 1)) s4)) ∧ (¬ (18 ≤ nI x.1) → wpX2_change (nI x.1) (iI x.2.1) (iI x.2.2.1) s (fun s5 => wX2_gather_3 (nI r) (nI c) Q' n (nI (P.length + 1)) s5))) ∧ (¬ (10 < nI x.1) → isRd (gt1 s) ∧ (wpX5_clear (gt1 s) s (fun s7 => wpX4_step (nI P.length) 3 s7 (fun r8 s8 => wpX2_addByMonths (nI x.1) (iI x.2.1) (iI x.2.2.1) r8 (nI r) s8 (fun s9 => wX2_gather_3 (nI r) (nI c) Q' n (nI (P.length + 1)) s9)))))) ∧ (¬ (6 < nI x.1) → isRd (gt1 s) ∧ (wpX5_clear (gt1 s) s (fun s11 => wpX2_addByDays (nI x.1) (iI x.2.1) (iI x.2.2.1) (nI r) s11 (fun s12 => wX2_gather_3 (nI r) (nI c) Q' n (nI (P.length + 1)) s12))))) : wX2_gather_3 (nI r) (nI c) Q' (n + 1) (nI P.length) s := by
  have H := hP.cg G
  have hl : P.length < S.length := by rw [e, List.length_append, List.length_cons]; omega
  have hx : S.getD P.length st0 = x := by
    rw [e, gD_ap, if_neg (by omega), Nat.sub_self]
    rfl
  have h80 := H.2.2
  have e0 : iI (stc x 0) = nI x.1 := by rw [nI_i]; rfl
  rw [wX2_gather_3, nI_1]
  refine ⟨fun hc => ?_, fun _ => c_stepV (j := 0) H.2.1 hl h80 (by decide) rfl (c_stepV (j := 1) H.2.1 hl h80 (by decide) rfl (c_stepV (j := 2) H.2.1 hl h80 (by decide) rfl ?_))⟩
  · rw [show gi s 3 2 = nI S.length from H.1, nI_leI (by omega) (by omega)] at hc
    omega
  rw [hx, e0]
  exact k
theorem nlt {a b : Nat} {x : Int32} (hx : x = nI a) (ha : a < 1000) (hb : b < 1000) : (x < nI b) = (a < b) := by
  rw [hx]
  exact propext (nI_ltI (by omega) (by omega))
theorem nle {a b : Nat} {x : Int32} (hx : x = nI a) (ha : a < 1000) (hb : b < 1000) : (x ≤ nI b) = (a ≤ b) := by
  rw [hx]
  exact propext (nI_leI (by omega) (by omega))
theorem g_base (hP : PS S s0) (G : GF s0 s) (e : S = P ++ (x :: R)) (hx : x.1 < 11) (ok : okSt x) (hr : r ≤ 9999) (k : ∀ s', GV s0 (bs r x) s' → KP s s' → wX2_gather_3 (nI r) (nI c) Q' n (nI (P.length + 1)) s') : wX2_gather_3 (nI r) (nI c) Q' (n + 1) (nI P.length) s := by
  obtain ⟨G1, G2, G3, G4, G5, G6, G7, G8, G9⟩ := G.2.2
  have hl : P.length < S.length := by rw [e, List.length_append, List.length_cons]; omega
  have hxx : S.getD P.length st0 = x := by
    rw [e, gD_ap, if_neg (by omega), Nat.sub_self]
    rfl
  have fin : ∀ s', fR (rdD (gt1 s)) s s' → RA (gt1 s) (bs r x) s' → wX2_gather_3 (nI r) (nI c) Q' n (nI (P.length + 1)) s' := by
    intro s' f h
    refine k s' ⟨G.cg G1 f, by rw [h.1]; exact h.2.2, bs_le, bs_ok⟩ ⟨fun W hW => ?_, fun M F => F.cg G1 G4 f.1⟩
    rw [f.g2]
    exact hW.cg f.1 G1 G2 G7
  refine gr_at hP G e ?_
  rw [nlt (x := 6) (a := 6) (b := x.1) rfl (by decide) (by omega), nlt (x := 10) (a := 10) (b := x.1) rfl (by decide) (by omega)]
  refine ⟨fun h6 => ⟨fun h10 => by omega, fun h10 => ⟨G1, c_rclr (fun s1 f1 _ h1 => ?_)⟩⟩, fun h6 => ⟨G1, c_rclr (fun s1 f1 _ h1 => ?_)⟩⟩
  · have H := hP.cg (G.cg G1 f1)
    refine c_stepV (j := 3) H.2.1 hl H.2.2 (by decide) rfl ?_
    rw [hxx]
    exact c_months ok (by omega) (by omega) hr ⟨f1.g1, G1, h1⟩ (fun s2 f2 h2 => fin s2 (f1.tr f2) h2)
  · exact c_days ok (by omega) hr ⟨f1.g1, G1, h1⟩ (fun s2 f2 h2 => fin s2 (f1.tr f2) h2)
theorem g_chg (hP : PS S s0) (G : GV s0 V s) (e : S = P ++ (x :: R)) (h11 : 11 ≤ x.1) (h18 : x.1 < 18) (ok : okSt x) (k : ∀ s', GV s0 (V.flatMap (cg1 x)) s' → KP s s' → wX2_gather_3 (nI r) (nI c) Q' n (nI (P.length + 1)) s') : wX2_gather_3 (nI r) (nI c) Q' (n + 1) (nI P.length) s := by
  obtain ⟨G0, hV, hl, okv⟩ := G
  have Gp := G0.2.2
  obtain ⟨G1, G2, G3, G4, G5, G6, G7, G8, G9⟩ := G0.2.2
  refine gr_at hP G0 e ?_
  rw [nlt (x := 6) (a := 6) (b := x.1) rfl (by decide) (by omega), nlt (x := 10) (a := 10) (b := x.1) rfl (by decide) (by omega), nle (x := 18) (a := 18) (b := x.1) rfl (by decide) (by omega)]
  refine ⟨fun h6 => ⟨fun h10 => ⟨fun hc => by omega, fun hc => ?_⟩, fun h10 => by omega⟩, fun h6 => by omega⟩
  refine c_change ok h11 h18 Gp hV hl okv (fun s1 f1 fl t1 t2 t3 h1 => k s1 ⟨⟨fun y hy => ?_, ?_, ?_⟩, ?_, ?_, ?_⟩ ⟨fun W hW => ?_, fun M F => F.cg G3 G6 f1⟩)
  · unfold isRd at G3
    rw [f1 y (rdD_f (by omega) (by omega))]
    exact G0.1 y hy
  · rw [fl]; exact G0.2.1
  · unfold gP
    rw [t1, t2, t3]
    exact ⟨G3, G2, G1, G6, G5, G4, fun c => G9 c.symm, fun c => G8 c.symm, fun c => G7 c.symm⟩
  · rw [t1]; exact h1
  · exact Nat.le_trans (fl_le (fun a => cg1_le) V) hl
  · exact fl_ok (fun a => cg1_ok) okv
  · rw [t2]
    exact hW.cg f1 G3 G2 (fun c => G9 c.symm)
theorem g_seq (hP : PS S s0) : ∀ T P R V s, S = P ++ (T ++ R) → (∀ y, y ∈ T → 11 ≤ y.1 ∧ y.1 < 18 ∧ okSt y) → GV s0 V s → (∀ s', GV s0 (spv r V T) s' → KP s s' → wX2_gather_3 (nI r) (nI c) Q' n (nI (P ++ T).length) s') → wX2_gather_3 (nI r) (nI c) Q' (n + T.length) (nI P.length) s := by
  intro T
  induction T with
  | nil =>
    intro P R V s e hT G k
    have := k s G KP.rf
    rw [List.append_nil] at this
    exact this
  | cons x T ih =>
    intro P R V s e hT G k
    obtain ⟨x1, x2, x3⟩ := hT x (by simp)
    have e1 : S = P ++ (x :: (T ++ R)) := e
    show wX2_gather_3 (nI r) (nI c) Q' (n + T.length + 1) (nI P.length) s
    refine g_chg hP G e1 x1 x2 x3 (fun s1 G1 k1 => ?_)
    have e2 : S = (P ++ [x]) ++ (T ++ R) := by rw [e1, List.append_assoc]; rfl
    have := ih (P ++ [x]) R _ s1 e2 (fun y hy => hT y (by simp [hy])) G1 (fun s2 G2 k2 => by
      have e3 : spv r V (x :: T) = spv r (V.flatMap (cg1 x)) T := by
        show spv r (if x.1 < 11 then bs r x else V.flatMap (cg1 x)) T = _
        rw [if_neg (by omega)]
      rw [← e3] at G2
      have := k s2 G2 (k1.tr k2)
      rw [List.append_assoc]
      exact this)
    rw [List.length_append] at this
    exact this
theorem g_span (hP : PS S s0) (e : S = P ++ (T ++ R)) (hT : okSp T) (hr : r ≤ 9999) (G : GF s0 s) (k : ∀ s', GV s0 (spv r [] T) s' → KP s s' → wX2_gather_3 (nI r) (nI c) Q' n (nI (P ++ T).length) s') : wX2_gather_3 (nI r) (nI c) Q' (n + T.length) (nI P.length) s := by
  obtain ⟨x, T', rfl, x1, x2, x3⟩ := hT
  have e1 : S = P ++ (x :: (T' ++ R)) := e
  show wX2_gather_3 (nI r) (nI c) Q' (n + T'.length + 1) (nI P.length) s
  refine g_base hP G e1 x1 x2 hr (fun s1 G1 k1 => ?_)
  have e2 : S = (P ++ [x]) ++ (T' ++ R) := by rw [e1, List.append_assoc]; rfl
  have := g_seq (r := r) (c := c) (n := n) (Q' := Q') hP T' (P ++ [x]) R _ s1 e2 x3 G1 (fun s2 G2 k2 => by
    have e3 : spv r [] (x :: T') = spv r (bs r x) T' := by
      show spv r (if x.1 < 11 then bs r x else [].flatMap (cg1 x)) T' = _
      rw [if_pos x1]
    rw [← e3] at G2
    have := k s2 G2 (k1.tr k2)
    rw [List.append_assoc]
    exact this)
  rw [List.length_append] at this
  exact this
theorem g_hold (hP : PS S s0) (e : S = P ++ ((18, 0, 0, 0) :: R)) (G : GV s0 V s) (F : FD M s) (k : ∀ s', GF s0 s' → RdS (gt2 s') V s' → FD M s' → wX2_gather_3 (nI r) (nI c) Q' n (nI (P.length + 1)) s') : wX2_gather_3 (nI r) (nI c) Q' (n + 1) (nI P.length) s := by
  obtain ⟨G0, hV, hl, okv⟩ := G
  obtain ⟨G1, G2, G3, G4, G5, G6, G7, G8, G9⟩ := G0.2.2
  refine gr_at hP G0 e ?_
  refine ⟨fun h6 => ⟨fun h10 => ⟨fun hc => ⟨fun h => absurd rfl h, fun _ => ⟨G1, G2, ?_⟩⟩, fun hc => absurd (by decide) hc⟩, fun h10 => absurd (by decide) h10⟩, fun h6 => absurd (by decide) h6⟩
  exact k _ ⟨G0.1, G0.2.1, ⟨G2, G1, G3, G5, G4, G6, fun c => G7 c.symm, G9, G8⟩⟩ hV F
theorem g_join (hP : PS S s0) (e : S = P ++ ((19, 0, 0, 0) :: R)) (G : GV s0 V s) (h2 : RdS (gt2 s) W s) (hW : W.length ≤ 2) (okw : okV W) (F : FD M s) (okM : okV M) (hc : c ≤ 3) (k : ∀ s', GF s0 s' → FD (mgA M ((jnA W V).map (mw c))) s' → wX2_gather_3 (nI r) (nI c) Q' n (nI (P.length + 1)) s') : wX2_gather_3 (nI r) (nI c) Q' (n + 1) (nI P.length) s := by
  obtain ⟨G0, hV, hl, okv⟩ := G
  refine gr_at hP G0 e ?_
  refine ⟨fun h6 => ⟨fun h10 => ⟨fun hc => ⟨fun h => ⟨fun h' => absurd rfl h', fun _ => ?_⟩, fun h => absurd h (by decide)⟩, fun hc => absurd (by decide) hc⟩, fun h10 => absurd (by decide) h10⟩, fun h6 => absurd (by decide) h6⟩
  exact c_join G0.2.2 hV hl okv h2 hW okw F okM (by assumption) (fun s1 f1 F1 => k s1 (G0.cg isRd_10 f1) F1)
theorem g_close (hP : PS S s0) (e : S = P ++ ((20, 0, 0, 0) :: R)) (G : GV s0 V s) (F : FD M s) (okM : okV M) (hc : c ≤ 3) (k : ∀ s', GF s0 s' → FD (mgA M (V.map (mw c))) s' → wX2_gather_3 (nI r) (nI c) Q' n (nI (P.length + 1)) s') : wX2_gather_3 (nI r) (nI c) Q' (n + 1) (nI P.length) s := by
  obtain ⟨G0, hV, hl, okv⟩ := G
  refine gr_at hP G0 e ?_
  refine ⟨fun h6 => ⟨fun h10 => ⟨fun hc => ⟨fun h => ⟨fun h' => ?_, fun h => absurd h (by decide)⟩, fun h => absurd h (by decide)⟩, fun hc => absurd (by decide) hc⟩, fun h10 => absurd (by decide) h10⟩, fun h6 => absurd (by decide) h6⟩
  exact c_close20 G0.2.2 hV hl okv F okM (by assumption) (fun s1 f1 F1 => k s1 (G0.cg isRd_10 f1) F1)
end CGATHER
