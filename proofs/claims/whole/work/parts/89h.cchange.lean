/-! phrases: what stands ahead of a span changes the class's readings -/
section CCHANGE
variable {s s' s0 : gS} {Q : Int32 → gS → Prop} {Q' : gS → Prop} {V W : List Rd} {a b r : Nat} {x : St}
theorem sm_i {d : Int} (h : 0 ≤ d) : iI d = nI d.toNat := by rw [nI_i]; exact congrArg iI (by omega)
theorem c_change (ok : okSt x) (h11 : 11 ≤ x.1) (h18 : x.1 < 18) (G : gP s) (h : RdS (gt1 s) V s) (hV : V.length ≤ 2) (okv : okV V) (k : ∀ s', (∀ y, rdD (gt3 s) y = false → s'.1 y = s.1 y) → s'.2.1 = s.2.1 → gt1 s' = gt3 s → gt2 s' = gt2 s → gt3 s' = gt1 s → RdS (gt3 s) (V.flatMap (cg1 x)) s' → Q' s') : wpX2_change (nI x.1) (iI x.2.1) (iI x.2.2.1) s Q' := by
  obtain ⟨G1, G2, G3, G4, G5, G6, G7, G8, G9⟩ := G
  obtain ⟨o0, o1, o2, o3, o4, o5, o6, o7, o8⟩ := ok
  obtain ⟨a, ea⟩ : ∃ a, a = gt1 s := ⟨_, rfl⟩
  obtain ⟨b, eb⟩ : ∃ b, b = gt3 s := ⟨_, rfl⟩
  rw [← ea] at G1 h k G8
  rw [← eb] at G3 k G8
  unfold wpX2_change
  rw [← eb]
  refine ⟨G3, c_rclr (fun s0 f0 _ h0 => ⟨V.length + 1, ?_⟩)⟩
  have Lp : ∀ m i W s1, i + m = V.length → fR (rdD b) s s1 → RdS b W s1 → W.length ≤ i → W ++ (V.drop i).flatMap (cg1 x) = V.flatMap (cg1 x) → wX2_change_10 (nI x.1) (iI x.2.1) (iI x.2.2.1) Q' (m + 1) (nI i) s1 := by
    intro m
    induction m with
    | zero =>
      intro i W s1 hi f hW hl e
      have hV1 : RdS a V s1 := h.cg f.1 G3 G1 (fun c => G8 c.symm)
      have t1 : gt1 s1 = a := by rw [f.g1, ea]
      have t3 : gt3 s1 = b := by rw [f.g3, eb]
      rw [wX2_change_10, t1, t3]
      refine ⟨G1, fun _ => ⟨G3, G1, ?_⟩, fun hc => absurd ?_ hc⟩
      · refine k _ (fun y hy => f.1 y hy) ?_ rfl ?_ rfl ?_
        · show s1.2.1 = s.2.1
          rw [f.2]
        · show gt2 s1 = gt2 s
          exact f.g2
        · rw [List.drop_of_length_le (by omega), List.flatMap_nil, List.append_nil] at e
          rw [← e]
          exact hW
      · rw [show gi s1 a 1 = nI V.length from hV1.1]
        exact nI_le (by omega) (by omega)
    | succ m ih =>
      intro i W s1 hi f hW hl e
      have hV1 : RdS a V s1 := h.cg f.1 G3 G1 (fun c => G8 c.symm)
      have t1 : gt1 s1 = a := by rw [f.g1, ea]
      have t3 : gt3 s1 = b := by rw [f.g3, eb]
      have hiV : i < V.length := by omega
      obtain ⟨y, hy⟩ : ∃ y, y = V.getD i r0 := ⟨_, rfl⟩
      obtain ⟨p1, p2, p3, p4⟩ := okv _ (getD_mem (d := r0) hiV)
      rw [← hy] at p1 p2 p3 p4
      have e' : W ++ (V.drop i).flatMap (cg1 x) = W ++ cg1 x y ++ (V.drop (i + 1)).flatMap (cg1 x) := by
        rw [drop_cons (d := r0) hiV, List.flatMap_cons, List.append_assoc, hy]
      rw [e'] at e
      have val : ∀ (j : Nat) {x2 : Int32} {Q : Int32 → gS → Prop}, j < 4 → x2 = nI j → Q (nI (rc y j)) s1 → wpX5_value a (nI i) x2 s1 Q := fun j x2 Q hj hx kq => c_val hV1 hiV (by omega) hj rfl hx (by rw [← hy]; exact kq)
      have hcl := cg1_le (x := x) (y := y)
      -- nothing is added
      have none' : cg1 x y = [] → wX2_change_10 (nI x.1) (iI x.2.1) (iI x.2.2.1) Q' (m + 1) (nI i + 1) s1 := by
        intro he
        rw [he, List.append_nil] at e
        rw [nI_1]
        exact ih (i + 1) W s1 (by omega) f hW (by omega) e
      -- one is added
      have one : ∀ (lo hi : Int) (g w : Nat) {x1 x2 x3 x4 : Int32}, x1 = iI lo → x2 = iI hi → x3 = nI g → x4 = nI w → (-100000 ≤ lo ∧ lo ≤ 100000) → (-100000 ≤ hi ∧ hi ≤ 100000) → cg1 x y = pu lo hi g w → wpX5_add b x1 x2 x3 x4 s1 (fun s9 => wX2_change_10 (nI x.1) (iI x.2.1) (iI x.2.2.1) Q' (m + 1) (nI i + 1) s9) := by
        intro lo hi g w x1 x2 x3 x4 q1 q2 q3 q4 b1 b2 he
        refine c_radd hW (by omega) q1 q2 q3 q4 b1 b2 (fun s2 f2 _ h2 => ?_)
        rw [nI_1]
        rw [← he] at h2
        exact ih (i + 1) _ s2 (by omega) (f.tr f2) h2 (by rw [List.length_append]; omega) e
      have c94 : ∀ z : Int, -1 ≤ z ∧ z ≤ 9999 → cg1 x y = pd z y.2.2.2 → wX2_change_94 (nI x.1) (iI x.2.1) (iI x.2.2.1) Q' (fun y4 s => wX2_change_10 (nI x.1) (iI x.2.1) (iI x.2.2.1) Q' (m + 1) y4 s) (nI i) (nI y.2.2.2) (iI z) s1 := by
        intro z hz he
        unfold wX2_change_94
        rw [t3]
        exact ⟨G3, one z z 0 y.2.2.2 rfl rfl rfl rfl (by omega) (by omega) he⟩
      have c70 : (x.1 = 11 ∨ x.1 = 12) → wX2_change_70 (nI x.1) (iI x.2.1) (iI x.2.2.1) Q' (fun y4 s => wX2_change_10 (nI x.1) (iI x.2.1) (iI x.2.2.1) Q' (m + 1) y4 s) (nI i) (nI y.1) (nI y.2.1) (nI y.2.2.2) s1 := by
        intro hx
        have o := o7 (by omega)
        have eu : iI x.2.1 = nI x.2.1.toNat := sm_i o.1
        refine ⟨fun hc => ?_, fun hc => ?_⟩
        · have hc := lit_n (n := 11) hc rfl
          rw [iI_neg, show wpX0_move (nI y.1) (iI x.2.1) (iI (-x.2.2.1)) s1 = wpX0_move (nI y.1) (nI x.2.1.toNat) (iI (-x.2.2.1)) s1 from by rw [eu]]
          refine c_move (by omega) (by omega) (by omega) (c94 _ (mvS_bd _ _ _) ?_)
          unfold cg1
          rw [if_neg hc, if_pos (by omega)]
        · have hc := lit_c (n := 11) hc rfl (by omega) (by decide)
          rw [show wpX0_move (nI y.2.1) (iI x.2.1) (iI x.2.2.1) s1 = wpX0_move (nI y.2.1) (nI x.2.1.toNat) (iI x.2.2.1) s1 from by rw [eu]]
          refine c_move (by omega) (by omega) (by omega) (c94 _ (mvS_bd _ _ _) ?_)
          unfold cg1
          rw [if_pos hc]
      have c151 : ∀ z : Int, -100 ≤ z ∧ z ≤ 20000 → cg1 x y = (if (y.1 : Int) ≤ z ∧ z ≤ y.2.1 then pd z y.2.2.2 else []) → wX2_change_151 (nI x.1) (iI x.2.1) (iI x.2.2.1) Q' (fun y4 s => wX2_change_10 (nI x.1) (iI x.2.1) (iI x.2.2.1) Q' (m + 1) y4 s) (nI i) (nI y.1) (nI y.2.1) (nI y.2.2.2) (iI z) s1 := by
        intro z hz he
        unfold wX2_change_151
        rw [t3, nI_i y.1, nI_i y.2.1, iI_lt (by omega) (by omega) (by omega) (by omega), iI_lt (by omega) (by omega) (by omega) (by omega)]
        refine ⟨fun c1 => none' ?_, fun c1 => ⟨fun c2 => none' ?_, fun c2 => ⟨G3, one z z 0 y.2.2.2 rfl rfl rfl rfl (by omega) (by omega) ?_⟩⟩⟩
        · rw [he, if_neg (by omega)]
        · rw [he, if_neg (by omega)]
        · rw [he, if_pos (by omega)]
          rfl
      have c125 : (x.1 = 16 ∨ x.1 = 17) → wX2_change_125 (nI x.1) (iI x.2.1) (iI x.2.2.1) Q' (fun y4 s => wX2_change_10 (nI x.1) (iI x.2.1) (iI x.2.2.1) Q' (m + 1) y4 s) (nI i) (nI y.1) (nI y.2.1) (nI y.2.2.2) s1 := by
        intro hx
        have o := o8 (by omega)
        refine ⟨fun hc => ?_, fun hc => ?_⟩
        · have hc := lit_n (n := 16) hc rfl
          have n1 := nmd_bd (a := x.2.1) (d := (y.2.1 : Int) + 1) (by omega) o
          rw [show nI y.2.1 + 1 = iI ((y.2.1 : Int) + 1) from l1, c_named (by omega) o, lm7]
          refine c151 _ (by omega) ?_
          unfold cg1
          rw [if_neg (by omega), if_neg (by omega), if_neg (by omega), if_pos (by omega)]
          by_cases c : (y.1 : Int) ≤ nmd x.2.1 ((y.2.1 : Int) + 1) - 7
          · rw [if_pos c, if_pos (by omega)]
          · rw [if_neg c, if_neg (by omega)]
        · have hc := lit_c (n := 16) hc rfl (by omega) (by decide)
          have n1 := nmd_bd (a := x.2.1) (d := (y.1 : Int)) (by omega) o
          rw [show wpX0_named (iI x.2.1) (nI y.1) s1 = wpX0_named (iI x.2.1) (iI (y.1 : Int)) s1 from by rw [nI_i], c_named (by omega) o]
          refine c151 _ (by omega) ?_
          unfold cg1
          rw [if_neg (by omega), if_neg (by omega), if_pos (by omega)]
          by_cases c : nmd x.2.1 (y.1 : Int) ≤ y.2.1
          · rw [if_pos c, if_pos (by omega)]
          · rw [if_neg c, if_neg (by omega)]
      have third : x.1 = 13 ∨ x.1 = 14 ∨ x.1 = 15 → wpX2_addThird (nI x.1) (nI i) s1 (fun s14 => wX2_change_10 (nI x.1) (iI x.2.1) (iI x.2.2.1) Q' (m + 1) (nI i + 1) s14) := by
        intro hx
        obtain ⟨th, hth⟩ : ∃ th, th = (y.2.1 - y.1 + 1) / 3 := ⟨_, rfl⟩
        have e3 : (nI y.2.1 - nI y.1 + 1) / 3 = nI th := by
          have : nI y.2.1 - nI y.1 + 1 = nI (y.2.1 - y.1 + 1) := by
            rw [nI_subI, show (1 : Int32) = iI 1 from rfl, iI_add, nI_i]
            exact congrArg iI (by omega)
          rw [this, show (3 : Int32) = nI 3 from rfl, nI_div (by omega) (by decide) (by decide), hth]
        have hz : (nI th = 0) = (th = 0) := by rw [show (0 : Int32) = nI 0 from rfl, nI_eq (by omega) (by decide)]
        have c83 : ∀ (lo hi : Int) {xl xh : Int32}, xl = iI lo → xh = iI hi → (-100000 ≤ lo ∧ lo ≤ 100000) → (-100000 ≤ hi ∧ hi ≤ 100000) → cg1 x y = pu lo hi y.2.2.1 y.2.2.2 → wX2_addThird_83 (nI x.1) (nI i) (fun s14 => wX2_change_10 (nI x.1) (iI x.2.1) (iI x.2.2.1) Q' (m + 1) (nI i + 1) s14) xl xh s1 := by
          intro lo hi xl xh q1 q2 b1 b2 he
          unfold wX2_addThird_83
          rw [t1, t3]
          refine ⟨G3, G1, val 2 (by decide) rfl ?_⟩
          rw [t1]
          exact ⟨G1, val 3 (by decide) rfl (one lo hi y.2.2.1 y.2.2.2 q1 q2 rfl rfl b1 b2 he)⟩
        unfold wpX2_addThird
        rw [t1]
        refine ⟨G1, val 0 (by decide) rfl ?_⟩
        rw [t1]
        refine ⟨G1, val 1 (by decide) rfl ?_⟩
        rw [show rc y 1 = y.2.1 from rfl, show rc y 0 = y.1 from rfl, e3, hz]
        have cg : th ≠ 0 → cg1 x y = (if x.1 = 13 then pu y.1 ((y.1 : Int) + (th : Nat) - 1) y.2.2.1 y.2.2.2 else if x.1 = 15 then pu ((y.2.1 : Int) - (th : Nat) + 1) y.2.1 y.2.2.1 y.2.2.2 else pu ((y.1 : Int) + (th : Nat)) ((y.2.1 : Int) - (th : Nat)) y.2.2.1 y.2.2.2) := by
          intro h0
          unfold cg1
          rw [if_neg (by omega), if_neg (by omega), if_neg (by omega), if_neg (by omega), if_neg (by rw [← hth]; exact h0), ← hth]
        refine ⟨fun h0 => ⟨fun c13 => ⟨fun c15 => ?_, fun c15 => ?_⟩, fun c13 => ?_⟩, fun h0 => none' ?_⟩
        · have c13 := lit_n (n := 13) c13 rfl
          have c15 := lit_n (n := 15) c15 rfl
          refine c83 ((y.1 : Int) + (th : Nat)) ((y.2.1 : Int) - (th : Nat)) ?_ ?_ (by omega) (by omega) ?_
          · rw [nI_i, nI_i, iI_add]
          · rw [nI_i, nI_i, iI_sub]
          · rw [cg h0, if_neg c13, if_neg c15]
        · have c13 := lit_n (n := 13) c13 rfl
          have c15 := lit_c (n := 15) c15 rfl (by omega) (by decide)
          refine c83 ((y.2.1 : Int) - (th : Nat) + 1) y.2.1 ?_ (nI_i _) (by omega) (by omega) ?_
          · rw [nI_i, nI_i, iI_sub, show (1 : Int32) = iI 1 from rfl, iI_add]
          · rw [cg h0, if_neg c13, if_pos c15]
        · have c13 := lit_c (n := 13) c13 rfl (by omega) (by decide)
          refine c83 y.1 ((y.1 : Int) + (th : Nat) - 1) (nI_i _) ?_ (by omega) (by omega) ?_
          · rw [nI_i, nI_i, iI_add, show (1 : Int32) = iI 1 from rfl, iI_sub]
          · rw [cg h0, if_pos c13]
        · unfold cg1
          rw [if_neg (by omega), if_neg (by omega), if_neg (by omega), if_neg (by omega), if_pos (by rw [← hth]; exact h0)]
      rw [wX2_change_10, t1]
      refine ⟨G1, fun hc => ?_, fun _ => ⟨G1, val 0 (by decide) rfl ?_⟩⟩
      · rw [show gi s1 a 1 = nI V.length from hV1.1, nI_leI (by omega) (by omega)] at hc
        omega
      rw [t1]
      refine ⟨G1, val 1 (by decide) rfl ?_⟩
      rw [t1]
      refine ⟨G1, val 3 (by decide) rfl ?_⟩
      refine ⟨fun c11 => c70 (Or.inl (lit_c (n := 11) c11 rfl (by omega) (by decide))), fun c11 => ⟨fun c12 => ⟨fun c16 => c125 (Or.inl (lit_c (n := 16) c16 rfl (by omega) (by decide))), fun c16 => ⟨fun c17 => third ?_, fun c17 => c125 (Or.inr (lit_c (n := 17) c17 rfl (by omega) (by decide)))⟩⟩, fun c12 => c70 (Or.inr (lit_c (n := 12) c12 rfl (by omega) (by decide)))⟩⟩
      have c11 := lit_n (n := 11) c11 rfl
      have c12 := lit_n (n := 12) c12 rfl
      have c16 := lit_n (n := 16) c16 rfl
      have c17 := lit_n (n := 17) c17 rfl
      omega
  exact Lp V.length 0 [] s0 (by omega) f0 h0 (by simp) (by simp)
end CCHANGE
