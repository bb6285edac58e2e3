/-! phrases: the class's rows of readings -/
def RdS (a : Nat) (V : List Rd) (s : gS) : Prop := s.1 a 1 = nI V.length ∧ ∀ i, i < V.length → ∀ j, j < 4 → s.1 (a + 1) (4 * i + j) = nI (rc (V.getD i r0) j)
def rdD (a : Nat) : Nat → Bool := fun b => b == a || b == a + 1
/-- the row that the references of Meaning name first -/
def RA (a : Nat) (V : List Rd) (s : gS) : Prop := gt1 s = a ∧ isRd a ∧ RdS a V s
section CREAD
variable {s s' s0 : gS} {Q : Int32 → gS → Prop} {Q' : gS → Prop} {V W : List Rd} {a b : Nat}
theorem rdD_1 : rdD a a = true := by simp [rdD]
theorem rdD_2 : rdD a (a + 1) = true := by simp [rdD]
theorem rdD_f {y : Nat} (h1 : y ≠ a) (h2 : y ≠ a + 1) : rdD a y = false := by
  unfold rdD
  simp [h1, h2]
theorem fR.g1 {D : Nat → Bool} (f : fR D s s') : gt1 s' = gt1 s := by
  unfold gt1
  rw [f.2]
theorem fR.g2 {D : Nat → Bool} (f : fR D s s') : gt2 s' = gt2 s := by
  unfold gt2
  rw [f.2]
theorem fR.g3 {D : Nat → Bool} (f : fR D s s') : gt3 s' = gt3 s := by
  unfold gt3
  rw [f.2]
theorem RdS.cg (h : RdS b W s) (f : ∀ y, rdD a y = false → s'.1 y = s.1 y) (ha : isRd a) (hb : isRd b) (hn : a ≠ b) : RdS b W s' := by
  unfold isRd at ha hb
  have e1 : s'.1 b = s.1 b := f b (rdD_f (by omega) (by omega))
  have e2 : s'.1 (b + 1) = s.1 (b + 1) := f (b + 1) (rdD_f (by omega) (by omega))
  unfold RdS at h ⊢
  rw [e1, e2]
  exact h
theorem c_rclr (k : ∀ s', fR (rdD a) s s' → s'.1 a 2 = 0 → RdS a [] s' → Q' s') : wpX5_clear a s Q' := by
  unfold wpX5_clear
  refine k _ ((fR_wi rdD_1).tr (fR_wi rdD_1)) (wi_at _ _ _ _) ⟨?_, fun i hi => absurd hi (Nat.not_lt_zero _)⟩
  rw [wi_ne _ _ _ _ (by decide), wi_at]
  rfl
theorem c_val {i j : Nat} {x1 x2 : Int32} (h : RdS a V s) (hi : i < V.length) (hV : V.length ≤ 6) (hj : j < 4) (e1 : x1 = nI i) (e2 : x2 = nI j) (k : Q (nI (rc (V.getD i r0) j)) s) : wpX5_value a x1 x2 s Q := by
  subst e1 e2
  unfold wpX5_value
  have hs : gi s (a + 1) (4 * i + j) = nI (rc (V.getD i r0) j) := h.2 i hi j hj
  rw [n4, n4a, ix_nI (by omega), hs]
  refine ⟨fun c => absurd c (nI_nn (by omega)), fun _ => ⟨fun c => ?_, fun _ => ⟨fun c => absurd c (nI_nn (by omega)), fun _ => ⟨fun c => ?_, fun _ => ⟨vp_in_nI (by omega) (by decide), k⟩⟩⟩⟩⟩
  · rw [show (6 : Int32) = nI 6 from rfl, nI_leI (by decide) (by omega)] at c
    omega
  · rw [show (4 : Int32) = nI 4 from rfl, nI_leI (by decide) (by omega)] at c
    omega
theorem c_radd {f t' : Int} {g w : Nat} {x1 x2 x3 x4 : Int32} (h : RdS a V s) (hV : V.length < 6) (e1 : x1 = iI f) (e2 : x2 = iI t') (e3 : x3 = nI g) (e4 : x4 = nI w) (hf : -100000 ≤ f ∧ f ≤ 100000) (ht : -100000 ≤ t' ∧ t' ≤ 100000) (k : ∀ s', fR (rdD a) s s' → s'.1 a 2 = s.1 a 2 → RdS a (V ++ pu f t' g w) s' → Q' s') : wpX5_add a x1 x2 x3 x4 s Q' := by
  subst e1 e2 e3 e4
  unfold wpX5_add
  have z0 : (iI f < 0) = (f < 0) := by rw [show (0 : Int32) = iI 0 from rfl, iI_lt (by omega) (by omega) (by decide) (by decide)]
  have z1 : ((9999 : Int32) < iI t') = (9999 < t') := by rw [show (9999 : Int32) = iI 9999 from rfl, iI_lt (by decide) (by decide) (by omega) (by omega)]
  have z2 : (iI f ≤ iI t') = (f ≤ t') := iI_le (by omega) (by omega) (by omega) (by omega)
  rw [z0, z1, z2]
  have no : ¬ (0 ≤ f ∧ f ≤ t' ∧ t' ≤ 9999) → Q' s := fun hn => k s fR.rf rfl (by
    have ep : pu f t' g w = [] := by unfold pu; rw [if_neg hn]
    rw [ep, List.append_nil]
    exact h)
  refine ⟨fun c => no (by omega), fun c1 => ⟨fun c => no (by omega), fun c2 => ⟨fun c3 => ?_, fun c => no (by omega)⟩⟩⟩
  have ep : pu f t' g w = [(f.toNat, t'.toNat, g, w)] := by unfold pu; rw [if_pos (by omega)]
  rw [ep] at k
  have gg : ∀ (x : gS) i v, gi (wi x (a + 1) i v) a 1 = gi x a 1 := fun x i v => by
    show (wi x (a + 1) i v).1 a 1 = x.1 a 1
    rw [wi_na _ _ _ _ (by omega)]
  simp only [gg]
  have hA : ∀ j, j < 4 → ix (nI (4 * V.length + j)) = 4 * V.length + j := fun j hj => ix_nI (by omega)
  rw [show gi s a 1 = nI V.length from h.1, n4, show nI (4 * V.length) + 0 = nI (4 * V.length + 0) from n4a _ 0, show nI (4 * V.length) + 1 = nI (4 * V.length + 1) from n4a _ 1, show nI (4 * V.length) + 2 = nI (4 * V.length + 2) from n4a _ 2, show nI (4 * V.length) + 3 = nI (4 * V.length + 3) from n4a _ 3, hA 0 (by decide), hA 1 (by decide), hA 2 (by decide), hA 3 (by decide), nI_1]
  have v : ∀ j, j < 4 → vp_in (nI (4 * V.length + j)) 24 := fun j hj => vp_in_nI (by omega) (by decide)
  refine ⟨fun c => absurd c (nI_nn (by omega)), fun _ => ⟨fun _ => ⟨v 0 (by omega), v 1 (by omega), v 2 (by omega), v 3 (by omega), ?_⟩, fun c => absurd ?_ c⟩⟩
  · refine k _ ((fR_wi rdD_2).tr ((fR_wi rdD_2).tr ((fR_wi rdD_2).tr ((fR_wi rdD_2).tr (fR_wi rdD_1))))) ?_ ⟨?_, fun i hi j hj => ?_⟩
    · rw [wi_ne _ _ _ _ (by decide), wi_na _ _ _ _ (by omega), wi_na _ _ _ _ (by omega), wi_na _ _ _ _ (by omega), wi_na _ _ _ _ (by omega)]
    · rw [wi_at, List.length_append]
      rfl
    · rw [List.length_append] at hi
      have hi : i < V.length + 1 := hi
      rw [wi_na _ _ _ _ (by omega), gD_app]
      by_cases hh : i = V.length
      · subst hh
        rw [if_pos rfl]
        by_cases c3 : j = 3
        · subst c3; rw [wi_at]; rfl
        rw [wi_ne _ _ _ _ (by omega)]
        by_cases c2 : j = 2
        · subst c2; rw [wi_at]; rfl
        rw [wi_ne _ _ _ _ (by omega)]
        by_cases c1 : j = 1
        · subst c1; rw [wi_at, nI_i]; show iI t' = iI (t'.toNat : Int); congr 1; omega
        rw [wi_ne _ _ _ _ (by omega)]
        have c0 : j = 0 := by omega
        subst c0
        rw [wi_at, nI_i]
        show iI f = iI (f.toNat : Int)
        congr 1
        omega
      · rw [if_neg hh, wi_ne _ _ _ _ (by omega), wi_ne _ _ _ _ (by omega), wi_ne _ _ _ _ (by omega), wi_ne _ _ _ _ (by omega)]
        exact h.2 i (by omega) j hj
  · rw [show (6 : Int32) = nI 6 from rfl, nI_ltI (by omega) (by decide)]
    exact hV
theorem RA.nx (h : RA a V s) (f : fR (rdD a) s s') (r : RdS a W s') : RA a W s' := ⟨by rw [f.g1]; exact h.1, h.2.1, r⟩
theorem c_aPu {f t' : Int} {g w : Nat} {x1 x2 x3 x4 : Int32} (h : RA a V s) (hV : V.length < 6) (e1 : x1 = iI f) (e2 : x2 = iI t') (e3 : x3 = nI g) (e4 : x4 = nI w) (hf : -100000 ≤ f ∧ f ≤ 100000) (ht : -100000 ≤ t' ∧ t' ≤ 100000) (k : ∀ s', fR (rdD a) s s' → RA a (V ++ pu f t' g w) s' → Q' s') : isRd (gt1 s) ∧ wpX5_add (gt1 s) x1 x2 x3 x4 s Q' := by
  rw [h.1]
  exact ⟨h.2.1, c_radd h.2.2 hV e1 e2 e3 e4 hf ht (fun s' f1 _ r1 => k s' f1 (h.nx f1 r1))⟩
theorem c_aDay {d : Int} {w : Nat} {x1 x2 : Int32} (h : RA a V s) (hV : V.length < 6) (e1 : x1 = iI d) (e2 : x2 = nI w) (hd : -100000 ≤ d ∧ d ≤ 100000) (k : ∀ s', fR (rdD a) s s' → RA a (V ++ pd d w) s' → Q' s') : wpX2_addDay x1 x2 s Q' := c_aPu h hV e1 e1 rfl e2 hd hd k
theorem c_aMon {m : Int} {n g w : Nat} {x1 x2 x3 x4 : Int32} (h : RA a V s) (hV : V.length < 6) (e1 : x1 = iI m) (e2 : x2 = nI n) (e3 : x3 = nI g) (e4 : x4 = nI w) (hm : -100000 ≤ m ∧ m ≤ 100000) (hn : n ≤ 12) (k : ∀ s', fR (rdD a) s s' → RA a (V ++ mos m n g w) s' → Q' s') : isRd (gt1 s) ∧ wpX5_addMonths (gt1 s) x1 x2 x3 x4 s Q' := by
  subst e1 e2
  refine ⟨by rw [h.1]; exact h.2.1, ?_⟩
  unfold wpX5_addMonths
  have z0 : (iI m < 0) = (m < 0) := by rw [show (0 : Int32) = iI 0 from rfl, iI_lt (by omega) (by omega) (by decide) (by decide)]
  have z1 : ((336 : Int32) < iI m + nI n) = (336 < m + n) := by rw [nI_i, iI_add, show (336 : Int32) = iI 336 from rfl, iI_lt (by decide) (by decide) (by omega) (by omega)]
  rw [z0, z1]
  have no : ¬ (0 ≤ m ∧ m + n ≤ 336) → Q' s := fun hn => k s fR.rf (by
    have ep : mos m n g w = [] := by unfold mos; rw [if_neg hn]
    rw [ep, List.append_nil]
    exact h)
  refine ⟨fun c => no (by omega), fun c1 => ⟨fun c => no (by omega), fun c2 => ?_⟩⟩
  have em : mos m n g w = pu (mS m.toNat) ((mS (m.toNat + n) : Int) - 1) g w := by unfold mos; rw [if_pos (by omega)]
  rw [em] at k
  have ex : iI m = nI m.toNat := by rw [nI_i]; exact congrArg iI (by omega)
  have b1 := mS_lt (m := m.toNat) (by omega)
  have b2 := mS_lt (m := m.toNat + n) (by omega)
  rw [ex, n4a, c_mStart (by omega), c_mStart (by omega)]
  exact (c_aPu h hV (nI_i _) (by rw [nI_i, show (1 : Int32) = iI 1 from rfl, iI_sub]) e3 e4 (by omega) (by omega) k).2
theorem c_wk {d : Int} (h : -5 ≤ d ∧ d ≤ 100000) : wpX0_weekday (iI d) s Q = Q (iI (wk d)) s := by
  unfold wpX0_weekday wk
  rw [show (5 : Int32) = iI 5 from rfl, show (7 : Int32) = iI 7 from rfl, iI_add, iI_rem (by omega) (by omega) (by decide) (by decide)]
theorem c_mond {d : Int} (h : -5 ≤ d ∧ d ≤ 100000) : wpX0_monday (iI d) s Q = Q (iI (mnd d)) s := by
  unfold wpX0_monday mnd
  rw [c_wk h, iI_sub]
theorem c_named {d e : Int} (h : -5 ≤ d ∧ d ≤ 100000) (he : 0 ≤ e ∧ e < 7) : wpX0_named (iI e) (iI d) s Q = Q (iI (nmd e d)) s := by
  have := wk_bd h.1
  unfold wpX0_named nmd
  rw [c_wk h, iI_sub, show (7 : Int32) = iI 7 from rfl, iI_add, iI_rem (by omega) (by omega) (by decide) (by decide), iI_add]
theorem lit_c {c n : Nat} {x : Int32} (e : nI c = x) (hx : x = nI n) (hc : c < 1000) (hn : n < 1000) : c = n := (nI_eq (by omega) (by omega)).mp (e.trans hx)
theorem lit_n {c n : Nat} {x : Int32} (e : ¬ nI c = x) (hx : x = nI n) : c ≠ n := fun h => e (by rw [hx, h])
theorem c_aUni {u d w : Nat} {z : Int} {x1 x2 x3 x4 : Int32} (h : RA a V s) (hV : V.length < 6) (hu : u < 4) (hd : d ≤ 9999) (hz : -1 ≤ z ∧ z ≤ 1) (e1 : x1 = nI u) (e2 : x2 = nI d) (e3 : x3 = iI z) (e4 : x4 = nI w) (k : ∀ s', fR (rdD a) s s' → RA a (V ++ uni u d z w) s' → Q' s') : isRd (gt1 s) ∧ wpX5_addUnit (gt1 s) x1 x2 x3 x4 s Q' := by
  subst e1 e2 e3
  refine ⟨by rw [h.1]; exact h.2.1, ?_⟩
  unfold wpX5_addUnit
  refine ⟨fun h0 => ⟨fun h1 => ⟨fun h2 => ?_, fun h2 => ?_⟩, fun h1 => ?_⟩, fun h0 => ?_⟩
  · have h0 := lit_n (n := 0) h0 rfl
    have h1 := lit_n (n := 1) h1 rfl
    have h2 := lit_n (n := 2) h2 rfl
    have e : uni u d z w = mos ((yr d + z) * 12) 12 3 w := by unfold uni; rw [if_neg h0, if_neg h1, if_neg h2]
    rw [e] at k
    have hy := yr_le hd
    rw [c_yearOf hd]
    exact (c_aMon h hV (by rw [nI_i, iI_add, show (12 : Int32) = iI 12 from rfl, iI_mul]) rfl rfl e4 (by omega) (by decide) k).2
  · have h2 := lit_c (n := 2) h2 rfl (by omega) (by decide)
    subst h2
    have e : uni 2 d z w = mos (mo d + z) 1 2 w := rfl
    rw [e] at k
    have hy := mo_ok hd
    refine c_monthOf hd ?_
    exact (c_aMon h hV (by rw [nI_i, iI_add]) rfl rfl e4 (by omega) (by decide) k).2
  · have h1 := lit_c (n := 1) h1 rfl (by omega) (by decide)
    subst h1
    have e : uni 1 d z w = pu (mnd d + 7 * z) (mnd d + 7 * z + 6) 1 w := rfl
    rw [e] at k
    have hb := mnd_bd hd
    rw [nI_i d, c_mond (by omega), show (7 : Int32) = iI 7 from rfl, iI_mul, iI_add, show (6 : Int32) = iI 6 from rfl, iI_add]
    exact (c_aPu h hV rfl rfl rfl e4 (by omega) (by omega) k).2
  · have h0 := lit_c (n := 0) h0 rfl (by omega) (by decide)
    subst h0
    have e : uni 0 d z w = pd (d + z) w := rfl
    rw [e] at k
    have e1 : nI d + iI z = iI (d + z) := by rw [nI_i, iI_add]
    rw [e1]
    exact (c_aPu h hV rfl rfl rfl e4 (by omega) (by omega) k).2
end CREAD
