/-! the class's search -/
theorem cp_at (s : gS) (src dst n : Nat) {k : Nat} (h : k < n) : (cpI s src (ix 0) dst (ix 0) n).1 dst k = s.1 src k := by
  show (if dst = dst then va_cpy (s.1 src) (s.1 dst) (ix 0) (ix 0) n else s.1 dst) k = _
  rw [if_pos rfl]
  show (if ix 0 ≤ k ∧ k < ix 0 + n then s.1 src (ix 0 + (k - ix 0)) else s.1 dst k) = _
  have e0 : ix 0 = 0 := by decide
  rw [e0, if_pos ⟨by omega, by omega⟩, Nat.zero_add, Nat.sub_zero]
theorem cp_na (s : gS) (src sp dst dp n : Nat) {b : Nat} (h : b ≠ dst) : (cpI s src sp dst dp n).1 b = s.1 b := by
  show (if b = dst then _ else s.1 b) = _
  rw [if_neg h]
def fS (so d : Nat) (s s' : gS) : Prop := (∀ a, a ≠ so → ¬ (so + 40 + 1 + d < a ∧ a < so + 50) → s'.1 a = s.1 a) ∧ (∀ j, j ≠ 9 → s'.1 so j = s.1 so j) ∧ s'.2 = s.2
theorem fS.rf {so d : Nat} {s : gS} : fS so d s s := ⟨fun _ _ _ => rfl, fun _ _ => rfl, rfl⟩
theorem fS.tr {so d : Nat} {s s1 s2 : gS} (h : fS so d s s1) (h2 : fS so d s1 s2) : fS so d s s2 := ⟨fun a d e => (h2.1 a d e).trans (h.1 a d e), fun a d => (h2.2.1 a d).trans (h.2.1 a d), h2.2.2.trans h.2.2⟩
theorem fS.dn {so d : Nat} {s s1 : gS} (h : fS so (d + 1) s s1) : fS so d s s1 := ⟨fun a h1 h2 => h.1 a h1 (by omega), h.2.1, h.2.2⟩
theorem fS_wi {so d : Nat} {s : gS} {a i : Nat} {v : Int32} (h1 : so + 40 + 1 + d < a) (h2 : a < so + 50) : fS so d s (wi s a i v) := ⟨fun b _ hb => wi_na _ _ _ _ (by omega), fun j _ => congrFun (wi_na _ _ _ _ (by omega)) j, rfl⟩
def ST (so : Nat) (g : Nat → Int32) (s : gS) : Prop := s.1 so 1 = nI (el g 6).length ∧ (∀ d, d < (el g 6).length → s.1 (so + 1) d = nI ((el g 6).getD d 0)) ∧ (∀ e i, e < 6 → i < mn g e → s.1 (so + 2) (6 * e + i) = iI (vl g e i 3)) ∧ (∀ e i e', e ∈ el g 6 → e' ∈ el g 6 → e ≠ e' → i < mn g e → ∃ p, s.1 (so + 3 + 1 + (6 * e + i)) e' = nI (bts 6 p) ∧ ∀ k, k < mn g e' → p k = cm g e i e' k)
theorem ST.fS {so N d : Nat} {g : Nat → Int32} {s s' : gS} (O : okS N g) (h : ST so g s) (f : fS so d s s') : ST so g s' := by
  refine ⟨?_, fun k hk => ?_, fun e i he hi => ?_, fun e i e' he he' hne hi => ?_⟩
  · rw [f.2.1 1 (by decide)]; exact h.1
  · rw [f.1 (so + 1) (by omega) (by omega)]; exact h.2.1 k hk
  · rw [f.1 (so + 2) (by omega) (by omega)]; exact h.2.2.1 e i he hi
  · have he6 := (el_mem.mp he).1
    have hm := (O.2.2.2.1 e he6).2
    rw [f.1 (so + 3 + 1 + (6 * e + i)) (by omega) (by omega)]
    exact h.2.2.2 e i e' he he' hne hi
def wlL (g : Nat → Int32) : List Nat → (Nat → Int32) → Int
  | [], _ => 0
  | e :: r, q => vl g e (ix (q e)) 3 + wlL g r q
theorem wth_wl {g : Nat → Int32} (q : Nat → Int32) : ∀ n, wth g q n = wlL g (el g n) q := by
  have ha : ∀ r r', wlL g (r ++ r') q = wlL g r q + wlL g r' q := by
    intro r r'
    induction r with
    | nil => simp [wlL]
    | cons e r ih => rw [List.cons_append, wlL, wlL, ih]; omega
  intro n
  induction n with
  | zero => rfl
  | succ n ih =>
    rw [el_s]
    unfold wth
    cases h : tl g n with
    | false => simp [ih]
    | true =>
      simp only [if_true]
      rw [ha, ← ih]
      simp [wlL]
def BB (so : Nat) (b : Int × (Nat → Int32)) (s : gS) : Prop := s.1 so 9 = iI b.1 ∧ (∀ e, e < 6 → s.1 (so + 48) e = b.2 e) ∧ 0 ≤ b.1 ∧ b.1 ≤ 18
def CW (so : Nat) (r : List Nat) (L : List (Nat → Int32)) (s s' : gS) : Prop := ∀ e i, e < 6 → i < 6 → s'.1 (so + 49) (6 * e + i) = s.1 (so + 49) (6 * e + i) + nI (if e ∈ r then L.countP (fun q => q e == nI i) else 0)
theorem CW.tr {so : Nat} {r : List Nat} {L L' : List (Nat → Int32)} {s s1 s2 : gS} (h : CW so r L s s1) (h2 : CW so r L' s1 s2) : CW so r (L ++ L') s s2 := by
  intro e i he hi
  rw [h2 e i he hi, h e i he hi, Int32.add_assoc, nI_add]
  congr 2
  split
  · rw [List.countP_append]
  · rfl
section SEARCH
variable {so N : Nat} {g : Nat → Int32} {Q : Int32 → gS → Prop}
theorem el6 {e : Nat} (h : e ∈ el g 6) : e < 6 := (el_mem.mp h).1
theorem c_leaves (O : okS N g) {d e i : Nat} {c : Nat → Nat → Bool} (he : e ∈ el g 6) (hi : i < mn g e) (hd : d + 1 < 6) : ∀ (rr pre2 : List Nat), el g 6 = pre2 ++ rr → e ∉ rr → ∀ s : gS, ST so g s → (∀ e', e' ∈ rr → s.1 (so + 40 + 1 + d) e' = nI (bts 6 (c e'))) → (∀ e', e' ∈ rr → ∀ k, c e' k = true → k < mn g e') → (∀ s', (∀ a, a ≠ so + 40 + 1 + (d + 1) → s'.1 a = s.1 a) → s'.2 = s.2 → (∀ e', e' ∈ rr → s'.1 (so + 40 + 1 + (d + 1)) e' = nI (bts 6 fun k => c e' k && cm g e i e' k)) → (∀ e', e' ∉ rr → s'.1 (so + 40 + 1 + (d + 1)) e' = s.1 (so + 40 + 1 + (d + 1)) e') → Q 1 s') → (∀ s', (∀ a, a ≠ so + 40 + 1 + (d + 1) → s'.1 a = s.1 a) → s'.2 = s.2 → (∃ e', e' ∈ rr ∧ ∀ k, k < 6 → (c e' k && cm g e i e' k) = false) → Q 0 s') → wX7_leavesSome_4 so (nI d) (nI (6 * e + i)) Q (rr.length + 1) (nI pre2.length) s := by
  have he6 := el6 he
  have hm := (O.2.2.2.1 e he6).2
  intro rr
  induction rr with
  | nil =>
    intro pre2 hl _ s T _ _ k1 k0
    rw [List.append_nil] at hl
    have e1 : gi s so 1 = nI pre2.length := by
      show s.1 so 1 = _
      rw [T.1, hl]
    show wX7_leavesSome_4 so (nI d) (nI (6 * e + i)) Q (0 + 1) (nI pre2.length) s
    rw [wX7_leavesSome_4, e1]
    have hp := el_len g 6
    rw [hl] at hp
    exact ⟨fun _ => k1 s (fun _ _ => rfl) rfl (fun e' h => by cases h) (fun _ _ => rfl), fun h => absurd (nI_le (Nat.le_refl _) (by omega)) h⟩
  | cons e1 rr ih =>
    intro pre2 hl hne s T hop hc k1 k0
    have hlen : (el g 6).length = pre2.length + (rr.length + 1) := by rw [hl]; simp
    have hl6 := el_len g 6
    have h1m : e1 ∈ el g 6 := by rw [hl]; simp
    have h16 := el6 h1m
    have hne1 : e ≠ e1 := fun h => hne (h ▸ List.mem_cons_self)
    have a1 : gi s so 1 = nI (el g 6).length := T.1
    have a2 : gi s (so + 1) pre2.length = nI e1 := by
      show s.1 (so + 1) pre2.length = _
      rw [T.2.1 _ (by omega), hl]
      simp
    have a3 : gi s (so + 40 + 1 + d) e1 = nI (bts 6 (c e1)) := hop e1 List.mem_cons_self
    obtain ⟨pB, b1, b2⟩ := T.2.2.2 e i e1 he h1m hne1 hi
    have a4 : gi s (so + 3 + 1 + (6 * e + i)) e1 = nI (bts 6 pB) := b1
    have a5 : (bts 6 fun k => c e1 k && pB k) = bts 6 fun k => c e1 k && cm g e i e1 k := bts_cg (fun k _ => by
      cases hk : c e1 k with
      | false => rfl
      | true => rw [b2 k (hc e1 List.mem_cons_self k hk)])
    rw [List.length_cons, wX7_leavesSome_4]
    have hle : (nI (el g 6).length ≤ nI pre2.length) = False := by
      rw [nI_leI (by omega) (by omega)]
      simp; omega
    have d1 : nI d + 1 = nI (d + 1) := nI_1 d
    simp only [a1, hle, ix_nI (show pre2.length < 2 ^ 31 by omega), a2, ix_nI (show d < 2 ^ 31 by omega), ix_nI (show e1 < 2 ^ 31 by omega), ix_nI (show 6 * e + i < 2 ^ 31 by omega), a3, a4, band6, a5, d1, ix_nI (show d + 1 < 2 ^ 31 by omega), nI_1, vp_in_nI (show pre2.length < 6 by omega) (show 6 < 2 ^ 31 by decide), vp_in_nI (show d < 6 by omega) (show 6 < 2 ^ 31 by decide), vp_in_nI hd (show 6 < 2 ^ 31 by decide), vp_in_nI h16 (show 6 < 2 ^ 31 by decide), vp_in_nI (show 6 * e + i < 36 by omega) (show 36 < 2 ^ 31 by decide), false_implies, true_and, not_false_eq_true, true_implies]
    refine ⟨fun h => ?_, fun h => k0 s (fun _ _ => rfl) rfl ⟨e1, List.mem_cons_self, ?_⟩⟩
    · have h0 : ∀ a, a ≠ so + 40 + 1 + (d + 1) → (wi s (so + 40 + 1 + (d + 1)) e1 (nI (bts 6 fun k => c e1 k && cm g e i e1 k))).1 a = s.1 a := fun a ha => wi_na _ _ _ _ ha
      have hnr : e1 ∉ rr := by
        have := el_nd g 6
        rw [hl] at this
        exact (List.nodup_cons.mp (List.nodup_append.mp this).2.1).1
      have := ih (pre2 ++ [e1]) (by rw [hl]; simp) (fun h => hne (List.mem_cons_of_mem _ h)) (wi s (so + 40 + 1 + (d + 1)) e1 (nI (bts 6 fun k => c e1 k && cm g e i e1 k))) (T.fS O (d := d) ⟨fun a _ hb => h0 a (by omega), fun j _ => congrFun (h0 so (by omega)) j, rfl⟩) (fun e' he' => by rw [h0 _ (by omega)]; exact hop e' (List.mem_cons_of_mem _ he')) (fun e' he' => hc e' (List.mem_cons_of_mem _ he')) (fun s' f1 f2 f3 f4 => k1 s' (fun a ha => (f1 a ha).trans (h0 a ha)) f2 (fun e' he' => ?_) (fun e' he' => ?_)) (fun s' f1 f2 f3 => k0 s' (fun a ha => (f1 a ha).trans (h0 a ha)) f2 ?_)
      · rwa [List.length_append] at this
      · rcases List.mem_cons.mp he' with rfl | h2
        · rw [f4 _ hnr, wi_at]
        · exact f3 e' h2
      · have hne2 : e' ≠ e1 := fun h => he' (by rw [h]; exact List.mem_cons_self)
        rw [f4 e' (fun h => he' (List.mem_cons_of_mem _ h)), wi_ne _ _ _ _ hne2]
      · obtain ⟨e', h1, h2⟩ := f3
        exact ⟨e', List.mem_cons_of_mem _ h1, h2⟩
    · rw [bz6] at h
      exact h
theorem c_search (O : okS N g) : ∀ (r : List Nat) (e : Nat) (pre : List Nat) (m : Nat), el g 6 = pre ++ e :: r → ∀ (c : Nat → Nat → Bool) (p : Nat → Int32) (s : gS) (S : Int) (b : Int × (Nat → Int32)) (Q : Int32 → gS → Prop), ST so g s → (∀ e', e' ∈ e :: r → s.1 (so + 40 + 1 + pre.length) e' = nI (bts 6 (c e'))) → (∀ e', e' ∈ e :: r → ∀ k, c e' k = true → k < mn g e') → (∀ k, k < 6 → k ∉ e :: r → s.1 (so + 47) k = p k) → (∀ q, (∀ k, k ∉ e :: r → q k = p k) → wth g q 6 = S + wlL g (e :: r) q) → (∀ q, q ∈ extF g (e :: r) c p → 0 ≤ wth g q 6 ∧ wth g q 6 ≤ 18) → BB so b s → (∀ s', fS so pre.length s s' → CW so (e :: r) (extF g (e :: r) c p) s s' → BB so ((extF g (e :: r) c p).foldl (bstep g) b) s' → (∀ k, k < 6 → k ∉ e :: r → s'.1 (so + 47) k = p k) → Q (nI (extF g (e :: r) c p).length) s') → wpX7_search (r.length + 1 + m) so (nI pre.length) (iI S) s Q := by
  intro r
  induction r with
  | nil =>
    intro e pre m hl c p s S b Q T OP CC CH WH HB BS K
    have hlen : (el g 6).length = pre.length + 1 := by rw [hl]; simp
    have hl6 := el_len g 6
    have hem : e ∈ el g 6 := by rw [hl]; simp
    have he6 := el6 hem
    have hm := (O.2.2.2.1 e he6).2
    have a2 : gi s (so + 1) pre.length = nI e := by
      show s.1 (so + 1) pre.length = _
      rw [T.2.1 _ (by omega), hl]
      simp
    have a3 : gi s (so + 40 + 1 + pre.length) e = nI (bts 6 (c e)) := OP e List.mem_cons_self
    rw [show ([] : List Nat).length + 1 + m = m + 1 by simp [Nat.add_comm], wpX7_search]
    unfold wfX7_search
    have hle : (nI (el g 6).length ≤ nI pre.length) = False := by
      rw [nI_leI (by omega) (by omega)]
      simp; omega
    simp only [show gi s so 1 = nI (el g 6).length from T.1, hle, ltz (show pre.length < 2 ^ 31 by omega), lt6 (show pre.length < 6 by omega), ix_nI (show pre.length < 2 ^ 31 by omega), a2, ix_nI (show e < 2 ^ 31 by omega), a3, vp_in_nI (show pre.length < 6 by omega) (show 6 < 2 ^ 31 by decide), vp_in_nI he6 (show 6 < 2 ^ 31 by decide), false_implies, true_and, not_false_eq_true, true_implies, not_true_eq_false, and_true]
    have inner : ∀ n i, i + n = 6 → ∀ (s : gS) (F : Nat) (b : Int × (Nat → Int32)), ST so g s → (∀ k, k < 6 → k ∉ [e] → s.1 (so + 47) k = p k) → BB so b s → (∀ q, q ∈ (List.range' i n).flatMap (fun i => if c e i then extF g [] (fun e' k => c e' k && cm g e i e' k) (up p e (nI i)) else []) → 0 ≤ wth g q 6 ∧ wth g q 6 ≤ 18) → (∀ s', fS so pre.length s s' → CW so [e] ((List.range' i n).flatMap (fun i => if c e i then extF g [] (fun e' k => c e' k && cm g e i e' k) (up p e (nI i)) else [])) s s' → BB so (((List.range' i n).flatMap (fun i => if c e i then extF g [] (fun e' k => c e' k && cm g e i e' k) (up p e (nI i)) else [])).foldl (bstep g) b) s' → (∀ k, k < 6 → k ∉ [e] → s'.1 (so + 47) k = p k) → Q (nI (F + ((List.range' i n).flatMap (fun i => if c e i then extF g [] (fun e' k => c e' k && cm g e i e' k) (up p e (nI i)) else [])).length)) s') → wX7_search_43 (fun a0 x1 x2 s Q => wpX7_search m a0 x1 x2 s Q) so (nI pre.length) (iI S) Q (n + 1) (nI e) (nI (bts 6 (c e))) (nI F) (nI i) s := by
      intro n
      induction n with
      | zero =>
        intro i hi s F b T CH BS HB K
        have : i = 6 := by omega
        subst this
        rw [wX7_search_43]
        refine ⟨fun _ => K s fS.rf (fun e' i' _ _ => ?_) BS CH, fun h => absurd (by decide) h⟩
        have : (if e' ∈ [e] then List.countP (fun q : Nat → Int32 => q e' == nI i') (List.flatMap (fun i => if c e i then extF g [] (fun e' k => c e' k && cm g e i e' k) (up p e (nI i)) else []) (List.range' 6 0)) else 0) = 0 := by
          split <;> simp
        rw [this]
        exact (Int32.add_zero _).symm
      | succ n ih =>
        intro i hi s F b T CH BS HB K
        rw [List.range'_succ, List.flatMap_cons] at HB K
        rw [wX7_search_43, sh6b (show i < 6 by omega), nI_1 i]
        simp only [ge6 (show i < 6 by omega), bi_0, false_implies, true_and, not_false_eq_true, true_implies]
        cases hc : c e i with
        | false =>
          rw [hc] at HB K
          refine ⟨fun h => absurd rfl h, fun _ => ih (i + 1) (by omega) s F b T CH BS ?_ ?_⟩
          · simpa using HB
          · simpa using K
        | true =>
          rw [hc] at HB K
          refine ⟨fun _ => ⟨vp_in_nI he6 (by decide), ?_⟩, fun h => by cases h⟩
          have hi2 := CC e List.mem_cons_self i hc
          have e1 : nI e * 6 + nI i = nI (6 * e + i) := by
            simp only [lit_i, nI_i, iI_add, iI_mul]
            congr 1
            simp
            omega
          simp only [if_true, extF, List.singleton_append] at HB K
          have Tw : ST so g (wi s (so + 47) e (nI i)) := T.fS O (d := pre.length) (fS_wi (by omega) (by omega))
          have b1 : gi (wi s (so + 47) e (nI i)) so 1 = nI (pre.length + 1) := by
            rw [← hlen]; exact Tw.1
          have b2 : gi (wi s (so + 47) e (nI i)) (so + 2) (6 * e + i) = iI (vl g e i 3) := Tw.2.2.1 e i he6 hi2
          have hwq : wth g (up p e (nI i)) 6 = S + vl g e i 3 := by
            rw [WH (up p e (nI i)) (fun k hk => up_ne _ _ (fun h => hk (by rw [h]; exact List.mem_cons_self)))]
            simp [wlL, up_at, nI_clamp (show i < 2 ^ 31 by omega)]
          have hbd := HB (up p e (nI i)) List.mem_cons_self
          rw [ix_nI (by omega), b1, nI_1]
          refine ⟨fun h => absurd rfl h, fun _ => ⟨by rw [e1]; exact vp_in_nI (by omega) (by decide), ?_⟩⟩
          rw [e1, ix_nI (by omega), b2, iI_add, ← hwq]
          have fin : ∀ s2, fS so pre.length (wi s (so + 47) e (nI i)) s2 → s2.1 (so + 49) = s.1 (so + 49) → BB so (bstep g b (up p e (nI i))) s2 → (∀ k, k < 6 → k ∉ [e] → s2.1 (so + 47) k = p k) → wX7_search_139 (fun a0 x1 x2 s Q => wpX7_search m a0 x1 x2 s Q) so (nI pre.length) (iI S) Q (fun y3 y4 y5 y6 s => wX7_search_43 (fun a0 x1 x2 s Q => wpX7_search m a0 x1 x2 s Q) so (nI pre.length) (iI S) Q (n + 1) y3 y4 y5 y6 s) (nI e) (nI (bts 6 (c e))) (nI F) (nI i) (nI (6 * e + i)) 1 s2 := by
            intro s2 f2 c2 B2 ch2
            unfold wX7_search_139
            refine ⟨vp_in_nI (by omega) (by decide), vp_in_nI (by omega) (by decide), ?_⟩
            rw [nI_1, nI_1, ix_nI (by omega)]
            have f3 : fS so pre.length s (wi s2 (so + 49) (6 * e + i) (gi s2 (so + 49) (6 * e + i) + 1)) := fS.tr (fS_wi (by omega) (by omega)) (fS.tr f2 (fS_wi (by omega) (by omega)))
            refine ih (i + 1) (by omega) _ (F + 1) (bstep g b (up p e (nI i))) (T.fS O f3) (fun k h1 h2 => by rw [wi_na _ _ _ _ (by omega)]; exact ch2 k h1 h2) ⟨by rw [wi_na _ _ _ _ (by omega)]; exact B2.1, fun k hk => by rw [wi_na _ _ _ _ (by omega)]; exact B2.2.1 k hk, B2.2.2⟩ (fun q hq => HB q (List.mem_cons_of_mem _ hq)) (fun s' fs' cs' bs' chs' => ?_)
            have := K s' (fS.tr f3 fs') ?_ bs' chs'
            · rw [List.length_cons] at this
              rw [show ∀ z, F + 1 + z = F + (z + 1) from fun z => by omega]
              exact this
            · refine CW.tr (L := [up p e (nI i)]) (s1 := wi s2 (so + 49) (6 * e + i) (gi s2 (so + 49) (6 * e + i) + 1)) (fun e' i' he' hi' => ?_) cs'
              have hcnt : (if e' ∈ [e] then [up p e (nI i)].countP (fun q => q e' == nI i') else 0) = if e' = e ∧ i' = i then 1 else 0 := by
                by_cases h1 : e' = e
                · subst h1
                  by_cases h2 : i' = i
                  · subst h2; simp [up_at]
                  · have : ¬ nI i = nI i' := by
                      rw [nI_eq (by omega) (by omega)]
                      omega
                    simp [up_at, this, h2]
                · simp [h1]
              rw [hcnt]
              by_cases h1 : e' = e ∧ i' = i
              · rw [if_pos h1, h1.1, h1.2, wi_at]
                show s2.1 (so + 49) _ + 1 = _
                rw [c2]
                rfl
              · rw [if_neg h1, wi_ne _ _ _ _ (by omega), c2]
                exact (Int32.add_zero _).symm
          unfold wpX7_arrive
          have hw9 : gi (wi s (so + 47) e (nI i)) so 9 = iI b.1 := by
            show (wi s (so + 47) e (nI i)).1 so 9 = _
            rw [wi_na _ _ _ _ (by omega)]; exact BS.1
          have hbb := BS.2.2
          rw [hw9, iI_le (by omega) (by omega) (by omega) (by omega)]
          refine ⟨fun h => ?_, fun h => ?_⟩
          · have hb0 : bstep g b (up p e (nI i)) = b := by
              unfold bstep
              rw [if_neg (by omega)]
            refine fin _ fS.rf (by rw [wi_na _ _ _ _ (by omega)]) ?_ (fun k h1 h2 => ?_)
            · rw [hb0]
              exact ⟨hw9, fun k hk => by rw [wi_na _ _ _ _ (by omega)]; exact BS.2.1 k hk, hbb⟩
            · have hne : k ≠ e := fun h => h2 (by rw [h]; exact List.mem_cons_self)
              rw [wi_ne _ _ _ _ hne]
              exact CH k h1 h2
          · have hb0 : bstep g b (up p e (nI i)) = (wth g (up p e (nI i)) 6, up p e (nI i)) := by
              unfold bstep
              rw [if_pos (by omega)]
            have n6 : ix (6 : Int32) = 6 := by decide
            refine fin _ ⟨fun a h1 h2 => ?_, fun j hj => ?_, rfl⟩ (by rw [cp_na _ _ _ _ _ _ (by omega), wi_na _ _ _ _ (by omega), wi_na _ _ _ _ (by omega)]) ?_ (fun k h1 h2 => ?_)
            · rw [cp_na _ _ _ _ _ _ (by omega), wi_na _ _ _ _ (by omega)]
            · rw [cp_na _ _ _ _ _ _ (by omega), wi_ne _ _ _ _ hj]
            · rw [hb0]
              refine ⟨?_, fun k hk => ?_, hbd⟩
              · rw [cp_na _ _ _ _ _ _ (by omega), wi_at]
              · rw [n6, cp_at _ _ _ _ hk, wi_na _ _ _ _ (by omega)]
                by_cases hke : k = e
                · subst hke
                  rw [wi_at]
                  exact (up_at _ _ _).symm
                · rw [wi_ne _ _ _ _ hke]
                  show s.1 (so + 47) k = up p e (nI i) k
                  rw [up_ne _ _ hke]
                  exact CH k hk (by simp [hke])
            · have hne : k ≠ e := fun h => h2 (by rw [h]; exact List.mem_cons_self)
              rw [cp_na _ _ _ _ _ _ (by omega), wi_na _ _ _ _ (by omega), wi_ne _ _ _ _ hne]
              exact CH k h1 h2
    exact ⟨7, inner 6 0 rfl s 0 b T CH BS HB (fun s' f1 f2 f3 f4 => by
      have := K s' f1 f2 f3 f4
      rw [Nat.zero_add]
      exact this)⟩
  | cons e2 r2 IH =>
    intro e pre m hl c p s S b Q T OP CC CH WH HB BS K
    have hlen : (el g 6).length = pre.length + (r2.length + 2) := by rw [hl]; simp
    have hl6 := el_len g 6
    have hem : e ∈ el g 6 := by rw [hl]; simp
    have he6 := el6 hem
    have hm := (O.2.2.2.1 e he6).2
    have hnd : e ∉ e2 :: r2 := by
      have := el_nd g 6
      rw [hl] at this
      exact (List.nodup_cons.mp (List.nodup_append.mp this).2.1).1
    have a2 : gi s (so + 1) pre.length = nI e := by
      show s.1 (so + 1) pre.length = _
      rw [T.2.1 _ (by omega), hl]
      simp
    have a3 : gi s (so + 40 + 1 + pre.length) e = nI (bts 6 (c e)) := OP e List.mem_cons_self
    rw [show (e2 :: r2).length + 1 + m = ((e2 :: r2).length + m) + 1 by omega, wpX7_search]
    unfold wfX7_search
    have hle : (nI (el g 6).length ≤ nI pre.length) = False := by
      rw [nI_leI (by omega) (by omega)]
      simp; omega
    simp only [show gi s so 1 = nI (el g 6).length from T.1, hle, ltz (show pre.length < 2 ^ 31 by omega), lt6 (show pre.length < 6 by omega), ix_nI (show pre.length < 2 ^ 31 by omega), a2, ix_nI (show e < 2 ^ 31 by omega), a3, vp_in_nI (show pre.length < 6 by omega) (show 6 < 2 ^ 31 by decide), vp_in_nI he6 (show 6 < 2 ^ 31 by decide), false_implies, true_and, not_false_eq_true, true_implies, not_true_eq_false, and_true]
    have inner : ∀ n i, i + n = 6 → ∀ (s : gS) (F : Nat) (b : Int × (Nat → Int32)), ST so g s → (∀ e', e' ∈ e :: e2 :: r2 → s.1 (so + 40 + 1 + pre.length) e' = nI (bts 6 (c e'))) → (∀ k, k < 6 → k ∉ e :: e2 :: r2 → s.1 (so + 47) k = p k) → BB so b s → (∀ q, q ∈ ((List.range' i n).flatMap (fun i => if c e i then extF g (e2 :: r2) (fun e' k => c e' k && cm g e i e' k) (up p e (nI i)) else [])) → 0 ≤ wth g q 6 ∧ wth g q 6 ≤ 18) → (∀ s', fS so pre.length s s' → CW so (e :: e2 :: r2) ((List.range' i n).flatMap (fun i => if c e i then extF g (e2 :: r2) (fun e' k => c e' k && cm g e i e' k) (up p e (nI i)) else [])) s s' → BB so (((List.range' i n).flatMap (fun i => if c e i then extF g (e2 :: r2) (fun e' k => c e' k && cm g e i e' k) (up p e (nI i)) else [])).foldl (bstep g) b) s' → (∀ k, k < 6 → k ∉ e :: e2 :: r2 → s'.1 (so + 47) k = p k) → Q (nI (F + ((List.range' i n).flatMap (fun i => if c e i then extF g (e2 :: r2) (fun e' k => c e' k && cm g e i e' k) (up p e (nI i)) else [])).length)) s') → wX7_search_43 (fun a0 x1 x2 s Q => wpX7_search ((e2 :: r2).length + m) a0 x1 x2 s Q) so (nI pre.length) (iI S) Q (n + 1) (nI e) (nI (bts 6 (c e))) (nI F) (nI i) s := by
      intro n
      induction n with
      | zero =>
        intro i hi s F b T OP CH BS HB K
        have : i = 6 := by omega
        subst this
        rw [wX7_search_43]
        refine ⟨fun _ => K s fS.rf (fun e' i' _ _ => ?_) BS CH, fun h => absurd (by decide) h⟩
        have : (if e' ∈ e :: e2 :: r2 then List.countP (fun q : Nat → Int32 => q e' == nI i') (List.flatMap (fun i => if c e i then extF g (e2 :: r2) (fun e' k => c e' k && cm g e i e' k) (up p e (nI i)) else []) (List.range' 6 0)) else 0) = 0 := by
          split <;> simp
        rw [this]
        exact (Int32.add_zero _).symm
      | succ n ih =>
        intro i hi s F b T OP CH BS HB K
        rw [List.range'_succ, List.flatMap_cons] at HB K
        rw [wX7_search_43, sh6b (show i < 6 by omega), nI_1 i]
        simp only [ge6 (show i < 6 by omega), bi_0, false_implies, true_and, not_false_eq_true, true_implies]
        cases hc : c e i with
        | false =>
          rw [hc] at HB K
          refine ⟨fun h => absurd rfl h, fun _ => ih (i + 1) (by omega) s F b T OP CH BS ?_ ?_⟩
          · simpa using HB
          · simpa using K
        | true =>
          rw [hc] at HB K
          refine ⟨fun _ => ⟨vp_in_nI he6 (by decide), ?_⟩, fun h => by cases h⟩
          have hi2 := CC e List.mem_cons_self i hc
          have e1 : nI e * 6 + nI i = nI (6 * e + i) := by
            simp only [lit_i, nI_i, iI_add, iI_mul]
            congr 1
            simp
            omega
          simp only [if_true] at HB K
          generalize hLi : extF g (e2 :: r2) (fun e' k => c e' k && cm g e i e' k) (up p e (nI i)) = Li at HB K
          have Tw : ST so g (wi s (so + 47) e (nI i)) := T.fS O (d := pre.length) (fS_wi (by omega) (by omega))
          have b1 : gi (wi s (so + 47) e (nI i)) so 1 = nI (el g 6).length := Tw.1
          have hne9 : ¬ nI pre.length + 1 = nI (el g 6).length := by
            rw [nI_1, nI_eq (by omega) (by omega)]
            omega
          have hwq : ∀ q, (∀ k, k ∉ e2 :: r2 → q k = up p e (nI i) k) → wth g q 6 = (S + vl g e i 3) + wlL g (e2 :: r2) q := by
            intro q hq
            have hqe : q e = nI i := by rw [hq e hnd, up_at]
            rw [WH q (fun k hk => by
              rw [hq k (fun h => hk (List.mem_cons_of_mem _ h))]
              exact up_ne _ _ (fun h => hk (by rw [h]; exact List.mem_cons_self)))]
            rw [wlL, hqe, ix_nI (by omega)]
            omega
          have hqe : ∀ q, q ∈ Li → q e = nI i := fun q hq => by
            rw [← hLi] at hq
            rw [extF_out _ _ _ _ hq e hnd, up_at]
          rw [ix_nI (by omega), b1, e1]
          refine ⟨fun _ => ?_, fun h => absurd h hne9⟩
          have fin : ∀ s2, fS so pre.length (wi s (so + 47) e (nI i)) s2 → CW so (e2 :: r2) Li s s2 → BB so (Li.foldl (bstep g) b) s2 → (∀ k, k < 6 → k ∉ e :: e2 :: r2 → s2.1 (so + 47) k = p k) → wX7_search_139 (fun a0 x1 x2 s Q => wpX7_search ((e2 :: r2).length + m) a0 x1 x2 s Q) so (nI pre.length) (iI S) Q (fun y3 y4 y5 y6 s => wX7_search_43 (fun a0 x1 x2 s Q => wpX7_search ((e2 :: r2).length + m) a0 x1 x2 s Q) so (nI pre.length) (iI S) Q (n + 1) y3 y4 y5 y6 s) (nI e) (nI (bts 6 (c e))) (nI F) (nI i) (nI (6 * e + i)) (nI Li.length) s2 := by
            intro s2 f2 c2 B2 ch2
            unfold wX7_search_139
            refine ⟨vp_in_nI (by omega) (by decide), vp_in_nI (by omega) (by decide), ?_⟩
            rw [nI_add, nI_1 i, ix_nI (by omega)]
            have f3 : fS so pre.length s (wi s2 (so + 49) (6 * e + i) (gi s2 (so + 49) (6 * e + i) + nI Li.length)) := fS.tr (fS_wi (by omega) (by omega)) (fS.tr f2 (fS_wi (by omega) (by omega)))
            refine ih (i + 1) (by omega) _ (F + Li.length) (Li.foldl (bstep g) b) (T.fS O f3) (fun e' he' => by rw [f3.1 _ (by omega) (by omega)]; exact OP e' he') (fun k h1 h2 => by rw [wi_na _ _ _ _ (by omega)]; exact ch2 k h1 h2) ⟨by rw [wi_na _ _ _ _ (by omega)]; exact B2.1, fun k hk => by rw [wi_na _ _ _ _ (by omega)]; exact B2.2.1 k hk, B2.2.2⟩ (fun q hq => HB q (List.mem_append_right _ hq)) (fun s' fs' cs' bs' chs' => ?_)
            have := K s' (fS.tr f3 fs') ?_ (by rw [List.foldl_append]; exact bs') chs'
            · rw [List.length_append] at this
              rw [Nat.add_assoc]
              exact this
            · refine CW.tr (L := Li) (s1 := wi s2 (so + 49) (6 * e + i) (gi s2 (so + 49) (6 * e + i) + nI Li.length)) (fun e' i' he' hi' => ?_) cs'
              by_cases h0 : e' = e
              · subst h0
                have hold : s2.1 (so + 49) (6 * e' + i') = s.1 (so + 49) (6 * e' + i') := by
                  rw [c2 e' i' he' hi', if_neg hnd]
                  exact Int32.add_zero _
                rw [if_pos List.mem_cons_self]
                by_cases h2 : i' = i
                · subst h2
                  have hcnt : Li.countP (fun q => q e' == nI i') = Li.length := List.countP_eq_length.mpr (fun q hq => by simp [hqe q hq])
                  rw [hcnt, wi_at]
                  show s2.1 (so + 49) _ + _ = _
                  rw [hold]
                · have hcnt : Li.countP (fun q => q e' == nI i') = 0 := List.countP_eq_zero.mpr (fun q hq => by
                    have : ¬ nI i = nI i' := by
                      rw [nI_eq (by omega) (by omega)]
                      omega
                    simp [hqe q hq, this])
                  rw [hcnt, wi_ne _ _ _ _ (by omega), hold]
                  exact (Int32.add_zero _).symm
              · rw [wi_ne _ _ _ _ (by omega), c2 e' i' he' hi']
                congr 2
                have : (e' ∈ e :: e2 :: r2) = (e' ∈ e2 :: r2) := by
                  rw [List.mem_cons]
                  simp [h0]
                simp only [this]
          have CHw : ∀ k, k < 6 → k ∉ e2 :: r2 → (wi s (so + 47) e (nI i)).1 (so + 47) k = up p e (nI i) k := by
            intro k hk h2
            by_cases hke : k = e
            · subst hke; rw [wi_at, up_at]
            · rw [wi_ne _ _ _ _ hke, up_ne _ _ hke]
              exact CH k hk (fun h => (List.mem_cons.mp h).elim hke h2)
          have OPw : ∀ e', e' ∈ e2 :: r2 → (wi s (so + 47) e (nI i)).1 (so + 40 + 1 + pre.length) e' = nI (bts 6 (c e')) := fun e' he' => by
            rw [wi_na _ _ _ _ (by omega)]
            exact OP e' (List.mem_cons_of_mem _ he')
          unfold wpX7_leavesSome
          refine ⟨(e2 :: r2).length + 1, ?_⟩
          rw [show nI pre.length + 1 = nI (pre ++ [e]).length by rw [List.length_append]; exact nI_1 _]
          refine c_leaves O hem hi2 (by omega) (e2 :: r2) (pre ++ [e]) (by rw [hl]; simp) hnd _ Tw OPw (fun e' he' => CC e' (List.mem_cons_of_mem _ he')) (fun s5 g1 g2 g3 g4 => ?_) (fun s5 g1 g2 g3 => ?_)
          · refine ⟨fun h => absurd h (by decide), fun _ => ⟨vp_in_nI (by omega) (by decide), ?_⟩⟩
            have F5 : fS so pre.length (wi s (so + 47) e (nI i)) s5 := ⟨fun a h1 h2 => g1 a (by omega), fun j _ => congrFun (g1 so (by omega)) j, g2⟩
            have T5 : ST so g s5 := Tw.fS O F5
            have w5 : gi s5 (so + 2) (ix (nI (6 * e + i))) = iI (vl g e i 3) := by
              rw [ix_nI (by omega)]
              exact T5.2.2.1 e i he6 hi2
            rw [w5, iI_add]
            show wpX7_search (r2.length + 1 + m) so (nI (pre ++ [e]).length) (iI (S + vl g e i 3)) s5 _
            refine IH e2 (pre ++ [e]) m (by rw [hl]; simp) (fun e' k => c e' k && cm g e i e' k) (up p e (nI i)) s5 (S + vl g e i 3) b _ T5 (fun e' he' => ?_) (fun e' he' k hk => ?_) (fun k hk h2 => ?_) hwq (fun q hq => HB q (List.mem_append_left _ (hLi ▸ hq))) ?_ (fun s7 f7 c7 B7 ch7 => ?_)
            · rw [List.length_append]
              exact g3 e' he'
            · exact CC e' (List.mem_cons_of_mem _ he') k (by
                have : (c e' k && cm g e i e' k) = true := hk
                rw [Bool.and_eq_true] at this
                exact this.1)
            · rw [g1 _ (by omega)]
              exact CHw k hk h2
            · refine ⟨?_, fun k hk => ?_, BS.2.2⟩
              · rw [g1 _ (by omega), wi_na _ _ _ _ (by omega)]; exact BS.1
              · rw [g1 _ (by omega), wi_na _ _ _ _ (by omega)]; exact BS.2.1 k hk
            · rw [hLi] at c7 B7 ⊢
              rw [List.length_append] at f7
              refine fin s7 (F5.tr f7.dn) (fun e' i' he' hi' => ?_) B7 (fun k hk h2 => ?_)
              · rw [c7 e' i' he' hi', g1 _ (by omega), wi_na _ _ _ _ (by omega)]
              · rw [ch7 k hk (fun h => h2 (List.mem_cons_of_mem _ h))]
                exact up_ne _ _ (fun h => h2 (by rw [h]; exact List.mem_cons_self))
          · have hn : Li = [] := by
              rw [← hLi]
              exact extF_nil _ _ _ g3
            refine ⟨fun _ => ?_, fun h => absurd rfl h⟩
            have F5 : fS so pre.length (wi s (so + 47) e (nI i)) s5 := ⟨fun a h1 h2 => g1 a (by omega), fun j _ => congrFun (g1 so (by omega)) j, g2⟩
            have := fin s5 F5 (fun e' i' he' hi' => ?_) ?_ (fun k hk h2 => ?_)
            · rw [hn] at this
              exact this
            · rw [g1 _ (by omega), wi_na _ _ _ _ (by omega), hn]
              have : (if e' ∈ e2 :: r2 then List.countP (fun q : Nat → Int32 => q e' == nI i') [] else 0) = 0 := by
                split <;> simp
              rw [this]
              exact (Int32.add_zero _).symm
            · rw [hn]
              refine ⟨?_, fun k hk => ?_, BS.2.2⟩
              · rw [g1 _ (by omega), wi_na _ _ _ _ (by omega)]; exact BS.1
              · rw [g1 _ (by omega), wi_na _ _ _ _ (by omega)]; exact BS.2.1 k hk
            · rw [g1 _ (by omega), CHw k hk (fun h => h2 (List.mem_cons_of_mem _ h))]
              exact up_ne _ _ (fun h => h2 (by rw [h]; exact List.mem_cons_self))
    exact ⟨7, inner 6 0 rfl s 0 b T OP CH BS HB (fun s' f1 f2 f3 f4 => by
      have := K s' f1 f2 f3 f4
      rw [Nat.zero_add]
      exact this)⟩
end SEARCH
