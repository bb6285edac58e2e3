/-! choices as the class finds them: one event behind another -/
def okp (g : Nat → Int32) (o e i e' k : Nat) : Bool := if ox g o = e ∧ oy g o = e' then hld (kd g o) (vl g e i 0) (vl g e i 1) (vl g e' k 0) (vl g e' k 1) else if ox g o = e' ∧ oy g o = e then hld (kd g o) (vl g e' k 0) (vl g e' k 1) (vl g e i 0) (vl g e i 1) else true
def cmpO (g : Nat → Int32) : Nat → Nat → Nat → Nat → Nat → Bool
  | 0, _, _, _, _ => true
  | o + 1, e, i, e', k => cmpO g o e i e' k && okp g o e i e' k
theorem cmpO_iff {g : Nat → Int32} {e i e' k : Nat} : ∀ n, cmpO g n e i e' k = true ↔ ∀ o, o < n → okp g o e i e' k = true := by
  intro n
  induction n with
  | zero => simp [cmpO]
  | succ n ih =>
    unfold cmpO
    rw [Bool.and_eq_true, ih]
    constructor
    · rintro ⟨h1, h2⟩ o ho
      by_cases h : o = n
      · exact h ▸ h2
      · exact h1 o (by omega)
    · intro h
      exact ⟨fun o ho => h o (by omega), h n (by omega)⟩
def cm (g : Nat → Int32) (e i e' k : Nat) : Bool := cmpO g (no g) e i e' k
def extF (g : Nat → Int32) : List Nat → (Nat → Nat → Bool) → (Nat → Int32) → List (Nat → Int32)
  | [], _, p => [p]
  | e :: r, c, p => (List.range' 0 6).flatMap fun i => if c e i then extF g r (fun e' k => c e' k && cm g e i e' k) (up p e (nI i)) else []
def prC : List Nat → (Nat → Nat → Bool) → (Nat → Int32) → List (Nat → Int32)
  | [], _, p => [p]
  | e :: r, c, p => (List.range' 0 6).flatMap fun i => if c e i then prC r c (up p e (nI i)) else []
theorem up_ag {p p' : Nat → Int32} {e : Nat} {r : List Nat} {v : Int32} (h : ∀ k, k ∉ e :: r → p k = p' k) : ∀ k, k ∉ r → up p e v k = up p' e v k := by
  intro k hk
  unfold up
  by_cases h2 : k = e
  · simp [h2]
  · simp [h2]
    exact h k (by simp [h2, hk])
theorem fm_cg {α β : Type} {l : List α} {f f' : α → List β} (h : ∀ a, a ∈ l → f a = f' a) : l.flatMap f = l.flatMap f' := by
  induction l with
  | nil => rfl
  | cons a l ih => rw [List.flatMap_cons, List.flatMap_cons, h a List.mem_cons_self, ih (fun b hb => h b (List.mem_cons_of_mem _ hb))]
theorem extF_cg {g : Nat → Int32} : ∀ r c p p', (∀ k, k ∉ r → p k = p' k) → extF g r c p = extF g r c p' := by
  intro r
  induction r with
  | nil =>
    intro c p p' h
    have : p = p' := funext fun k => h k (by simp)
    rw [this]
  | cons e r ih =>
    intro c p p' h
    unfold extF
    refine fm_cg (fun i _ => ?_)
    rw [ih _ (up p e (nI i)) (up p' e (nI i)) (up_ag h)]
theorem extF_out {g : Nat → Int32} : ∀ r c p q, q ∈ extF g r c p → ∀ k, k ∉ r → q k = p k := by
  intro r
  induction r with
  | nil =>
    intro c p q h k _
    have : q = p := by simpa [extF] using h
    rw [this]
  | cons e r ih =>
    intro c p q h k hk
    unfold extF at h
    obtain ⟨i, hi, h2⟩ := List.mem_flatMap.mp h
    split at h2
    · rw [ih _ _ q h2 k (fun h => hk (List.mem_cons_of_mem _ h))]
      exact up_ne _ _ (fun h => hk (h ▸ List.mem_cons_self))
    · cases h2
theorem prC_out : ∀ r c p q, q ∈ prC r c p → ∀ k, k ∉ r → q k = p k := by
  intro r
  induction r with
  | nil =>
    intro c p q h k _
    have : q = p := by simpa [prC] using h
    rw [this]
  | cons e r ih =>
    intro c p q h k hk
    unfold prC at h
    obtain ⟨i, hi, h2⟩ := List.mem_flatMap.mp h
    split at h2
    · rw [ih _ _ q h2 k (fun h => hk (List.mem_cons_of_mem _ h))]
      exact up_ne _ _ (fun h => hk (h ▸ List.mem_cons_self))
    · cases h2
theorem extF_nil {g : Nat → Int32} : ∀ r c p, (∃ e, e ∈ r ∧ ∀ k, k < 6 → c e k = false) → extF g r c p = [] := by
  intro r
  induction r with
  | nil => rintro c p ⟨e, h, -⟩; cases h
  | cons e r ih =>
    rintro c p ⟨e', h, h2⟩
    unfold extF
    apply List.flatMap_eq_nil_iff.mpr
    intro i hi
    have hi6 : i < 6 := by
      have := (List.mem_range'_1.mp hi).2
      omega
    by_cases he : e' = e
    · rw [he] at h2
      rw [h2 i hi6]
      rfl
    · have hr : e' ∈ r := by
        rcases List.mem_cons.mp h with h | h
        · exact absurd h he
        · exact h
      rw [ih _ _ ⟨e', hr, fun k hk => by rw [h2 k hk]; rfl⟩]
      simp
theorem fil_fm {α β : Type} {l : List α} {f : α → List β} {t : β → Bool} : (l.flatMap f).filter t = l.flatMap fun a => (f a).filter t := by
  induction l with
  | nil => rfl
  | cons a l ih => rw [List.flatMap_cons, List.filter_append, ih, List.flatMap_cons]
theorem fil_cg {α : Type} {l : List α} {t u : α → Bool} (h : ∀ a, a ∈ l → t a = u a) : l.filter t = l.filter u := List.filter_congr h
theorem prC_and : ∀ r (c M : Nat → Nat → Bool) p, r.Nodup → prC r (fun e k => c e k && M e k) p = (prC r c p).filter fun q => r.all fun e => M e (ix (q e)) := by
  intro r
  induction r with
  | nil => intro c M p _; simp [prC]
  | cons e r ih =>
    intro c M p hn
    have hn2 := List.nodup_cons.mp hn
    unfold prC
    rw [fil_fm]
    refine fm_cg (fun i hi => ?_)
    have hi6 : i < 6 := by
      have := (List.mem_range'_1.mp hi).2
      omega
    cases hc : c e i with
    | false => simp [hc]
    | true =>
      simp only [if_true]
      have h1 : (prC r c (up p e (nI i))).filter (fun q => (e :: r).all fun e => M e (ix (q e))) = (prC r c (up p e (nI i))).filter (fun q => M e i && r.all fun e => M e (ix (q e))) := fil_cg (fun q hq => by
        have : q e = nI i := by rw [prC_out _ _ _ _ hq e hn2.1, up_at]
        simp [this, nI_clamp (show i < 2 ^ 31 by omega)])
      rw [h1]
      by_cases hM : M e i = true
      · simp only [hc, hM, Bool.and_self, Bool.true_and, if_true]
        exact ih c M _ hn2.2
      · simp [hM]
def cpt (g : Nat → Int32) : List Nat → (Nat → Int32) → Bool
  | [], _ => true
  | e :: r, q => (r.all fun e' => cm g e (ix (q e)) e' (ix (q e'))) && cpt g r q
theorem extF_eq {g : Nat → Int32} : ∀ r c p, r.Nodup → extF g r c p = (prC r c p).filter (cpt g r) := by
  intro r
  induction r with
  | nil => intro c p _; simp [extF, prC, cpt]
  | cons e r ih =>
    intro c p hn
    have hn2 := List.nodup_cons.mp hn
    unfold extF prC
    rw [fil_fm]
    refine fm_cg (fun i hi => ?_)
    have hi6 : i < 6 := by
      have := (List.mem_range'_1.mp hi).2
      omega
    cases hc : c e i with
    | false => simp
    | true =>
      simp only [if_true]
      rw [ih _ _ hn2.2, prC_and _ _ _ _ hn2.2, List.filter_filter]
      refine fil_cg (fun q hq => ?_)
      have : q e = nI i := by rw [prC_out _ _ _ _ hq e hn2.1, up_at]
      simp only [cpt, this, nI_clamp (show i < 2 ^ 31 by omega)]
      exact Bool.and_comm _ _
/-- the events that are told -/
def el (g : Nat → Int32) (n : Nat) : List Nat := (List.range n).filter (tl g)
theorem el_s (g : Nat → Int32) (n : Nat) : el g (n + 1) = if tl g n then el g n ++ [n] else el g n := by
  unfold el
  rw [List.range_succ, List.filter_append]
  cases h : tl g n <;> simp [h]
theorem el_mem {g : Nat → Int32} {n e : Nat} : e ∈ el g n ↔ e < n ∧ tl g e = true := by
  unfold el
  rw [List.mem_filter, List.mem_range]
theorem el_nd (g : Nat → Int32) (n : Nat) : (el g n).Nodup := List.Nodup.sublist List.filter_sublist List.nodup_range
theorem el_len (g : Nat → Int32) (n : Nat) : (el g n).length ≤ n := by
  unfold el
  have := List.length_filter_le (tl g) (List.range n)
  simpa using this
theorem prC_app (c : Nat → Nat → Bool) (n : Nat) : ∀ r p, prC (r ++ [n]) c p = (prC r c p).flatMap fun q => prC [n] c q := by
  intro r
  induction r with
  | nil => intro p; simp [prC]
  | cons e r ih =>
    intro p
    rw [List.cons_append, prC, prC, List.flatMap_assoc]
    refine fm_cg (fun i _ => ?_)
    split
    · exact ih _
    · rfl
theorem insF_rg {N : Nat} {g : Nat → Int32} {e : Nat} (O : okS N g) (he : e < 6) : ins g e = (List.range' 0 6).flatMap fun i => if inn g e i then [nI i] else [] := by
  have hm := (O.2.2.2.1 e he).2
  have h1 : ∀ n i, insF g e n i = (List.range' i n).flatMap fun i => if inn g e i then [nI i] else [] := by
    intro n
    induction n with
    | zero => intro i; rfl
    | succ n ih =>
      intro i
      rw [List.range'_succ, List.flatMap_cons, ← ih (i + 1)]
      show (if inn g e i then nI i :: insF g e n (i + 1) else insF g e n (i + 1)) = _
      split <;> simp
  unfold ins
  rw [h1]
  have h2 : List.range' 0 6 = List.range' 0 (mn g e) ++ List.range' (mn g e) (6 - mn g e) := by
    have := List.range'_append_1 (s := 0) (m := mn g e) (n := 6 - mn g e)
    rw [Nat.zero_add] at this
    rw [this]
    congr 1
    omega
  rw [h2, List.flatMap_append]
  have h3 : (List.range' (mn g e) (6 - mn g e)).flatMap (fun i => if inn g e i then [nI i] else []) = [] := by
    apply List.flatMap_eq_nil_iff.mpr
    intro i hi
    have := (List.mem_range'_1.mp hi).1
    have h4 : inn g e i = false := by
      unfold inn
      simp
      intro h; omega
    simp [h4]
  rw [h3, List.append_nil]
theorem PN_pr {N : Nat} {g : Nat → Int32} (O : okS N g) : ∀ n, n ≤ 6 → PN g n = prC (el g n) (inn g) (fun _ => -1) := by
  intro n
  induction n with
  | zero => intro _; rfl
  | succ n ih =>
    intro hn
    rw [el_s]
    unfold PN
    split
    · rw [prC_app, ih (by omega)]
      refine fm_cg (fun q _ => ?_)
      rw [insF_rg O (by omega), prC, List.map_flatMap]
      refine fm_cg (fun i _ => ?_)
      split <;> simp [prC]
    · exact ih (by omega)
theorem okp_sy {N : Nat} {g : Nat → Int32} {o e i e' k : Nat} (O : okS N g) (h : o < no g) : okp g o e i e' k = okp g o e' k e i := by
  have hne := (O.2.2.1 o h).2.2.2.2.2.2
  unfold okp
  by_cases h1 : ox g o = e ∧ oy g o = e'
  · have h2 : ¬ (ox g o = e' ∧ oy g o = e) := by
      rintro ⟨h3, h4⟩
      exact hne (h1.1.trans h4.symm)
    rw [if_pos h1, if_neg h2, if_pos h1]
  · by_cases h2 : ox g o = e' ∧ oy g o = e
    · rw [if_neg h1, if_pos h2, if_pos h2]
    · rw [if_neg h1, if_neg h2, if_neg h2, if_neg h1]
theorem cpt_iff {g : Nat → Int32} {q : Nat → Int32} : ∀ r, cpt g r q = true ↔ r.Pairwise fun e e' => cm g e (ix (q e)) e' (ix (q e')) = true := by
  intro r
  induction r with
  | nil => simp [cpt]
  | cons e r ih =>
    rw [List.pairwise_cons, ← ih]
    simp [cpt]
theorem pw_all {R : Nat → Nat → Prop} (sy : ∀ x y, R x y → R y x) : ∀ l : List Nat, l.Pairwise R → (∀ x, x ∈ l → R x x) → ∀ x y, x ∈ l → y ∈ l → R x y := by
  intro l
  induction l with
  | nil => intro _ _ x y h; cases h
  | cons a l ih =>
    intro hp hr x y hx hy
    obtain ⟨h1, h2⟩ := List.pairwise_cons.mp hp
    rcases List.mem_cons.mp hx with hx2 | hx2
    · rcases List.mem_cons.mp hy with hy2 | hy2
      · rw [hx2, hy2]
        exact hr _ List.mem_cons_self
      · rw [hx2]
        exact h1 y hy2
    · rcases List.mem_cons.mp hy with hy2 | hy2
      · rw [hy2]
        exact sy _ _ (h1 x hx2)
      · exact ih h2 (fun x hx => hr x (List.mem_cons_of_mem _ hx)) x y hx2 hy2
theorem gd_cpt {N : Nat} {g : Nat → Int32} {q : Nat → Int32} (O : okS N g) : gd g q = cpt g (el g 6) q := by
  have h1 : gd g q = true ↔ ∀ o, o < no g → brk g q o = false := by
    unfold gd bb
    rw [beq_iff_eq]
    exact bts_eq0
  have h2 : cpt g (el g 6) q = true ↔ ∀ o, o < no g → brk g q o = false := by
    rw [cpt_iff]
    constructor
    · intro hp o ho
      obtain ⟨-, -, -, -, c5, c6, c7⟩ := O.2.2.1 o ho
      cases hx : tl g (ox g o) with
      | false => simp [brk, hx]
      | true =>
        cases hy : tl g (oy g o) with
        | false => simp [brk, hy]
        | true =>
          have sy : ∀ e e', cm g e (ix (q e)) e' (ix (q e')) = true → cm g e' (ix (q e')) e (ix (q e)) = true := by
            intro e e' h
            unfold cm at *
            rw [cmpO_iff] at *
            intro o ho
            rw [okp_sy O ho]
            exact h o ho
          have hr : ∀ e, e ∈ el g 6 → cm g e (ix (q e)) e (ix (q e)) = true := by
            intro e _
            unfold cm
            rw [cmpO_iff]
            intro o ho
            have hne := (O.2.2.1 o ho).2.2.2.2.2.2
            have : ¬ (ox g o = e ∧ oy g o = e) := fun h => hne (h.1.trans h.2.symm)
            simp [okp, this]
          have hh := pw_all (R := fun e e' => cm g e (ix (q e)) e' (ix (q e')) = true) sy _ hp hr _ _ (el_mem.mpr ⟨c5, hx⟩) (el_mem.mpr ⟨c6, hy⟩)
          unfold cm at hh
          rw [cmpO_iff] at hh
          have := hh o ho
          unfold okp at this
          rw [if_pos ⟨rfl, rfl⟩] at this
          simp [brk, this]
    · intro h
      have hs : (el g 6).Pairwise (· < ·) := List.Pairwise.sublist List.filter_sublist List.pairwise_lt_range
      refine hs.imp_of_mem (fun {e e'} he he' _ => ?_)
      unfold cm
      rw [cmpO_iff]
      intro o ho
      have hb := h o ho
      obtain ⟨he6, hte⟩ := el_mem.mp he
      obtain ⟨he6', hte'⟩ := el_mem.mp he'
      unfold okp
      split
      next hc =>
        obtain ⟨rfl, rfl⟩ := hc
        simpa [brk, hte, hte'] using hb
      next =>
        split
        next hc =>
          obtain ⟨rfl, rfl⟩ := hc
          simpa [brk, hte, hte'] using hb
        next => rfl
  cases h3 : gd g q with
  | true => exact (h2.mpr (h1.mp h3)).symm
  | false =>
    cases h4 : cpt g (el g 6) q with
    | false => rfl
    | true =>
      rw [h1.mpr (h2.mp h4)] at h3
      cases h3
theorem chs_ext {N : Nat} {g : Nat → Int32} (O : okS N g) (h : any g = true) : chs g = extF g (el g 6) (inn g) (fun _ => -1) := by
  rw [extF_eq _ _ _ (el_nd g 6), ← PN_pr O 6 (Nat.le_refl _)]
  unfold chs allP
  rw [if_pos h]
  exact fil_cg (fun q _ => gd_cpt O)
theorem chs_nil {g : Nat → Int32} (h : any g = false) : chs g = [] ∧ el g 6 = [] := by
  refine ⟨by simp [chs, allP, h], ?_⟩
  apply List.filter_eq_nil_iff.mpr
  intro e he ht
  have : any g = true := any_iff.mpr ⟨e, List.mem_range.mp he, ht⟩
  rw [h] at this
  cases this
