/-! what may be picked, in its order -/
def up (p : Nat → Int32) (e : Nat) (v : Int32) : Nat → Int32 := fun k => if k = e then v else p k
theorem up_up (p : Nat → Int32) (e : Nat) (v w : Int32) : up (up p e v) e w = up p e w := by
  funext k
  unfold up
  split <;> rfl
theorem up_cm (p : Nat → Int32) {e f : Nat} (v w : Int32) (h : e ≠ f) : up (up p e v) f w = up (up p f w) e v := by
  funext k
  unfold up
  by_cases h1 : k = f
  · have : ¬ k = e := by omega
    simp [h1, this]
    omega
  · simp [h1]
theorem up_at (p : Nat → Int32) (e : Nat) (v : Int32) : up p e v e = v := by simp [up]
theorem up_ne (p : Nat → Int32) {e k : Nat} (v : Int32) (h : k ≠ e) : up p e v k = p k := by simp [up, h]
def insF (g : Nat → Int32) (e : Nat) : Nat → Nat → List Int32
  | 0, _ => []
  | n + 1, i => if inn g e i then nI i :: insF g e n (i + 1) else insF g e n (i + 1)
def ins (g : Nat → Int32) (e : Nat) : List Int32 := insF g e (mn g e) 0
def sc (g : Nat → Int32) (e : Nat) (v : Int32) : Int32 := fst_in g e (mn g e - (ix v + 1)) (ix v + 1)
def fs (g : Nat → Int32) (e : Nat) : Int32 := fst_in g e (mn g e) 0
theorem fst_hd (g : Nat → Int32) (e : Nat) : ∀ n i, fst_in g e n i = (insF g e n i).head?.getD (-1) := by
  intro n
  induction n with
  | zero => intro i; rfl
  | succ n ih =>
    intro i
    unfold fst_in insF
    split
    · rfl
    · exact ih (i + 1)
theorem insF_mem (g : Nat → Int32) (e : Nat) : ∀ n i v, v ∈ insF g e n i → ∃ k, v = nI k ∧ inn g e k = true ∧ i ≤ k ∧ k < i + n := by
  intro n
  induction n with
  | zero => intro i v h; cases h
  | succ n ih =>
    intro i v h
    unfold insF at h
    split at h
    next hi =>
      rcases List.mem_cons.mp h with h | h
      · exact ⟨i, h, hi, Nat.le_refl _, by omega⟩
      · obtain ⟨k, h1, h2, h3, h4⟩ := ih _ _ h
        exact ⟨k, h1, h2, by omega, by omega⟩
    next =>
      obtain ⟨k, h1, h2, h3, h4⟩ := ih _ _ h
      exact ⟨k, h1, h2, by omega, by omega⟩
theorem ins_mem {g : Nat → Int32} {e : Nat} {v : Int32} (h : v ∈ ins g e) : ∃ k, v = nI k ∧ inn g e k = true := by
  obtain ⟨k, h1, h2, -, -⟩ := insF_mem g e _ _ v h
  exact ⟨k, h1, h2⟩
theorem nI_ne {k : Nat} (h : k < 2 ^ 31) : nI k ≠ -1 := by
  intro e
  have := nI_pos h
  rw [e] at this
  exact this (by decide)
/-- one behind another -/
def ch2 (f : Int32 → Int32) : List Int32 → Prop
  | [] => True
  | [a] => f a = -1
  | a :: b :: t => f a = b ∧ b ≠ -1 ∧ ch2 f (b :: t)
theorem ins_ch {N : Nat} {g : Nat → Int32} {e : Nat} (O : okS N g) (he : e < 6) : ∀ n i, i + n = mn g e → ch2 (sc g e) (insF g e n i) := by
  have hm := (O.2.2.2.1 e he).2
  intro n
  induction n with
  | zero => intro i h; exact trivial
  | succ n ih =>
    intro i h
    unfold insF
    split
    next hi =>
      have e1 : sc g e (nI i) = (insF g e n (i + 1)).head?.getD (-1) := by
        unfold sc
        rw [show ix (nI i) = i from nI_clamp (by omega), show mn g e - (i + 1) = n by omega, fst_hd]
      have h2 := ih (i + 1) (by omega)
      cases hl : insF g e n (i + 1) with
      | nil => rw [hl] at e1; exact e1
      | cons b t =>
        rw [hl] at e1 h2
        refine ⟨e1, ?_, h2⟩
        obtain ⟨k, hk, -, -, h4⟩ := insF_mem g e n (i + 1) b (by rw [hl]; exact List.mem_cons_self)
        rw [hk]
        exact nI_ne (by omega)
    next => exact ih (i + 1) (by omega)
/-- the next of all picks: the last event goes first -/
def nxN (g : Nat → Int32) : Nat → (Nat → Int32) → Option (Nat → Int32)
  | 0, _ => none
  | n + 1, p => if tl g n then (if sc g n (p n) = -1 then nxN g n (up p n (fs g n)) else some (up p n (sc g n (p n)))) else nxN g n p
def PN (g : Nat → Int32) : Nat → List (Nat → Int32)
  | 0 => [fun _ => -1]
  | n + 1 => if tl g n then (PN g n).flatMap fun q => (ins g n).map fun v => up q n v else PN g n
theorem nx_up (g : Nat → Int32) (v : Int32) (m : Nat) : ∀ n, n ≤ m → ∀ q, nxN g n (up q m v) = (nxN g n q).map fun r => up r m v := by
  intro n
  induction n with
  | zero => intro _ q; rfl
  | succ n ih =>
    intro h q
    have h1 : up q m v n = q n := up_ne q v (by omega)
    unfold nxN
    rw [h1]
    split
    · split
      · rw [up_cm q v (fs g n) (by omega : m ≠ n)]
        exact ih (by omega) _
      · simp [up_cm q v (sc g n (q n)) (by omega : m ≠ n)]
    · exact ih (by omega) q
def chn {α : Type} (f : α → Option α) : List α → Prop
  | [] => False
  | [a] => f a = none
  | a :: b :: t => f a = some b ∧ chn f (b :: t)
theorem chn_blk {g : Nat → Int32} {n : Nat} (ht : tl g n = true) (q : Nat → Int32) (rest : List (Nat → Int32)) (h0 : rest = [] → nxN g n q = none) (h1 : ∀ b t, rest = b :: t → ∃ q', nxN g n q = some q' ∧ b = up q' n (fs g n)) (h2 : rest ≠ [] → chn (nxN g (n + 1)) rest) : ∀ vs, vs ≠ [] → ch2 (sc g n) vs → chn (nxN g (n + 1)) (vs.map (fun v => up q n v) ++ rest) := by
  intro vs
  induction vs with
  | nil => intro h; exact absurd rfl h
  | cons v vs ih =>
    intro _ hc
    cases vs with
    | nil =>
      have hs : sc g n v = -1 := hc
      have hx : nxN g (n + 1) (up q n v) = (nxN g n q).map fun r => up r n (fs g n) := by
        rw [nxN, if_pos ht, up_at, if_pos hs, up_up]
        exact nx_up g _ n n (Nat.le_refl _) q
      cases hr : rest with
      | nil =>
        show nxN g (n + 1) (up q n v) = none
        rw [hx, h0 hr]
        rfl
      | cons b t =>
        obtain ⟨q', e1, e2⟩ := h1 b t hr
        have h3 := h2 (by rw [hr]; exact List.cons_ne_nil _ _)
        rw [hr] at h3
        refine ⟨?_, h3⟩
        rw [hx, e1, e2]
        rfl
    | cons w ws =>
      obtain ⟨c1, c2, c3⟩ := hc
      refine ⟨?_, ih (List.cons_ne_nil _ _) c3⟩
      show nxN g (n + 1) (up q n v) = some (up q n w)
      rw [nxN, if_pos ht, up_at, c1, if_neg c2, up_up]
theorem chn_fm {g : Nat → Int32} {n : Nat} (ht : tl g n = true) (hi : ins g n ≠ []) (hc : ch2 (sc g n) (ins g n)) : ∀ l, chn (nxN g n) l → chn (nxN g (n + 1)) (l.flatMap fun q => (ins g n).map fun v => up q n v) := by
  have hf : ∃ t, ins g n = fs g n :: t := by
    unfold fs ins at *
    rw [fst_hd]
    cases h : insF g n (mn g n) 0 with
    | nil => exact absurd h hi
    | cons a t => exact ⟨t, rfl⟩
  obtain ⟨t0, hf⟩ := hf
  intro l
  induction l with
  | nil => intro h; exact h.elim
  | cons q l ih =>
    intro h
    rw [List.flatMap_cons]
    cases l with
    | nil =>
      have h' : nxN g n q = none := h
      exact chn_blk ht q _ (fun _ => h') (fun b t e => by cases e) (fun e => absurd rfl e) _ hi hc
    | cons q' l =>
      obtain ⟨h3, h4⟩ := h
      refine chn_blk ht q _ (fun e => ?_) (fun b t e => ⟨q', h3, ?_⟩) (fun _ => ih h4) _ hi hc
      · rw [List.flatMap_cons, hf] at e
        cases e
      · rw [List.flatMap_cons, hf] at e
        simp at e
        exact e.1.symm
theorem PN_ch {N : Nat} {g : Nat → Int32} (O : okS N g) : ∀ n, n ≤ 6 → (∀ e, e < n → tl g e = true → ins g e ≠ []) → chn (nxN g n) (PN g n) := by
  intro n
  induction n with
  | zero => intro _ _; rfl
  | succ n ih =>
    intro hn h
    have h1 := ih (by omega) (fun e he => h e (by omega))
    unfold PN
    split
    next ht => exact chn_fm ht (h n (by omega) ht) (ins_ch O (by omega) _ _ (by omega)) _ h1
    next ht =>
      have : nxN g (n + 1) = nxN g n := by
        funext p
        rw [nxN, if_neg ht]
      rw [this]
      exact h1
/-- the first picks -/
def ps (g : Nat → Int32) (n : Nat) : Nat → Int32 := fun e => if e < n ∧ tl g e = true then fs g e else -1
theorem PN_hd {g : Nat → Int32} : ∀ n, (∀ e, e < n → tl g e = true → ins g e ≠ []) → ∃ t, PN g n = ps g n :: t := by
  intro n
  induction n with
  | zero =>
    intro _
    refine ⟨[], ?_⟩
    show [fun _ => -1] = [ps g 0]
    congr 1
  | succ n ih =>
    intro h
    obtain ⟨t, ht⟩ := ih (fun e he => h e (by omega))
    unfold PN
    split
    next htl =>
      have hi := h n (by omega) htl
      have hf : ∃ t, ins g n = fs g n :: t := by
        unfold fs ins at *
        rw [fst_hd]
        cases h : insF g n (mn g n) 0 with
        | nil => exact absurd h hi
        | cons a t => exact ⟨t, rfl⟩
      obtain ⟨t0, hf⟩ := hf
      rw [ht, List.flatMap_cons, hf, List.map_cons]
      refine ⟨_, congrArg (· :: _) ?_⟩
      funext e
      unfold up ps
      by_cases he : e = n
      · subst he; simp [htl]
      · simp [he]
        have : (e < n + 1) = (e < n) := by simp; omega
        simp [this]
    next htl =>
      refine ⟨t, ?_⟩
      rw [ht]
      congr 1
      funext e
      unfold ps
      by_cases he : e = n
      · subst he; simp [htl]
      · have : (e < n + 1) = (e < n) := by simp; omega
        simp [this]
theorem PN_nil {g : Nat → Int32} : ∀ n, (∃ e, e < n ∧ tl g e = true ∧ ins g e = []) → PN g n = [] := by
  intro n
  induction n with
  | zero => rintro ⟨e, h, -⟩; omega
  | succ n ih =>
    rintro ⟨e, h, h1, h2⟩
    unfold PN
    by_cases he : e = n
    · subst he
      simp [h1, h2]
    · rw [ih ⟨e, by omega, h1, h2⟩]
      simp
def vq (g : Nat → Int32) (n : Nat) (q : Nat → Int32) : Prop := ∀ e, (e < n ∧ tl g e = true → ∃ i, inn g e i = true ∧ q e = nI i) ∧ (¬ (e < n ∧ tl g e = true) → q e = -1)
theorem PN_vq {g : Nat → Int32} : ∀ n q, q ∈ PN g n → vq g n q := by
  intro n
  induction n with
  | zero =>
    intro q h e
    have : q = fun _ => -1 := by simpa [PN] using h
    subst this
    exact ⟨fun h => by omega, fun _ => rfl⟩
  | succ n ih =>
    intro q h
    unfold PN at h
    split at h
    next ht =>
      obtain ⟨q', h1, h2⟩ := List.mem_flatMap.mp h
      obtain ⟨v, h3, rfl⟩ := List.mem_map.mp h2
      obtain ⟨k, h4, h5⟩ := ins_mem h3
      intro e
      by_cases he : e = n
      · subst he
        exact ⟨fun _ => ⟨k, h5, by rw [up_at]; exact h4⟩, fun h => absurd ⟨by omega, ht⟩ h⟩
      · rw [up_ne _ _ he]
        exact ⟨fun h => (ih q' h1 e).1 ⟨by omega, h.2⟩, fun h => (ih q' h1 e).2 (fun h2 => h ⟨by omega, h2.2⟩)⟩
    next ht =>
      intro e
      exact ⟨fun h2 => (ih q h e).1 ⟨by
        rcases Nat.lt_or_ge e n with h3 | h3
        · exact h3
        · have : e = n := by omega
          subst this
          exact absurd h2.2 ht, h2.2⟩, fun h2 => (ih q h e).2 (fun h3 => h2 ⟨by omega, h3.2⟩)⟩
/-- is anything told; all picks; orders that these break; choices; their worth; the best -/
def anyF (g : Nat → Int32) : Nat → Nat → Bool
  | 0, _ => false
  | n + 1, e => tl g e || anyF g n (e + 1)
def any (g : Nat → Int32) : Bool := anyF g 6 0
theorem any_iff {g : Nat → Int32} : any g = true ↔ ∃ e, e < 6 ∧ tl g e = true := by
  have h : ∀ n e, anyF g n e = true ↔ ∃ k, e ≤ k ∧ k < e + n ∧ tl g k = true := by
    intro n
    induction n with
    | zero => intro e; simp [anyF]; omega
    | succ n ih =>
      intro e
      simp only [anyF, Bool.or_eq_true, ih]
      constructor
      · rintro (h | ⟨k, h1, h2, h3⟩)
        · exact ⟨e, by omega, by omega, h⟩
        · exact ⟨k, by omega, by omega, h3⟩
      · rintro ⟨k, h1, h2, h3⟩
        by_cases hk : k = e
        · exact Or.inl (hk ▸ h3)
        · exact Or.inr ⟨k, by omega, by omega, h3⟩
  unfold any
  rw [h]
  simp
def allP (g : Nat → Int32) : List (Nat → Int32) := if any g then PN g 6 else []
def brk (g : Nat → Int32) (q : Nat → Int32) (o : Nat) : Bool := tl g (ox g o) && tl g (oy g o) && !hld (kd g o) (vl g (ox g o) (ix (q (ox g o))) 0) (vl g (ox g o) (ix (q (ox g o))) 1) (vl g (oy g o) (ix (q (oy g o))) 0) (vl g (oy g o) (ix (q (oy g o))) 1)
def bb (g : Nat → Int32) (q : Nat → Int32) : Nat := bts (no g) (brk g q)
def chs (g : Nat → Int32) : List (Nat → Int32) := (allP g).filter fun q => bb g q == 0
def wth (g : Nat → Int32) (q : Nat → Int32) : Nat → Int
  | 0 => 0
  | n + 1 => wth g q n + (if tl g n then vl g n (ix (q n)) 3 else 0)
def bstep (g : Nat → Int32) (b : Int × (Nat → Int32)) (q : Nat → Int32) : Int × (Nat → Int32) := if b.1 < wth g q 6 then (wth g q 6, q) else b
def bst (g : Nat → Int32) : Int × (Nat → Int32) := (chs g).foldl (bstep g) (0, fun _ => -1)
def cw (g : Nat → Int32) (e i : Nat) : Nat := (chs g).countP fun q => tl g e && q e == nI i
