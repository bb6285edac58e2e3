/-! phrases: how they are read, and the class reads them -/
abbrev St := Nat × Int × Int × Int
def st0 : St := (0, 0, 0, 0)
def stc (x : St) (j : Nat) : Int := if j = 0 then (x.1 : Int) else if j = 1 then x.2.1 else if j = 2 then x.2.2.1 else x.2.2.2
def sNum (t : List Nat) (p : Nat) : Nat × St × Nat :=
  if 2100 ≤ tk t p ∧ tk t p ≤ 2127 then (2, (10, ((tk t p - 100 : Nat) : Int), 0, 0), te t p)
  else if 101 ≤ tk t p ∧ tk t p ≤ 199 then
    (if tk t (te t p) ≤ 3 then
      (if tk t (te t (te t p)) = 37 then (2, (1, (tk t (te t p) : Int), -((tk t p - 100 : Nat) : Int), 0), te t (te t (te t p)))
      else if tk t (te t (te t p)) = 35 then (1, (11, (tk t (te t p) : Int), ((tk t p - 100 : Nat) : Int), 0), te t (te t (te t p)))
      else if tk t (te t (te t p)) = 36 then (1, (12, (tk t (te t p) : Int), ((tk t p - 100 : Nat) : Int), 0), te t (te t (te t p)))
      else (0, st0, te t (te t p)))
    else (0, st0, te t p))
  else (0, st0, p)
def sDay (t : List Nat) (p : Nat) : Nat × St × Nat :=
  if tk t (te t p) = 35 then (if tk t (te t (te t p)) = 33 then (2, (6, ((tk t p - 4 : Nat) : Int), 0, 0), te t (te t (te t p))) else (0, st0, te t (te t p)))
  else (2, (2, ((tk t p - 4 : Nat) : Int), 0, 0), te t p)
def sMon (t : List Nat) (p : Nat) : Nat × St × Nat :=
  if 100 ≤ tk t (te t p) then
    (if 101 ≤ tk t (te t p) ∧ tk t (te t p) ≤ 131 then
      (if 100 ≤ tk t (te t (te t p)) then
        (if 2100 ≤ tk t (te t (te t p)) ∧ tk t (te t (te t p)) ≤ 2127 then (2, (9, ((tk t p - 11 : Nat) : Int), ((tk t (te t p) - 100 : Nat) : Int), ((tk t (te t (te t p)) - 100 : Nat) : Int)), te t (te t (te t p)))
        else (0, st0, te t (te t p)))
      else (2, (8, ((tk t p - 11 : Nat) : Int), ((tk t (te t p) - 100 : Nat) : Int), 0), te t (te t p)))
    else (0, st0, te t p))
  else (2, (7, ((tk t p - 11 : Nat) : Int), 0, 0), te t p)
def sFst (t : List Nat) (p : Nat) : Nat × St × Nat :=
  if 4 ≤ tk t p ∧ tk t p < 11 then (if tk t (te t p) = 34 then (1, (16, ((tk t p - 4 : Nat) : Int), 0, 0), te t (te t p)) else (0, st0, te t p)) else (0, st0, p)
def sThs (c : Nat) (b : Int) (t : List Nat) (p : Nat) : Nat × St × Nat :=
  if tk t p ≤ 3 then (2, (0, (tk t p : Int), b, 0), te t p)
  else if 4 ≤ tk t p ∧ tk t p < 11 then (if c = 5 ∧ tk t (te t p) = 34 then (1, (17, ((tk t p - 4 : Nat) : Int), 0, 0), te t (te t p)) else (2, (c, ((tk t p - 4 : Nat) : Int), 0, 0), te t p))
  else (0, st0, p)
def sIn (t : List Nat) (p : Nat) : Nat × St × Nat :=
  if 101 ≤ tk t p ∧ tk t p ≤ 199 then (if tk t (te t p) ≤ 3 then (2, (1, (tk t (te t p) : Int), ((tk t p - 100 : Nat) : Int), 0), te t (te t p)) else (0, st0, te t p)) else (0, st0, p)
/-- a step of a span: 0 none can stand there, 1 one ahead of a span, 2 the span's own; where it ends, or is wrong -/
def stp (t : List Nat) (p : Nat) : Nat × St × Nat :=
  if 100 ≤ tk t p then sNum t p
  else if 4 ≤ tk t p ∧ tk t p < 11 then sDay t p
  else if 11 ≤ tk t p ∧ tk t p < 23 then sMon t p
  else if tk t p = 23 then (1, (13, 0, 0, 0), te t p)
  else if tk t p = 24 then (1, (14, 0, 0, 0), te t p)
  else if tk t p = 25 then (1, (15, 0, 0, 0), te t p)
  else if tk t p = 26 then sFst t (te t p)
  else if tk t p = 27 then sThs 5 (-1) t (te t p)
  else if tk t p = 28 then (2, (0, 0, 0, 0), te t p)
  else if tk t p = 29 then (2, (0, 0, 1, 0), te t p)
  else if tk t p = 30 then (2, (0, 0, -1, 0), te t p)
  else if tk t p = 31 then sIn t (te t p)
  else if tk t p = 32 then sThs 3 0 t (te t p)
  else if tk t p = 33 then sThs 4 1 t (te t p)
  else (0, st0, p)
section PARSE
variable {t : List Nat} {s s' s0 : gS} {Q : Int32 → gS → Prop} {Q' : gS → Prop} {p q e : Nat} {S P : List St}
theorem i0 {A B : Prop} (a : A) : ((0 : Int32) = 0 → A) ∧ (¬ (0 : Int32) = 0 → B) := ⟨fun _ => a, fun h => absurd rfl h⟩
theorem i1 {A B : Prop} (b : B) : ((1 : Int32) = 0 → A) ∧ (¬ (1 : Int32) = 0 → B) := ⟨fun h => absurd h (by decide), fun _ => b⟩
theorem j0 {A B : Prop} (a : A) : (¬ (0 : Int32) = 0 → B) ∧ ((0 : Int32) = 0 → A) := ⟨fun h => absurd rfl h, fun _ => a⟩
theorem j1 {A B : Prop} (b : B) : (¬ (1 : Int32) = 0 → B) ∧ ((1 : Int32) = 0 → A) := ⟨fun _ => b, fun h => absurd h (by decide)⟩
def SL (a : Nat) (S : List St) (s : gS) : Prop := ∀ i, i < S.length → ∀ j, j < (if a = 7 then 4 else 3) → s.1 a (4 * i + j) = iI (stc (S.getD i st0) j)
def phD (a : Nat) : Bool := a == 3 || a == 4 || a == 5 || a == 6 || a == 7 || a == 8
def PZ (s0 : gS) (t : List Nat) (p : Nat) (S P : List St) (s : gS) : Prop := fR phD s0 s ∧ WS t p s ∧ (s.1 3 2 = nI S.length ∧ SL 7 S s) ∧ (s.1 3 4 = nI P.length ∧ SL 8 P s)
theorem PZ.W (Z : PZ s0 t p S P s) : WS t p s := Z.2.1
theorem c_advP (ht : okT t) (Z : PZ s0 t p S P s) (h : lv t p) (k : ∀ s', PZ s0 t (te t p) S P s' → Q' s') : wpX10_advance s Q' := by
  refine c_adv ht Z.W h (fun s' f W => k s' ⟨Z.1.tr (f.mono (fun a ha => ?_)), W, ⟨?_, fun i hi j hj => ?_⟩, ?_, fun i hi j hj => ?_⟩)
  · unfold phD at ha
    unfold w4
    simp at ha ⊢
    omega
  · rw [f.1 3 rfl]; exact Z.2.2.1.1
  · rw [f.1 7 rfl]; exact Z.2.2.1.2 i hi j hj
  · rw [f.1 3 rfl]; exact Z.2.2.2.1
  · rw [f.1 8 rfl]; exact Z.2.2.2.2 i hi j hj
theorem gD_app {α : Type} {S : List α} {x d : α} {i : Nat} : (S ++ [x]).getD i d = if i = S.length then x else S.getD i d := by
  rw [List.getD_eq_getElem?_getD, List.getD_eq_getElem?_getD]
  by_cases h : i < S.length
  · rw [List.getElem?_append_left h, if_neg (by omega)]
  · by_cases h2 : i = S.length
    · subst h2
      simp
    · rw [if_neg h2, List.getElem?_eq_none (by simp; omega), List.getElem?_eq_none (by omega)]
theorem n4 (n : Nat) : nI n * 4 = nI (4 * n) := by
  rw [show (4 : Int32) = nI 4 from rfl, nI_mul, Nat.mul_comm]
theorem n4a (n k : Nat) : nI n + nI k = nI (n + k) := by
  rw [nI_i, nI_i, iI_add, nI_i]
  rfl
theorem c_base {x1 x2 x3 x4 : Int32} {c : Nat} {a b d : Int} (Z : PZ s0 t p S P s) (hS : S.length < 80) (e1 : x1 = nI c) (e2 : x2 = iI a) (e3 : x3 = iI b) (e4 : x4 = iI d) (k : ∀ s', PZ s0 t p (S ++ [(c, a, b, d)]) P s' → Q 2 s') : wpX4_base x1 x2 x3 x4 s Q := by
  obtain ⟨f, W, ⟨z1, z2⟩, y1, y2⟩ := Z
  subst e1 e2 e3 e4
  unfold wpX4_base
  have v : ∀ j, j < 4 → vp_in (nI (4 * S.length + j)) 320 := fun j hj => vp_in_nI (by omega) (by decide)
  have ix' : ∀ j, j < 4 → ix (nI (4 * S.length + j)) = 4 * S.length + j := fun j hj => ix_nI (by omega)
  have h4 : nI (4 * S.length) + 4 = nI (4 * S.length + 4) := n4a _ 4
  have hA : nI (4 * S.length) + 1 = nI (4 * S.length + 1) := n4a _ 1
  have hB : nI (4 * S.length) + 2 = nI (4 * S.length + 2) := n4a _ 2
  have hC : nI (4 * S.length) + 3 = nI (4 * S.length + 3) := n4a _ 3
  have hle : nI (4 * S.length + 4) ≤ 320 := by
    rw [show (320 : Int32) = nI 320 from rfl, nI_leI (by omega) (by decide)]
    omega
  have hix0 : ix (nI (4 * S.length)) = 4 * S.length := ix' 0 (by omega)
  rw [show gi s 3 2 = nI S.length from z1, n4, h4, hA, hB, hC, hix0, ix' 1 (by omega), ix' 2 (by omega), ix' 3 (by omega)]
  refine ⟨fun h => absurd h (nI_nn (by omega)), fun _ => ⟨fun _ => ⟨v 0 (by omega), v 1 (by omega), v 2 (by omega), v 3 (by omega), ?_⟩, fun h => absurd hle h⟩⟩
  have g32 : gi (wi (wi (wi (wi s 7 (4 * S.length) (nI c)) 7 (4 * S.length + 1) (iI a)) 7 (4 * S.length + 2) (iI b)) 7 (4 * S.length + 3) (iI d)) 3 2 = nI S.length := by
    show (wi (wi (wi (wi s 7 (4 * S.length) (nI c)) 7 (4 * S.length + 1) (iI a)) 7 (4 * S.length + 2) (iI b)) 7 (4 * S.length + 3) (iI d)).1 3 2 = _
    rw [wi_na _ _ _ _ (by decide), wi_na _ _ _ _ (by decide), wi_na _ _ _ _ (by decide), wi_na _ _ _ _ (by decide)]
    exact z1
  rw [g32, nI_1]
  have na : ∀ x, x ≠ 7 → x ≠ 3 → (wi (wi (wi (wi (wi s 7 (4 * S.length) (nI c)) 7 (4 * S.length + 1) (iI a)) 7 (4 * S.length + 2) (iI b)) 7 (4 * S.length + 3) (iI d)) 3 2 (nI (S.length + 1))).1 x = s.1 x := fun x h7 h3 => by
    rw [wi_na _ _ _ _ h3, wi_na _ _ _ _ h7, wi_na _ _ _ _ h7, wi_na _ _ _ _ h7, wi_na _ _ _ _ h7]
  refine k _ ⟨f.tr (((((fR_wi rfl).tr (fR_wi rfl)).tr (fR_wi rfl)).tr (fR_wi rfl)).tr (fR_wi rfl)), W.cg (na 4 (by decide) (by decide)) (na 5 (by decide) (by decide)) (na 6 (by decide) (by decide)), ⟨?_, ?_⟩, ?_, ?_⟩
  · rw [wi_at, List.length_append]
    rfl
  · intro i hi j hj
    have hj : j < 4 := hj
    rw [List.length_append] at hi
    have hi : i < S.length + 1 := hi
    rw [wi_na _ _ _ _ (by decide), gD_app]
    by_cases h : i = S.length
    · subst h
      rw [if_pos rfl]
      by_cases c3 : j = 3
      · subst c3; rw [wi_at]; rfl
      rw [wi_ne _ _ _ _ (by omega)]
      by_cases c2 : j = 2
      · subst c2; rw [wi_at]; rfl
      rw [wi_ne _ _ _ _ (by omega)]
      by_cases c1 : j = 1
      · subst c1; rw [wi_at]; rfl
      rw [wi_ne _ _ _ _ (by omega)]
      have c0 : j = 0 := by omega
      subst c0
      show (wi s 7 (4 * S.length) (nI c)).1 7 (4 * S.length) = _
      rw [wi_at, nI_i]
      rfl
    · rw [if_neg h, wi_ne _ _ _ _ (by omega), wi_ne _ _ _ _ (by omega), wi_ne _ _ _ _ (by omega), wi_ne _ _ _ _ (by omega)]
      exact z2 i (by omega) j hj
  · rw [wi_ne _ _ _ _ (by decide), wi_na _ _ _ _ (by decide), wi_na _ _ _ _ (by decide), wi_na _ _ _ _ (by decide), wi_na _ _ _ _ (by decide)]
    exact y1
  · intro i hi j hj
    rw [na 8 (by decide) (by decide)]
    exact y2 i hi j hj
theorem c_pref {x1 x2 x3 : Int32} {c : Nat} {a b : Int} (Z : PZ s0 t p S P s) (hS : P.length < 80) (e1 : x1 = nI c) (e2 : x2 = iI a) (e3 : x3 = iI b) (k : ∀ s', PZ s0 t p S (P ++ [(c, a, b, 0)]) s' → Q 1 s') : wpX4_prefix x1 x2 x3 s Q := by
  obtain ⟨f, W, ⟨z1, z2⟩, y1, y2⟩ := Z
  subst e1 e2 e3
  unfold wpX4_prefix
  have v : ∀ j, j < 4 → vp_in (nI (4 * P.length + j)) 320 := fun j hj => vp_in_nI (by omega) (by decide)
  have ix' : ∀ j, j < 4 → ix (nI (4 * P.length + j)) = 4 * P.length + j := fun j hj => ix_nI (by omega)
  have h4 : nI (4 * P.length) + 4 = nI (4 * P.length + 4) := n4a _ 4
  have hA : nI (4 * P.length) + 1 = nI (4 * P.length + 1) := n4a _ 1
  have hB : nI (4 * P.length) + 2 = nI (4 * P.length + 2) := n4a _ 2
  have hle : nI (4 * P.length + 4) ≤ 320 := by
    rw [show (320 : Int32) = nI 320 from rfl, nI_leI (by omega) (by decide)]
    omega
  have hix0 : ix (nI (4 * P.length)) = 4 * P.length := ix' 0 (by omega)
  rw [show gi s 3 4 = nI P.length from y1, n4, h4, hA, hB, hix0, ix' 1 (by omega), ix' 2 (by omega)]
  refine ⟨fun h => absurd h (nI_nn (by omega)), fun _ => ⟨fun _ => ⟨v 0 (by omega), v 1 (by omega), v 2 (by omega), ?_⟩, fun h => absurd hle h⟩⟩
  have g32 : gi (wi (wi (wi s 8 (4 * P.length) (nI c)) 8 (4 * P.length + 1) (iI a)) 8 (4 * P.length + 2) (iI b)) 3 4 = nI P.length := by
    show (wi (wi (wi s 8 (4 * P.length) (nI c)) 8 (4 * P.length + 1) (iI a)) 8 (4 * P.length + 2) (iI b)).1 3 4 = _
    rw [wi_na _ _ _ _ (by decide), wi_na _ _ _ _ (by decide), wi_na _ _ _ _ (by decide)]
    exact y1
  rw [g32, nI_1]
  have na : ∀ x, x ≠ 8 → x ≠ 3 → (wi (wi (wi (wi s 8 (4 * P.length) (nI c)) 8 (4 * P.length + 1) (iI a)) 8 (4 * P.length + 2) (iI b)) 3 4 (nI (P.length + 1))).1 x = s.1 x := fun x h7 h3 => by
    rw [wi_na _ _ _ _ h3, wi_na _ _ _ _ h7, wi_na _ _ _ _ h7, wi_na _ _ _ _ h7]
  refine k _ ⟨f.tr ((((fR_wi rfl).tr (fR_wi rfl)).tr (fR_wi rfl)).tr (fR_wi rfl)), W.cg (na 4 (by decide) (by decide)) (na 5 (by decide) (by decide)) (na 6 (by decide) (by decide)), ⟨?_, ?_⟩, ?_, ?_⟩
  · rw [wi_ne _ _ _ _ (by decide), wi_na _ _ _ _ (by decide), wi_na _ _ _ _ (by decide), wi_na _ _ _ _ (by decide)]
    exact z1
  · intro i hi j hj
    rw [na 7 (by decide) (by decide)]
    exact z2 i hi j hj
  · rw [wi_at, List.length_append]
    rfl
  · intro i hi j hj
    have hj : j < 3 := hj
    rw [List.length_append] at hi
    have hi : i < P.length + 1 := hi
    rw [wi_na _ _ _ _ (by decide), gD_app]
    by_cases h : i = P.length
    · subst h
      rw [if_pos rfl]
      by_cases c2 : j = 2
      · subst c2; rw [wi_at]; rfl
      rw [wi_ne _ _ _ _ (by omega)]
      by_cases c1 : j = 1
      · subst c1; rw [wi_at]; rfl
      rw [wi_ne _ _ _ _ (by omega)]
      have c0 : j = 0 := by omega
      subst c0
      show (wi s 8 (4 * P.length) (nI c)).1 8 (4 * P.length) = _
      rw [wi_at, nI_i]
      rfl
    · rw [if_neg h, wi_ne _ _ _ _ (by omega), wi_ne _ _ _ _ (by omega), wi_ne _ _ _ _ (by omega)]
      exact y2 i (by omega) j hj
/-- what a step leaves behind -/
def RS (s0 : gS) (t : List Nat) (S P : List St) (r : Nat × St × Nat) (Q : Int32 → gS → Prop) : Prop := ∀ s', PZ s0 t r.2.2 (if r.1 = 2 then S ++ [r.2.1] else S) (if r.1 = 1 then P ++ [r.2.1] else P) s' → Q (nI r.1) s'
theorem RS2 {x : St} (k : RS s0 t S P (2, x, p) Q) : ∀ s', PZ s0 t p (S ++ [x]) P s' → Q 2 s' := fun s' h => k s' h
theorem RS1 {x : St} (k : RS s0 t S P (1, x, p) Q) : ∀ s', PZ s0 t p S (P ++ [x]) s' → Q 1 s' := fun s' h => k s' h
theorem RS0 {x : St} (k : RS s0 t S P (0, x, p) Q) (Z : PZ s0 t p S P s) : Q 0 s := k s Z
theorem lvN (h : 100 ≤ tk t p) : lv t p := ⟨by omega, by omega⟩
theorem lvW (h : tk t p < 40) : lv t p := ⟨by omega, by omega⟩
theorem k_from {x y : Int32} {lo hi : Nat} (W : WS t p s) (ha : 100 ≤ lo ∧ lo < 5000) (hb : 100 ≤ hi ∧ hi < 5000) (ex : x = nI (lo - 100)) (ey : y = nI (hi - 100)) (k1 : lo ≤ tk t p ∧ tk t p ≤ hi → Q 1 s) (k0 : ¬ (lo ≤ tk t p ∧ tk t p ≤ hi) → Q 0 s) : wpX10_isFrom x y s Q := by
  subst ex ey
  rw [c_isFrom W (by omega) (by omega), show 100 + (lo - 100) = lo by omega, show 100 + (hi - 100) = hi by omega]
  by_cases h : lo ≤ tk t p ∧ tk t p ≤ hi
  · rw [decide_eq_true h]; exact k1 h
  · rw [decide_eq_false h]; exact k0 h
theorem k_num (W : WS t p s) (k1 : 100 ≤ tk t p → Q 1 s) (k0 : ¬ 100 ≤ tk t p → Q 0 s) : wpX10_isNumber s Q := by
  rw [c_isNum W]
  by_cases h : 100 ≤ tk t p
  · rw [decide_eq_true h]; exact k1 h
  · rw [decide_eq_false h]; exact k0 h
theorem k_unit (W : WS t p s) (k1 : tk t p ≤ 3 → Q 1 s) (k0 : ¬ tk t p ≤ 3 → Q 0 s) : wpX10_isUnit s Q := by
  rw [c_isUnit W]
  by_cases h : tk t p ≤ 3
  · rw [decide_eq_true h]; exact k1 h
  · rw [decide_eq_false h]; exact k0 h
theorem k_day (W : WS t p s) (k1 : 4 ≤ tk t p ∧ tk t p < 11 → Q 1 s) (k0 : ¬ (4 ≤ tk t p ∧ tk t p < 11) → Q 0 s) : wpX10_isDayName s Q := by
  rw [c_isDayN W]
  by_cases h : 4 ≤ tk t p ∧ tk t p < 11
  · rw [decide_eq_true h]; exact k1 h
  · rw [decide_eq_false h]; exact k0 h
theorem k_mon (W : WS t p s) (k1 : 11 ≤ tk t p ∧ tk t p < 23 → Q 1 s) (k0 : ¬ (11 ≤ tk t p ∧ tk t p < 23) → Q 0 s) : wpX10_isMonthName s Q := by
  rw [c_isMonN W]
  by_cases h : 11 ≤ tk t p ∧ tk t p < 23
  · rw [decide_eq_true h]; exact k1 h
  · rw [decide_eq_false h]; exact k0 h
theorem k_beg (W : WS t p s) (k1 : 23 ≤ tk t p ∧ tk t p ≤ 33 → Q 1 s) (k0 : ¬ (23 ≤ tk t p ∧ tk t p ≤ 33) → Q 0 s) : wpX10_beginsSpan s Q := by
  rw [c_begS W]
  by_cases h : 23 ≤ tk t p ∧ tk t p ≤ 33
  · rw [decide_eq_true h]; exact k1 h
  · rw [decide_eq_false h]; exact k0 h
theorem kE {x : Int32} {n : Nat} (W : WS t p s) (hx : x = nI n) (hn : n < 100000) : (gi s 4 3 = x) = (tk t p = n) := by rw [W.w, hx, kI_eq n hn]
theorem kS (W : WS t p s) {x : Int32} {n : Nat} (hx : x = nI n) (h : n ≤ tk t p) : gi s 4 3 - x = iI ((tk t p - n : Nat) : Int) := by
  rw [W.w, hx, nI_subI]
  congr 1
  omega
end PARSE
