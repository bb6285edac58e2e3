/-! phrases: readings, and what a step means -/
abbrev Rd := Nat × Nat × Nat × Nat
def r0 : Rd := (0, 0, 0, 0)
def rc (x : Rd) (j : Nat) : Nat := if j = 0 then x.1 else if j = 1 then x.2.1 else if j = 2 then x.2.2.1 else x.2.2.2
def okRd (x : Rd) : Prop := x.1 ≤ x.2.1 ∧ x.2.1 ≤ 9999 ∧ x.2.2.1 ≤ 3 ∧ x.2.2.2 ≤ 3
/-- a reading, if its days are days -/
def pu (f t : Int) (g w : Nat) : List Rd := if 0 ≤ f ∧ f ≤ t ∧ t ≤ 9999 then [(f.toNat, t.toNat, g, w)] else []
def pd (d : Int) (w : Nat) : List Rd := pu d d 0 w
def wk (d : Int) : Int := (d + 5) % 7
def mnd (d : Int) : Int := d - wk d
def nmd (a d : Int) : Int := d + (a - wk d + 7) % 7
def mos (m : Int) (k g w : Nat) : List Rd := if 0 ≤ m ∧ m + k ≤ 336 then pu (mS m.toNat) ((mS (m.toNat + k) : Int) - 1) g w else []
def uni (u d : Nat) (b : Int) (w : Nat) : List Rd := if u = 0 then pd (d + b) w else if u = 1 then pu (mnd d + 7 * b) (mnd d + 7 * b + 6) 1 w else if u = 2 then mos (mo d + b) 1 2 w else mos ((yr d + b) * 12) 12 3 w
def ltr (r : Nat) (D : Nat → Int) : Nat → Int
  | 0 => -1
  | k + 1 => if (r : Int) ≤ D (27 - k) then D (27 - k) else ltr r D k
def snr (r : Nat) (D : Nat → Int) : Nat → Int
  | 0 => -1
  | k + 1 => if 0 ≤ D k ∧ D k < r then D k else snr r D k
/-- what the first step of a span means from the day r -/
def bs (r : Nat) (x : St) : List Rd :=
  if x.1 = 0 then uni x.2.1.toNat r x.2.2.1 3 ++ (if x.2.1 = 1 ∧ 0 < x.2.2.1 then pu (r + 1) (r + 7) 1 1 else if x.2.1 = 1 ∧ x.2.2.1 < 0 then pu (r - 7) (r - 1) 1 1 else [])
  else if x.1 = 1 then (if mvS r x.2.1.toNat x.2.2.1 = -1 then [] else pd (mvS r x.2.1.toNat x.2.2.1) 3 ++ (if x.2.1 = 0 then [] else uni x.2.1.toNat (mvS r x.2.1.toNat x.2.2.1).toNat 0 1))
  else if x.1 = 2 then pd (nmd x.2.1 r) 3 ++ pd (nmd x.2.1 r - 7) 1
  else if x.1 = 3 then pd (mnd r + x.2.1) 3
  else if x.1 = 4 then pd (mnd r + 7 + x.2.1) 3 ++ pd (nmd x.2.1 (r + 1)) 2
  else if x.1 = 5 then pd (nmd x.2.1 r - 7) 3 ++ pd (mnd r - 7 + x.2.1) 2
  else if x.1 = 6 then pd (nmd x.2.1 (r + 1) + 7) 3 ++ pd (mnd r + 14 + x.2.1) 2
  else if x.1 = 7 then mos (yr r * 12 + x.2.1 + (if mS (12 * yr r + x.2.1.toNat + 1) ≤ r then 12 else 0)) 1 2 3 ++ mos (yr r * 12 + x.2.1 - (if mS (12 * yr r + x.2.1.toNat) < r then 0 else 12)) 1 2 2
  else if x.1 = 8 then pd (ltr r (fun Y => dIM (12 * Y + x.2.1.toNat) x.2.2.1.toNat) 28) 3 ++ pd (snr r (fun Y => dIM (12 * Y + x.2.1.toNat) x.2.2.1.toNat) 28) 2
  else if x.1 = 9 then pd (dIM (12 * (x.2.2.2.toNat - 2000) + x.2.1.toNat) x.2.2.1.toNat) 3
  else mos ((x.2.1 - 2000) * 12) 12 3 3
/-- what a step ahead of a span makes of a reading -/
def cg1 (x : St) (y : Rd) : List Rd :=
  if x.1 = 11 then pd (mvS y.2.1 x.2.1.toNat x.2.2.1) y.2.2.2
  else if x.1 = 12 then pd (mvS y.1 x.2.1.toNat (-x.2.2.1)) y.2.2.2
  else if x.1 = 16 then (if nmd x.2.1 y.1 ≤ y.2.1 then pd (nmd x.2.1 y.1) y.2.2.2 else [])
  else if x.1 = 17 then (if (y.1 : Int) ≤ nmd x.2.1 ((y.2.1 : Int) + 1) - 7 then pd (nmd x.2.1 ((y.2.1 : Int) + 1) - 7) y.2.2.2 else [])
  else if (y.2.1 - y.1 + 1) / 3 = 0 then []
  else if x.1 = 13 then pu y.1 ((y.1 : Int) + ((y.2.1 - y.1 + 1) / 3 : Nat) - 1) y.2.2.1 y.2.2.2
  else if x.1 = 15 then pu ((y.2.1 : Int) - ((y.2.1 - y.1 + 1) / 3 : Nat) + 1) y.2.1 y.2.2.1 y.2.2.2
  else pu ((y.1 : Int) + ((y.2.1 - y.1 + 1) / 3 : Nat)) ((y.2.1 : Int) - ((y.2.1 - y.1 + 1) / 3 : Nat)) y.2.2.1 y.2.2.2
def spv (r : Nat) (V : List Rd) (S : List St) : List Rd := S.foldl (fun V x => if x.1 < 11 then bs r x else V.flatMap (cg1 x)) V
def jn1 (x y : Rd) : List Rd := if x.1 ≤ y.2.1 then [(x.1, y.2.1, max x.2.2.1 y.2.2.1, min x.2.2.2 y.2.2.2)] else []
def jnA (A B : List Rd) : List Rd := A.flatMap (fun x => B.flatMap (fun y => jn1 x y))
section VALS
variable {x y : Rd} {f t' d : Int} {g w : Nat}
theorem pu_le : (pu f t' g w).length ≤ 1 := by
  unfold pu
  split <;> simp
theorem pd_le : (pd d w).length ≤ 1 := pu_le
theorem mos_le {m : Int} {k : Nat} : (mos m k g w).length ≤ 1 := by
  unfold mos
  split
  · exact pu_le
  · simp
theorem uni_le {u n : Nat} {b : Int} : (uni u n b w).length ≤ 1 := by
  unfold uni
  split
  · exact pd_le
  split
  · exact pu_le
  split
  · exact mos_le
  · exact mos_le
theorem ap2 {A B : List Rd} (h1 : A.length ≤ 1) (h2 : B.length ≤ 1) : (A ++ B).length ≤ 2 := by
  rw [List.length_append]
  omega
theorem bs_le {r : Nat} {x : St} : (bs r x).length ≤ 2 := by
  unfold bs
  split
  · refine ap2 uni_le ?_
    split
    · exact pu_le
    split
    · exact pu_le
    · simp
  split
  · split
    · simp
    · refine ap2 pd_le ?_
      split
      · simp
      · exact uni_le
  split
  · exact ap2 pd_le pd_le
  split
  · exact Nat.le_trans pd_le (by decide)
  split
  · exact ap2 pd_le pd_le
  split
  · exact ap2 pd_le pd_le
  split
  · exact ap2 pd_le pd_le
  split
  · exact ap2 mos_le mos_le
  split
  · exact ap2 pd_le pd_le
  split
  · exact Nat.le_trans pd_le (by decide)
  · exact Nat.le_trans mos_le (by decide)
theorem cg1_le {x : St} : (cg1 x y).length ≤ 1 := by
  unfold cg1
  split
  · exact pd_le
  split
  · exact pd_le
  split
  · split
    · exact pd_le
    · simp
  split
  · split
    · exact pd_le
    · simp
  split
  · simp
  split
  · exact pu_le
  split
  · exact pu_le
  · exact pu_le
theorem fl_le {α β : Type} {f : α → List β} (h : ∀ a, (f a).length ≤ 1) : ∀ V : List α, (V.flatMap f).length ≤ V.length := by
  intro V
  induction V with
  | nil => simp
  | cons a V ih =>
    rw [List.flatMap_cons, List.length_append, List.length_cons]
    have := h a
    omega
theorem spv_le {r : Nat} : ∀ S V, V.length ≤ 2 → (spv r V S).length ≤ 2 := by
  intro S
  induction S with
  | nil => intro V h; exact h
  | cons x S ih =>
    intro V h
    refine ih _ ?_
    dsimp only
    split
    · exact bs_le
    · exact Nat.le_trans (fl_le (fun a => cg1_le) V) h
theorem spv_app {r : Nat} {V : List Rd} {S : List St} {x : St} : spv r V (S ++ [x]) = if x.1 < 11 then bs r x else (spv r V S).flatMap (cg1 x) := by
  unfold spv
  rw [List.foldl_append]
  rfl
def okV (V : List Rd) : Prop := ∀ x, x ∈ V → okRd x
theorem okV.ap {A B : List Rd} (h1 : okV A) (h2 : okV B) : okV (A ++ B) := fun x hx => (List.mem_append.mp hx).elim (h1 x) (h2 x)
theorem ok_nil : okV [] := fun x hx => by cases hx
theorem pu_ok (hg : g ≤ 3) (hw : w ≤ 3) : okV (pu f t' g w) := by
  unfold pu
  split
  next h =>
    intro x hx
    rw [List.mem_singleton.mp hx]
    exact ⟨by show f.toNat ≤ t'.toNat; omega, by show t'.toNat ≤ 9999; omega, hg, hw⟩
  next => exact ok_nil
theorem pd_ok (hw : w ≤ 3) : okV (pd d w) := pu_ok (by decide) hw
theorem mos_ok {m : Int} {k : Nat} (hg : g ≤ 3) (hw : w ≤ 3) : okV (mos m k g w) := by
  unfold mos
  split
  · exact pu_ok hg hw
  · exact ok_nil
theorem uni_ok {u n : Nat} {b : Int} (hw : w ≤ 3) : okV (uni u n b w) := by
  unfold uni
  split
  · exact pd_ok hw
  split
  · exact pu_ok (by decide) hw
  split
  · exact mos_ok (by decide) hw
  · exact mos_ok (by decide) hw
theorem bs_ok {r : Nat} {x : St} : okV (bs r x) := by
  unfold bs
  split
  · refine (uni_ok (by decide)).ap ?_
    split
    · exact pu_ok (by decide) (by decide)
    split
    · exact pu_ok (by decide) (by decide)
    · exact ok_nil
  split
  · split
    · exact ok_nil
    · refine (pd_ok (by decide)).ap ?_
      split
      · exact ok_nil
      · exact uni_ok (by decide)
  split
  · exact (pd_ok (by decide)).ap (pd_ok (by decide))
  split
  · exact pd_ok (by decide)
  split
  · exact (pd_ok (by decide)).ap (pd_ok (by decide))
  split
  · exact (pd_ok (by decide)).ap (pd_ok (by decide))
  split
  · exact (pd_ok (by decide)).ap (pd_ok (by decide))
  split
  · exact (mos_ok (by decide) (by decide)).ap (mos_ok (by decide) (by decide))
  split
  · exact (pd_ok (by decide)).ap (pd_ok (by decide))
  split
  · exact pd_ok (by decide)
  · exact mos_ok (by decide) (by decide)
theorem cg1_ok {x : St} (h : okRd y) : okV (cg1 x y) := by
  obtain ⟨h1, h2, h3, h4⟩ := h
  unfold cg1
  split
  · exact pd_ok h4
  split
  · exact pd_ok h4
  split
  · split
    · exact pd_ok h4
    · exact ok_nil
  split
  · split
    · exact pd_ok h4
    · exact ok_nil
  split
  · exact ok_nil
  split
  · exact pu_ok h3 h4
  split
  · exact pu_ok h3 h4
  · exact pu_ok h3 h4
theorem fl_ok {f : Rd → List Rd} {V : List Rd} (h : ∀ a, okRd a → okV (f a)) (hV : okV V) : okV (V.flatMap f) := by
  intro x hx
  obtain ⟨a, ha, hx⟩ := List.mem_flatMap.mp hx
  exact h a (hV a ha) x hx
theorem spv_ok {r : Nat} : ∀ S V, okV V → okV (spv r V S) := by
  intro S
  induction S with
  | nil => intro V h; exact h
  | cons x S ih =>
    intro V h
    refine ih _ ?_
    dsimp only
    split
    · exact bs_ok
    · exact fl_ok (fun a => cg1_ok) h
theorem jn1_ok (h1 : okRd x) (h2 : okRd y) : okV (jn1 x y) := by
  unfold jn1
  split
  next h =>
    intro z hz
    rw [List.mem_singleton.mp hz]
    obtain ⟨a1, a2, a3, a4⟩ := h1
    obtain ⟨b1, b2, b3, b4⟩ := h2
    refine ⟨h, b2, ?_, ?_⟩
    · show max x.2.2.1 y.2.2.1 ≤ 3
      omega
    · show min x.2.2.2 y.2.2.2 ≤ 3
      omega
  next => exact ok_nil
theorem jnA_ok {A B : List Rd} (h1 : okV A) (h2 : okV B) : okV (jnA A B) := by
  intro z hz
  obtain ⟨a, ha, hz⟩ := List.mem_flatMap.mp hz
  obtain ⟨b, hb, hz⟩ := List.mem_flatMap.mp hz
  exact jn1_ok (h1 a ha) (h2 b hb) z hz
theorem jn1_le : (jn1 x y).length ≤ 1 := by
  unfold jn1
  split <;> simp
theorem jnA_le {B : List Rd} : ∀ A : List Rd, (jnA A B).length ≤ A.length * B.length := by
  intro A
  induction A with
  | nil => simp [jnA]
  | cons a A ih =>
    unfold jnA at ih ⊢
    rw [List.flatMap_cons, List.length_append, List.length_cons, Nat.add_mul, Nat.one_mul]
    have h2 : (List.flatMap (fun y => jn1 a y) B).length ≤ B.length := fl_le (fun b => jn1_le) B
    omega
end VALS
