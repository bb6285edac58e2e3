/-! THE MATHEMATICS. Reading and writing cells; which cells a piece of the program may write -/
theorem gi_wi (s : gS) (a i : Nat) (v : Int32) (b j : Nat) : gi (wi s a i v) b j = if b = a ∧ j = i then v else gi s b j := g_up_e _ _ _ _ _ _
theorem gi_wl (s : gS) (a i : Nat) (v : Int64) (b j : Nat) : gi (wl s a i v) b j = gi s b j := rfl
theorem gl_wl (s : gS) (a i : Nat) (v : Int64) (b j : Nat) : gl (wl s a i v) b j = if b = a ∧ j = i then v else gl s b j := g_up_e _ _ _ _ _ _
theorem gl_wi (s : gS) (a i : Nat) (v : Int32) (b j : Nat) : gl (wi s a i v) b j = gl s b j := rfl
/-- cells of D alone may differ -/
def fr (D : Nat → Bool) (s s' : gS) : Prop := (∀ a, D a = false → s'.1 a = s.1 a) ∧ (∀ a, D a = false → s'.2.1 a = s.2.1 a) ∧ s'.2.2 = s.2.2
theorem fr.rf {D : Nat → Bool} {s : gS} : fr D s s := ⟨fun _ _ => rfl, fun _ _ => rfl, rfl⟩
theorem fr.tr {D : Nat → Bool} {s s1 s2 : gS} (h : fr D s s1) (h2 : fr D s1 s2) : fr D s s2 := ⟨fun a d => (h2.1 a d).trans (h.1 a d), fun a d => (h2.2.1 a d).trans (h.2.1 a d), h2.2.2.trans h.2.2⟩
theorem fr.wi {D : Nat → Bool} {s : gS} {a i : Nat} {v : Int32} (h : D a = true) : fr D s (wi s a i v) := ⟨fun b hb => by
  have : b ≠ a := fun e => by rw [e, h] at hb; cases hb
  exact g_up_a _ _ _ this, fun _ _ => rfl, rfl⟩
theorem fr.wl {D : Nat → Bool} {s : gS} {a i : Nat} {v : Int64} (h : D a = true) : fr D s (wl s a i v) := ⟨fun _ _ => rfl, fun b hb => by
  have : b ≠ a := fun e => by rw [e, h] at hb; cases hb
  exact g_up_a _ _ _ this, rfl⟩
theorem fr.gi {D : Nat → Bool} {s s' : gS} (h : fr D s s') {a j : Nat} (d : D a = false) : gi s' a j = gi s a j := congrFun (h.1 a d) j
theorem fr.gl {D : Nat → Bool} {s s' : gS} (h : fr D s s') {a j : Nat} (d : D a = false) : gl s' a j = gl s a j := congrFun (h.2.1 a d) j
theorem fr.mono {D D2 : Nat → Bool} {s s' : gS} (h : fr D s s') (hd : ∀ a, D a = true → D2 a = true) : fr D2 s s' := by
  have e : ∀ a, D2 a = false → D a = false := fun a h2 => by
    cases h3 : D a with
    | false => rfl
    | true => rw [hd a h3] at h2; cases h2
  exact ⟨fun a h2 => h.1 a (e a h2), fun a h2 => h.2.1 a (e a h2), h.2.2⟩
/-- the text: its signs, 0 .. 255; as the class holds it (cells 1, 2), as the reference does (177, 179) -/
def sg8 (x : Nat) : Int32 := if x < 128 then nI x else nI x - 256
def okT (t : List Nat) : Prop := t.length ≤ 80 ∧ ∀ x ∈ t, x < 256
def txC (t : List Nat) (s : gS) : Prop := gi s 1 1 = nI t.length ∧ ∀ i, i < t.length → gi s 2 i = nI (t.getD i 0)
def txM (t : List Nat) (s : gS) : Prop := gi s 177 2 = nI t.length ∧ ∀ i, i < t.length → gi s 179 i = sg8 (t.getD i 0)
theorem txC.fr {t : List Nat} {D : Nat → Bool} {s s' : gS} (h : txC t s) (f : fr D s s') (d1 : D 1 = false) (d2 : D 2 = false) : txC t s' := ⟨by rw [f.gi d1]; exact h.1, fun i hi => by rw [f.gi d2]; exact h.2 i hi⟩
theorem txM.fr {t : List Nat} {D : Nat → Bool} {s s' : gS} (h : txM t s) (f : fr D s s') (h1 : gi s' 177 2 = gi s 177 2) (d2 : D 179 = false) : txM t s' := ⟨by rw [h1]; exact h.1, fun i hi => by rw [f.gi d2]; exact h.2 i hi⟩
/-- end(n): whether it is refused, and what is left -/
def endNo (t : List Nat) (x : Int32) : Prop := x < 0 ∨ ¬ x ≤ nI t.length
theorem okT.take {t : List Nat} (h : okT t) (n : Nat) : okT (t.take n) := ⟨Nat.le_trans (List.length_take_le' n t) h.1, fun x hx => h.2 x (List.mem_of_mem_take hx)⟩
theorem end_len {t : List Nat} {x : Int32} (ht : okT t) (h : ¬ endNo t x) : x = nI (t.take (ix x)).length ∧ (t.take (ix x)).length ≤ t.length := by
  have h1 : ¬ x < 0 := fun c => h (Or.inl c)
  have h2 : x ≤ nI t.length := Classical.byContradiction fun c => h (Or.inr c)
  have ht1 := ht.1
  obtain ⟨j, hj, rfl⟩ := vp_in_of (x := x) (n := 81) (vp_in_iff.mpr ⟨by
    have := Int32.not_lt.mp h1
    simpa using Int32.le_iff_toInt_le.mp this, by
    have h3 := Int32.le_iff_toInt_le.mp h2
    rw [nI_toInt (by omega)] at h3
    omega⟩) (by decide)
  have hj2 := (nI_leI (by omega) (by omega)).mp h2
  have e : ix (nI j) = j := nI_clamp (by omega)
  rw [e, List.length_take, Nat.min_eq_left hj2]
  exact ⟨rfl, hj2⟩
theorem take_getD {t : List Nat} {n i : Nat} (h : i < (t.take n).length) : (t.take n).getD i 0 = t.getD i 0 := by
  rw [List.length_take] at h
  simp [List.getD_eq_getElem?_getD, List.getElem?_take, show i < n by omega]
theorem C_end {t : List Nat} {x : Int32} {s : gS} {Q : Int32 → gS → Prop} (ht : okT t) (h : txC t s) (k0 : endNo t x → Q 0 s) (k1 : ¬ endNo t x → ∀ s', fr (fun a => a == 1) s s' → txC (t.take (ix x)) s' → Q 1 s') : wpX11_end x s Q := by
  unfold wpX11_end wpX9_cut
  rw [h.1]
  refine ⟨fun c => ⟨Or.inl rfl, k0 (Or.inl c)⟩, fun c => ⟨fun c2 => ⟨Or.inr rfl, ?_⟩, fun c2 => ⟨Or.inl rfl, k0 (Or.inr c2)⟩⟩⟩
  have hn : ¬ endNo t x := fun e => e.elim c (fun e => e c2)
  obtain ⟨e1, e2⟩ := end_len ht hn
  refine k1 hn _ (fr.wi rfl) ⟨by rw [gi_wi, if_pos ⟨rfl, rfl⟩]; exact e1, fun i hi => ?_⟩
  rw [gi_wi, take_getD hi]
  simp
  exact h.2 i (by omega)
theorem M_end {t : List Nat} {x : Int32} {s : gS} {Q : Int32 → gS → Prop} (ht : okT t) (h : txM t s) (k0 : endNo t x → ∀ s', fr (fun a => a == 177) s s' → (∀ j, j ≠ 5 → gi s' 177 j = gi s 177 j) → Q 0 s') (k1 : ¬ endNo t x → ∀ s', fr (fun a => a == 177) s s' → (∀ j, j ≠ 5 → j ≠ 2 → gi s' 177 j = gi s 177 j) → txM (t.take (ix x)) s' → Q 1 s') : wpX12_end x s Q := by
  have hz : gi (wi s 177 5 0) 177 2 = nI t.length := by rw [gi_wi]; simp; exact h.1
  unfold wpX12_end wpX12_in
  rw [hz]
  have n01 : ¬ (1 : Int32) = 0 := by decide
  refine ⟨fun c => ⟨fun e => absurd rfl e, fun _ => k0 (Or.inl c) _ (fr.wi rfl) (fun j hj => by rw [gi_wi]; simp [hj])⟩, fun c => ⟨fun c2 => ⟨fun e => absurd rfl e, fun _ => k0 (Or.inr (Int32.not_le.mpr c2)) _ (fr.wi rfl) (fun j hj => by rw [gi_wi]; simp [hj])⟩, fun c2 => ⟨fun _ => ?_, fun e => absurd e n01⟩⟩⟩
  have hn : ¬ endNo t x := fun e => e.elim c (fun e => e (Int32.not_lt.mp c2))
  obtain ⟨e1, e2⟩ := end_len ht hn
  refine k1 hn _ (fr.tr (fr.wi rfl) (fr.wi rfl)) (fun j h5 h2 => by rw [gi_wi, gi_wi]; simp [h5, h2]) ⟨by rw [gi_wi, if_pos ⟨rfl, rfl⟩]; exact e1, fun i hi => ?_⟩
  rw [gi_wi, gi_wi, take_getD hi]
  simp
  exact h.2 i (by omega)
