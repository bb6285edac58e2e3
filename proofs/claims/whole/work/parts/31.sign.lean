/-! sign: the four bytes of an int -/
def by4 (v : Int32) (j : Nat) : Nat := v.toUInt32.toNat / 2 ^ (24 - 8 * j) % 256
theorem by4_lt (v : Int32) (j : Nat) : by4 v j < 256 := Nat.mod_lt _ (by decide)
theorem i32_nat {x : Int32} {n : Nat} (h : x.toUInt32.toNat = n) (hn : n < 2 ^ 31) : x = nI n := by
  obtain ⟨u⟩ := x
  have h : u.toNat = n := h
  have hu : u = (nI n).toUInt32 := by
    apply UInt32.toNat_inj.mp
    have : (Int32.ofNat n).toUInt32.toNat = n % 2 ^ 32 := by
      show (UInt32.ofNat n).toNat = n % 2 ^ 32
      first | exact UInt32.toNat_ofNat' | exact UInt32.toNat_ofNat | rfl
    show u.toNat = (Int32.ofNat n).toUInt32.toNat
    rw [this, h]
    omega
  rw [hu]
theorem ushr_c (v : Int32) : jushr v 24 = nI (by4 v 0) ∧ (jushr v 16 &&& 255) = nI (by4 v 1) ∧ (jushr v 8 &&& 255) = nI (by4 v 2) ∧ (v &&& 255) = nI (by4 v 3) := by
  have hv : v.toUInt32.toNat < 2 ^ 32 := v.toUInt32.toNat_lt
  have p8 : ∀ n : Nat, n &&& 255 = n % 256 := fun n => Nat.and_two_pow_sub_one_eq_mod n 8
  refine ⟨i32_nat ?_ (Nat.lt_trans (by4_lt _ _) (by decide)), i32_nat ?_ (Nat.lt_trans (by4_lt _ _) (by decide)), i32_nat ?_ (Nat.lt_trans (by4_lt _ _) (by decide)), i32_nat ?_ (Nat.lt_trans (by4_lt _ _) (by decide))⟩
  · show (v.toUInt32 >>> ((24 : Int32).toUInt32 &&& Int32.toUInt32 31)).toNat = _
    rw [show ((24 : Int32).toUInt32 &&& Int32.toUInt32 31) = 24 from by decide, UInt32.toNat_shiftRight]
    show v.toUInt32.toNat >>> 24 = v.toUInt32.toNat / 2 ^ 24 % 256
    rw [Nat.shiftRight_eq_div_pow]
    omega
  · show ((v.toUInt32 >>> ((16 : Int32).toUInt32 &&& Int32.toUInt32 31)) &&& 255).toNat = _
    rw [show ((16 : Int32).toUInt32 &&& Int32.toUInt32 31) = 16 from by decide, UInt32.toNat_and, UInt32.toNat_shiftRight]
    show (v.toUInt32.toNat >>> 16) &&& 255 = v.toUInt32.toNat / 2 ^ 16 % 256
    rw [Nat.shiftRight_eq_div_pow, p8]
  · show ((v.toUInt32 >>> ((8 : Int32).toUInt32 &&& Int32.toUInt32 31)) &&& 255).toNat = _
    rw [show ((8 : Int32).toUInt32 &&& Int32.toUInt32 31) = 8 from by decide, UInt32.toNat_and, UInt32.toNat_shiftRight]
    show (v.toUInt32.toNat >>> 8) &&& 255 = v.toUInt32.toNat / 2 ^ 8 % 256
    rw [Nat.shiftRight_eq_div_pow, p8]
  · show (v.toUInt32 &&& 255).toNat = _
    rw [UInt32.toNat_and]
    show v.toUInt32.toNat &&& 255 = v.toUInt32.toNat / 2 ^ 0 % 256
    rw [p8]
    omega
def bytes4 (v : Int32) : List Nat := [by4 v 0, by4 v 1, by4 v 2, by4 v 3]
theorem okT_app {t : List Nat} {v : Int32} (h : okT t) (hl : t.length + 4 ≤ 80) : okT (t ++ bytes4 v) := by
  refine ⟨by simp [bytes4]; omega, fun x hx => ?_⟩
  rcases List.mem_append.mp hx with h1 | h1
  · exact h.2 x h1
  · simp [bytes4] at h1
    rcases h1 with rfl | rfl | rfl | rfl <;> exact by4_lt _ _
theorem C_sign {t : List Nat} {v : Int32} {s : gS} {Q : Int32 → gS → Prop} (ht : okT t) (h : txC t s) (k0 : 80 < t.length + 4 → Q (-1) s) (k1 : t.length + 4 ≤ 80 → ∀ s', fr (fun a => a == 1 || a == 2) s s' → txC (t ++ bytes4 v) s' → Q (nI (t.length + 4)) s') : wpX11_sign v s Q := by
  have ht1 := ht.1
  obtain ⟨c1, c2, c3, c4⟩ := ushr_c v
  have e4 : nI t.length + 4 = nI (t.length + 4) := nI_add _ 4
  have e3 : nI t.length + 3 = nI (t.length + 3) := nI_add _ 3
  have e2 : nI t.length + 2 = nI (t.length + 2) := nI_add _ 2
  have e1 : nI t.length + 1 = nI (t.length + 1) := nI_add _ 1
  have i0 : ix (nI t.length) = t.length := nI_clamp (by omega)
  have i1 : ix (nI (t.length + 1)) = t.length + 1 := nI_clamp (by omega)
  have i2 : ix (nI (t.length + 2)) = t.length + 2 := nI_clamp (by omega)
  have i3 : ix (nI (t.length + 3)) = t.length + 3 := nI_clamp (by omega)
  have h80 : (80 : Int32) = nI 80 := rfl
  have hl := h.1
  unfold wpX11_sign wpX9_append
  simp only [gi_wi, Nat.reduceEqDiff, false_and, if_false, hl, e4, e3, e2, e1, i0, i1, i2, i3, c1, c2, c3, c4, show ¬ (1 = 2) by decide]
  refine ⟨fun c => absurd c (nI_pos (by omega)), fun _ => ⟨fun c => ?_, fun c => k0 ?_⟩⟩
  · rw [h80, nI_leI (by omega) (by decide)] at c
    refine ⟨vp_in_nI (by omega) (by decide), vp_in_nI (by omega) (by decide), vp_in_nI (by omega) (by decide), vp_in_nI (by omega) (by decide), ?_⟩
    refine k1 c _ (fr.tr (fr.tr (fr.tr (fr.tr (fr.wi rfl) (fr.wi rfl)) (fr.wi rfl)) (fr.wi rfl)) (fr.wi rfl)) ⟨?_, fun i hi => ?_⟩
    · simp [gi_wi, bytes4]
    · have hi4 : i < t.length + 4 := by simpa [bytes4] using hi
      simp only [gi_wi]
      rcases Nat.lt_or_ge i t.length with h1 | h1
      · have e9 : (t ++ bytes4 v).getD i 0 = t.getD i 0 := by simp [List.getD_eq_getElem?_getD, List.getElem?_append_left h1]
        rw [e9]
        simp [show ¬ i = t.length by omega, show ¬ i = t.length + 1 by omega, show ¬ i = t.length + 2 by omega, show ¬ i = t.length + 3 by omega]
        have := h.2 i h1
        simpa using this
      · have e9 : (t ++ bytes4 v).getD i 0 = (bytes4 v).getD (i - t.length) 0 := by simp [List.getD_eq_getElem?_getD, List.getElem?_append_right h1]
        rw [e9]
        have : i = t.length ∨ i = t.length + 1 ∨ i = t.length + 2 ∨ i = t.length + 3 := by omega
        rcases this with rfl | rfl | rfl | rfl
        · simp [bytes4]
        · simp [bytes4]
        · simp [bytes4]
        · simp [bytes4]
  · rw [h80, nI_leI (by omega) (by decide)] at c
    omega
