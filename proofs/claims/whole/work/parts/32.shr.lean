/-! the reference's bytes -/
theorem shr_i (v k : Int32) (n : Nat) (hk : ((k &&& 31).toBitVec.smod 32).toNat = n) : (jshr v k).toInt = v.toInt / 2 ^ n := by
  show (v >>> (k &&& 31)).toBitVec.toInt = _
  have e : (v >>> (k &&& 31)).toBitVec = v.toBitVec.sshiftRight n := by
    show v.toBitVec.sshiftRight' ((k &&& 31).toBitVec.smod 32) = _
    rw [BitVec.sshiftRight_eq', hk]
  rw [e, BitVec.toInt_sshiftRight, Int.shiftRight_eq_div_pow]
  rfl
theorem jb_i (x : Int32) : (jbyte x).toInt = x.toInt.bmod 256 := by
  unfold jbyte
  rw [Int8.toInt_toInt32, Int32.toInt_toInt8]
theorem i32_toInt (v : Int32) : v.toInt = if 2 * v.toUInt32.toNat < 2 ^ 32 then (v.toUInt32.toNat : Int) else (v.toUInt32.toNat : Int) - 2 ^ 32 := BitVec.toInt_eq_toNat_cond v.toBitVec
theorem sg8_i {b : Nat} (h : b < 256) : (sg8 b).toInt = if b < 128 then (b : Int) else (b : Int) - 256 := by
  have : ∀ b, b < 256 → (sg8 b).toInt = if b < 128 then (b : Int) else (b : Int) - 256 := by decide +kernel
  exact this b h
theorem byte_m (v k : Int32) (n j : Nat) (hk : ((k &&& 31).toBitVec.smod 32).toNat = n) (hj : j < 4) (hn : n = 24 - 8 * j) : vp_nar .byte (jbyte (jshr v k)) = sg8 (by4 v j) := by
  have e0 : vp_nar .byte (jbyte (jshr v k)) = jbyte (jbyte (jshr v k)) := rfl
  apply Int32.toInt_inj.mp
  rw [e0, jb_i, jb_i, shr_i v k n hk, sg8_i (by4_lt v j), i32_toInt]
  have hv : v.toUInt32.toNat < 2 ^ 32 := v.toUInt32.toNat_lt
  unfold by4
  generalize v.toUInt32.toNat = u at hv ⊢
  subst hn
  have hj4 : j = 0 ∨ j = 1 ∨ j = 2 ∨ j = 3 := by omega
  rcases hj4 with rfl | rfl | rfl | rfl <;> simp only [Int.bmod_def] <;> (repeat' split) <;> omega
theorem M_sign {t : List Nat} {v : Int32} {s : gS} {Q : Int32 → gS → Prop} (ht : okT t) (h : txM t s) (k0 : 80 < t.length + 4 → ∀ s', fr (fun a => a == 177) s s' → (∀ j, j ≠ 5 → gi s' 177 j = gi s 177 j) → Q (-1) s') (k1 : t.length + 4 ≤ 80 → ∀ s', fr (fun a => a == 177 || a == 179) s s' → (∀ j, j ≠ 5 → j ≠ 2 → gi s' 177 j = gi s 177 j) → txM (t ++ bytes4 v) s' → Q (nI (t.length + 4)) s') : wpX12_sign v s Q := by
  have ht1 := ht.1
  have e4 : nI t.length + 4 = nI (t.length + 4) := nI_add _ 4
  have h80 : (80 : Int32) = nI 80 := rfl
  have hl : gi (wi s 177 5 0) 177 2 = nI t.length := by rw [gi_wi]; simp; exact h.1
  unfold wpX12_sign
  rw [hl, e4, h80]
  refine ⟨fun c => ?_, fun c => k0 ?_ _ (fr.wi rfl) (fun j hj => by rw [gi_wi]; simp [hj])⟩
  · rw [nI_leI (by omega) (by decide)] at c
    have b0 := byte_m v (8 * 3) 24 0 (by decide) (by decide) (by decide)
    have b1 := byte_m v (8 * (3 + (-1))) 16 1 (by decide) (by decide) (by decide)
    have b2 := byte_m v (8 * (3 + (-1) + (-1))) 8 2 (by decide) (by decide) (by decide)
    have b3 := byte_m v (8 * (3 + (-1) + (-1) + (-1))) 0 3 (by decide) (by decide) (by decide)
    have e1 : ∀ m, nI m + 1 = nI (m + 1) := fun m => nI_1 m
    have i0 : ix (nI t.length) = t.length := nI_clamp (by omega)
    have i1 : ix (nI (t.length + 1)) = t.length + 1 := nI_clamp (by omega)
    have i2 : ix (nI (t.length + 1 + 1)) = t.length + 2 := nI_clamp (by omega)
    have i3 : ix (nI (t.length + 1 + 1 + 1)) = t.length + 3 := nI_clamp (by omega)
    have hl0 : gi s 177 2 = nI t.length := h.1
    refine ⟨5, ?_⟩
    simp only [wX12_sign_20, gi_wi, Nat.reduceEqDiff, false_and, and_false, and_true, true_and, if_false, if_true, hl0, e1, i0, i1, i2, i3, b0, b1, b2, b3, show ¬ ((3 : Int32) < 0) by decide, show ¬ ((3 : Int32) + (-1) < 0) by decide, show ¬ ((3 : Int32) + (-1) + (-1) < 0) by decide, show ¬ ((3 : Int32) + (-1) + (-1) + (-1) < 0) by decide, show ((3 : Int32) + (-1) + (-1) + (-1) + (-1) < 0) by decide, show ¬ (177 = 179) by decide, show ¬ (2 = 5) by decide, not_false_eq_true, not_true_eq_false, true_implies, false_implies]
    refine ⟨vp_in_nI (by omega) (by decide), vp_in_nI (by omega) (by decide), vp_in_nI (by omega) (by decide), vp_in_nI (by omega) (by decide), ?_⟩
    refine k1 c _ (fr.tr (fr.tr (fr.tr (fr.tr (fr.tr (fr.tr (fr.tr (fr.tr (fr.wi rfl) (fr.wi rfl)) (fr.wi rfl)) (fr.wi rfl)) (fr.wi rfl)) (fr.wi rfl)) (fr.wi rfl)) (fr.wi rfl)) (fr.wi rfl)) (fun j h5 h2 => by simp [gi_wi, h5, h2]) ⟨by simp [gi_wi, bytes4], fun i hi => ?_⟩
    have hi4 : i < t.length + 4 := by simpa [bytes4] using hi
    simp only [gi_wi]
    rcases Nat.lt_or_ge i t.length with h1 | h1
    · have e9 : (t ++ bytes4 v).getD i 0 = t.getD i 0 := by simp [List.getD_eq_getElem?_getD, List.getElem?_append_left h1]
      rw [e9]
      simp [show ¬ i = t.length by omega, show ¬ i = t.length + 1 by omega, show ¬ i = t.length + 2 by omega, show ¬ i = t.length + 3 by omega]
      have := h.2 i h1
      simpa using this
    · have e9 : (t ++ bytes4 v).getD i 0 = (bytes4 v).getD (i - t.length) 0 := by simp [List.getD_eq_getElem?_getD, List.getElem?_append_right h1]
      rw [e9]
      have : i = t.length ∨ i = t.length + 1 ∨ i = t.length + 2 ∨ i = t.length + 3 := by omega
      rcases this with rfl | rfl | rfl | rfl
      · simp [bytes4]
      · simp [bytes4]
      · simp [bytes4]
      · simp [bytes4]
  · rw [nI_leI (by omega) (by decide)] at c
    omega
