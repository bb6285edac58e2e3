/-! nameOf: the names of three signs one behind another, each asked for by is() -/
def wN (a : Nat) (Q : Int32 → gS → Prop) : Nat → Nat → gS → Prop
  | 0, _, s => Q (-1) s
  | m + 1, k, s => wpX12_is (3000 + 20 * (a - 1000) + k) s (fun r s => (r = 0 → wN a Q m (k + 1) s) ∧ (¬ r = 0 → Q (nI k) s))
def wpX12_nameOf (g a : Nat) (s : gS) (Q : Int32 → gS → Prop) : Prop := (a = 1014 ∨ a = 1023) ∧ (g_sb a).length / 3 ≤ g ∧ wN a Q ((g_sb a).length / 3) 0 s
theorem spX12_nameOf {l : Launch} {g a : Nat} {s : gS} {Q : Int32 → gS → Prop} (h : wpX12_nameOf g a s Q) : Ct l mX12_nameOf 9 (2 * g) (8 * g) [.ref 177, .ref a] (nrm s) (q_i Q) := sorry
