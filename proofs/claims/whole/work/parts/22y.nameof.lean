/-! nameOf: the names of three signs one behind another, each asked for by is() -/
def gtOk (s : gS) : Prop := gt1 s < 193 ∧ gt2 s < 193 ∧ gt3 s < 193
def wN (a : Nat) (Q : Int32 → gS → Prop) : Nat → Nat → gS → Prop
  | 0, _, s => Q (-1) s
  | m + 1, k, s => gtOk s ∧ wpX12_is (3000 + 20 * (a - 1000) + k) s (fun r s => gtOk s ∧ (r = 0 → wN a Q m (k + 1) s) ∧ (¬ r = 0 → Q (nI k) s))
def wpX12_nameOf (g a : Nat) (s : gS) (Q : Int32 → gS → Prop) : Prop := (a = 1014 ∨ a = 1023) ∧ (g_sb a).length / 3 ≤ g ∧ wN a Q ((g_sb a).length / 3) 0 s
theorem rfT_lt : ∀ a, a < 193 → (((g_rfT.lookup a).getD []).all (fun x => x.all (fun r => decide (r < 193)))) = true := by decide +kernel
theorem out_lt : ∀ a, a < 193 → a + 1 + g_out a ≤ 193 := by decide +kernel
theorem bd_nrm {s : gS} (h : gtOk s) : g_bd (nrm s) := by
  intro a j r ha hr
  show r < 193
  have ha : a < 193 := ha
  have hr : mrS s.2.2 a j = some r := hr
  unfold mrS at hr
  split at hr
  · split at hr
    · cases hr; decide
    · cases hr; exact h.1
    · cases hr; exact h.2.1
    · cases hr; exact h.2.2
    · cases hr
  · split at hr
    · cases hr
      have := out_lt a ha
      omega
    · unfold g_rf at hr
      rw [List.getD_eq_getElem?_getD] at hr
      cases hx : ((g_rfT.lookup a).getD [])[j]? with
      | none => rw [hx] at hr; cases hr
      | some x =>
        rw [hx] at hr
        have h1 := List.all_eq_true.mp (rfT_lt a ha) x (List.mem_of_getElem? hx)
        have hr : x = some r := hr
        rw [hr] at h1
        simpa using h1
theorem g_ws_lt {cA : Nat → ClassId} {ad ad' : Nat → Nat} {M : gMem} (hb : g_bd M) (hag : ∀ a, a < M.1 → ad' a = ad a) : g_ws cA ad' M = g_ws cA ad M := by
  have hc : ∀ a, a < M.1 → g_cell cA ad' M a = g_cell cA ad M a := by
    intro a ha
    have e : ∀ j, (M.2.2.1 a j).map ad' = (M.2.2.1 a j).map ad := by
      intro j
      cases h : M.2.2.1 a j with
      | none => rfl
      | some r => simp [hag r (hb a j r ha h)]
    have e2 : g_fv ad' M a = g_fv ad M a := by funext k j; simp [g_fv, e]
    unfold g_cell
    rw [e2]
    simp only [e]
  unfold g_ws
  apply List.map_congr_left
  intro a ha
  have ha := List.mem_range.mp ha
  rw [hag a ha, hc a ha]
section NAM
variable {l : Launch} {mt : gMt} {R : Room} {X : gX} {pc : Nat} {L : List (Option Value)} {S : List Value} {M : gMem} {s : gS} {k n : Nat} {Z : State → Prop}
theorem r_backx {ad1 : Nat → Nat} (hn : M.1 ≤ 500) (hss : g_ssOk X) (hb : g_bd M) (hag : ∀ a, a < M.1 ∨ 500 ≤ a → ad1 a = g_ad X a) (hL : L.all (fun o => o.all (g_old M.1)) = true) (hSo : S.all (g_old M.1) = true) (kk : Gw l mt R X pc L S M k n Z) : Gw l mt R (g_xa X ad1) pc L S M k n Z := by
  intro ok H locs ls hl hP hD hS
  have hag' : ∀ a, a < M.1 ∨ 500 ≤ a → g_ad X a = g_ad (g_xa X ad1) a := fun a h => (hag a h).symm
  have ok' : g_ok mt X := g_ok_xa (X := g_xa X ad1) (ad' := g_ad X) hn hss hag' ok
  have hl' : g_lv X ls mt.2.2.1 L := g_lv_xa (X := g_xa X ad1) (ad' := g_ad X) hag' hL hl
  have hw : g_ws (g_cA X) ad1 M = g_ws (g_cA X) (g_ad X) M := g_ws_old hb hag
  have hP' : va_P (g_D X) g_cl (g_w X M) H := by show va_P _ _ (g_ws (g_cA X) (g_ad X) M) H; rw [← hw]; exact hP
  have hD' : va_D (g_A X) (g_w X M) := by show va_D _ (g_ws (g_cA X) (g_ad X) M); rw [← hw]; exact hD
  have := kk ok' H locs ls hl' hP' hD' hS
  have e : S.map (g_v ad1) = S.map (g_v (g_ad X)) := g_st_xa (X := X) hag hSo
  rw [← e] at this
  exact this
theorem sbS_cell {cA : Nat → ClassId} {ad : Nat → Nat} {a q : Nat} {f : Int32} (hq : q < 193) : g_cell cA ad (sbS (nrm s) a f) q = g_cell cA ad (nrm s) q := by
  have e1 : q ≠ 193 := by omega
  have e2 : q ≠ 194 := by omega
  unfold sbS
  rw [g_cell_si (a := (nrm s).1) e1, g_cell_sr (a := (nrm s).1) e1]
  unfold sbM
  rw [g_cell_cpB (a := (g_nw (nrm s) 0 4).1) e2, g_cell_nw (M := g_nw (nrm s) 0 4) e2, g_cell_nw (M := nrm s) e1]
/-- the new String as a known one -/
theorem r_isNew {a w idx : Nat} {f : Int32} {Q' : Int32 → gS → Prop} (hC : CtS l mX12_is 5 0 0 w [.ref 177, .ref w] (nrm s) (q_i Q')) (hw : 3000 ≤ w ∧ w < 3900) (hsb : g_sb w = [(g_sb a).getD (ix f) 0, (g_sb a).getD (ix f + 1) 0, (g_sb a).getD (ix f + 2) 0]) (hss : g_ssOk X) (hs : gtOk s) (hk : Cond.methodLink mt.1.cls idx yX12_is ∈ g_TB) (hd : decode mt.2.1 pc = .ok (.invokevirtual idx, 3)) (hR : 6 ≤ R.frames ∧ 8 + (3 + 11) + 40 * 5 ≤ R.locals) (hf : k ≤ R.cells ∧ n ≤ R.slots)
    (kk : ∀ r s', Q' r s' → gtOk s' ∧ Gw l mt R X (pc + 3) L [.int r] (nrm s') k n Z) : Gw l mt R X pc L [.ref 193, .ref 177] (sbS (nrm s) a f) k n Z := by
  intro ok H locs ls hl hP hD hS
  obtain ⟨b0, hb0⟩ : ∃ b0, b0 = g_ad X 193 := ⟨_, rfl⟩
  obtain ⟨b1, hb1⟩ : ∃ b1, b1 = g_ad X 194 := ⟨_, rfl⟩
  obtain ⟨ad2, had2⟩ : ∃ ad2 : Nat → Nat, ad2 = fun x => if x = w then b0 else if x = w + 1000 then b1 else g_ad X x := ⟨_, rfl⟩
  obtain ⟨A2, hA2⟩ : ∃ A2 : Nat → Prop, A2 = fun q => g_A X q ∧ q ≠ b0 ∧ q ≠ b1 := ⟨_, rfl⟩
  have a2 : ∀ x, x ≠ w → x ≠ w + 1000 → ad2 x = g_ad X x := fun x h1 h2 => by rw [had2]; simp [h1, h2]
  have aw : ad2 w = b0 := by rw [had2]; simp
  have aw1 : ad2 (w + 1000) = b1 := by rw [had2]; simp
  have hAA : ∀ q, A2 q → g_A X q := fun q h => by rw [hA2] at h; exact h.1
  have hag : ∀ x, x < (nrm s).1 → ad2 x = g_ad X x := fun x hx => a2 x (by have : x < 193 := hx; omega) (by have : x < 193 := hx; omega)
  have hwe : g_ws (g_cA X) ad2 (nrm s) = g_ws (g_cA X) (g_ad X) (nrm s) := g_ws_lt (bd_nrm hs) hag
  have hat : ∀ q, q < 193 → (g_w X (sbS (nrm s) a f))[q]? = some (g_ad X q, g_cell (g_cA X) (g_ad X) (nrm s) q) := by
    intro q hq
    have := g_ws_at (cA := g_cA X) (ad := g_ad X) (M := sbS (nrm s) a f) (a := q) (show q < 195 by omega)
    rw [sbS_cell hq] at this
    exact this
  have h193 := g_ws_at (cA := g_cA X) (ad := g_ad X) (M := sbS (nrm s) a f) (a := 193) (show 193 < 195 by omega)
  have h194 := g_ws_at (cA := g_cA X) (ad := g_ad X) (M := sbS (nrm s) a f) (a := 194) (show 194 < 195 by omega)
  have lt0 : b0 < H.size := by rw [hb0]; exact (hP 193 _ h193).lt
  have lt1 : b1 < H.size := by rw [hb1]; exact (hP 194 _ h194).lt
  have hP2 : va_P (g_D X) g_cl (g_ws (g_cA X) ad2 (nrm s)) H := by
    rw [hwe]
    intro i q hi
    have hi1 : i < 193 := by
      have := (List.getElem?_eq_some_iff.mp hi).1
      simp [g_ws] at this
      exact this
    have := g_ws_at (cA := g_cA X) (ad := g_ad X) (M := nrm s) (a := i) hi1
    cases hi.symm.trans this
    exact hP i _ (hat i hi1)
  have hD2 : va_D A2 (g_ws (g_cA X) ad2 (nrm s)) := by
    rw [hwe]
    have key : ∀ i q, (g_ws (g_cA X) (g_ad X) (nrm s))[i]? = some q → i < 193 ∧ q = (g_ad X i, g_cell (g_cA X) (g_ad X) (nrm s) i) := by
      intro i q hi
      have hi1 : i < 193 := by
        have := (List.getElem?_eq_some_iff.mp hi).1
        simp [g_ws] at this
        exact this
      have := g_ws_at (cA := g_cA X) (ad := g_ad X) (M := nrm s) (a := i) hi1
      exact ⟨hi1, (Option.some.inj (this.symm.trans hi)).symm⟩
    refine ⟨fun i j p q hi hj he => ?_, fun i q hi => ?_⟩
    · obtain ⟨i1, rfl⟩ := key i p hi
      obtain ⟨j1, rfl⟩ := key j q hj
      exact hD.1 i j _ _ (hat i i1) (hat j j1) he
    · obtain ⟨i1, rfl⟩ := key i q hi
      rw [hA2]
      refine ⟨hD.2 i _ (hat i i1), fun e => ?_, fun e => ?_⟩
      · have := hD.1 i 193 _ _ (hat i i1) h193 (by show g_ad X i = g_ad X 193; rw [← hb0]; exact e)
        omega
      · have := hD.1 i 194 _ _ (hat i i1) h194 (by show g_ad X i = g_ad X 194; rw [← hb1]; exact e)
        omega
  have hnb0 : ¬ A2 b0 := by rw [hA2]; exact fun h => h.2.1 rfl
  have hnb1 : ¬ A2 b1 := by rw [hA2]; exact fun h => h.2.2 rfl
  have s193 : (sbS (nrm s) a f).2.1 193 = (0, 4) := by simp [sbS, sbM, g_si, g_sr, g_cpB, g_nw, nrm]
  have s194 : (sbS (nrm s) a f).2.1 194 = (101, 3) := by simp [sbS, sbM, g_si, g_sr, g_cpB, g_nw, nrm]
  rw [g_cell_o s193 (by decide)] at h193
  rw [g_cell_i s194 (by omega)] at h194
  have hsr26 : ∀ q ∈ g_SR, q.2.2.2 < 26 := by decide
  have hPre : ∀ U : State, U.heap = H → (g_s X).WarmedH U.vm → g_Pc (g_D X, g_cA X, ad2, A2, w :: g_cs, (g_E X).2.2.2.2.2) [.ref 177, .ref w] (nrm s) (([.ref 177, .ref w] : List Value).map (g_v ad2)).toArray U := by
    intro U hU hW
    have hKU : va_K (g_D X) g_cl (g_tys (g_cA X)) U := va_K.moved hW.alike ok.2.2.2.2.2.2.2.2.1
    have hc := (ok.2.2.2.2.2.2.2.2.2.kept hS.1 hS.2.1).warm hW
    obtain ⟨c1, c2, c3, c4, c5, c6, ⟨c7, c8, c9⟩, c10, c11, c12, c13, c14⟩ := hc
    refine ⟨rfl, by rw [hU]; exact hP2, hD2, hKU, ?_⟩
    rw [hU]
    refine ⟨c1, fun q hq => ?_, fun x hx => ?_, c4.narrow hAA, ?_, ?_, ⟨?_, ?_, ?_⟩, ?_, fun x hx => List.mem_cons_of_mem _ hx, ?_, c13.narrow hAA, c14.narrow hAA⟩
    · have := hsr26 q hq
      show vk_R _ _ _ (ad2 (1000 + q.2.2.2)) U
      rw [a2 _ (by omega) (by omega)]
      exact c2 q hq
    · rcases List.mem_cons.mp hx with rfl | hx
      · obtain ⟨s1, s2, s3, s4⟩ := c3 1000 (c11 1000 (by decide))
        obtain ⟨rr, hr, cell, g1, g2, g3, g4⟩ := hP 193 _ h193
        cases hr
        have gg1 : H[b0]? = some cell := by rw [hb0]; exact g1
        refine ⟨?_, ?_, ?_, ?_⟩
        · show va_O _ (ad2 x) A2 U H
          rw [aw]
          exact ⟨cell, gg1, by rw [g3]; rfl, by rw [g2]; exact (hKU.1 0 _ rfl).2.1, hnb0⟩
        · show va_OF _ _ _ _ (ad2 x) A2 U H
          rw [aw]
          obtain ⟨cf, kc, fi, fd, cell9, f1, f2, -⟩ := s2
          obtain ⟨cf9, kc9, fi9, fd9, e1, e2⟩ := (hKU.1 0 _ rfl).1 1 (by decide)
          cases f1.symm.trans e1
          exact ⟨cf, kc, fi, fd, cell, f1, f2, gg1, by rw [g3]; simp, by rw [e2]; exact g4 1 (by decide), hnb0⟩
        · show va_OF _ _ _ (.ref (ad2 (x + 1000))) (ad2 x) A2 U H
          rw [aw, aw1, hb1]
          obtain ⟨cf, kc, fi, fd, cell9, f1, f2, -⟩ := s3
          obtain ⟨cf9, kc9, fi9, fd9, e1, e2⟩ := (hKU.1 0 _ rfl).1 0 (by decide)
          cases f1.symm.trans e1
          exact ⟨cf, kc, fi, fd, cell, f1, f2, gg1, by rw [g3]; simp, by rw [e2]; exact g4 0 (by decide), hnb0⟩
        · show va_T _ (ad2 (x + 1000)) _ _ A2 U H
          rw [aw1]
          have g5 : H[b1]? = some (vp_cell (g_cA X 101) (3, .inl ((sbS (nrm s) a f).2.2.2.1 194))) := by rw [hb1]; exact hP 194 _ h194
          rw [vp_cell_i] at g5
          have hlen : (g_sb x).length = 3 := by rw [hsb]; rfl
          rw [hlen]
          refine ⟨_, g5, (hKU.2 1 _ rfl).1 3 _, by simp [arrV], by rw [arrV_size]; exact Nat.le_refl _, by rw [arrV_size], fun j hj => ?_, hnb1⟩
          have hval : (sbS (nrm s) a f).2.2.2.1 194 j = (g_sb x).getD j 0 := by
            have e9 : (sbS (nrm s) a f).2.2.2.1 194 j = va_cpy (fun j => (g_sb a).getD j 0) (fun _ => 0) (ix f) 0 3 j := by simp [sbS, sbM, g_si, g_sr, g_cpB, g_nw, nrm, g_up, va_cpy]; rfl
            rw [e9, hsb]
            rcases j with _ | _ | _ | j
            · simp [va_cpy]
            · simp [va_cpy]
            · simp [va_cpy]
            · omega
          simp [arrV, hj, hval]
      · have hx1 : 1000 ≤ x ∧ x < 1026 := by
          obtain ⟨i, hi, rfl⟩ := List.mem_map.mp hx
          have := List.mem_range.mp hi
          omega
        obtain ⟨s1, s2, s3, s4⟩ := c3 x (c11 x hx)
        have ex : ad2 x = g_ad X x := a2 x (by omega) (by omega)
        have ey : ad2 (x + 1000) = g_ad X (x + 1000) := a2 _ (by omega) (by omega)
        refine ⟨?_, ?_, ?_, ?_⟩
        · show va_O _ (ad2 x) A2 U H
          rw [ex]; exact s1.narrow hAA
        · show va_OF _ _ _ _ (ad2 x) A2 U H
          rw [ex]; exact s2.narrow hAA
        · show va_OF _ _ _ (.ref (ad2 (x + 1000))) (ad2 x) A2 U H
          rw [ex, ey]; exact s3.narrow hAA
        · show va_T _ (ad2 (x + 1000)) _ _ A2 U H
          rw [ey]; exact s4.narrow hAA
    · show va_Z _ _ _ (.ref (ad2 900)) A2 U H
      rw [a2 _ (by omega) (by omega)]; exact c5.narrow hAA
    · show va_T _ (ad2 900) _ _ A2 U H
      rw [a2 _ (by omega) (by omega)]; exact c6.narrow hAA
    · show va_X (ad2 950) _ _ U H
      rw [a2 _ (by omega) (by omega)]; exact c7
    · show ¬ A2 (ad2 950)
      rw [a2 _ (by omega) (by omega)]; exact fun h => c8 (hAA _ h)
    · show ad2 950 < H.size
      rw [a2 _ (by omega) (by omega)]; exact c9
    · intro q hq
      show A2 q
      rw [hA2]
      exact ⟨c10 q hq, fun e => by omega, fun e => by omega⟩
    · rcases c12 with h | h
      · exact Or.inl (h.narrow hAA)
      · refine Or.inr ?_
        show va_Z _ _ _ (.ref (ad2 960)) A2 U H
        rw [a2 _ (by omega) (by omega)]; exact h.narrow hAA
  have hG : GoodIn g_TB (wsV mt.1.cls idx mX12_is.1.cls mX12_is.1 (g_tb mX12_is)) := by
    intro w hw
    rcases List.mem_append.mp hw with h | h
    · simp at h
      rcases h with rfl | rfl | rfl | rfl
      · exact g_gd hk
      · exact g_gd gmX12_is.1
      · exact g_gd selX12_is
      · exact g_gd gmX12_is.2.1
    · exact g_goodT gmX12_is.2.2.1 w h
  have he : (g_w X (sbS (nrm s) a f))[177]? = _ := hat 177 (by decide)
  rw [g_cell_o (M := nrm s) (show (nrm s).2.1 177 = (12, 31) from sh_177) (by decide)] at he
  have hrec := va_recv (q := (RX12, TX12, 31)) ok.2.2.2.2.2.2.2.2.1 hP rfl he
  have hr := va_runV (l := l) (R := R) (below := g_below X) (meth := g_meth X) (p := X.1) (e := X.2.1) (nL := mt.2.2.1) (locs := locs) (cells := k) (slots := n) (g := F0 (g_m X) pc ls [.ref b0, .ref (g_ad X 177)]) (b := g_ad X 177) (As := [.ref b0]) (rest := []) ⟨ok.1, ok.2.1, ok.2.2.1, ok.2.2.2.1, ok.2.2.2.2.1⟩ (hC (g_D X, g_cA X, ad2, A2, w :: g_cs, (g_E X).2.2.2.2.2) List.mem_cons_self) (cwV 1 ok.2.2.2.2.1 hG rfl rfl rfl ⟨rfl, gmX12_is.2.2.2⟩ hR) ⟨g_Pc_blind _ _ _, hrec, fun U h1 h2 => by have := hPre U h1 h2; simp only [List.map_cons, List.map_nil, g_v, aw, a2 177 (by omega) (by omega)] at this; exact this⟩ rfl rfl hl.1 rfl (by show 2 * 0 + 0 ≤ 8; decide) hd ⟨hf.1, hf.2⟩
  intro T hT XX
  have e193 : ([.ref 193, .ref 177] : List Value).map (g_v (g_ad X)) = [.ref b0, .ref (g_ad X 177)] := by rw [hb0]; rfl
  rw [e193]
  obtain ⟨v, st₀, t, T', Ls, h0, X', hLs, e1, e2, ⟨⟨v', M', hv, hq, hP', hD'⟩, hz, hkk⟩, st⟩ := hr T hT XX
  obtain ⟨r, s', rfl, rfl, hq⟩ := hq
  cases hv
  rw [h0] at hz hkk
  obtain ⟨hs', kk'⟩ := kk r s' hq
  have hwe' : g_ws (g_cA X) ad2 (nrm s') = g_ws (g_cA X) (g_ad X) (nrm s') := g_ws_lt (bd_nrm hs') hag
  have hS' : va_S (g_A X) (g_s X).heap T'.heap (locs ++ Ls) := by
    refine ⟨Nat.le_trans hS.1 (by rw [e1]; exact hz), fun q h1 h2 => ?_, fun q hq => ?_⟩
    · rw [e1, hkk q (Nat.lt_of_lt_of_le h1 hS.1) (fun z => h2 (hAA q z))]
      exact hS.2.1 q h1 h2
    · rcases List.mem_append.mp hq with h | h
      · exact hS.2.2 q h
      · exact hAA _ (hLs q h)
  have hP3 : va_P (g_D X) g_cl (g_w X (nrm s')) T'.heap := by
    show va_P _ _ (g_ws (g_cA X) (g_ad X) (nrm s')) _
    rw [← hwe', e1]
    exact hP'
  have hD3 : va_D (g_A X) (g_w X (nrm s')) := by
    show va_D _ (g_ws (g_cA X) (g_ad X) (nrm s'))
    rw [← hwe']
    exact ⟨hD'.1, fun i q h => hAA _ (hD'.2 i q h)⟩
  obtain ⟨t2, a1, b9⟩ := kk' ok T'.heap (locs ++ Ls) ls hl hP3 hD3 hS' T' rfl X'
  exact ⟨t2, st t2 a1, b9⟩
end NAM
def nN (a : Nat) : Nat := if a = 1014 then 7 else 12
theorem nam_f : ∀ a ∈ ([1014, 1023] : List Nat), (g_sb a).length / 3 = nN a ∧ a ∈ g_cs ∧ sl a / 3 ≤ nI (nN a) ∧ ∀ k, k < nN a → ¬ sl a / 3 ≤ nI k ∧ nI k + 1 = nI (k + 1) ∧ g_sb (3000 + 20 * (a - 1000) + k) = [(g_sb a).getD (ix (3 * nI k)) 0, (g_sb a).getD (ix (3 * nI k) + 1) 0, (g_sb a).getD (ix (3 * nI k) + 2) 0] := by decide +kernel
theorem nam_s : ∀ a ∈ ([1014, 1023] : List Nat), ∀ k, k < nN a → sb3 a (3 * nI k) (3 * nI k + 3) := by
  unfold sb3
  decide +kernel
theorem pN {l : Launch} {X : gX} {g a : Nat} {Q : Int32 → gS → Prop} (hss : g_ssOk X) (ha : a ∈ ([1014, 1023] : List Nat)) : ∀ (m k : Nat) (s : gS), k + m = nN a → wN a Q m k s → ∀ kc nc, kc + 2 * m ≤ 2 * g → nc + 8 * m ≤ 8 * g → Gw l mX12_nameOf (g_rm 9 (2 * g) (8 * g)) X 2 [some (.ref 177), some (.ref a), some (.int (nI k))] [] (nrm s) kc nc (g_Z X (q_i Q) (2 * g) (8 * g)) := by
  intro m
  obtain ⟨f1, f2, f3, f4⟩ := nam_f a ha
  have ha5 : 1014 ≤ a ∧ a ≤ 1023 := by
    rcases List.mem_cons.mp ha with rfl | ha
    · omega
    · rcases List.mem_cons.mp ha with rfl | ha
      · omega
      · cases ha
  induction m with
  | zero =>
    intro k s hk h kc nc h1 h2
    have hk : k = nN a := hk
    subst hk
    refine r_iload_n (pc := 2) (x := nI (nN a)) dX12_nameOf_2 rfl ?_
    refine r_aload_n (pc := 3) (x := a) dX12_nameOf_3 rfl ?_
    refine n_slen (pc := 4) dX12_nameOf_4 lk_RX12_146 ⟨Nat.le_of_ble_eq_true rfl, Nat.le_of_ble_eq_true rfl⟩ (Nat.le_of_ble_eq_true rfl) ⟨by show kc ≤ 2 * g; omega, by show nc ≤ 8 * g; omega⟩ (Or.inl f2) ?_
    refine r_iconst (pc := 7) (v := 3) dX12_nameOf_7 (by decide) ?_
    refine r_idiv (pc := 8) dX12_nameOf_8 (by decide) ?_
    refine r_icmp_ge (pc := 9) (tgt := 39) dX12_nameOf_9 (by decide) (fun c => ?_) (fun c => absurd f3 c)
    refine r_iconst (pc := 39) (v := (-1)) dX12_nameOf_39 (by decide) ?_
    exact n_iret (pc := 40) dX12_nameOf_40 rfl (by omega) (by omega) h
  | succ m ih =>
    intro k s hk h kc nc h1 h2
    have hkl : k < nN a := by omega
    have hN12 : nN a ≤ 12 := by
      unfold nN
      split <;> omega
    obtain ⟨g1, g2, g3⟩ := f4 k hkl
    obtain ⟨hs, h⟩ := h
    refine r_iload_n (pc := 2) (x := nI k) dX12_nameOf_2 rfl ?_
    refine r_aload_n (pc := 3) (x := a) dX12_nameOf_3 rfl ?_
    refine n_slen (pc := 4) dX12_nameOf_4 lk_RX12_146 ⟨Nat.le_of_ble_eq_true rfl, Nat.le_of_ble_eq_true rfl⟩ (Nat.le_of_ble_eq_true rfl) ⟨by show kc ≤ 2 * g; omega, by show nc ≤ 8 * g; omega⟩ (Or.inl f2) ?_
    refine r_iconst (pc := 7) (v := 3) dX12_nameOf_7 (by decide) ?_
    refine r_idiv (pc := 8) dX12_nameOf_8 (by decide) ?_
    refine r_icmp_ge (pc := 9) (tgt := 39) dX12_nameOf_9 (by decide) (fun c => absurd c g1) (fun c => ?_)
    refine r_aload_n (pc := 12) (x := 177) dX12_nameOf_12 rfl ?_
    refine r_aload_n (pc := 13) (x := a) dX12_nameOf_13 rfl ?_
    refine r_iconst (pc := 14) (v := 3) dX12_nameOf_14 (by decide) ?_
    refine r_iload_n (pc := 15) (x := nI k) dX12_nameOf_15 rfl ?_
    refine r_imul (pc := 16) dX12_nameOf_16 ?_
    refine r_iconst (pc := 17) (v := 3) dX12_nameOf_17 (by decide) ?_
    refine r_iload_n (pc := 18) (x := nI k) dX12_nameOf_18 rfl ?_
    refine r_imul (pc := 19) dX12_nameOf_19 ?_
    refine r_iconst (pc := 20) (v := 3) dX12_nameOf_20 (by decide) ?_
    refine r_iadd (pc := 21) dX12_nameOf_21 ?_
    have hLo : [some (Value.ref 177), some (.ref a), some (.int (nI k))].all (fun o => o.all (g_old 193)) = true := by
      simp only [List.all_cons, List.all_nil, Option.all_some, Bool.and_true, g_old_lt (show 177 < 193 by decide), g_old_ge (show 500 ≤ a by omega), Bool.true_and]
      rfl
    refine r_callVB (pc := 22) (M := nrm s) (S0 := [.ref 177]) (vs := [.int (3 * nI k), .int (3 * nI k + 3)]) (Q' := fun v M' => v = some (.ref 193) ∧ M' = sbS (nrm s) a (3 * nI k)) (c_sub (nam_s a ha k hkl) (show 193 < 498 by decide) (bd_nrm hs) ⟨rfl, rfl⟩) gmJ0_substring_37a41 selJ0_substring_37a41 lk_RX12_164 dX12_nameOf_22 rfl f2 rfl (show 193 ≤ 500 by decide) hss hLo rfl rfl ⟨Nat.le_of_ble_eq_true rfl, Nat.le_of_ble_eq_true rfl⟩ (Nat.le_of_ble_eq_true rfl) ⟨by show kc + 2 ≤ 2 * g; omega, by show nc + 7 ≤ 8 * g; omega⟩ (fun ad1 v M' hg1 hq => ?_)
    obtain ⟨rfl, rfl⟩ := hq
    refine r_isNew (X := g_xa X ad1) (pc := 25) (spX12_is h) ⟨by omega, by omega⟩ g3 hss hs lk_RX12_154 dX12_nameOf_25 ⟨Nat.le_of_ble_eq_true rfl, Nat.le_of_ble_eq_true rfl⟩ ⟨by show kc + 2 ≤ 2 * g; omega, by show nc + 7 ≤ 8 * g; omega⟩ (fun r s' h => ?_)
    obtain ⟨hs', h⟩ := h
    refine ⟨hs', ?_⟩
    refine r_backx (M := nrm s') (show 193 ≤ 500 by decide) hss (bd_nrm hs') hg1 hLo rfl ?_
    refine r_if_eq (pc := 28) (tgt := 33) dX12_nameOf_28 (by decide) (fun c => ?_) (fun c => ?_)
    · replace h := h.1 c
      refine n_iinc (pc := 33) (x := nI k) (w := 1) (L' := [some (.ref 177), some (.ref a), some (.int (nI (k + 1)))]) dX12_nameOf_33 rfl (by decide) (by rw [← g2]; rfl) (by decide) rfl ?_
      refine r_goto (pc := 36) (tgt := 2) dX12_nameOf_36 (by decide) ?_
      exact ih (k + 1) s' (by omega) h _ _ (by omega) (by omega)
    · replace h := h.2 c
      refine r_iload_n (pc := 31) (x := nI k) dX12_nameOf_31 rfl ?_
      exact n_iret (pc := 32) dX12_nameOf_32 rfl (by omega) (by omega) h
/-- the known Strings, but the constants alone -/
theorem r_ss {l : Launch} {mt : gMt} {R : Room} {X : gX} {pc : Nat} {L : List (Option Value)} {S : List Value} {M : gMem} {k n : Nat} {Z : State → Prop} (kk : Gw l mt R (X.1, X.2.1, g_s X, g_m X, g_args X, g_below X, g_meth X, g_c X, g_D X, g_cA X, g_ad X, g_A X, g_cs, (g_E X).2.2.2.2.2) pc L S M k n Z) : Gw l mt R X pc L S M k n Z := by
  intro ok H locs ls hl hP hD hS
  obtain ⟨o1, o2, o3, o4, o5, o6, o7, o8, o9, c1, c2, c3, c4, c5, c6, c7, c10, c11, c12, c13, c14⟩ := ok
  exact kk ⟨o1, o2, o3, o4, o5, o6, o7, o8, o9, c1, c2, fun a ha => c3 a (c11 a ha), c4, c5, c6, c7, c10, fun _ h => h, c12, c13, c14⟩ H locs ls hl hP hD hS
theorem spX12_nameOf {l : Launch} {g a : Nat} {s : gS} {Q : Int32 → gS → Prop} (h : wpX12_nameOf g a s Q) : Ct l mX12_nameOf 9 (2 * g) (8 * g) [.ref 177, .ref a] (nrm s) (q_i Q) := by
  obtain ⟨h1, h2, h3⟩ := h
  have ha : a ∈ ([1014, 1023] : List Nat) := by rcases h1 with rfl | rfl <;> simp
  have f1 := (nam_f a ha).1
  rw [f1] at h2 h3
  refine Ct.of (by decide) (Nat.le_of_ble_eq_true rfl) (fun X => ?_)
  refine n_L (L' := [some (.ref 177), some (.ref a), none]) (le_s (le_s (le_p le_e))) ?_
  refine r_iconst (pc := 0) (v := 0) dX12_nameOf_0 (by decide) ?_
  refine r_istore_n (pc := 1) (L' := [some (.ref 177), some (.ref a), some (.int 0)]) dX12_nameOf_1 rfl (by decide) rfl ?_
  refine r_ss ?_
  exact pN (X := (X.1, X.2.1, g_s X, g_m X, g_args X, g_below X, g_meth X, g_c X, g_D X, g_cA X, g_ad X, g_A X, g_cs, (g_E X).2.2.2.2.2)) (show ∀ a ∈ g_cs, 1000 ≤ a by decide) ha (nN a) 0 s (by omega) h3 0 0 (by omega) (by omega)
