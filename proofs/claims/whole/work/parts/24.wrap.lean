set_option maxHeartbeats 4000000 in
set_option maxRecDepth 100000 in
theorem c_L_addLevel (l : Launch) (dC : Nat → ClassId) (dI : Nat → Nat → Nat) (cI cZ cL cT cJ : ClassId) (sz : Nat) (sl : Nat) (sh : Nat) (lc : Int) (ru : Nat) (tr : Nat) (se : Nat) (sf : Nat → Option Nat) (k : Nat) (a : Int) (b : Int) (ou : Nat) (OU : Nat → Int64) (ga : 2 ≤ a ∧ a ≤ 12) (gb : 2 ≤ b ∧ b ≤ 8) (gk : lc = (k : Int) ∧ k < 6) : Met l yL_addLevel wsL_addLevel ({ frames := 4, cells := 11, slots := 522, locals := 92 }) (zPo (dC, dI) (zT cI cZ cL cT cJ) sz [.ref sl, .int (zI a), .int (zI b), .ref ou] [(sl, .inr (5, [.ref sh, .int (zI lc), .ref ru, .ref tr, .ref se])), zQ cL sh 6 sf, (ou, .inl (cJ, 1, .inr (.inl OU)))]) (va_Qi (fun (r9 : Int32) (u9 : Nat × Nat × Nat × Nat × Nat × Nat × Nat × Nat × Nat × Nat × Nat × (Int → Int) × (Nat → Option Nat) × (Nat → Int64)) => match u9 with | (lv, ka, ta, t0, t1, t2, t3, j0, j1, j2, j3, K1, tq, OU1) => r9 = zI 0 ∧ ((Kin K1 ∧ (∀ x y, 0 ≤ x → x < a → 0 ≤ y → y < b → K1 (y * 12 + x) = if y = b - 1 then 1 else 0) ∧ tq 0 = some t0 ∧ tq 1 = some t1 ∧ tq 2 = some t2 ∧ tq 3 = some t3) ∧ OU1 0 = (zI lc).toInt64)) (zB (dC, dI) (zT cI cZ cL cT cJ) (va_A [(sl, .inr (5, [.ref sh, .int (zI lc), .ref ru, .ref tr, .ref se])), zQ cL sh 6 sf, (ou, .inl (cJ, 1, .inr (.inl OU)))] sz) (fun (u9 : Nat × Nat × Nat × Nat × Nat × Nat × Nat × Nat × Nat × Nat × Nat × (Int → Int) × (Nat → Option Nat) × (Nat → Int64)) => match u9 with | (lv, ka, ta, t0, t1, t2, t3, j0, j1, j2, j3, K1, tq, OU1) => [(sl, .inr (5, [.ref sh, .int (zI (lc + 1)), .ref ru, .ref tr, .ref se])), zQ cL sh 6 (va_up sf k (some lv)), (lv, .inr (1, [.int (zI a), .int (zI b), .ref ka, .ref ta, .int (zI 0), .int (zI (b - 2)), .int (zI (a - 1)), .int (zI (b - 2)), .int (zI (-1)), .int (zI 0)])), zA cI ka 96 K1, zQ cT ta 4 tq, (t0, .inr (4, [.ref j0, .int (zI (-1)), .int (zI (-1))])), (t1, .inr (4, [.ref j1, .int (zI (-1)), .int (zI (-1))])), (t2, .inr (4, [.ref j2, .int (zI (-1)), .int (zI (-1))])), (t3, .inr (4, [.ref j3, .int (zI (-1)), .int (zI (-1))])), zA cI j0 100 (fun _ => 0), zA cI j1 100 (fun _ => 0), zA cI j2 100 (fun _ => 0), zA cI j3 100 (fun _ => 0), (ou, .inl (cJ, 1, .inr (.inl OU1)))])) (va_A [(sl, .inr (5, [.ref sh, .int (zI lc), .ref ru, .ref tr, .ref se])), zQ cL sh 6 sf, (ou, .inl (cJ, 1, .inr (.inl OU)))] sz)) 11 522 (va_A [(sl, .inr (5, [.ref sh, .int (zI lc), .ref ru, .ref tr, .ref se])), zQ cL sh 6 sf, (ou, .inl (cJ, 1, .inr (.inl OU)))] sz) := by
  refine va_MetW (cc := cL_addLevel) (maxL := 5) (ret := (some .int)) (by decide) rfl ?_
  intro p e s m args below meth c s₁ B hml hv
  obtain ⟨rfl, hsz, hP, hK, hD0, hAo⟩ := hv
  have hx := B.exec
  have hb := B.bytes
  have hr := B.returns
  have hts := atoms_spec (ws := wsL_addLevel) B.pre
  have hown : s.vm.findClass RL = some m.cls := findClass_of_methodNamed B.named
  have hlocks := B.notSynchronized
  subst hsz
  have hD := hD0.self (sz := s.heap.size)
  generalize hAe : va_A [(sl, .inr (5, [.ref sh, .int (zI lc), .ref ru, .ref tr, .ref se])), zQ cL sh 6 sf, (ou, .inl (cJ, 1, .inr (.inl OU)))] s.heap.size = A at hD ⊢
  have hA : ∀ q : Nat, s.heap.size ≤ q → A q := fun q h => by rw [← hAe]; exact Or.inr h
  clear hAe hD0
  have hS : va_S A s.heap s.heap [] := va_S.rf
  have hP : va_P (dC, dI) vwCl [(sl, .inr (5, [.ref sh, .int (zI lc), .ref ru, .ref tr, .ref se])), zQ cL sh 6 sf, (ou, .inl (cJ, 1, .inr (.inl OU)))] s.heap := hP
  have hl := lv_entry ([.ref sl, .int (zI a), .int (zI b), .ref ou]) (n := 5) (Nat.le_of_ble_eq_true rfl)
  rw [lg_entry_eq]
  generalize (lg_sl ([.ref sl, .int (zI a), .int (zI b), .ref ou]) ++ List.replicate (5 - (lg_sl ([.ref sl, .int (zI a), .int (zI b), .ref ou])).length) Slot.unset).toArray = ls at hl ⊢
  have hl : lv_has ls 5 [(0, .ref sl), (1, .int (zI a)), (2, .int (zI b)), (3, .ref ou)] := hl
  refine lv_aload_n hx hb dL_addLevel_0 rfl (lv_at hl 3 rfl) ?_
  refine lv_iconst (v := zI 0) hx hb dL_addLevel_1 (rfl) ?_
  refine lv_aload_n hx hb dL_addLevel_2 rfl (lv_at hl 0 rfl) ?_
  refine lv_iload_n hx hb dL_addLevel_3 rfl (lv_at hl 1 rfl) ?_
  refine lv_iload_n hx hb dL_addLevel_4 rfl (lv_at hl 2 rfl) ?_
  have hPc := hP.sub (ws' := [(sl, .inr (5, [.ref sh, .int (zI lc), .ref ru, .ref tr, .ref se])), zQ cL sh 6 sf]) [0, 1] rfl
  have hDc := hD.sub (ws' := [(sl, .inr (5, [.ref sh, .int (zI lc), .ref ru, .ref tr, .ref se])), zQ cL sh 6 sf]) [0, 1] (by decide) rfl
  have hFc := va_free (wc := [(sl, .inr (5, [.ref sh, .int (zI lc), .ref ru, .ref tr, .ref se])), zQ cL sh 6 sf]) hD hS hA [0, 1] rfl
  refine va_calli (va_runV (As := [.int (zI a), .int (zI b)]) (rest := [.int (zI 0), .ref ou]) ⟨hx, hb, hml, hown, hts⟩ (c_X5_addLevel l dC dI cI cZ cL cT cJ s.heap.size sl sh lc ru tr se sf k a b (by first | assumption | omega) (by first | assumption | omega) (by first | assumption | omega)) (cwV 2 hts gL_addLevel_X5_addLevel rfl rfl rfl (by decide +kernel) ⟨Nat.le_of_ble_eq_true rfl, Nat.le_of_ble_eq_true rfl⟩) ⟨zPo_blind, va_recv hK hPc (ci := 5) (q0 := 0) rfl rfl, zPo_pre hPc hDc hK hAo⟩ rfl rfl hl.1 rfl (lv_room (Nat.le_of_ble_eq_true rfl)) dL_addLevel_5 ⟨Nat.le_of_ble_eq_true rfl, Nat.le_of_ble_eq_true rfl⟩) hS (fun q _ h => hFc q h) hFc (fun r_1 u_1 t H1 locs ht hvm hw hB hz1 hk1 hS => ?_)
  obtain ⟨lv_2, ka_3, ta_4, t0_5, t1_6, t2_7, t3_8, j0_9, j1_10, j2_11, j3_12, K1_13, tq_14⟩ := u_1
  obtain ⟨hP1, hK1, hD1⟩ := hB
  rw [ht] at hP1
  have hP1 : va_P (dC, dI) vwCl [(sl, .inr (5, [.ref sh, .int (zI (lc + 1)), .ref ru, .ref tr, .ref se])), zQ cL sh 6 (va_up sf k (some lv_2)), (lv_2, .inr (1, [.int (zI a), .int (zI b), .ref ka_3, .ref ta_4, .int (zI 0), .int (zI (b - 2)), .int (zI (a - 1)), .int (zI (b - 2)), .int (zI (-1)), .int (zI 0)])), zA cI ka_3 96 K1_13, zQ cT ta_4 4 tq_14, (t0_5, .inr (4, [.ref j0_9, .int (zI (-1)), .int (zI (-1))])), (t1_6, .inr (4, [.ref j1_10, .int (zI (-1)), .int (zI (-1))])), (t2_7, .inr (4, [.ref j2_11, .int (zI (-1)), .int (zI (-1))])), (t3_8, .inr (4, [.ref j3_12, .int (zI (-1)), .int (zI (-1))])), zA cI j0_9 100 (fun _ => 0), zA cI j1_10 100 (fun _ => 0), zA cI j2_11 100 (fun _ => 0), zA cI j3_12 100 (fun _ => 0)] H1 := hP1
  obtain ⟨hP, hD⟩ := va_join (wr := [(ou, .inl (cJ, 1, .inr (.inl OU)))]) (w1 := [(sl, .inr (5, [.ref sh, .int (zI (lc + 1)), .ref ru, .ref tr, .ref se])), zQ cL sh 6 (va_up sf k (some lv_2)), (lv_2, .inr (1, [.int (zI a), .int (zI b), .ref ka_3, .ref ta_4, .int (zI 0), .int (zI (b - 2)), .int (zI (a - 1)), .int (zI (b - 2)), .int (zI (-1)), .int (zI 0)])), zA cI ka_3 96 K1_13, zQ cT ta_4 4 tq_14, (t0_5, .inr (4, [.ref j0_9, .int (zI (-1)), .int (zI (-1))])), (t1_6, .inr (4, [.ref j1_10, .int (zI (-1)), .int (zI (-1))])), (t2_7, .inr (4, [.ref j2_11, .int (zI (-1)), .int (zI (-1))])), (t3_8, .inr (4, [.ref j3_12, .int (zI (-1)), .int (zI (-1))])), zA cI j0_9 100 (fun _ => 0), zA cI j1_10 100 (fun _ => 0), zA cI j2_11 100 (fun _ => 0), zA cI j3_12 100 (fun _ => 0)]) hP hD [0, 1] [2] rfl rfl (by decide) (by decide) hk1 hFc hP1 hD1
  clear hP1 hD1 hk1 hFc hPc hDc hz1
  generalize H1 = H at hP hS ⊢
  have hP : va_P (dC, dI) vwCl [(sl, .inr (5, [.ref sh, .int (zI (lc + 1)), .ref ru, .ref tr, .ref se])), zQ cL sh 6 (va_up sf k (some lv_2)), (ou, .inl (cJ, 1, .inr (.inl OU))), (lv_2, .inr (1, [.int (zI a), .int (zI b), .ref ka_3, .ref ta_4, .int (zI 0), .int (zI (b - 2)), .int (zI (a - 1)), .int (zI (b - 2)), .int (zI (-1)), .int (zI 0)])), zA cI ka_3 96 K1_13, zQ cT ta_4 4 tq_14, (t0_5, .inr (4, [.ref j0_9, .int (zI (-1)), .int (zI (-1))])), (t1_6, .inr (4, [.ref j1_10, .int (zI (-1)), .int (zI (-1))])), (t2_7, .inr (4, [.ref j2_11, .int (zI (-1)), .int (zI (-1))])), (t3_8, .inr (4, [.ref j3_12, .int (zI (-1)), .int (zI (-1))])), zA cI j0_9 100 (fun _ => 0), zA cI j1_10 100 (fun _ => 0), zA cI j2_11 100 (fun _ => 0), zA cI j3_12 100 (fun _ => 0)] H := hP.sub [1, 2, 0, 3, 4, 5, 6, 7, 8, 9, 10, 11, 12, 13] rfl
  have hD : va_D A [(sl, .inr (5, [.ref sh, .int (zI (lc + 1)), .ref ru, .ref tr, .ref se])), zQ cL sh 6 (va_up sf k (some lv_2)), (ou, .inl (cJ, 1, .inr (.inl OU))), (lv_2, .inr (1, [.int (zI a), .int (zI b), .ref ka_3, .ref ta_4, .int (zI 0), .int (zI (b - 2)), .int (zI (a - 1)), .int (zI (b - 2)), .int (zI (-1)), .int (zI 0)])), zA cI ka_3 96 K1_13, zQ cT ta_4 4 tq_14, (t0_5, .inr (4, [.ref j0_9, .int (zI (-1)), .int (zI (-1))])), (t1_6, .inr (4, [.ref j1_10, .int (zI (-1)), .int (zI (-1))])), (t2_7, .inr (4, [.ref j2_11, .int (zI (-1)), .int (zI (-1))])), (t3_8, .inr (4, [.ref j3_12, .int (zI (-1)), .int (zI (-1))])), zA cI j0_9 100 (fun _ => 0), zA cI j1_10 100 (fun _ => 0), zA cI j2_11 100 (fun _ => 0), zA cI j3_12 100 (fun _ => 0)] := hD.sub [1, 2, 0, 3, 4, 5, 6, 7, 8, 9, 10, 11, 12, 13] (by decide) rfl
  clear hK1 hvm
  obtain ⟨rfl, po_15⟩ := hw
  have po_15 : Kin K1_13 ∧ (∀ x y, 0 ≤ x → x < a → 0 ≤ y → y < b → K1_13 (y * 12 + x) = if y = b - 1 then 1 else 0) ∧ tq_14 0 = some t0_5 ∧ tq_14 1 = some t1_6 ∧ tq_14 2 = some t2_7 ∧ tq_14 3 = some t3_8 := po_15
  refine W.eq (g2 := F0 m 8 ls [.int (zI lc), .int (zI 0), .ref ou]) rfl ?_
  refine lv_i2l (v := (zI lc).toInt64) hx hb dL_addLevel_8 rfl ?_
  refine va_last (n := 1) (f := OU) (i := zI 0) (x := (zI lc).toInt64) hx hb hK hP hD hS 2 4 rfl rfl (zI_in (by decide) (by decide) (by decide)) dL_addLevel_9 (fun H locs hP hD hS => ?_)
  have hP : va_P (dC, dI) vwCl [(sl, .inr (5, [.ref sh, .int (zI (lc + 1)), .ref ru, .ref tr, .ref se])), zQ cL sh 6 (va_up sf k (some lv_2)), (ou, .inl (cJ, 1, .inr (.inl (vp_updL OU (zI 0).toNatClampNeg ((zI lc).toInt64))))), (lv_2, .inr (1, [.int (zI a), .int (zI b), .ref ka_3, .ref ta_4, .int (zI 0), .int (zI (b - 2)), .int (zI (a - 1)), .int (zI (b - 2)), .int (zI (-1)), .int (zI 0)])), zA cI ka_3 96 K1_13, zQ cT ta_4 4 tq_14, (t0_5, .inr (4, [.ref j0_9, .int (zI (-1)), .int (zI (-1))])), (t1_6, .inr (4, [.ref j1_10, .int (zI (-1)), .int (zI (-1))])), (t2_7, .inr (4, [.ref j2_11, .int (zI (-1)), .int (zI (-1))])), (t3_8, .inr (4, [.ref j3_12, .int (zI (-1)), .int (zI (-1))])), zA cI j0_9 100 (fun _ => 0), zA cI j1_10 100 (fun _ => 0), zA cI j2_11 100 (fun _ => 0), zA cI j3_12 100 (fun _ => 0)] H := hP
  have hD : va_D A [(sl, .inr (5, [.ref sh, .int (zI (lc + 1)), .ref ru, .ref tr, .ref se])), zQ cL sh 6 (va_up sf k (some lv_2)), (ou, .inl (cJ, 1, .inr (.inl (vp_updL OU (zI 0).toNatClampNeg ((zI lc).toInt64))))), (lv_2, .inr (1, [.int (zI a), .int (zI b), .ref ka_3, .ref ta_4, .int (zI 0), .int (zI (b - 2)), .int (zI (a - 1)), .int (zI (b - 2)), .int (zI (-1)), .int (zI 0)])), zA cI ka_3 96 K1_13, zQ cT ta_4 4 tq_14, (t0_5, .inr (4, [.ref j0_9, .int (zI (-1)), .int (zI (-1))])), (t1_6, .inr (4, [.ref j1_10, .int (zI (-1)), .int (zI (-1))])), (t2_7, .inr (4, [.ref j2_11, .int (zI (-1)), .int (zI (-1))])), (t3_8, .inr (4, [.ref j3_12, .int (zI (-1)), .int (zI (-1))])), zA cI j0_9 100 (fun _ => 0), zA cI j1_10 100 (fun _ => 0), zA cI j2_11 100 (fun _ => 0), zA cI j3_12 100 (fun _ => 0)] := hD
  refine lv_goto (tgt := 21) hx hb dL_addLevel_10 (by decide) ?_
  refine lv_iconst (v := zI 0) hx hb dL_addLevel_21 (rfl) ?_
  have hP9 := hP.sub (ws' := [(sl, .inr (5, [.ref sh, .int (zI (lc + 1)), .ref ru, .ref tr, .ref se])), zQ cL sh 6 (va_up sf k (some lv_2)), (lv_2, .inr (1, [.int (zI a), .int (zI b), .ref ka_3, .ref ta_4, .int (zI 0), .int (zI (b - 2)), .int (zI (a - 1)), .int (zI (b - 2)), .int (zI (-1)), .int (zI 0)])), zA cI ka_3 96 K1_13, zQ cT ta_4 4 tq_14, (t0_5, .inr (4, [.ref j0_9, .int (zI (-1)), .int (zI (-1))])), (t1_6, .inr (4, [.ref j1_10, .int (zI (-1)), .int (zI (-1))])), (t2_7, .inr (4, [.ref j2_11, .int (zI (-1)), .int (zI (-1))])), (t3_8, .inr (4, [.ref j3_12, .int (zI (-1)), .int (zI (-1))])), zA cI j0_9 100 (fun _ => 0), zA cI j1_10 100 (fun _ => 0), zA cI j2_11 100 (fun _ => 0), zA cI j3_12 100 (fun _ => 0), (ou, .inl (cJ, 1, .inr (.inl (vp_updL OU (zI 0).toNatClampNeg ((zI lc).toInt64)))))]) [0, 1, 3, 4, 5, 6, 7, 8, 9, 10, 11, 12, 13, 2] rfl
  have hD9 := hD.sub (ws' := [(sl, .inr (5, [.ref sh, .int (zI (lc + 1)), .ref ru, .ref tr, .ref se])), zQ cL sh 6 (va_up sf k (some lv_2)), (lv_2, .inr (1, [.int (zI a), .int (zI b), .ref ka_3, .ref ta_4, .int (zI 0), .int (zI (b - 2)), .int (zI (a - 1)), .int (zI (b - 2)), .int (zI (-1)), .int (zI 0)])), zA cI ka_3 96 K1_13, zQ cT ta_4 4 tq_14, (t0_5, .inr (4, [.ref j0_9, .int (zI (-1)), .int (zI (-1))])), (t1_6, .inr (4, [.ref j1_10, .int (zI (-1)), .int (zI (-1))])), (t2_7, .inr (4, [.ref j2_11, .int (zI (-1)), .int (zI (-1))])), (t3_8, .inr (4, [.ref j3_12, .int (zI (-1)), .int (zI (-1))])), zA cI j0_9 100 (fun _ => 0), zA cI j1_10 100 (fun _ => 0), zA cI j2_11 100 (fun _ => 0), zA cI j3_12 100 (fun _ => 0), (ou, .inl (cJ, 1, .inr (.inl (vp_updL OU (zI 0).toNatClampNeg ((zI lc).toInt64)))))]) [0, 1, 3, 4, 5, 6, 7, 8, 9, 10, 11, 12, 13, 2] (by decide) rfl
  refine W.widen (k := 11) (n := 522) (Nat.le_of_ble_eq_true rfl) (Nat.le_of_ble_eq_true rfl) ?_
  have po : zI 0 = zI 0 ∧ ((Kin K1_13 ∧ (∀ x y, 0 ≤ x → x < a → 0 ≤ y → y < b → K1_13 (y * 12 + x) = if y = b - 1 then 1 else 0) ∧ tq_14 0 = some t0_5 ∧ tq_14 1 = some t1_6 ∧ tq_14 2 = some t2_7 ∧ tq_14 3 = some t3_8) ∧ (vp_updL OU (zI 0).toNatClampNeg ((zI lc).toInt64)) 0 = (zI lc).toInt64) := by
    refine ⟨by first | rfl | (congr 1; omega) | (congr 1; simp [*]), ?_⟩
    exact ⟨po_15, zou⟩
  exact W.iret (v := zI 0) hx hb hr (fun t ht hW => ⟨⟨zI 0, (lv_2, ka_3, ta_4, t0_5, t1_6, t2_7, t3_8, j0_9, j1_10, j2_11, j3_12, K1_13, tq_14, vp_updL OU (zI 0).toNatClampNeg ((zI lc).toInt64)), rfl, po, by rw [ht]; exact hP9, va_K.moved hW.alike hK, hD9⟩, hS.F ht⟩) hS.2.2 dL_addLevel_22
set_option maxHeartbeats 4000000 in
set_option maxRecDepth 100000 in
theorem c_L_setCell (l : Launch) (dC : Nat → ClassId) (dI : Nat → Nat → Nat) (cI cZ cL cT cJ : ClassId) (sz : Nat) (sl : Nat) (sh : Nat) (lc : Int) (ru : Nat) (tr : Nat) (se : Nat) (sf : Nat → Option Nat) (L : Int) (k : Nat) (rh : Nat) (rt : Nat) (rp : Int) (oc : Int) (rl : Option Nat) (lv : Nat) (w : Int) (h : Int) (ka : Nat) (ta : Nat) (sx : Int) (sy : Int) (fx : Int) (fy : Int) (lf : Int) (un : Int) (K : Int → Int) (tq : Nat → Option Nat) (tp : Nat → Nat) (ti : Nat → Nat) (LN : Nat → Int) (HF : Nat → Int) (cx : Int) (cy : Int) (v : Int) (ou : Nat) (OU : Nat → Int64) (gk : L = (k : Int) ∧ k < 6) (gf : sf k = some lv) (gw : 0 < w ∧ w ≤ 12) (gh : 0 < h ∧ h ≤ 8) (gK : Kin K) (gx : 0 ≤ cx ∧ cx < w) (gy : 0 ≤ cy ∧ cy < h) (gsx : 0 ≤ sx ∧ sx < w) (gsy : 0 ≤ sy ∧ sy < h) (gfx : 0 ≤ fx ∧ fx < w) (gfy : 0 ≤ fy ∧ fy < h) (gt : ∀ k, k < 4 → tq k = some (tp k)) (gv : 0 ≤ v ∧ v ≤ 3) (gm : ¬ (v = 1 ∧ ((sx = cx ∧ sy = cy) ∨ (fx = cx ∧ fy = cy)))) : Met l yL_setCell wsL_setCell ({ frames := 4, cells := 0, slots := 0, locals := 91 }) (zP (dC, dI) (zT cI cZ cL cT cJ) sz [.ref sl, .int (zI L), .int (zI cx), .int (zI cy), .int (zI v), .ref ou] [(sl, .inr (5, [.ref sh, .int (zI lc), .ref ru, .ref tr, .ref se])), zQ cL sh 6 sf, (ru, .inr (2, [.ref rh, .ref rt, va_rf rl, .int (zI rp), .int (zI oc)])), (lv, .inr (1, [.int (zI w), .int (zI h), .ref ka, .ref ta, .int (zI sx), .int (zI sy), .int (zI fx), .int (zI fy), .int (zI lf), .int (zI un)])), zA cI ka 96 K, zQ cT ta 4 tq, (tp 0, .inr (4, [.ref (ti 0), .int (zI (LN 0)), .int (zI (HF 0))])), (tp 1, .inr (4, [.ref (ti 1), .int (zI (LN 1)), .int (zI (HF 1))])), (tp 2, .inr (4, [.ref (ti 2), .int (zI (LN 2)), .int (zI (HF 2))])), (tp 3, .inr (4, [.ref (ti 3), .int (zI (LN 3)), .int (zI (HF 3))])), (ou, .inl (cJ, 1, .inr (.inl OU)))]) (va_Qi (fun (r9 : Int32) (u9 : (Option Nat) × Int × (Nat → Int64)) => match u9 with | (rl1, rr, OU1) => r9 = zI 0 ∧ ((rl1 = (if rl = some lv then none else rl) ∧ rr = K (cy * 12 + cx)) ∧ OU1 0 = (zI rr).toInt64)) (zB (dC, dI) (zT cI cZ cL cT cJ) (va_A [(sl, .inr (5, [.ref sh, .int (zI lc), .ref ru, .ref tr, .ref se])), zQ cL sh 6 sf, (ru, .inr (2, [.ref rh, .ref rt, va_rf rl, .int (zI rp), .int (zI oc)])), (lv, .inr (1, [.int (zI w), .int (zI h), .ref ka, .ref ta, .int (zI sx), .int (zI sy), .int (zI fx), .int (zI fy), .int (zI lf), .int (zI un)])), zA cI ka 96 K, zQ cT ta 4 tq, (tp 0, .inr (4, [.ref (ti 0), .int (zI (LN 0)), .int (zI (HF 0))])), (tp 1, .inr (4, [.ref (ti 1), .int (zI (LN 1)), .int (zI (HF 1))])), (tp 2, .inr (4, [.ref (ti 2), .int (zI (LN 2)), .int (zI (HF 2))])), (tp 3, .inr (4, [.ref (ti 3), .int (zI (LN 3)), .int (zI (HF 3))])), (ou, .inl (cJ, 1, .inr (.inl OU)))] sz) (fun (u9 : (Option Nat) × Int × (Nat → Int64)) => match u9 with | (rl1, rr, OU1) => [(sl, .inr (5, [.ref sh, .int (zI lc), .ref ru, .ref tr, .ref se])), zQ cL sh 6 sf, (ru, .inr (2, [.ref rh, .ref rt, va_rf rl1, .int (zI rp), .int (zI oc)])), (lv, .inr (1, [.int (zI w), .int (zI h), .ref ka, .ref ta, .int (zI sx), .int (zI sy), .int (zI fx), .int (zI fy), .int (zI (-1)), .int (zI 0)])), zA cI ka 96 (zu K (cy * 12 + cx) v), zQ cT ta 4 tq, (tp 0, .inr (4, [.ref (ti 0), .int (zI (-1)), .int (zI (-1))])), (tp 1, .inr (4, [.ref (ti 1), .int (zI (-1)), .int (zI (-1))])), (tp 2, .inr (4, [.ref (ti 2), .int (zI (-1)), .int (zI (-1))])), (tp 3, .inr (4, [.ref (ti 3), .int (zI (-1)), .int (zI (-1))])), (ou, .inl (cJ, 1, .inr (.inl OU1)))])) (va_A [(sl, .inr (5, [.ref sh, .int (zI lc), .ref ru, .ref tr, .ref se])), zQ cL sh 6 sf, (ru, .inr (2, [.ref rh, .ref rt, va_rf rl, .int (zI rp), .int (zI oc)])), (lv, .inr (1, [.int (zI w), .int (zI h), .ref ka, .ref ta, .int (zI sx), .int (zI sy), .int (zI fx), .int (zI fy), .int (zI lf), .int (zI un)])), zA cI ka 96 K, zQ cT ta 4 tq, (tp 0, .inr (4, [.ref (ti 0), .int (zI (LN 0)), .int (zI (HF 0))])), (tp 1, .inr (4, [.ref (ti 1), .int (zI (LN 1)), .int (zI (HF 1))])), (tp 2, .inr (4, [.ref (ti 2), .int (zI (LN 2)), .int (zI (HF 2))])), (tp 3, .inr (4, [.ref (ti 3), .int (zI (LN 3)), .int (zI (HF 3))])), (ou, .inl (cJ, 1, .inr (.inl OU)))] sz)) 0 0 (va_A [(sl, .inr (5, [.ref sh, .int (zI lc), .ref ru, .ref tr, .ref se])), zQ cL sh 6 sf, (ru, .inr (2, [.ref rh, .ref rt, va_rf rl, .int (zI rp), .int (zI oc)])), (lv, .inr (1, [.int (zI w), .int (zI h), .ref ka, .ref ta, .int (zI sx), .int (zI sy), .int (zI fx), .int (zI fy), .int (zI lf), .int (zI un)])), zA cI ka 96 K, zQ cT ta 4 tq, (tp 0, .inr (4, [.ref (ti 0), .int (zI (LN 0)), .int (zI (HF 0))])), (tp 1, .inr (4, [.ref (ti 1), .int (zI (LN 1)), .int (zI (HF 1))])), (tp 2, .inr (4, [.ref (ti 2), .int (zI (LN 2)), .int (zI (HF 2))])), (tp 3, .inr (4, [.ref (ti 3), .int (zI (LN 3)), .int (zI (HF 3))])), (ou, .inl (cJ, 1, .inr (.inl OU)))] sz) := by
  refine va_MetW (cc := cL_setCell) (maxL := 7) (ret := (some .int)) (by decide) rfl ?_
  intro p e s m args below meth c s₁ B hml hv
  obtain ⟨rfl, hsz, hP, hK, hD0⟩ := hv
  have hx := B.exec
  have hb := B.bytes
  have hr := B.returns
  have hts := atoms_spec (ws := wsL_setCell) B.pre
  have hown : s.vm.findClass RL = some m.cls := findClass_of_methodNamed B.named
  have hlocks := B.notSynchronized
  subst hsz
  have hD := hD0.self (sz := s.heap.size)
  generalize hAe : va_A [(sl, .inr (5, [.ref sh, .int (zI lc), .ref ru, .ref tr, .ref se])), zQ cL sh 6 sf, (ru, .inr (2, [.ref rh, .ref rt, va_rf rl, .int (zI rp), .int (zI oc)])), (lv, .inr (1, [.int (zI w), .int (zI h), .ref ka, .ref ta, .int (zI sx), .int (zI sy), .int (zI fx), .int (zI fy), .int (zI lf), .int (zI un)])), zA cI ka 96 K, zQ cT ta 4 tq, (tp 0, .inr (4, [.ref (ti 0), .int (zI (LN 0)), .int (zI (HF 0))])), (tp 1, .inr (4, [.ref (ti 1), .int (zI (LN 1)), .int (zI (HF 1))])), (tp 2, .inr (4, [.ref (ti 2), .int (zI (LN 2)), .int (zI (HF 2))])), (tp 3, .inr (4, [.ref (ti 3), .int (zI (LN 3)), .int (zI (HF 3))])), (ou, .inl (cJ, 1, .inr (.inl OU)))] s.heap.size = A at hD ⊢
  have hA : ∀ q : Nat, s.heap.size ≤ q → A q := fun q h => by rw [← hAe]; exact Or.inr h
  clear hAe hD0
  have hS : va_S A s.heap s.heap [] := va_S.rf
  have hP : va_P (dC, dI) vwCl [(sl, .inr (5, [.ref sh, .int (zI lc), .ref ru, .ref tr, .ref se])), zQ cL sh 6 sf, (ru, .inr (2, [.ref rh, .ref rt, va_rf rl, .int (zI rp), .int (zI oc)])), (lv, .inr (1, [.int (zI w), .int (zI h), .ref ka, .ref ta, .int (zI sx), .int (zI sy), .int (zI fx), .int (zI fy), .int (zI lf), .int (zI un)])), zA cI ka 96 K, zQ cT ta 4 tq, (tp 0, .inr (4, [.ref (ti 0), .int (zI (LN 0)), .int (zI (HF 0))])), (tp 1, .inr (4, [.ref (ti 1), .int (zI (LN 1)), .int (zI (HF 1))])), (tp 2, .inr (4, [.ref (ti 2), .int (zI (LN 2)), .int (zI (HF 2))])), (tp 3, .inr (4, [.ref (ti 3), .int (zI (LN 3)), .int (zI (HF 3))])), (ou, .inl (cJ, 1, .inr (.inl OU)))] s.heap := hP
  have hl := lv_entry ([.ref sl, .int (zI L), .int (zI cx), .int (zI cy), .int (zI v), .ref ou]) (n := 7) (Nat.le_of_ble_eq_true rfl)
  rw [lg_entry_eq]
  generalize (lg_sl ([.ref sl, .int (zI L), .int (zI cx), .int (zI cy), .int (zI v), .ref ou]) ++ List.replicate (7 - (lg_sl ([.ref sl, .int (zI L), .int (zI cx), .int (zI cy), .int (zI v), .ref ou])).length) Slot.unset).toArray = ls at hl ⊢
  have hl : lv_has ls 7 [(0, .ref sl), (1, .int (zI L)), (2, .int (zI cx)), (3, .int (zI cy)), (4, .int (zI v)), (5, .ref ou)] := hl
  refine lv_aload hx hb dL_setCell_0 (lv_at hl 5 rfl) ?_
  refine lv_iconst (v := zI 0) hx hb dL_setCell_2 (rfl) ?_
  refine lv_aload_n hx hb dL_setCell_3 rfl (lv_at hl 0 rfl) ?_
  refine lv_iload_n hx hb dL_setCell_4 rfl (lv_at hl 1 rfl) ?_
  refine lv_iload_n hx hb dL_setCell_5 rfl (lv_at hl 2 rfl) ?_
  refine lv_iload_n hx hb dL_setCell_6 rfl (lv_at hl 3 rfl) ?_
  refine lv_iload hx hb dL_setCell_7 (lv_at hl 4 rfl) ?_
  have hPc := hP.sub (ws' := [(sl, .inr (5, [.ref sh, .int (zI lc), .ref ru, .ref tr, .ref se])), zQ cL sh 6 sf, (ru, .inr (2, [.ref rh, .ref rt, va_rf rl, .int (zI rp), .int (zI oc)])), (lv, .inr (1, [.int (zI w), .int (zI h), .ref ka, .ref ta, .int (zI sx), .int (zI sy), .int (zI fx), .int (zI fy), .int (zI lf), .int (zI un)])), zA cI ka 96 K, zQ cT ta 4 tq, (tp 0, .inr (4, [.ref (ti 0), .int (zI (LN 0)), .int (zI (HF 0))])), (tp 1, .inr (4, [.ref (ti 1), .int (zI (LN 1)), .int (zI (HF 1))])), (tp 2, .inr (4, [.ref (ti 2), .int (zI (LN 2)), .int (zI (HF 2))])), (tp 3, .inr (4, [.ref (ti 3), .int (zI (LN 3)), .int (zI (HF 3))]))]) [0, 1, 2, 3, 4, 5, 6, 7, 8, 9] rfl
  have hDc := hD.sub (ws' := [(sl, .inr (5, [.ref sh, .int (zI lc), .ref ru, .ref tr, .ref se])), zQ cL sh 6 sf, (ru, .inr (2, [.ref rh, .ref rt, va_rf rl, .int (zI rp), .int (zI oc)])), (lv, .inr (1, [.int (zI w), .int (zI h), .ref ka, .ref ta, .int (zI sx), .int (zI sy), .int (zI fx), .int (zI fy), .int (zI lf), .int (zI un)])), zA cI ka 96 K, zQ cT ta 4 tq, (tp 0, .inr (4, [.ref (ti 0), .int (zI (LN 0)), .int (zI (HF 0))])), (tp 1, .inr (4, [.ref (ti 1), .int (zI (LN 1)), .int (zI (HF 1))])), (tp 2, .inr (4, [.ref (ti 2), .int (zI (LN 2)), .int (zI (HF 2))])), (tp 3, .inr (4, [.ref (ti 3), .int (zI (LN 3)), .int (zI (HF 3))]))]) [0, 1, 2, 3, 4, 5, 6, 7, 8, 9] (by decide) rfl
  have hFc := va_free (wc := [(sl, .inr (5, [.ref sh, .int (zI lc), .ref ru, .ref tr, .ref se])), zQ cL sh 6 sf, (ru, .inr (2, [.ref rh, .ref rt, va_rf rl, .int (zI rp), .int (zI oc)])), (lv, .inr (1, [.int (zI w), .int (zI h), .ref ka, .ref ta, .int (zI sx), .int (zI sy), .int (zI fx), .int (zI fy), .int (zI lf), .int (zI un)])), zA cI ka 96 K, zQ cT ta 4 tq, (tp 0, .inr (4, [.ref (ti 0), .int (zI (LN 0)), .int (zI (HF 0))])), (tp 1, .inr (4, [.ref (ti 1), .int (zI (LN 1)), .int (zI (HF 1))])), (tp 2, .inr (4, [.ref (ti 2), .int (zI (LN 2)), .int (zI (HF 2))])), (tp 3, .inr (4, [.ref (ti 3), .int (zI (LN 3)), .int (zI (HF 3))]))]) hD hS hA [0, 1, 2, 3, 4, 5, 6, 7, 8, 9] rfl
  refine va_calli (va_runV (As := [.int (zI L), .int (zI cx), .int (zI cy), .int (zI v)]) (rest := [.int (zI 0), .ref ou]) ⟨hx, hb, hml, hown, hts⟩ (c_X5_setCell l dC dI cI cZ cL cT cJ s.heap.size sl sh lc ru tr se sf L k rh rt rp oc rl lv w h ka ta sx sy fx fy lf un K tq tp ti LN HF cx cy v (by first | assumption | omega) (by first | assumption | omega) (by first | assumption | omega) (by first | assumption | omega) (by first | assumption | omega) (by first | assumption | omega) (by first | assumption | omega) (by first | assumption | omega) (by first | assumption | omega) (by first | assumption | omega) (by first | assumption | omega) (by first | assumption | omega) (by first | assumption | omega) (by first | assumption | omega)) (cwV 4 hts gL_setCell_X5_setCell rfl rfl rfl (by decide +kernel) ⟨Nat.le_of_ble_eq_true rfl, Nat.le_of_ble_eq_true rfl⟩) ⟨zP_blind, va_recv hK hPc (ci := 5) (q0 := 0) rfl rfl, zP_pre hPc hDc hK⟩ rfl rfl hl.1 rfl (lv_room (Nat.le_of_ble_eq_true rfl)) dL_setCell_9 ⟨Nat.le_of_ble_eq_true rfl, Nat.le_of_ble_eq_true rfl⟩) hS (fun q _ h => hFc q h) hFc (fun r_1 u_1 t H1 locs ht hvm hw hB hz1 hk1 hS => ?_)
  obtain ⟨rl1_2, rr_3⟩ := u_1
  obtain ⟨hP1, hK1, hD1⟩ := hB
  rw [ht] at hP1
  have hP1 : va_P (dC, dI) vwCl [(sl, .inr (5, [.ref sh, .int (zI lc), .ref ru, .ref tr, .ref se])), zQ cL sh 6 sf, (ru, .inr (2, [.ref rh, .ref rt, va_rf rl1_2, .int (zI rp), .int (zI oc)])), (lv, .inr (1, [.int (zI w), .int (zI h), .ref ka, .ref ta, .int (zI sx), .int (zI sy), .int (zI fx), .int (zI fy), .int (zI (-1)), .int (zI 0)])), zA cI ka 96 (zu K (cy * 12 + cx) v), zQ cT ta 4 tq, (tp 0, .inr (4, [.ref (ti 0), .int (zI (-1)), .int (zI (-1))])), (tp 1, .inr (4, [.ref (ti 1), .int (zI (-1)), .int (zI (-1))])), (tp 2, .inr (4, [.ref (ti 2), .int (zI (-1)), .int (zI (-1))])), (tp 3, .inr (4, [.ref (ti 3), .int (zI (-1)), .int (zI (-1))]))] H1 := hP1
  obtain ⟨hP, hD⟩ := va_join (wr := [(ou, .inl (cJ, 1, .inr (.inl OU)))]) (w1 := [(sl, .inr (5, [.ref sh, .int (zI lc), .ref ru, .ref tr, .ref se])), zQ cL sh 6 sf, (ru, .inr (2, [.ref rh, .ref rt, va_rf rl1_2, .int (zI rp), .int (zI oc)])), (lv, .inr (1, [.int (zI w), .int (zI h), .ref ka, .ref ta, .int (zI sx), .int (zI sy), .int (zI fx), .int (zI fy), .int (zI (-1)), .int (zI 0)])), zA cI ka 96 (zu K (cy * 12 + cx) v), zQ cT ta 4 tq, (tp 0, .inr (4, [.ref (ti 0), .int (zI (-1)), .int (zI (-1))])), (tp 1, .inr (4, [.ref (ti 1), .int (zI (-1)), .int (zI (-1))])), (tp 2, .inr (4, [.ref (ti 2), .int (zI (-1)), .int (zI (-1))])), (tp 3, .inr (4, [.ref (ti 3), .int (zI (-1)), .int (zI (-1))]))]) hP hD [0, 1, 2, 3, 4, 5, 6, 7, 8, 9] [10] rfl rfl (by decide) (by decide) hk1 hFc hP1 hD1
  clear hP1 hD1 hk1 hFc hPc hDc hz1
  generalize H1 = H at hP hS ⊢
  have hP : va_P (dC, dI) vwCl [(sl, .inr (5, [.ref sh, .int (zI lc), .ref ru, .ref tr, .ref se])), zQ cL sh 6 sf, (ru, .inr (2, [.ref rh, .ref rt, va_rf rl1_2, .int (zI rp), .int (zI oc)])), (lv, .inr (1, [.int (zI w), .int (zI h), .ref ka, .ref ta, .int (zI sx), .int (zI sy), .int (zI fx), .int (zI fy), .int (zI (-1)), .int (zI 0)])), zA cI ka 96 (zu K (cy * 12 + cx) v), zQ cT ta 4 tq, (tp 0, .inr (4, [.ref (ti 0), .int (zI (-1)), .int (zI (-1))])), (tp 1, .inr (4, [.ref (ti 1), .int (zI (-1)), .int (zI (-1))])), (tp 2, .inr (4, [.ref (ti 2), .int (zI (-1)), .int (zI (-1))])), (tp 3, .inr (4, [.ref (ti 3), .int (zI (-1)), .int (zI (-1))])), (ou, .inl (cJ, 1, .inr (.inl OU)))] H := hP.sub [1, 2, 3, 4, 5, 6, 7, 8, 9, 10, 0] rfl
  have hD : va_D A [(sl, .inr (5, [.ref sh, .int (zI lc), .ref ru, .ref tr, .ref se])), zQ cL sh 6 sf, (ru, .inr (2, [.ref rh, .ref rt, va_rf rl1_2, .int (zI rp), .int (zI oc)])), (lv, .inr (1, [.int (zI w), .int (zI h), .ref ka, .ref ta, .int (zI sx), .int (zI sy), .int (zI fx), .int (zI fy), .int (zI (-1)), .int (zI 0)])), zA cI ka 96 (zu K (cy * 12 + cx) v), zQ cT ta 4 tq, (tp 0, .inr (4, [.ref (ti 0), .int (zI (-1)), .int (zI (-1))])), (tp 1, .inr (4, [.ref (ti 1), .int (zI (-1)), .int (zI (-1))])), (tp 2, .inr (4, [.ref (ti 2), .int (zI (-1)), .int (zI (-1))])), (tp 3, .inr (4, [.ref (ti 3), .int (zI (-1)), .int (zI (-1))])), (ou, .inl (cJ, 1, .inr (.inl OU)))] := hD.sub [1, 2, 3, 4, 5, 6, 7, 8, 9, 10, 0] (by decide) rfl
  clear hK1 hvm
  obtain ⟨rfl, po_4⟩ := hw
  have po_4 : rl1_2 = (if rl = some lv then none else rl) ∧ rr_3 = K (cy * 12 + cx) := po_4
  refine W.eq (g2 := F0 m 12 ls [.int (zI rr_3), .int (zI 0), .ref ou]) rfl ?_
  refine lv_i2l (v := (zI rr_3).toInt64) hx hb dL_setCell_12 rfl ?_
  refine va_last (n := 1) (f := OU) (i := zI 0) (x := (zI rr_3).toInt64) hx hb hK hP hD hS 10 4 rfl rfl (zI_in (by decide) (by decide) (by decide)) dL_setCell_13 (fun H locs hP hD hS => ?_)
  have hP : va_P (dC, dI) vwCl [(sl, .inr (5, [.ref sh, .int (zI lc), .ref ru, .ref tr, .ref se])), zQ cL sh 6 sf, (ru, .inr (2, [.ref rh, .ref rt, va_rf rl1_2, .int (zI rp), .int (zI oc)])), (lv, .inr (1, [.int (zI w), .int (zI h), .ref ka, .ref ta, .int (zI sx), .int (zI sy), .int (zI fx), .int (zI fy), .int (zI (-1)), .int (zI 0)])), zA cI ka 96 (zu K (cy * 12 + cx) v), zQ cT ta 4 tq, (tp 0, .inr (4, [.ref (ti 0), .int (zI (-1)), .int (zI (-1))])), (tp 1, .inr (4, [.ref (ti 1), .int (zI (-1)), .int (zI (-1))])), (tp 2, .inr (4, [.ref (ti 2), .int (zI (-1)), .int (zI (-1))])), (tp 3, .inr (4, [.ref (ti 3), .int (zI (-1)), .int (zI (-1))])), (ou, .inl (cJ, 1, .inr (.inl (vp_updL OU (zI 0).toNatClampNeg ((zI rr_3).toInt64)))))] H := hP
  have hD : va_D A [(sl, .inr (5, [.ref sh, .int (zI lc), .ref ru, .ref tr, .ref se])), zQ cL sh 6 sf, (ru, .inr (2, [.ref rh, .ref rt, va_rf rl1_2, .int (zI rp), .int (zI oc)])), (lv, .inr (1, [.int (zI w), .int (zI h), .ref ka, .ref ta, .int (zI sx), .int (zI sy), .int (zI fx), .int (zI fy), .int (zI (-1)), .int (zI 0)])), zA cI ka 96 (zu K (cy * 12 + cx) v), zQ cT ta 4 tq, (tp 0, .inr (4, [.ref (ti 0), .int (zI (-1)), .int (zI (-1))])), (tp 1, .inr (4, [.ref (ti 1), .int (zI (-1)), .int (zI (-1))])), (tp 2, .inr (4, [.ref (ti 2), .int (zI (-1)), .int (zI (-1))])), (tp 3, .inr (4, [.ref (ti 3), .int (zI (-1)), .int (zI (-1))])), (ou, .inl (cJ, 1, .inr (.inl (vp_updL OU (zI 0).toNatClampNeg ((zI rr_3).toInt64)))))] := hD
  refine lv_goto (tgt := 29) hx hb dL_setCell_14 (by decide) ?_
  refine lv_iconst (v := zI 0) hx hb dL_setCell_29 (rfl) ?_
  have hP9 := hP.sub (ws' := [(sl, .inr (5, [.ref sh, .int (zI lc), .ref ru, .ref tr, .ref se])), zQ cL sh 6 sf, (ru, .inr (2, [.ref rh, .ref rt, va_rf rl1_2, .int (zI rp), .int (zI oc)])), (lv, .inr (1, [.int (zI w), .int (zI h), .ref ka, .ref ta, .int (zI sx), .int (zI sy), .int (zI fx), .int (zI fy), .int (zI (-1)), .int (zI 0)])), zA cI ka 96 (zu K (cy * 12 + cx) v), zQ cT ta 4 tq, (tp 0, .inr (4, [.ref (ti 0), .int (zI (-1)), .int (zI (-1))])), (tp 1, .inr (4, [.ref (ti 1), .int (zI (-1)), .int (zI (-1))])), (tp 2, .inr (4, [.ref (ti 2), .int (zI (-1)), .int (zI (-1))])), (tp 3, .inr (4, [.ref (ti 3), .int (zI (-1)), .int (zI (-1))])), (ou, .inl (cJ, 1, .inr (.inl (vp_updL OU (zI 0).toNatClampNeg ((zI rr_3).toInt64)))))]) [0, 1, 2, 3, 4, 5, 6, 7, 8, 9, 10] rfl
  have hD9 := hD.sub (ws' := [(sl, .inr (5, [.ref sh, .int (zI lc), .ref ru, .ref tr, .ref se])), zQ cL sh 6 sf, (ru, .inr (2, [.ref rh, .ref rt, va_rf rl1_2, .int (zI rp), .int (zI oc)])), (lv, .inr (1, [.int (zI w), .int (zI h), .ref ka, .ref ta, .int (zI sx), .int (zI sy), .int (zI fx), .int (zI fy), .int (zI (-1)), .int (zI 0)])), zA cI ka 96 (zu K (cy * 12 + cx) v), zQ cT ta 4 tq, (tp 0, .inr (4, [.ref (ti 0), .int (zI (-1)), .int (zI (-1))])), (tp 1, .inr (4, [.ref (ti 1), .int (zI (-1)), .int (zI (-1))])), (tp 2, .inr (4, [.ref (ti 2), .int (zI (-1)), .int (zI (-1))])), (tp 3, .inr (4, [.ref (ti 3), .int (zI (-1)), .int (zI (-1))])), (ou, .inl (cJ, 1, .inr (.inl (vp_updL OU (zI 0).toNatClampNeg ((zI rr_3).toInt64)))))]) [0, 1, 2, 3, 4, 5, 6, 7, 8, 9, 10] (by decide) rfl
  have po : zI 0 = zI 0 ∧ ((rl1_2 = (if rl = some lv then none else rl) ∧ rr_3 = K (cy * 12 + cx)) ∧ (vp_updL OU (zI 0).toNatClampNeg ((zI rr_3).toInt64)) 0 = (zI rr_3).toInt64) := by
    refine ⟨by first | rfl | (congr 1; omega) | (congr 1; simp [*]), ?_⟩
    exact ⟨po_4, zou⟩
  exact W.iret (v := zI 0) hx hb hr (fun t ht hW => ⟨⟨zI 0, (rl1_2, rr_3, vp_updL OU (zI 0).toNatClampNeg ((zI rr_3).toInt64)), rfl, po, by rw [ht]; exact hP9, va_K.moved hW.alike hK, hD9⟩, hS.F ht⟩) hS.2.2 dL_setCell_30
set_option maxHeartbeats 4000000 in
set_option maxRecDepth 100000 in
theorem c_L_setStart (l : Launch) (dC : Nat → ClassId) (dI : Nat → Nat → Nat) (cI cZ cL cT cJ : ClassId) (sz : Nat) (sl : Nat) (sh : Nat) (lc : Int) (ru : Nat) (tr : Nat) (se : Nat) (sf : Nat → Option Nat) (L : Int) (k : Nat) (rh : Nat) (rt : Nat) (rp : Int) (oc : Int) (rl : Option Nat) (lv : Nat) (w : Int) (h : Int) (ka : Nat) (ta : Nat) (sx : Int) (sy : Int) (fx : Int) (fy : Int) (lf : Int) (un : Int) (K : Int → Int) (tq : Nat → Option Nat) (tp : Nat → Nat) (ti : Nat → Nat) (LN : Nat → Int) (HF : Nat → Int) (cx : Int) (cy : Int) (gk : L = (k : Int) ∧ k < 6) (gf : sf k = some lv) (gw : 0 < w ∧ w ≤ 12) (gh : 0 < h ∧ h ≤ 8) (gK : Kin K) (gx : 0 ≤ cx ∧ cx < w) (gy : 0 ≤ cy ∧ cy < h) (gb : ¬ kd K w h cx cy = 1) (gt : ∀ k, k < 4 → tq k = some (tp k)) : Met l yL_setStart wsL_setStart ({ frames := 4, cells := 0, slots := 0, locals := 95 }) (zP (dC, dI) (zT cI cZ cL cT cJ) sz [.ref sl, .int (zI L), .int (zI cx), .int (zI cy)] [(sl, .inr (5, [.ref sh, .int (zI lc), .ref ru, .ref tr, .ref se])), zQ cL sh 6 sf, (ru, .inr (2, [.ref rh, .ref rt, va_rf rl, .int (zI rp), .int (zI oc)])), (lv, .inr (1, [.int (zI w), .int (zI h), .ref ka, .ref ta, .int (zI sx), .int (zI sy), .int (zI fx), .int (zI fy), .int (zI lf), .int (zI un)])), zA cI ka 96 K, zQ cT ta 4 tq, (tp 0, .inr (4, [.ref (ti 0), .int (zI (LN 0)), .int (zI (HF 0))])), (tp 1, .inr (4, [.ref (ti 1), .int (zI (LN 1)), .int (zI (HF 1))])), (tp 2, .inr (4, [.ref (ti 2), .int (zI (LN 2)), .int (zI (HF 2))])), (tp 3, .inr (4, [.ref (ti 3), .int (zI (LN 3)), .int (zI (HF 3))]))]) (va_Qi (fun (r9 : Int32) (u9 : (Option Nat)) => match u9 with | rl1 => r9 = zI 0 ∧ (rl1 = (if rl = some lv then none else rl))) (zB (dC, dI) (zT cI cZ cL cT cJ) (va_A [(sl, .inr (5, [.ref sh, .int (zI lc), .ref ru, .ref tr, .ref se])), zQ cL sh 6 sf, (ru, .inr (2, [.ref rh, .ref rt, va_rf rl, .int (zI rp), .int (zI oc)])), (lv, .inr (1, [.int (zI w), .int (zI h), .ref ka, .ref ta, .int (zI sx), .int (zI sy), .int (zI fx), .int (zI fy), .int (zI lf), .int (zI un)])), zA cI ka 96 K, zQ cT ta 4 tq, (tp 0, .inr (4, [.ref (ti 0), .int (zI (LN 0)), .int (zI (HF 0))])), (tp 1, .inr (4, [.ref (ti 1), .int (zI (LN 1)), .int (zI (HF 1))])), (tp 2, .inr (4, [.ref (ti 2), .int (zI (LN 2)), .int (zI (HF 2))])), (tp 3, .inr (4, [.ref (ti 3), .int (zI (LN 3)), .int (zI (HF 3))]))] sz) (fun (u9 : (Option Nat)) => match u9 with | rl1 => [(sl, .inr (5, [.ref sh, .int (zI lc), .ref ru, .ref tr, .ref se])), zQ cL sh 6 sf, (ru, .inr (2, [.ref rh, .ref rt, va_rf rl1, .int (zI rp), .int (zI oc)])), (lv, .inr (1, [.int (zI w), .int (zI h), .ref ka, .ref ta, .int (zI cx), .int (zI cy), .int (zI fx), .int (zI fy), .int (zI (-1)), .int (zI 0)])), zA cI ka 96 K, zQ cT ta 4 tq, (tp 0, .inr (4, [.ref (ti 0), .int (zI (-1)), .int (zI (-1))])), (tp 1, .inr (4, [.ref (ti 1), .int (zI (-1)), .int (zI (-1))])), (tp 2, .inr (4, [.ref (ti 2), .int (zI (-1)), .int (zI (-1))])), (tp 3, .inr (4, [.ref (ti 3), .int (zI (-1)), .int (zI (-1))]))])) (va_A [(sl, .inr (5, [.ref sh, .int (zI lc), .ref ru, .ref tr, .ref se])), zQ cL sh 6 sf, (ru, .inr (2, [.ref rh, .ref rt, va_rf rl, .int (zI rp), .int (zI oc)])), (lv, .inr (1, [.int (zI w), .int (zI h), .ref ka, .ref ta, .int (zI sx), .int (zI sy), .int (zI fx), .int (zI fy), .int (zI lf), .int (zI un)])), zA cI ka 96 K, zQ cT ta 4 tq, (tp 0, .inr (4, [.ref (ti 0), .int (zI (LN 0)), .int (zI (HF 0))])), (tp 1, .inr (4, [.ref (ti 1), .int (zI (LN 1)), .int (zI (HF 1))])), (tp 2, .inr (4, [.ref (ti 2), .int (zI (LN 2)), .int (zI (HF 2))])), (tp 3, .inr (4, [.ref (ti 3), .int (zI (LN 3)), .int (zI (HF 3))]))] sz)) 0 0 (va_A [(sl, .inr (5, [.ref sh, .int (zI lc), .ref ru, .ref tr, .ref se])), zQ cL sh 6 sf, (ru, .inr (2, [.ref rh, .ref rt, va_rf rl, .int (zI rp), .int (zI oc)])), (lv, .inr (1, [.int (zI w), .int (zI h), .ref ka, .ref ta, .int (zI sx), .int (zI sy), .int (zI fx), .int (zI fy), .int (zI lf), .int (zI un)])), zA cI ka 96 K, zQ cT ta 4 tq, (tp 0, .inr (4, [.ref (ti 0), .int (zI (LN 0)), .int (zI (HF 0))])), (tp 1, .inr (4, [.ref (ti 1), .int (zI (LN 1)), .int (zI (HF 1))])), (tp 2, .inr (4, [.ref (ti 2), .int (zI (LN 2)), .int (zI (HF 2))])), (tp 3, .inr (4, [.ref (ti 3), .int (zI (LN 3)), .int (zI (HF 3))]))] sz) := by
  refine va_MetW (cc := cL_setStart) (maxL := 5) (ret := (some .int)) (by decide) rfl ?_
  intro p e s m args below meth c s₁ B hml hv
  obtain ⟨rfl, hsz, hP, hK, hD0⟩ := hv
  have hx := B.exec
  have hb := B.bytes
  have hr := B.returns
  have hts := atoms_spec (ws := wsL_setStart) B.pre
  have hown : s.vm.findClass RL = some m.cls := findClass_of_methodNamed B.named
  have hlocks := B.notSynchronized
  subst hsz
  have hD := hD0.self (sz := s.heap.size)
  generalize hAe : va_A [(sl, .inr (5, [.ref sh, .int (zI lc), .ref ru, .ref tr, .ref se])), zQ cL sh 6 sf, (ru, .inr (2, [.ref rh, .ref rt, va_rf rl, .int (zI rp), .int (zI oc)])), (lv, .inr (1, [.int (zI w), .int (zI h), .ref ka, .ref ta, .int (zI sx), .int (zI sy), .int (zI fx), .int (zI fy), .int (zI lf), .int (zI un)])), zA cI ka 96 K, zQ cT ta 4 tq, (tp 0, .inr (4, [.ref (ti 0), .int (zI (LN 0)), .int (zI (HF 0))])), (tp 1, .inr (4, [.ref (ti 1), .int (zI (LN 1)), .int (zI (HF 1))])), (tp 2, .inr (4, [.ref (ti 2), .int (zI (LN 2)), .int (zI (HF 2))])), (tp 3, .inr (4, [.ref (ti 3), .int (zI (LN 3)), .int (zI (HF 3))]))] s.heap.size = A at hD ⊢
  have hA : ∀ q : Nat, s.heap.size ≤ q → A q := fun q h => by rw [← hAe]; exact Or.inr h
  clear hAe hD0
  have hS : va_S A s.heap s.heap [] := va_S.rf
  have hP : va_P (dC, dI) vwCl [(sl, .inr (5, [.ref sh, .int (zI lc), .ref ru, .ref tr, .ref se])), zQ cL sh 6 sf, (ru, .inr (2, [.ref rh, .ref rt, va_rf rl, .int (zI rp), .int (zI oc)])), (lv, .inr (1, [.int (zI w), .int (zI h), .ref ka, .ref ta, .int (zI sx), .int (zI sy), .int (zI fx), .int (zI fy), .int (zI lf), .int (zI un)])), zA cI ka 96 K, zQ cT ta 4 tq, (tp 0, .inr (4, [.ref (ti 0), .int (zI (LN 0)), .int (zI (HF 0))])), (tp 1, .inr (4, [.ref (ti 1), .int (zI (LN 1)), .int (zI (HF 1))])), (tp 2, .inr (4, [.ref (ti 2), .int (zI (LN 2)), .int (zI (HF 2))])), (tp 3, .inr (4, [.ref (ti 3), .int (zI (LN 3)), .int (zI (HF 3))]))] s.heap := hP
  have hl := lv_entry ([.ref sl, .int (zI L), .int (zI cx), .int (zI cy)]) (n := 5) (Nat.le_of_ble_eq_true rfl)
  rw [lg_entry_eq]
  generalize (lg_sl ([.ref sl, .int (zI L), .int (zI cx), .int (zI cy)]) ++ List.replicate (5 - (lg_sl ([.ref sl, .int (zI L), .int (zI cx), .int (zI cy)])).length) Slot.unset).toArray = ls at hl ⊢
  have hl : lv_has ls 5 [(0, .ref sl), (1, .int (zI L)), (2, .int (zI cx)), (3, .int (zI cy))] := hl
  refine lv_aload_n hx hb dL_setStart_0 rfl (lv_at hl 0 rfl) ?_
  refine lv_iload_n hx hb dL_setStart_1 rfl (lv_at hl 1 rfl) ?_
  refine lv_iload_n hx hb dL_setStart_2 rfl (lv_at hl 2 rfl) ?_
  refine lv_iload_n hx hb dL_setStart_3 rfl (lv_at hl 3 rfl) ?_
  have hPc := hP.sub (ws' := [(sl, .inr (5, [.ref sh, .int (zI lc), .ref ru, .ref tr, .ref se])), zQ cL sh 6 sf, (ru, .inr (2, [.ref rh, .ref rt, va_rf rl, .int (zI rp), .int (zI oc)])), (lv, .inr (1, [.int (zI w), .int (zI h), .ref ka, .ref ta, .int (zI sx), .int (zI sy), .int (zI fx), .int (zI fy), .int (zI lf), .int (zI un)])), zA cI ka 96 K, zQ cT ta 4 tq, (tp 0, .inr (4, [.ref (ti 0), .int (zI (LN 0)), .int (zI (HF 0))])), (tp 1, .inr (4, [.ref (ti 1), .int (zI (LN 1)), .int (zI (HF 1))])), (tp 2, .inr (4, [.ref (ti 2), .int (zI (LN 2)), .int (zI (HF 2))])), (tp 3, .inr (4, [.ref (ti 3), .int (zI (LN 3)), .int (zI (HF 3))]))]) [0, 1, 2, 3, 4, 5, 6, 7, 8, 9] rfl
  have hDc := hD.sub (ws' := [(sl, .inr (5, [.ref sh, .int (zI lc), .ref ru, .ref tr, .ref se])), zQ cL sh 6 sf, (ru, .inr (2, [.ref rh, .ref rt, va_rf rl, .int (zI rp), .int (zI oc)])), (lv, .inr (1, [.int (zI w), .int (zI h), .ref ka, .ref ta, .int (zI sx), .int (zI sy), .int (zI fx), .int (zI fy), .int (zI lf), .int (zI un)])), zA cI ka 96 K, zQ cT ta 4 tq, (tp 0, .inr (4, [.ref (ti 0), .int (zI (LN 0)), .int (zI (HF 0))])), (tp 1, .inr (4, [.ref (ti 1), .int (zI (LN 1)), .int (zI (HF 1))])), (tp 2, .inr (4, [.ref (ti 2), .int (zI (LN 2)), .int (zI (HF 2))])), (tp 3, .inr (4, [.ref (ti 3), .int (zI (LN 3)), .int (zI (HF 3))]))]) [0, 1, 2, 3, 4, 5, 6, 7, 8, 9] (by decide) rfl
  have hFc := va_free (wc := [(sl, .inr (5, [.ref sh, .int (zI lc), .ref ru, .ref tr, .ref se])), zQ cL sh 6 sf, (ru, .inr (2, [.ref rh, .ref rt, va_rf rl, .int (zI rp), .int (zI oc)])), (lv, .inr (1, [.int (zI w), .int (zI h), .ref ka, .ref ta, .int (zI sx), .int (zI sy), .int (zI fx), .int (zI fy), .int (zI lf), .int (zI un)])), zA cI ka 96 K, zQ cT ta 4 tq, (tp 0, .inr (4, [.ref (ti 0), .int (zI (LN 0)), .int (zI (HF 0))])), (tp 1, .inr (4, [.ref (ti 1), .int (zI (LN 1)), .int (zI (HF 1))])), (tp 2, .inr (4, [.ref (ti 2), .int (zI (LN 2)), .int (zI (HF 2))])), (tp 3, .inr (4, [.ref (ti 3), .int (zI (LN 3)), .int (zI (HF 3))]))]) hD hS hA [0, 1, 2, 3, 4, 5, 6, 7, 8, 9] rfl
  refine va_callv (va_runV (As := [.int (zI L), .int (zI cx), .int (zI cy)]) (rest := []) ⟨hx, hb, hml, hown, hts⟩ (c_X5_setStart l dC dI cI cZ cL cT cJ s.heap.size sl sh lc ru tr se sf L k rh rt rp oc rl lv w h ka ta sx sy fx fy lf un K tq tp ti LN HF cx cy (by first | assumption | omega) (by first | assumption | omega) (by first | assumption | omega) (by first | assumption | omega) (by first | assumption | omega) (by first | assumption | omega) (by first | assumption | omega) (by first | assumption | omega) (by first | assumption | omega)) (cwV 3 hts gL_setStart_X5_setStart rfl rfl rfl (by decide +kernel) ⟨Nat.le_of_ble_eq_true rfl, Nat.le_of_ble_eq_true rfl⟩) ⟨zP_blind, va_recv hK hPc (ci := 5) (q0 := 0) rfl rfl, zP_pre hPc hDc hK⟩ rfl rfl hl.1 rfl (lv_room (Nat.le_of_ble_eq_true rfl)) dL_setStart_4 ⟨Nat.le_of_ble_eq_true rfl, Nat.le_of_ble_eq_true rfl⟩) hS (fun q _ h => hFc q h) hFc (fun u_1 t H1 locs ht hvm hw hB hz1 hk1 hS => ?_)
  obtain ⟨rl1_2, rfl⟩ : ∃ z, z = u_1 := ⟨_, rfl⟩
  obtain ⟨hP1, hK1, hD1⟩ := hB
  rw [ht] at hP1
  have hP1 : va_P (dC, dI) vwCl [(sl, .inr (5, [.ref sh, .int (zI lc), .ref ru, .ref tr, .ref se])), zQ cL sh 6 sf, (ru, .inr (2, [.ref rh, .ref rt, va_rf rl1_2, .int (zI rp), .int (zI oc)])), (lv, .inr (1, [.int (zI w), .int (zI h), .ref ka, .ref ta, .int (zI cx), .int (zI cy), .int (zI fx), .int (zI fy), .int (zI (-1)), .int (zI 0)])), zA cI ka 96 K, zQ cT ta 4 tq, (tp 0, .inr (4, [.ref (ti 0), .int (zI (-1)), .int (zI (-1))])), (tp 1, .inr (4, [.ref (ti 1), .int (zI (-1)), .int (zI (-1))])), (tp 2, .inr (4, [.ref (ti 2), .int (zI (-1)), .int (zI (-1))])), (tp 3, .inr (4, [.ref (ti 3), .int (zI (-1)), .int (zI (-1))]))] H1 := hP1
  obtain ⟨hP, hD⟩ := va_join (wr := []) (w1 := [(sl, .inr (5, [.ref sh, .int (zI lc), .ref ru, .ref tr, .ref se])), zQ cL sh 6 sf, (ru, .inr (2, [.ref rh, .ref rt, va_rf rl1_2, .int (zI rp), .int (zI oc)])), (lv, .inr (1, [.int (zI w), .int (zI h), .ref ka, .ref ta, .int (zI cx), .int (zI cy), .int (zI fx), .int (zI fy), .int (zI (-1)), .int (zI 0)])), zA cI ka 96 K, zQ cT ta 4 tq, (tp 0, .inr (4, [.ref (ti 0), .int (zI (-1)), .int (zI (-1))])), (tp 1, .inr (4, [.ref (ti 1), .int (zI (-1)), .int (zI (-1))])), (tp 2, .inr (4, [.ref (ti 2), .int (zI (-1)), .int (zI (-1))])), (tp 3, .inr (4, [.ref (ti 3), .int (zI (-1)), .int (zI (-1))]))]) hP hD [0, 1, 2, 3, 4, 5, 6, 7, 8, 9] [] rfl rfl (by decide) (by decide) hk1 hFc hP1 hD1
  clear hP1 hD1 hk1 hFc hPc hDc hz1
  generalize H1 = H at hP hS ⊢
  have hP : va_P (dC, dI) vwCl [(sl, .inr (5, [.ref sh, .int (zI lc), .ref ru, .ref tr, .ref se])), zQ cL sh 6 sf, (ru, .inr (2, [.ref rh, .ref rt, va_rf rl1_2, .int (zI rp), .int (zI oc)])), (lv, .inr (1, [.int (zI w), .int (zI h), .ref ka, .ref ta, .int (zI cx), .int (zI cy), .int (zI fx), .int (zI fy), .int (zI (-1)), .int (zI 0)])), zA cI ka 96 K, zQ cT ta 4 tq, (tp 0, .inr (4, [.ref (ti 0), .int (zI (-1)), .int (zI (-1))])), (tp 1, .inr (4, [.ref (ti 1), .int (zI (-1)), .int (zI (-1))])), (tp 2, .inr (4, [.ref (ti 2), .int (zI (-1)), .int (zI (-1))])), (tp 3, .inr (4, [.ref (ti 3), .int (zI (-1)), .int (zI (-1))]))] H := hP.sub [0, 1, 2, 3, 4, 5, 6, 7, 8, 9] rfl
  have hD : va_D A [(sl, .inr (5, [.ref sh, .int (zI lc), .ref ru, .ref tr, .ref se])), zQ cL sh 6 sf, (ru, .inr (2, [.ref rh, .ref rt, va_rf rl1_2, .int (zI rp), .int (zI oc)])), (lv, .inr (1, [.int (zI w), .int (zI h), .ref ka, .ref ta, .int (zI cx), .int (zI cy), .int (zI fx), .int (zI fy), .int (zI (-1)), .int (zI 0)])), zA cI ka 96 K, zQ cT ta 4 tq, (tp 0, .inr (4, [.ref (ti 0), .int (zI (-1)), .int (zI (-1))])), (tp 1, .inr (4, [.ref (ti 1), .int (zI (-1)), .int (zI (-1))])), (tp 2, .inr (4, [.ref (ti 2), .int (zI (-1)), .int (zI (-1))])), (tp 3, .inr (4, [.ref (ti 3), .int (zI (-1)), .int (zI (-1))]))] := hD.sub [0, 1, 2, 3, 4, 5, 6, 7, 8, 9] (by decide) rfl
  clear hK1 hvm
  have po_3 : rl1_2 = (if rl = some lv then none else rl) := hw
  refine W.eq (g2 := F0 m 7 ls []) rfl ?_
  refine lv_goto (tgt := 18) hx hb dL_setStart_7 (by decide) ?_
  refine lv_iconst (v := zI 0) hx hb dL_setStart_18 (rfl) ?_
  have hP9 := hP.sub (ws' := [(sl, .inr (5, [.ref sh, .int (zI lc), .ref ru, .ref tr, .ref se])), zQ cL sh 6 sf, (ru, .inr (2, [.ref rh, .ref rt, va_rf rl1_2, .int (zI rp), .int (zI oc)])), (lv, .inr (1, [.int (zI w), .int (zI h), .ref ka, .ref ta, .int (zI cx), .int (zI cy), .int (zI fx), .int (zI fy), .int (zI (-1)), .int (zI 0)])), zA cI ka 96 K, zQ cT ta 4 tq, (tp 0, .inr (4, [.ref (ti 0), .int (zI (-1)), .int (zI (-1))])), (tp 1, .inr (4, [.ref (ti 1), .int (zI (-1)), .int (zI (-1))])), (tp 2, .inr (4, [.ref (ti 2), .int (zI (-1)), .int (zI (-1))])), (tp 3, .inr (4, [.ref (ti 3), .int (zI (-1)), .int (zI (-1))]))]) [0, 1, 2, 3, 4, 5, 6, 7, 8, 9] rfl
  have hD9 := hD.sub (ws' := [(sl, .inr (5, [.ref sh, .int (zI lc), .ref ru, .ref tr, .ref se])), zQ cL sh 6 sf, (ru, .inr (2, [.ref rh, .ref rt, va_rf rl1_2, .int (zI rp), .int (zI oc)])), (lv, .inr (1, [.int (zI w), .int (zI h), .ref ka, .ref ta, .int (zI cx), .int (zI cy), .int (zI fx), .int (zI fy), .int (zI (-1)), .int (zI 0)])), zA cI ka 96 K, zQ cT ta 4 tq, (tp 0, .inr (4, [.ref (ti 0), .int (zI (-1)), .int (zI (-1))])), (tp 1, .inr (4, [.ref (ti 1), .int (zI (-1)), .int (zI (-1))])), (tp 2, .inr (4, [.ref (ti 2), .int (zI (-1)), .int (zI (-1))])), (tp 3, .inr (4, [.ref (ti 3), .int (zI (-1)), .int (zI (-1))]))]) [0, 1, 2, 3, 4, 5, 6, 7, 8, 9] (by decide) rfl
  have po : zI 0 = zI 0 ∧ (rl1_2 = (if rl = some lv then none else rl)) := by
    refine ⟨by first | rfl | (congr 1; omega) | (congr 1; simp [*]), ?_⟩
    exact po_3
  exact W.iret (v := zI 0) hx hb hr (fun t ht hW => ⟨⟨zI 0, rl1_2, rfl, po, by rw [ht]; exact hP9, va_K.moved hW.alike hK, hD9⟩, hS.F ht⟩) hS.2.2 dL_setStart_19
set_option maxHeartbeats 4000000 in
set_option maxRecDepth 100000 in
theorem c_L_setFlag (l : Launch) (dC : Nat → ClassId) (dI : Nat → Nat → Nat) (cI cZ cL cT cJ : ClassId) (sz : Nat) (sl : Nat) (sh : Nat) (lc : Int) (ru : Nat) (tr : Nat) (se : Nat) (sf : Nat → Option Nat) (L : Int) (k : Nat) (rh : Nat) (rt : Nat) (rp : Int) (oc : Int) (rl : Option Nat) (lv : Nat) (w : Int) (h : Int) (ka : Nat) (ta : Nat) (sx : Int) (sy : Int) (fx : Int) (fy : Int) (lf : Int) (un : Int) (K : Int → Int) (tq : Nat → Option Nat) (tp : Nat → Nat) (ti : Nat → Nat) (LN : Nat → Int) (HF : Nat → Int) (cx : Int) (cy : Int) (gk : L = (k : Int) ∧ k < 6) (gf : sf k = some lv) (gw : 0 < w ∧ w ≤ 12) (gh : 0 < h ∧ h ≤ 8) (gK : Kin K) (gx : 0 ≤ cx ∧ cx < w) (gy : 0 ≤ cy ∧ cy < h) (gb : ¬ kd K w h cx cy = 1) (gt : ∀ k, k < 4 → tq k = some (tp k)) : Met l yL_setFlag wsL_setFlag ({ frames := 4, cells := 0, slots := 0, locals := 95 }) (zP (dC, dI) (zT cI cZ cL cT cJ) sz [.ref sl, .int (zI L), .int (zI cx), .int (zI cy)] [(sl, .inr (5, [.ref sh, .int (zI lc), .ref ru, .ref tr, .ref se])), zQ cL sh 6 sf, (ru, .inr (2, [.ref rh, .ref rt, va_rf rl, .int (zI rp), .int (zI oc)])), (lv, .inr (1, [.int (zI w), .int (zI h), .ref ka, .ref ta, .int (zI sx), .int (zI sy), .int (zI fx), .int (zI fy), .int (zI lf), .int (zI un)])), zA cI ka 96 K, zQ cT ta 4 tq, (tp 0, .inr (4, [.ref (ti 0), .int (zI (LN 0)), .int (zI (HF 0))])), (tp 1, .inr (4, [.ref (ti 1), .int (zI (LN 1)), .int (zI (HF 1))])), (tp 2, .inr (4, [.ref (ti 2), .int (zI (LN 2)), .int (zI (HF 2))])), (tp 3, .inr (4, [.ref (ti 3), .int (zI (LN 3)), .int (zI (HF 3))]))]) (va_Qi (fun (r9 : Int32) (u9 : (Option Nat)) => match u9 with | rl1 => r9 = zI 0 ∧ (rl1 = (if rl = some lv then none else rl))) (zB (dC, dI) (zT cI cZ cL cT cJ) (va_A [(sl, .inr (5, [.ref sh, .int (zI lc), .ref ru, .ref tr, .ref se])), zQ cL sh 6 sf, (ru, .inr (2, [.ref rh, .ref rt, va_rf rl, .int (zI rp), .int (zI oc)])), (lv, .inr (1, [.int (zI w), .int (zI h), .ref ka, .ref ta, .int (zI sx), .int (zI sy), .int (zI fx), .int (zI fy), .int (zI lf), .int (zI un)])), zA cI ka 96 K, zQ cT ta 4 tq, (tp 0, .inr (4, [.ref (ti 0), .int (zI (LN 0)), .int (zI (HF 0))])), (tp 1, .inr (4, [.ref (ti 1), .int (zI (LN 1)), .int (zI (HF 1))])), (tp 2, .inr (4, [.ref (ti 2), .int (zI (LN 2)), .int (zI (HF 2))])), (tp 3, .inr (4, [.ref (ti 3), .int (zI (LN 3)), .int (zI (HF 3))]))] sz) (fun (u9 : (Option Nat)) => match u9 with | rl1 => [(sl, .inr (5, [.ref sh, .int (zI lc), .ref ru, .ref tr, .ref se])), zQ cL sh 6 sf, (ru, .inr (2, [.ref rh, .ref rt, va_rf rl1, .int (zI rp), .int (zI oc)])), (lv, .inr (1, [.int (zI w), .int (zI h), .ref ka, .ref ta, .int (zI sx), .int (zI sy), .int (zI cx), .int (zI cy), .int (zI (-1)), .int (zI 0)])), zA cI ka 96 K, zQ cT ta 4 tq, (tp 0, .inr (4, [.ref (ti 0), .int (zI (-1)), .int (zI (-1))])), (tp 1, .inr (4, [.ref (ti 1), .int (zI (-1)), .int (zI (-1))])), (tp 2, .inr (4, [.ref (ti 2), .int (zI (-1)), .int (zI (-1))])), (tp 3, .inr (4, [.ref (ti 3), .int (zI (-1)), .int (zI (-1))]))])) (va_A [(sl, .inr (5, [.ref sh, .int (zI lc), .ref ru, .ref tr, .ref se])), zQ cL sh 6 sf, (ru, .inr (2, [.ref rh, .ref rt, va_rf rl, .int (zI rp), .int (zI oc)])), (lv, .inr (1, [.int (zI w), .int (zI h), .ref ka, .ref ta, .int (zI sx), .int (zI sy), .int (zI fx), .int (zI fy), .int (zI lf), .int (zI un)])), zA cI ka 96 K, zQ cT ta 4 tq, (tp 0, .inr (4, [.ref (ti 0), .int (zI (LN 0)), .int (zI (HF 0))])), (tp 1, .inr (4, [.ref (ti 1), .int (zI (LN 1)), .int (zI (HF 1))])), (tp 2, .inr (4, [.ref (ti 2), .int (zI (LN 2)), .int (zI (HF 2))])), (tp 3, .inr (4, [.ref (ti 3), .int (zI (LN 3)), .int (zI (HF 3))]))] sz)) 0 0 (va_A [(sl, .inr (5, [.ref sh, .int (zI lc), .ref ru, .ref tr, .ref se])), zQ cL sh 6 sf, (ru, .inr (2, [.ref rh, .ref rt, va_rf rl, .int (zI rp), .int (zI oc)])), (lv, .inr (1, [.int (zI w), .int (zI h), .ref ka, .ref ta, .int (zI sx), .int (zI sy), .int (zI fx), .int (zI fy), .int (zI lf), .int (zI un)])), zA cI ka 96 K, zQ cT ta 4 tq, (tp 0, .inr (4, [.ref (ti 0), .int (zI (LN 0)), .int (zI (HF 0))])), (tp 1, .inr (4, [.ref (ti 1), .int (zI (LN 1)), .int (zI (HF 1))])), (tp 2, .inr (4, [.ref (ti 2), .int (zI (LN 2)), .int (zI (HF 2))])), (tp 3, .inr (4, [.ref (ti 3), .int (zI (LN 3)), .int (zI (HF 3))]))] sz) := by
  refine va_MetW (cc := cL_setFlag) (maxL := 5) (ret := (some .int)) (by decide) rfl ?_
  intro p e s m args below meth c s₁ B hml hv
  obtain ⟨rfl, hsz, hP, hK, hD0⟩ := hv
  have hx := B.exec
  have hb := B.bytes
  have hr := B.returns
  have hts := atoms_spec (ws := wsL_setFlag) B.pre
  have hown : s.vm.findClass RL = some m.cls := findClass_of_methodNamed B.named
  have hlocks := B.notSynchronized
  subst hsz
  have hD := hD0.self (sz := s.heap.size)
  generalize hAe : va_A [(sl, .inr (5, [.ref sh, .int (zI lc), .ref ru, .ref tr, .ref se])), zQ cL sh 6 sf, (ru, .inr (2, [.ref rh, .ref rt, va_rf rl, .int (zI rp), .int (zI oc)])), (lv, .inr (1, [.int (zI w), .int (zI h), .ref ka, .ref ta, .int (zI sx), .int (zI sy), .int (zI fx), .int (zI fy), .int (zI lf), .int (zI un)])), zA cI ka 96 K, zQ cT ta 4 tq, (tp 0, .inr (4, [.ref (ti 0), .int (zI (LN 0)), .int (zI (HF 0))])), (tp 1, .inr (4, [.ref (ti 1), .int (zI (LN 1)), .int (zI (HF 1))])), (tp 2, .inr (4, [.ref (ti 2), .int (zI (LN 2)), .int (zI (HF 2))])), (tp 3, .inr (4, [.ref (ti 3), .int (zI (LN 3)), .int (zI (HF 3))]))] s.heap.size = A at hD ⊢
  have hA : ∀ q : Nat, s.heap.size ≤ q → A q := fun q h => by rw [← hAe]; exact Or.inr h
  clear hAe hD0
  have hS : va_S A s.heap s.heap [] := va_S.rf
  have hP : va_P (dC, dI) vwCl [(sl, .inr (5, [.ref sh, .int (zI lc), .ref ru, .ref tr, .ref se])), zQ cL sh 6 sf, (ru, .inr (2, [.ref rh, .ref rt, va_rf rl, .int (zI rp), .int (zI oc)])), (lv, .inr (1, [.int (zI w), .int (zI h), .ref ka, .ref ta, .int (zI sx), .int (zI sy), .int (zI fx), .int (zI fy), .int (zI lf), .int (zI un)])), zA cI ka 96 K, zQ cT ta 4 tq, (tp 0, .inr (4, [.ref (ti 0), .int (zI (LN 0)), .int (zI (HF 0))])), (tp 1, .inr (4, [.ref (ti 1), .int (zI (LN 1)), .int (zI (HF 1))])), (tp 2, .inr (4, [.ref (ti 2), .int (zI (LN 2)), .int (zI (HF 2))])), (tp 3, .inr (4, [.ref (ti 3), .int (zI (LN 3)), .int (zI (HF 3))]))] s.heap := hP
  have hl := lv_entry ([.ref sl, .int (zI L), .int (zI cx), .int (zI cy)]) (n := 5) (Nat.le_of_ble_eq_true rfl)
  rw [lg_entry_eq]
  generalize (lg_sl ([.ref sl, .int (zI L), .int (zI cx), .int (zI cy)]) ++ List.replicate (5 - (lg_sl ([.ref sl, .int (zI L), .int (zI cx), .int (zI cy)])).length) Slot.unset).toArray = ls at hl ⊢
  have hl : lv_has ls 5 [(0, .ref sl), (1, .int (zI L)), (2, .int (zI cx)), (3, .int (zI cy))] := hl
  refine lv_aload_n hx hb dL_setFlag_0 rfl (lv_at hl 0 rfl) ?_
  refine lv_iload_n hx hb dL_setFlag_1 rfl (lv_at hl 1 rfl) ?_
  refine lv_iload_n hx hb dL_setFlag_2 rfl (lv_at hl 2 rfl) ?_
  refine lv_iload_n hx hb dL_setFlag_3 rfl (lv_at hl 3 rfl) ?_
  have hPc := hP.sub (ws' := [(sl, .inr (5, [.ref sh, .int (zI lc), .ref ru, .ref tr, .ref se])), zQ cL sh 6 sf, (ru, .inr (2, [.ref rh, .ref rt, va_rf rl, .int (zI rp), .int (zI oc)])), (lv, .inr (1, [.int (zI w), .int (zI h), .ref ka, .ref ta, .int (zI sx), .int (zI sy), .int (zI fx), .int (zI fy), .int (zI lf), .int (zI un)])), zA cI ka 96 K, zQ cT ta 4 tq, (tp 0, .inr (4, [.ref (ti 0), .int (zI (LN 0)), .int (zI (HF 0))])), (tp 1, .inr (4, [.ref (ti 1), .int (zI (LN 1)), .int (zI (HF 1))])), (tp 2, .inr (4, [.ref (ti 2), .int (zI (LN 2)), .int (zI (HF 2))])), (tp 3, .inr (4, [.ref (ti 3), .int (zI (LN 3)), .int (zI (HF 3))]))]) [0, 1, 2, 3, 4, 5, 6, 7, 8, 9] rfl
  have hDc := hD.sub (ws' := [(sl, .inr (5, [.ref sh, .int (zI lc), .ref ru, .ref tr, .ref se])), zQ cL sh 6 sf, (ru, .inr (2, [.ref rh, .ref rt, va_rf rl, .int (zI rp), .int (zI oc)])), (lv, .inr (1, [.int (zI w), .int (zI h), .ref ka, .ref ta, .int (zI sx), .int (zI sy), .int (zI fx), .int (zI fy), .int (zI lf), .int (zI un)])), zA cI ka 96 K, zQ cT ta 4 tq, (tp 0, .inr (4, [.ref (ti 0), .int (zI (LN 0)), .int (zI (HF 0))])), (tp 1, .inr (4, [.ref (ti 1), .int (zI (LN 1)), .int (zI (HF 1))])), (tp 2, .inr (4, [.ref (ti 2), .int (zI (LN 2)), .int (zI (HF 2))])), (tp 3, .inr (4, [.ref (ti 3), .int (zI (LN 3)), .int (zI (HF 3))]))]) [0, 1, 2, 3, 4, 5, 6, 7, 8, 9] (by decide) rfl
  have hFc := va_free (wc := [(sl, .inr (5, [.ref sh, .int (zI lc), .ref ru, .ref tr, .ref se])), zQ cL sh 6 sf, (ru, .inr (2, [.ref rh, .ref rt, va_rf rl, .int (zI rp), .int (zI oc)])), (lv, .inr (1, [.int (zI w), .int (zI h), .ref ka, .ref ta, .int (zI sx), .int (zI sy), .int (zI fx), .int (zI fy), .int (zI lf), .int (zI un)])), zA cI ka 96 K, zQ cT ta 4 tq, (tp 0, .inr (4, [.ref (ti 0), .int (zI (LN 0)), .int (zI (HF 0))])), (tp 1, .inr (4, [.ref (ti 1), .int (zI (LN 1)), .int (zI (HF 1))])), (tp 2, .inr (4, [.ref (ti 2), .int (zI (LN 2)), .int (zI (HF 2))])), (tp 3, .inr (4, [.ref (ti 3), .int (zI (LN 3)), .int (zI (HF 3))]))]) hD hS hA [0, 1, 2, 3, 4, 5, 6, 7, 8, 9] rfl
  refine va_callv (va_runV (As := [.int (zI L), .int (zI cx), .int (zI cy)]) (rest := []) ⟨hx, hb, hml, hown, hts⟩ (c_X5_setFlag l dC dI cI cZ cL cT cJ s.heap.size sl sh lc ru tr se sf L k rh rt rp oc rl lv w h ka ta sx sy fx fy lf un K tq tp ti LN HF cx cy (by first | assumption | omega) (by first | assumption | omega) (by first | assumption | omega) (by first | assumption | omega) (by first | assumption | omega) (by first | assumption | omega) (by first | assumption | omega) (by first | assumption | omega) (by first | assumption | omega)) (cwV 3 hts gL_setFlag_X5_setFlag rfl rfl rfl (by decide +kernel) ⟨Nat.le_of_ble_eq_true rfl, Nat.le_of_ble_eq_true rfl⟩) ⟨zP_blind, va_recv hK hPc (ci := 5) (q0 := 0) rfl rfl, zP_pre hPc hDc hK⟩ rfl rfl hl.1 rfl (lv_room (Nat.le_of_ble_eq_true rfl)) dL_setFlag_4 ⟨Nat.le_of_ble_eq_true rfl, Nat.le_of_ble_eq_true rfl⟩) hS (fun q _ h => hFc q h) hFc (fun u_1 t H1 locs ht hvm hw hB hz1 hk1 hS => ?_)
  obtain ⟨rl1_2, rfl⟩ : ∃ z, z = u_1 := ⟨_, rfl⟩
  obtain ⟨hP1, hK1, hD1⟩ := hB
  rw [ht] at hP1
  have hP1 : va_P (dC, dI) vwCl [(sl, .inr (5, [.ref sh, .int (zI lc), .ref ru, .ref tr, .ref se])), zQ cL sh 6 sf, (ru, .inr (2, [.ref rh, .ref rt, va_rf rl1_2, .int (zI rp), .int (zI oc)])), (lv, .inr (1, [.int (zI w), .int (zI h), .ref ka, .ref ta, .int (zI sx), .int (zI sy), .int (zI cx), .int (zI cy), .int (zI (-1)), .int (zI 0)])), zA cI ka 96 K, zQ cT ta 4 tq, (tp 0, .inr (4, [.ref (ti 0), .int (zI (-1)), .int (zI (-1))])), (tp 1, .inr (4, [.ref (ti 1), .int (zI (-1)), .int (zI (-1))])), (tp 2, .inr (4, [.ref (ti 2), .int (zI (-1)), .int (zI (-1))])), (tp 3, .inr (4, [.ref (ti 3), .int (zI (-1)), .int (zI (-1))]))] H1 := hP1
  obtain ⟨hP, hD⟩ := va_join (wr := []) (w1 := [(sl, .inr (5, [.ref sh, .int (zI lc), .ref ru, .ref tr, .ref se])), zQ cL sh 6 sf, (ru, .inr (2, [.ref rh, .ref rt, va_rf rl1_2, .int (zI rp), .int (zI oc)])), (lv, .inr (1, [.int (zI w), .int (zI h), .ref ka, .ref ta, .int (zI sx), .int (zI sy), .int (zI cx), .int (zI cy), .int (zI (-1)), .int (zI 0)])), zA cI ka 96 K, zQ cT ta 4 tq, (tp 0, .inr (4, [.ref (ti 0), .int (zI (-1)), .int (zI (-1))])), (tp 1, .inr (4, [.ref (ti 1), .int (zI (-1)), .int (zI (-1))])), (tp 2, .inr (4, [.ref (ti 2), .int (zI (-1)), .int (zI (-1))])), (tp 3, .inr (4, [.ref (ti 3), .int (zI (-1)), .int (zI (-1))]))]) hP hD [0, 1, 2, 3, 4, 5, 6, 7, 8, 9] [] rfl rfl (by decide) (by decide) hk1 hFc hP1 hD1
  clear hP1 hD1 hk1 hFc hPc hDc hz1
  generalize H1 = H at hP hS ⊢
  have hP : va_P (dC, dI) vwCl [(sl, .inr (5, [.ref sh, .int (zI lc), .ref ru, .ref tr, .ref se])), zQ cL sh 6 sf, (ru, .inr (2, [.ref rh, .ref rt, va_rf rl1_2, .int (zI rp), .int (zI oc)])), (lv, .inr (1, [.int (zI w), .int (zI h), .ref ka, .ref ta, .int (zI sx), .int (zI sy), .int (zI cx), .int (zI cy), .int (zI (-1)), .int (zI 0)])), zA cI ka 96 K, zQ cT ta 4 tq, (tp 0, .inr (4, [.ref (ti 0), .int (zI (-1)), .int (zI (-1))])), (tp 1, .inr (4, [.ref (ti 1), .int (zI (-1)), .int (zI (-1))])), (tp 2, .inr (4, [.ref (ti 2), .int (zI (-1)), .int (zI (-1))])), (tp 3, .inr (4, [.ref (ti 3), .int (zI (-1)), .int (zI (-1))]))] H := hP.sub [0, 1, 2, 3, 4, 5, 6, 7, 8, 9] rfl
  have hD : va_D A [(sl, .inr (5, [.ref sh, .int (zI lc), .ref ru, .ref tr, .ref se])), zQ cL sh 6 sf, (ru, .inr (2, [.ref rh, .ref rt, va_rf rl1_2, .int (zI rp), .int (zI oc)])), (lv, .inr (1, [.int (zI w), .int (zI h), .ref ka, .ref ta, .int (zI sx), .int (zI sy), .int (zI cx), .int (zI cy), .int (zI (-1)), .int (zI 0)])), zA cI ka 96 K, zQ cT ta 4 tq, (tp 0, .inr (4, [.ref (ti 0), .int (zI (-1)), .int (zI (-1))])), (tp 1, .inr (4, [.ref (ti 1), .int (zI (-1)), .int (zI (-1))])), (tp 2, .inr (4, [.ref (ti 2), .int (zI (-1)), .int (zI (-1))])), (tp 3, .inr (4, [.ref (ti 3), .int (zI (-1)), .int (zI (-1))]))] := hD.sub [0, 1, 2, 3, 4, 5, 6, 7, 8, 9] (by decide) rfl
  clear hK1 hvm
  have po_3 : rl1_2 = (if rl = some lv then none else rl) := hw
  refine W.eq (g2 := F0 m 7 ls []) rfl ?_
  refine lv_goto (tgt := 18) hx hb dL_setFlag_7 (by decide) ?_
  refine lv_iconst (v := zI 0) hx hb dL_setFlag_18 (rfl) ?_
  have hP9 := hP.sub (ws' := [(sl, .inr (5, [.ref sh, .int (zI lc), .ref ru, .ref tr, .ref se])), zQ cL sh 6 sf, (ru, .inr (2, [.ref rh, .ref rt, va_rf rl1_2, .int (zI rp), .int (zI oc)])), (lv, .inr (1, [.int (zI w), .int (zI h), .ref ka, .ref ta, .int (zI sx), .int (zI sy), .int (zI cx), .int (zI cy), .int (zI (-1)), .int (zI 0)])), zA cI ka 96 K, zQ cT ta 4 tq, (tp 0, .inr (4, [.ref (ti 0), .int (zI (-1)), .int (zI (-1))])), (tp 1, .inr (4, [.ref (ti 1), .int (zI (-1)), .int (zI (-1))])), (tp 2, .inr (4, [.ref (ti 2), .int (zI (-1)), .int (zI (-1))])), (tp 3, .inr (4, [.ref (ti 3), .int (zI (-1)), .int (zI (-1))]))]) [0, 1, 2, 3, 4, 5, 6, 7, 8, 9] rfl
  have hD9 := hD.sub (ws' := [(sl, .inr (5, [.ref sh, .int (zI lc), .ref ru, .ref tr, .ref se])), zQ cL sh 6 sf, (ru, .inr (2, [.ref rh, .ref rt, va_rf rl1_2, .int (zI rp), .int (zI oc)])), (lv, .inr (1, [.int (zI w), .int (zI h), .ref ka, .ref ta, .int (zI sx), .int (zI sy), .int (zI cx), .int (zI cy), .int (zI (-1)), .int (zI 0)])), zA cI ka 96 K, zQ cT ta 4 tq, (tp 0, .inr (4, [.ref (ti 0), .int (zI (-1)), .int (zI (-1))])), (tp 1, .inr (4, [.ref (ti 1), .int (zI (-1)), .int (zI (-1))])), (tp 2, .inr (4, [.ref (ti 2), .int (zI (-1)), .int (zI (-1))])), (tp 3, .inr (4, [.ref (ti 3), .int (zI (-1)), .int (zI (-1))]))]) [0, 1, 2, 3, 4, 5, 6, 7, 8, 9] (by decide) rfl
  have po : zI 0 = zI 0 ∧ (rl1_2 = (if rl = some lv then none else rl)) := by
    refine ⟨by first | rfl | (congr 1; omega) | (congr 1; simp [*]), ?_⟩
    exact po_3
  exact W.iret (v := zI 0) hx hb hr (fun t ht hW => ⟨⟨zI 0, rl1_2, rfl, po, by rw [ht]; exact hP9, va_K.moved hW.alike hK, hD9⟩, hS.F ht⟩) hS.2.2 dL_setFlag_19
set_option maxHeartbeats 4000000 in
set_option maxRecDepth 100000 in
theorem c_L_grow (l : Launch) (dC : Nat → ClassId) (dI : Nat → Nat → Nat) (cI cZ cL cT cJ : ClassId) (sz : Nat) (sl : Nat) (sh : Nat) (lc : Int) (ru : Nat) (tr : Nat) (se : Nat) (sf : Nat → Option Nat) (L : Int) (k : Nat) (rh : Nat) (rt : Nat) (rp : Int) (oc : Int) (rl : Option Nat) (lv : Nat) (w : Int) (h : Int) (ka : Nat) (ta : Nat) (sx : Int) (sy : Int) (fx : Int) (fy : Int) (lf : Int) (un : Int) (K : Int → Int) (tq : Nat → Option Nat) (tp : Nat → Nat) (ti : Nat → Nat) (LN : Nat → Int) (HF : Nat → Int) (sd : Int) (ou : Nat) (OU : Nat → Int64) (gk : L = (k : Int) ∧ k < 6) (gf : sf k = some lv) (gw : 0 < w ∧ w ≤ 12) (gh : 0 < h ∧ h ≤ 8) (gK : Kin K) (gsx : 0 ≤ sx ∧ sx < w) (gsy : 0 ≤ sy ∧ sy < h) (gfx : 0 ≤ fx ∧ fx < w) (gfy : 0 ≤ fy ∧ fy < h) (gt : ∀ k, k < 4 → tq k = some (tp k)) (gd : 0 ≤ sd ∧ sd ≤ 65535) : Met l yL_grow wsL_grow ({ frames := 4, cells := 0, slots := 0, locals := 93 }) (zP (dC, dI) (zT cI cZ cL cT cJ) sz [.ref sl, .int (zI L), .int (zI sd), .ref ou] [(sl, .inr (5, [.ref sh, .int (zI lc), .ref ru, .ref tr, .ref se])), zQ cL sh 6 sf, (ru, .inr (2, [.ref rh, .ref rt, va_rf rl, .int (zI rp), .int (zI oc)])), (lv, .inr (1, [.int (zI w), .int (zI h), .ref ka, .ref ta, .int (zI sx), .int (zI sy), .int (zI fx), .int (zI fy), .int (zI lf), .int (zI un)])), zA cI ka 96 K, zQ cT ta 4 tq, (tp 0, .inr (4, [.ref (ti 0), .int (zI (LN 0)), .int (zI (HF 0))])), (tp 1, .inr (4, [.ref (ti 1), .int (zI (LN 1)), .int (zI (HF 1))])), (tp 2, .inr (4, [.ref (ti 2), .int (zI (LN 2)), .int (zI (HF 2))])), (tp 3, .inr (4, [.ref (ti 3), .int (zI (LN 3)), .int (zI (HF 3))])), (ou, .inl (cJ, 1, .inr (.inl OU)))]) (va_Qi (fun (r9 : Int32) (u9 : (Option Nat) × (Int → Int) × Int × (Nat → Int64)) => match u9 with | (rl1, K1, rr, OU1) => r9 = zI 0 ∧ ((rl1 = (if rl = some lv then none else rl) ∧ (Kin K1 ∧ ∀ x y, 0 ≤ x → x < w → 0 ≤ y → y < h → K1 (y * 12 + x) = if (x = sx ∧ y = sy) ∨ (x = fx ∧ y = fy) then 0 else gcl sd w h x y) ∧ rr = ctt (fun y x => K1 (y * 12 + x)) w.toNat h.toNat) ∧ OU1 0 = (zI rr).toInt64)) (zB (dC, dI) (zT cI cZ cL cT cJ) (va_A [(sl, .inr (5, [.ref sh, .int (zI lc), .ref ru, .ref tr, .ref se])), zQ cL sh 6 sf, (ru, .inr (2, [.ref rh, .ref rt, va_rf rl, .int (zI rp), .int (zI oc)])), (lv, .inr (1, [.int (zI w), .int (zI h), .ref ka, .ref ta, .int (zI sx), .int (zI sy), .int (zI fx), .int (zI fy), .int (zI lf), .int (zI un)])), zA cI ka 96 K, zQ cT ta 4 tq, (tp 0, .inr (4, [.ref (ti 0), .int (zI (LN 0)), .int (zI (HF 0))])), (tp 1, .inr (4, [.ref (ti 1), .int (zI (LN 1)), .int (zI (HF 1))])), (tp 2, .inr (4, [.ref (ti 2), .int (zI (LN 2)), .int (zI (HF 2))])), (tp 3, .inr (4, [.ref (ti 3), .int (zI (LN 3)), .int (zI (HF 3))])), (ou, .inl (cJ, 1, .inr (.inl OU)))] sz) (fun (u9 : (Option Nat) × (Int → Int) × Int × (Nat → Int64)) => match u9 with | (rl1, K1, rr, OU1) => [(sl, .inr (5, [.ref sh, .int (zI lc), .ref ru, .ref tr, .ref se])), zQ cL sh 6 sf, (ru, .inr (2, [.ref rh, .ref rt, va_rf rl1, .int (zI rp), .int (zI oc)])), (lv, .inr (1, [.int (zI w), .int (zI h), .ref ka, .ref ta, .int (zI sx), .int (zI sy), .int (zI fx), .int (zI fy), .int (zI (-1)), .int (zI 0)])), zA cI ka 96 K1, zQ cT ta 4 tq, (tp 0, .inr (4, [.ref (ti 0), .int (zI (-1)), .int (zI (-1))])), (tp 1, .inr (4, [.ref (ti 1), .int (zI (-1)), .int (zI (-1))])), (tp 2, .inr (4, [.ref (ti 2), .int (zI (-1)), .int (zI (-1))])), (tp 3, .inr (4, [.ref (ti 3), .int (zI (-1)), .int (zI (-1))])), (ou, .inl (cJ, 1, .inr (.inl OU1)))])) (va_A [(sl, .inr (5, [.ref sh, .int (zI lc), .ref ru, .ref tr, .ref se])), zQ cL sh 6 sf, (ru, .inr (2, [.ref rh, .ref rt, va_rf rl, .int (zI rp), .int (zI oc)])), (lv, .inr (1, [.int (zI w), .int (zI h), .ref ka, .ref ta, .int (zI sx), .int (zI sy), .int (zI fx), .int (zI fy), .int (zI lf), .int (zI un)])), zA cI ka 96 K, zQ cT ta 4 tq, (tp 0, .inr (4, [.ref (ti 0), .int (zI (LN 0)), .int (zI (HF 0))])), (tp 1, .inr (4, [.ref (ti 1), .int (zI (LN 1)), .int (zI (HF 1))])), (tp 2, .inr (4, [.ref (ti 2), .int (zI (LN 2)), .int (zI (HF 2))])), (tp 3, .inr (4, [.ref (ti 3), .int (zI (LN 3)), .int (zI (HF 3))])), (ou, .inl (cJ, 1, .inr (.inl OU)))] sz)) 0 0 (va_A [(sl, .inr (5, [.ref sh, .int (zI lc), .ref ru, .ref tr, .ref se])), zQ cL sh 6 sf, (ru, .inr (2, [.ref rh, .ref rt, va_rf rl, .int (zI rp), .int (zI oc)])), (lv, .inr (1, [.int (zI w), .int (zI h), .ref ka, .ref ta, .int (zI sx), .int (zI sy), .int (zI fx), .int (zI fy), .int (zI lf), .int (zI un)])), zA cI ka 96 K, zQ cT ta 4 tq, (tp 0, .inr (4, [.ref (ti 0), .int (zI (LN 0)), .int (zI (HF 0))])), (tp 1, .inr (4, [.ref (ti 1), .int (zI (LN 1)), .int (zI (HF 1))])), (tp 2, .inr (4, [.ref (ti 2), .int (zI (LN 2)), .int (zI (HF 2))])), (tp 3, .inr (4, [.ref (ti 3), .int (zI (LN 3)), .int (zI (HF 3))])), (ou, .inl (cJ, 1, .inr (.inl OU)))] sz) := by
  refine va_MetW (cc := cL_grow) (maxL := 5) (ret := (some .int)) (by decide) rfl ?_
  intro p e s m args below meth c s₁ B hml hv
  obtain ⟨rfl, hsz, hP, hK, hD0⟩ := hv
  have hx := B.exec
  have hb := B.bytes
  have hr := B.returns
  have hts := atoms_spec (ws := wsL_grow) B.pre
  have hown : s.vm.findClass RL = some m.cls := findClass_of_methodNamed B.named
  have hlocks := B.notSynchronized
  subst hsz
  have hD := hD0.self (sz := s.heap.size)
  generalize hAe : va_A [(sl, .inr (5, [.ref sh, .int (zI lc), .ref ru, .ref tr, .ref se])), zQ cL sh 6 sf, (ru, .inr (2, [.ref rh, .ref rt, va_rf rl, .int (zI rp), .int (zI oc)])), (lv, .inr (1, [.int (zI w), .int (zI h), .ref ka, .ref ta, .int (zI sx), .int (zI sy), .int (zI fx), .int (zI fy), .int (zI lf), .int (zI un)])), zA cI ka 96 K, zQ cT ta 4 tq, (tp 0, .inr (4, [.ref (ti 0), .int (zI (LN 0)), .int (zI (HF 0))])), (tp 1, .inr (4, [.ref (ti 1), .int (zI (LN 1)), .int (zI (HF 1))])), (tp 2, .inr (4, [.ref (ti 2), .int (zI (LN 2)), .int (zI (HF 2))])), (tp 3, .inr (4, [.ref (ti 3), .int (zI (LN 3)), .int (zI (HF 3))])), (ou, .inl (cJ, 1, .inr (.inl OU)))] s.heap.size = A at hD ⊢
  have hA : ∀ q : Nat, s.heap.size ≤ q → A q := fun q h => by rw [← hAe]; exact Or.inr h
  clear hAe hD0
  have hS : va_S A s.heap s.heap [] := va_S.rf
  have hP : va_P (dC, dI) vwCl [(sl, .inr (5, [.ref sh, .int (zI lc), .ref ru, .ref tr, .ref se])), zQ cL sh 6 sf, (ru, .inr (2, [.ref rh, .ref rt, va_rf rl, .int (zI rp), .int (zI oc)])), (lv, .inr (1, [.int (zI w), .int (zI h), .ref ka, .ref ta, .int (zI sx), .int (zI sy), .int (zI fx), .int (zI fy), .int (zI lf), .int (zI un)])), zA cI ka 96 K, zQ cT ta 4 tq, (tp 0, .inr (4, [.ref (ti 0), .int (zI (LN 0)), .int (zI (HF 0))])), (tp 1, .inr (4, [.ref (ti 1), .int (zI (LN 1)), .int (zI (HF 1))])), (tp 2, .inr (4, [.ref (ti 2), .int (zI (LN 2)), .int (zI (HF 2))])), (tp 3, .inr (4, [.ref (ti 3), .int (zI (LN 3)), .int (zI (HF 3))])), (ou, .inl (cJ, 1, .inr (.inl OU)))] s.heap := hP
  have hl := lv_entry ([.ref sl, .int (zI L), .int (zI sd), .ref ou]) (n := 5) (Nat.le_of_ble_eq_true rfl)
  rw [lg_entry_eq]
  generalize (lg_sl ([.ref sl, .int (zI L), .int (zI sd), .ref ou]) ++ List.replicate (5 - (lg_sl ([.ref sl, .int (zI L), .int (zI sd), .ref ou])).length) Slot.unset).toArray = ls at hl ⊢
  have hl : lv_has ls 5 [(0, .ref sl), (1, .int (zI L)), (2, .int (zI sd)), (3, .ref ou)] := hl
  refine lv_aload_n hx hb dL_grow_0 rfl (lv_at hl 3 rfl) ?_
  refine lv_iconst (v := zI 0) hx hb dL_grow_1 (rfl) ?_
  refine lv_aload_n hx hb dL_grow_2 rfl (lv_at hl 0 rfl) ?_
  refine lv_iload_n hx hb dL_grow_3 rfl (lv_at hl 1 rfl) ?_
  refine lv_iload_n hx hb dL_grow_4 rfl (lv_at hl 2 rfl) ?_
  have hPc := hP.sub (ws' := [(sl, .inr (5, [.ref sh, .int (zI lc), .ref ru, .ref tr, .ref se])), zQ cL sh 6 sf, (ru, .inr (2, [.ref rh, .ref rt, va_rf rl, .int (zI rp), .int (zI oc)])), (lv, .inr (1, [.int (zI w), .int (zI h), .ref ka, .ref ta, .int (zI sx), .int (zI sy), .int (zI fx), .int (zI fy), .int (zI lf), .int (zI un)])), zA cI ka 96 K, zQ cT ta 4 tq, (tp 0, .inr (4, [.ref (ti 0), .int (zI (LN 0)), .int (zI (HF 0))])), (tp 1, .inr (4, [.ref (ti 1), .int (zI (LN 1)), .int (zI (HF 1))])), (tp 2, .inr (4, [.ref (ti 2), .int (zI (LN 2)), .int (zI (HF 2))])), (tp 3, .inr (4, [.ref (ti 3), .int (zI (LN 3)), .int (zI (HF 3))]))]) [0, 1, 2, 3, 4, 5, 6, 7, 8, 9] rfl
  have hDc := hD.sub (ws' := [(sl, .inr (5, [.ref sh, .int (zI lc), .ref ru, .ref tr, .ref se])), zQ cL sh 6 sf, (ru, .inr (2, [.ref rh, .ref rt, va_rf rl, .int (zI rp), .int (zI oc)])), (lv, .inr (1, [.int (zI w), .int (zI h), .ref ka, .ref ta, .int (zI sx), .int (zI sy), .int (zI fx), .int (zI fy), .int (zI lf), .int (zI un)])), zA cI ka 96 K, zQ cT ta 4 tq, (tp 0, .inr (4, [.ref (ti 0), .int (zI (LN 0)), .int (zI (HF 0))])), (tp 1, .inr (4, [.ref (ti 1), .int (zI (LN 1)), .int (zI (HF 1))])), (tp 2, .inr (4, [.ref (ti 2), .int (zI (LN 2)), .int (zI (HF 2))])), (tp 3, .inr (4, [.ref (ti 3), .int (zI (LN 3)), .int (zI (HF 3))]))]) [0, 1, 2, 3, 4, 5, 6, 7, 8, 9] (by decide) rfl
  have hFc := va_free (wc := [(sl, .inr (5, [.ref sh, .int (zI lc), .ref ru, .ref tr, .ref se])), zQ cL sh 6 sf, (ru, .inr (2, [.ref rh, .ref rt, va_rf rl, .int (zI rp), .int (zI oc)])), (lv, .inr (1, [.int (zI w), .int (zI h), .ref ka, .ref ta, .int (zI sx), .int (zI sy), .int (zI fx), .int (zI fy), .int (zI lf), .int (zI un)])), zA cI ka 96 K, zQ cT ta 4 tq, (tp 0, .inr (4, [.ref (ti 0), .int (zI (LN 0)), .int (zI (HF 0))])), (tp 1, .inr (4, [.ref (ti 1), .int (zI (LN 1)), .int (zI (HF 1))])), (tp 2, .inr (4, [.ref (ti 2), .int (zI (LN 2)), .int (zI (HF 2))])), (tp 3, .inr (4, [.ref (ti 3), .int (zI (LN 3)), .int (zI (HF 3))]))]) hD hS hA [0, 1, 2, 3, 4, 5, 6, 7, 8, 9] rfl
  refine va_calli (va_runV (As := [.int (zI L), .int (zI sd)]) (rest := [.int (zI 0), .ref ou]) ⟨hx, hb, hml, hown, hts⟩ (c_X5_grow l dC dI cI cZ cL cT cJ s.heap.size sl sh lc ru tr se sf L k rh rt rp oc rl lv w h ka ta sx sy fx fy lf un K tq tp ti LN HF sd (by first | assumption | omega) (by first | assumption | omega) (by first | assumption | omega) (by first | assumption | omega) (by first | assumption | omega) (by first | assumption | omega) (by first | assumption | omega) (by first | assumption | omega) (by first | assumption | omega) (by first | assumption | omega) (by first | assumption | omega)) (cwV 2 hts gL_grow_X5_grow rfl rfl rfl (by decide +kernel) ⟨Nat.le_of_ble_eq_true rfl, Nat.le_of_ble_eq_true rfl⟩) ⟨zP_blind, va_recv hK hPc (ci := 5) (q0 := 0) rfl rfl, zP_pre hPc hDc hK⟩ rfl rfl hl.1 rfl (lv_room (Nat.le_of_ble_eq_true rfl)) dL_grow_5 ⟨Nat.le_of_ble_eq_true rfl, Nat.le_of_ble_eq_true rfl⟩) hS (fun q _ h => hFc q h) hFc (fun r_1 u_1 t H1 locs ht hvm hw hB hz1 hk1 hS => ?_)
  obtain ⟨rl1_2, K1_3, rr_4⟩ := u_1
  obtain ⟨hP1, hK1, hD1⟩ := hB
  rw [ht] at hP1
  have hP1 : va_P (dC, dI) vwCl [(sl, .inr (5, [.ref sh, .int (zI lc), .ref ru, .ref tr, .ref se])), zQ cL sh 6 sf, (ru, .inr (2, [.ref rh, .ref rt, va_rf rl1_2, .int (zI rp), .int (zI oc)])), (lv, .inr (1, [.int (zI w), .int (zI h), .ref ka, .ref ta, .int (zI sx), .int (zI sy), .int (zI fx), .int (zI fy), .int (zI (-1)), .int (zI 0)])), zA cI ka 96 K1_3, zQ cT ta 4 tq, (tp 0, .inr (4, [.ref (ti 0), .int (zI (-1)), .int (zI (-1))])), (tp 1, .inr (4, [.ref (ti 1), .int (zI (-1)), .int (zI (-1))])), (tp 2, .inr (4, [.ref (ti 2), .int (zI (-1)), .int (zI (-1))])), (tp 3, .inr (4, [.ref (ti 3), .int (zI (-1)), .int (zI (-1))]))] H1 := hP1
  obtain ⟨hP, hD⟩ := va_join (wr := [(ou, .inl (cJ, 1, .inr (.inl OU)))]) (w1 := [(sl, .inr (5, [.ref sh, .int (zI lc), .ref ru, .ref tr, .ref se])), zQ cL sh 6 sf, (ru, .inr (2, [.ref rh, .ref rt, va_rf rl1_2, .int (zI rp), .int (zI oc)])), (lv, .inr (1, [.int (zI w), .int (zI h), .ref ka, .ref ta, .int (zI sx), .int (zI sy), .int (zI fx), .int (zI fy), .int (zI (-1)), .int (zI 0)])), zA cI ka 96 K1_3, zQ cT ta 4 tq, (tp 0, .inr (4, [.ref (ti 0), .int (zI (-1)), .int (zI (-1))])), (tp 1, .inr (4, [.ref (ti 1), .int (zI (-1)), .int (zI (-1))])), (tp 2, .inr (4, [.ref (ti 2), .int (zI (-1)), .int (zI (-1))])), (tp 3, .inr (4, [.ref (ti 3), .int (zI (-1)), .int (zI (-1))]))]) hP hD [0, 1, 2, 3, 4, 5, 6, 7, 8, 9] [10] rfl rfl (by decide) (by decide) hk1 hFc hP1 hD1
  clear hP1 hD1 hk1 hFc hPc hDc hz1
  generalize H1 = H at hP hS ⊢
  have hP : va_P (dC, dI) vwCl [(sl, .inr (5, [.ref sh, .int (zI lc), .ref ru, .ref tr, .ref se])), zQ cL sh 6 sf, (ru, .inr (2, [.ref rh, .ref rt, va_rf rl1_2, .int (zI rp), .int (zI oc)])), (lv, .inr (1, [.int (zI w), .int (zI h), .ref ka, .ref ta, .int (zI sx), .int (zI sy), .int (zI fx), .int (zI fy), .int (zI (-1)), .int (zI 0)])), zA cI ka 96 K1_3, zQ cT ta 4 tq, (tp 0, .inr (4, [.ref (ti 0), .int (zI (-1)), .int (zI (-1))])), (tp 1, .inr (4, [.ref (ti 1), .int (zI (-1)), .int (zI (-1))])), (tp 2, .inr (4, [.ref (ti 2), .int (zI (-1)), .int (zI (-1))])), (tp 3, .inr (4, [.ref (ti 3), .int (zI (-1)), .int (zI (-1))])), (ou, .inl (cJ, 1, .inr (.inl OU)))] H := hP.sub [1, 2, 3, 4, 5, 6, 7, 8, 9, 10, 0] rfl
  have hD : va_D A [(sl, .inr (5, [.ref sh, .int (zI lc), .ref ru, .ref tr, .ref se])), zQ cL sh 6 sf, (ru, .inr (2, [.ref rh, .ref rt, va_rf rl1_2, .int (zI rp), .int (zI oc)])), (lv, .inr (1, [.int (zI w), .int (zI h), .ref ka, .ref ta, .int (zI sx), .int (zI sy), .int (zI fx), .int (zI fy), .int (zI (-1)), .int (zI 0)])), zA cI ka 96 K1_3, zQ cT ta 4 tq, (tp 0, .inr (4, [.ref (ti 0), .int (zI (-1)), .int (zI (-1))])), (tp 1, .inr (4, [.ref (ti 1), .int (zI (-1)), .int (zI (-1))])), (tp 2, .inr (4, [.ref (ti 2), .int (zI (-1)), .int (zI (-1))])), (tp 3, .inr (4, [.ref (ti 3), .int (zI (-1)), .int (zI (-1))])), (ou, .inl (cJ, 1, .inr (.inl OU)))] := hD.sub [1, 2, 3, 4, 5, 6, 7, 8, 9, 10, 0] (by decide) rfl
  clear hK1 hvm
  obtain ⟨rfl, po_5⟩ := hw
  have po_5 : rl1_2 = (if rl = some lv then none else rl) ∧ (Kin K1_3 ∧ ∀ x y, 0 ≤ x → x < w → 0 ≤ y → y < h → K1_3 (y * 12 + x) = if (x = sx ∧ y = sy) ∨ (x = fx ∧ y = fy) then 0 else gcl sd w h x y) ∧ rr_4 = ctt (fun y x => K1_3 (y * 12 + x)) w.toNat h.toNat := po_5
  refine W.eq (g2 := F0 m 8 ls [.int (zI rr_4), .int (zI 0), .ref ou]) rfl ?_
  refine lv_i2l (v := (zI rr_4).toInt64) hx hb dL_grow_8 rfl ?_
  refine va_last (n := 1) (f := OU) (i := zI 0) (x := (zI rr_4).toInt64) hx hb hK hP hD hS 10 4 rfl rfl (zI_in (by decide) (by decide) (by decide)) dL_grow_9 (fun H locs hP hD hS => ?_)
  have hP : va_P (dC, dI) vwCl [(sl, .inr (5, [.ref sh, .int (zI lc), .ref ru, .ref tr, .ref se])), zQ cL sh 6 sf, (ru, .inr (2, [.ref rh, .ref rt, va_rf rl1_2, .int (zI rp), .int (zI oc)])), (lv, .inr (1, [.int (zI w), .int (zI h), .ref ka, .ref ta, .int (zI sx), .int (zI sy), .int (zI fx), .int (zI fy), .int (zI (-1)), .int (zI 0)])), zA cI ka 96 K1_3, zQ cT ta 4 tq, (tp 0, .inr (4, [.ref (ti 0), .int (zI (-1)), .int (zI (-1))])), (tp 1, .inr (4, [.ref (ti 1), .int (zI (-1)), .int (zI (-1))])), (tp 2, .inr (4, [.ref (ti 2), .int (zI (-1)), .int (zI (-1))])), (tp 3, .inr (4, [.ref (ti 3), .int (zI (-1)), .int (zI (-1))])), (ou, .inl (cJ, 1, .inr (.inl (vp_updL OU (zI 0).toNatClampNeg ((zI rr_4).toInt64)))))] H := hP
  have hD : va_D A [(sl, .inr (5, [.ref sh, .int (zI lc), .ref ru, .ref tr, .ref se])), zQ cL sh 6 sf, (ru, .inr (2, [.ref rh, .ref rt, va_rf rl1_2, .int (zI rp), .int (zI oc)])), (lv, .inr (1, [.int (zI w), .int (zI h), .ref ka, .ref ta, .int (zI sx), .int (zI sy), .int (zI fx), .int (zI fy), .int (zI (-1)), .int (zI 0)])), zA cI ka 96 K1_3, zQ cT ta 4 tq, (tp 0, .inr (4, [.ref (ti 0), .int (zI (-1)), .int (zI (-1))])), (tp 1, .inr (4, [.ref (ti 1), .int (zI (-1)), .int (zI (-1))])), (tp 2, .inr (4, [.ref (ti 2), .int (zI (-1)), .int (zI (-1))])), (tp 3, .inr (4, [.ref (ti 3), .int (zI (-1)), .int (zI (-1))])), (ou, .inl (cJ, 1, .inr (.inl (vp_updL OU (zI 0).toNatClampNeg ((zI rr_4).toInt64)))))] := hD
  refine lv_goto (tgt := 21) hx hb dL_grow_10 (by decide) ?_
  refine lv_iconst (v := zI 0) hx hb dL_grow_21 (rfl) ?_
  have hP9 := hP.sub (ws' := [(sl, .inr (5, [.ref sh, .int (zI lc), .ref ru, .ref tr, .ref se])), zQ cL sh 6 sf, (ru, .inr (2, [.ref rh, .ref rt, va_rf rl1_2, .int (zI rp), .int (zI oc)])), (lv, .inr (1, [.int (zI w), .int (zI h), .ref ka, .ref ta, .int (zI sx), .int (zI sy), .int (zI fx), .int (zI fy), .int (zI (-1)), .int (zI 0)])), zA cI ka 96 K1_3, zQ cT ta 4 tq, (tp 0, .inr (4, [.ref (ti 0), .int (zI (-1)), .int (zI (-1))])), (tp 1, .inr (4, [.ref (ti 1), .int (zI (-1)), .int (zI (-1))])), (tp 2, .inr (4, [.ref (ti 2), .int (zI (-1)), .int (zI (-1))])), (tp 3, .inr (4, [.ref (ti 3), .int (zI (-1)), .int (zI (-1))])), (ou, .inl (cJ, 1, .inr (.inl (vp_updL OU (zI 0).toNatClampNeg ((zI rr_4).toInt64)))))]) [0, 1, 2, 3, 4, 5, 6, 7, 8, 9, 10] rfl
  have hD9 := hD.sub (ws' := [(sl, .inr (5, [.ref sh, .int (zI lc), .ref ru, .ref tr, .ref se])), zQ cL sh 6 sf, (ru, .inr (2, [.ref rh, .ref rt, va_rf rl1_2, .int (zI rp), .int (zI oc)])), (lv, .inr (1, [.int (zI w), .int (zI h), .ref ka, .ref ta, .int (zI sx), .int (zI sy), .int (zI fx), .int (zI fy), .int (zI (-1)), .int (zI 0)])), zA cI ka 96 K1_3, zQ cT ta 4 tq, (tp 0, .inr (4, [.ref (ti 0), .int (zI (-1)), .int (zI (-1))])), (tp 1, .inr (4, [.ref (ti 1), .int (zI (-1)), .int (zI (-1))])), (tp 2, .inr (4, [.ref (ti 2), .int (zI (-1)), .int (zI (-1))])), (tp 3, .inr (4, [.ref (ti 3), .int (zI (-1)), .int (zI (-1))])), (ou, .inl (cJ, 1, .inr (.inl (vp_updL OU (zI 0).toNatClampNeg ((zI rr_4).toInt64)))))]) [0, 1, 2, 3, 4, 5, 6, 7, 8, 9, 10] (by decide) rfl
  have po : zI 0 = zI 0 ∧ ((rl1_2 = (if rl = some lv then none else rl) ∧ (Kin K1_3 ∧ ∀ x y, 0 ≤ x → x < w → 0 ≤ y → y < h → K1_3 (y * 12 + x) = if (x = sx ∧ y = sy) ∨ (x = fx ∧ y = fy) then 0 else gcl sd w h x y) ∧ rr_4 = ctt (fun y x => K1_3 (y * 12 + x)) w.toNat h.toNat) ∧ (vp_updL OU (zI 0).toNatClampNeg ((zI rr_4).toInt64)) 0 = (zI rr_4).toInt64) := by
    refine ⟨by first | rfl | (congr 1; omega) | (congr 1; simp [*]), ?_⟩
    exact ⟨po_5, zou⟩
  exact W.iret (v := zI 0) hx hb hr (fun t ht hW => ⟨⟨zI 0, (rl1_2, K1_3, rr_4, vp_updL OU (zI 0).toNatClampNeg ((zI rr_4).toInt64)), rfl, po, by rw [ht]; exact hP9, va_K.moved hW.alike hK, hD9⟩, hS.F ht⟩) hS.2.2 dL_grow_22
set_option maxHeartbeats 4000000 in
set_option maxRecDepth 100000 in
theorem c_L_cell (l : Launch) (dC : Nat → ClassId) (dI : Nat → Nat → Nat) (cI cZ cL cT cJ : ClassId) (sz : Nat) (sl : Nat) (sh : Nat) (lc : Int) (ru : Nat) (tr : Nat) (se : Nat) (sf : Nat → Option Nat) (L : Int) (k : Nat) (lv : Nat) (w : Int) (h : Int) (ka : Nat) (ta : Nat) (sx : Int) (sy : Int) (fx : Int) (fy : Int) (lf : Int) (un : Int) (K : Int → Int) (cx : Int) (cy : Int) (ou : Nat) (OU : Nat → Int64) (gk : L = (k : Int) ∧ k < 6) (gf : sf k = some lv) (gw : 0 < w ∧ w ≤ 12) (gh : 0 < h ∧ h ≤ 8) (gK : Kin K) (gx : 0 ≤ cx ∧ cx < w) (gy : 0 ≤ cy ∧ cy < h) : Met l yL_cell wsL_cell ({ frames := 3, cells := 0, slots := 0, locals := 70 }) (zP (dC, dI) (zT cI cZ cL cT cJ) sz [.ref sl, .int (zI L), .int (zI cx), .int (zI cy), .ref ou] [(sl, .inr (5, [.ref sh, .int (zI lc), .ref ru, .ref tr, .ref se])), zQ cL sh 6 sf, (lv, .inr (1, [.int (zI w), .int (zI h), .ref ka, .ref ta, .int (zI sx), .int (zI sy), .int (zI fx), .int (zI fy), .int (zI lf), .int (zI un)])), zA cI ka 96 K, (ou, .inl (cJ, 1, .inr (.inl OU)))]) (va_Qi (fun (r9 : Int32) (u9 : Int × (Nat → Int64)) => match u9 with | (rr, OU1) => r9 = zI 0 ∧ ((rr = K (cy * 12 + cx)) ∧ OU1 0 = (zI rr).toInt64)) (zB (dC, dI) (zT cI cZ cL cT cJ) (va_A [(sl, .inr (5, [.ref sh, .int (zI lc), .ref ru, .ref tr, .ref se])), zQ cL sh 6 sf, (lv, .inr (1, [.int (zI w), .int (zI h), .ref ka, .ref ta, .int (zI sx), .int (zI sy), .int (zI fx), .int (zI fy), .int (zI lf), .int (zI un)])), zA cI ka 96 K, (ou, .inl (cJ, 1, .inr (.inl OU)))] sz) (fun (u9 : Int × (Nat → Int64)) => match u9 with | (rr, OU1) => [(sl, .inr (5, [.ref sh, .int (zI lc), .ref ru, .ref tr, .ref se])), zQ cL sh 6 sf, (lv, .inr (1, [.int (zI w), .int (zI h), .ref ka, .ref ta, .int (zI sx), .int (zI sy), .int (zI fx), .int (zI fy), .int (zI lf), .int (zI un)])), zA cI ka 96 K, (ou, .inl (cJ, 1, .inr (.inl OU1)))])) (va_A [(sl, .inr (5, [.ref sh, .int (zI lc), .ref ru, .ref tr, .ref se])), zQ cL sh 6 sf, (lv, .inr (1, [.int (zI w), .int (zI h), .ref ka, .ref ta, .int (zI sx), .int (zI sy), .int (zI fx), .int (zI fy), .int (zI lf), .int (zI un)])), zA cI ka 96 K, (ou, .inl (cJ, 1, .inr (.inl OU)))] sz)) 0 0 (va_A [(sl, .inr (5, [.ref sh, .int (zI lc), .ref ru, .ref tr, .ref se])), zQ cL sh 6 sf, (lv, .inr (1, [.int (zI w), .int (zI h), .ref ka, .ref ta, .int (zI sx), .int (zI sy), .int (zI fx), .int (zI fy), .int (zI lf), .int (zI un)])), zA cI ka 96 K, (ou, .inl (cJ, 1, .inr (.inl OU)))] sz) := by
  refine va_MetW (cc := cL_cell) (maxL := 6) (ret := (some .int)) (by decide) rfl ?_
  intro p e s m args below meth c s₁ B hml hv
  obtain ⟨rfl, hsz, hP, hK, hD0⟩ := hv
  have hx := B.exec
  have hb := B.bytes
  have hr := B.returns
  have hts := atoms_spec (ws := wsL_cell) B.pre
  have hown : s.vm.findClass RL = some m.cls := findClass_of_methodNamed B.named
  have hlocks := B.notSynchronized
  subst hsz
  have hD := hD0.self (sz := s.heap.size)
  generalize hAe : va_A [(sl, .inr (5, [.ref sh, .int (zI lc), .ref ru, .ref tr, .ref se])), zQ cL sh 6 sf, (lv, .inr (1, [.int (zI w), .int (zI h), .ref ka, .ref ta, .int (zI sx), .int (zI sy), .int (zI fx), .int (zI fy), .int (zI lf), .int (zI un)])), zA cI ka 96 K, (ou, .inl (cJ, 1, .inr (.inl OU)))] s.heap.size = A at hD ⊢
  have hA : ∀ q : Nat, s.heap.size ≤ q → A q := fun q h => by rw [← hAe]; exact Or.inr h
  clear hAe hD0
  have hS : va_S A s.heap s.heap [] := va_S.rf
  have hP : va_P (dC, dI) vwCl [(sl, .inr (5, [.ref sh, .int (zI lc), .ref ru, .ref tr, .ref se])), zQ cL sh 6 sf, (lv, .inr (1, [.int (zI w), .int (zI h), .ref ka, .ref ta, .int (zI sx), .int (zI sy), .int (zI fx), .int (zI fy), .int (zI lf), .int (zI un)])), zA cI ka 96 K, (ou, .inl (cJ, 1, .inr (.inl OU)))] s.heap := hP
  have hl := lv_entry ([.ref sl, .int (zI L), .int (zI cx), .int (zI cy), .ref ou]) (n := 6) (Nat.le_of_ble_eq_true rfl)
  rw [lg_entry_eq]
  generalize (lg_sl ([.ref sl, .int (zI L), .int (zI cx), .int (zI cy), .ref ou]) ++ List.replicate (6 - (lg_sl ([.ref sl, .int (zI L), .int (zI cx), .int (zI cy), .ref ou])).length) Slot.unset).toArray = ls at hl ⊢
  have hl : lv_has ls 6 [(0, .ref sl), (1, .int (zI L)), (2, .int (zI cx)), (3, .int (zI cy)), (4, .ref ou)] := hl
  refine lv_aload hx hb dL_cell_0 (lv_at hl 4 rfl) ?_
  refine lv_iconst (v := zI 0) hx hb dL_cell_2 (rfl) ?_
  refine lv_aload_n hx hb dL_cell_3 rfl (lv_at hl 0 rfl) ?_
  refine lv_iload_n hx hb dL_cell_4 rfl (lv_at hl 1 rfl) ?_
  refine lv_iload_n hx hb dL_cell_5 rfl (lv_at hl 2 rfl) ?_
  refine lv_iload_n hx hb dL_cell_6 rfl (lv_at hl 3 rfl) ?_
  have hPc := hP.sub (ws' := [(sl, .inr (5, [.ref sh, .int (zI lc), .ref ru, .ref tr, .ref se])), zQ cL sh 6 sf, (lv, .inr (1, [.int (zI w), .int (zI h), .ref ka, .ref ta, .int (zI sx), .int (zI sy), .int (zI fx), .int (zI fy), .int (zI lf), .int (zI un)])), zA cI ka 96 K]) [0, 1, 2, 3] rfl
  have hDc := hD.sub (ws' := [(sl, .inr (5, [.ref sh, .int (zI lc), .ref ru, .ref tr, .ref se])), zQ cL sh 6 sf, (lv, .inr (1, [.int (zI w), .int (zI h), .ref ka, .ref ta, .int (zI sx), .int (zI sy), .int (zI fx), .int (zI fy), .int (zI lf), .int (zI un)])), zA cI ka 96 K]) [0, 1, 2, 3] (by decide) rfl
  have hFc := va_free (wc := [(sl, .inr (5, [.ref sh, .int (zI lc), .ref ru, .ref tr, .ref se])), zQ cL sh 6 sf, (lv, .inr (1, [.int (zI w), .int (zI h), .ref ka, .ref ta, .int (zI sx), .int (zI sy), .int (zI fx), .int (zI fy), .int (zI lf), .int (zI un)])), zA cI ka 96 K]) hD hS hA [0, 1, 2, 3] rfl
  refine va_calli (va_runV (As := [.int (zI L), .int (zI cx), .int (zI cy)]) (rest := [.int (zI 0), .ref ou]) ⟨hx, hb, hml, hown, hts⟩ (c_X5_cell l dC dI cI cZ cL cT cJ s.heap.size sl sh lc ru tr se sf L k lv w h ka ta sx sy fx fy lf un K cx cy (by first | assumption | omega) (by first | assumption | omega) (by first | assumption | omega) (by first | assumption | omega) (by first | assumption | omega) (by first | assumption | omega) (by first | assumption | omega)) (cwV 3 hts gL_cell_X5_cell rfl rfl rfl (by decide +kernel) ⟨Nat.le_of_ble_eq_true rfl, Nat.le_of_ble_eq_true rfl⟩) ⟨zP_blind, va_recv hK hPc (ci := 5) (q0 := 0) rfl rfl, zP_pre hPc hDc hK⟩ rfl rfl hl.1 rfl (lv_room (Nat.le_of_ble_eq_true rfl)) dL_cell_7 ⟨Nat.le_of_ble_eq_true rfl, Nat.le_of_ble_eq_true rfl⟩) hS (fun q _ h => hFc q h) hFc (fun r_1 u_1 t H1 locs ht hvm hw hB hz1 hk1 hS => ?_)
  obtain ⟨rr_2, rfl⟩ : ∃ z, z = u_1 := ⟨_, rfl⟩
  obtain ⟨hP1, hK1, hD1⟩ := hB
  rw [ht] at hP1
  have hP1 : va_P (dC, dI) vwCl [(sl, .inr (5, [.ref sh, .int (zI lc), .ref ru, .ref tr, .ref se])), zQ cL sh 6 sf, (lv, .inr (1, [.int (zI w), .int (zI h), .ref ka, .ref ta, .int (zI sx), .int (zI sy), .int (zI fx), .int (zI fy), .int (zI lf), .int (zI un)])), zA cI ka 96 K] H1 := hP1
  obtain ⟨hP, hD⟩ := va_join (wr := [(ou, .inl (cJ, 1, .inr (.inl OU)))]) (w1 := [(sl, .inr (5, [.ref sh, .int (zI lc), .ref ru, .ref tr, .ref se])), zQ cL sh 6 sf, (lv, .inr (1, [.int (zI w), .int (zI h), .ref ka, .ref ta, .int (zI sx), .int (zI sy), .int (zI fx), .int (zI fy), .int (zI lf), .int (zI un)])), zA cI ka 96 K]) hP hD [0, 1, 2, 3] [4] rfl rfl (by decide) (by decide) hk1 hFc hP1 hD1
  clear hP1 hD1 hk1 hFc hPc hDc hz1
  generalize H1 = H at hP hS ⊢
  have hP : va_P (dC, dI) vwCl [(sl, .inr (5, [.ref sh, .int (zI lc), .ref ru, .ref tr, .ref se])), zQ cL sh 6 sf, (lv, .inr (1, [.int (zI w), .int (zI h), .ref ka, .ref ta, .int (zI sx), .int (zI sy), .int (zI fx), .int (zI fy), .int (zI lf), .int (zI un)])), zA cI ka 96 K, (ou, .inl (cJ, 1, .inr (.inl OU)))] H := hP.sub [1, 2, 3, 4, 0] rfl
  have hD : va_D A [(sl, .inr (5, [.ref sh, .int (zI lc), .ref ru, .ref tr, .ref se])), zQ cL sh 6 sf, (lv, .inr (1, [.int (zI w), .int (zI h), .ref ka, .ref ta, .int (zI sx), .int (zI sy), .int (zI fx), .int (zI fy), .int (zI lf), .int (zI un)])), zA cI ka 96 K, (ou, .inl (cJ, 1, .inr (.inl OU)))] := hD.sub [1, 2, 3, 4, 0] (by decide) rfl
  clear hK1 hvm
  obtain ⟨rfl, po_3⟩ := hw
  have po_3 : rr_2 = K (cy * 12 + cx) := po_3
  refine W.eq (g2 := F0 m 10 ls [.int (zI rr_2), .int (zI 0), .ref ou]) rfl ?_
  refine lv_i2l (v := (zI rr_2).toInt64) hx hb dL_cell_10 rfl ?_
  refine va_last (n := 1) (f := OU) (i := zI 0) (x := (zI rr_2).toInt64) hx hb hK hP hD hS 4 4 rfl rfl (zI_in (by decide) (by decide) (by decide)) dL_cell_11 (fun H locs hP hD hS => ?_)
  have hP : va_P (dC, dI) vwCl [(sl, .inr (5, [.ref sh, .int (zI lc), .ref ru, .ref tr, .ref se])), zQ cL sh 6 sf, (lv, .inr (1, [.int (zI w), .int (zI h), .ref ka, .ref ta, .int (zI sx), .int (zI sy), .int (zI fx), .int (zI fy), .int (zI lf), .int (zI un)])), zA cI ka 96 K, (ou, .inl (cJ, 1, .inr (.inl (vp_updL OU (zI 0).toNatClampNeg ((zI rr_2).toInt64)))))] H := hP
  have hD : va_D A [(sl, .inr (5, [.ref sh, .int (zI lc), .ref ru, .ref tr, .ref se])), zQ cL sh 6 sf, (lv, .inr (1, [.int (zI w), .int (zI h), .ref ka, .ref ta, .int (zI sx), .int (zI sy), .int (zI fx), .int (zI fy), .int (zI lf), .int (zI un)])), zA cI ka 96 K, (ou, .inl (cJ, 1, .inr (.inl (vp_updL OU (zI 0).toNatClampNeg ((zI rr_2).toInt64)))))] := hD
  refine lv_goto (tgt := 19) hx hb dL_cell_12 (by decide) ?_
  refine lv_iconst (v := zI 0) hx hb dL_cell_19 (rfl) ?_
  have hP9 := hP.sub (ws' := [(sl, .inr (5, [.ref sh, .int (zI lc), .ref ru, .ref tr, .ref se])), zQ cL sh 6 sf, (lv, .inr (1, [.int (zI w), .int (zI h), .ref ka, .ref ta, .int (zI sx), .int (zI sy), .int (zI fx), .int (zI fy), .int (zI lf), .int (zI un)])), zA cI ka 96 K, (ou, .inl (cJ, 1, .inr (.inl (vp_updL OU (zI 0).toNatClampNeg ((zI rr_2).toInt64)))))]) [0, 1, 2, 3, 4] rfl
  have hD9 := hD.sub (ws' := [(sl, .inr (5, [.ref sh, .int (zI lc), .ref ru, .ref tr, .ref se])), zQ cL sh 6 sf, (lv, .inr (1, [.int (zI w), .int (zI h), .ref ka, .ref ta, .int (zI sx), .int (zI sy), .int (zI fx), .int (zI fy), .int (zI lf), .int (zI un)])), zA cI ka 96 K, (ou, .inl (cJ, 1, .inr (.inl (vp_updL OU (zI 0).toNatClampNeg ((zI rr_2).toInt64)))))]) [0, 1, 2, 3, 4] (by decide) rfl
  have po : zI 0 = zI 0 ∧ ((rr_2 = K (cy * 12 + cx)) ∧ (vp_updL OU (zI 0).toNatClampNeg ((zI rr_2).toInt64)) 0 = (zI rr_2).toInt64) := by
    refine ⟨by first | rfl | (congr 1; omega) | (congr 1; simp [*]), ?_⟩
    exact ⟨po_3, zou⟩
  exact W.iret (v := zI 0) hx hb hr (fun t ht hW => ⟨⟨zI 0, (rr_2, vp_updL OU (zI 0).toNatClampNeg ((zI rr_2).toInt64)), rfl, po, by rw [ht]; exact hP9, va_K.moved hW.alike hK, hD9⟩, hS.F ht⟩) hS.2.2 dL_cell_20
set_option maxHeartbeats 4000000 in
set_option maxRecDepth 100000 in
theorem c_L_solve (l : Launch) (dC : Nat → ClassId) (dI : Nat → Nat → Nat) (cI cZ cL cT cJ : ClassId) (sz : Nat) (sl : Nat) (sh : Nat) (lc : Int) (ru : Nat) (tr : Nat) (se : Nat) (sf : Nat → Option Nat) (L : Int) (k : Nat) (lv : Nat) (w : Int) (h : Int) (ka : Nat) (ta : Nat) (sx : Int) (sy : Int) (fx : Int) (fy : Int) (lf : Int) (un : Int) (K : Int → Int) (tx : Int) (ty : Int) (tl : Int) (de : Nat) (fi : Nat) (qu : Nat) (pr : Nat) (qd : Int) (s1 : Int) (s2 : Int) (DD : Int → Int) (FF : Int → Int) (QQ : Int → Int) (qx : Int) (qy : Int) (ql : Int) (ou : Nat) (OU : Nat → Int64) (gk : L = (k : Int) ∧ k < 6) (gf : sf k = some lv) (gw : 0 < w ∧ w ≤ 12) (gh : 0 < h ∧ h ≤ 8) (gK : Kin K) (gsx : 0 ≤ sx ∧ sx < w) (gsy : 0 ≤ sy ∧ sy < h) (gfx : 0 ≤ fx ∧ fx < w) (gfy : 0 ≤ fy ∧ fy < h) (gD : Din DD) (gFF : Fin6 FF) : Met l yL_solve wsL_solve ({ frames := 6, cells := 0, slots := 0, locals := 144 }) (zP (dC, dI) (zT cI cZ cL cT cJ) sz [.ref sl, .int (zI L), .ref ou] [(sl, .inr (5, [.ref sh, .int (zI lc), .ref ru, .ref tr, .ref se])), zQ cL sh 6 sf, (lv, .inr (1, [.int (zI w), .int (zI h), .ref ka, .ref ta, .int (zI sx), .int (zI sy), .int (zI fx), .int (zI fy), .int (zI lf), .int (zI un)])), zA cI ka 96 K, (tr, .inr (0, [.int (zI tx), .int (zI ty), .int (zI tl)])), (se, .inr (3, [.ref de, .ref fi, .ref qu, .ref pr, .int (zI qd), .int (zI s1), .int (zI s2)])), (pr, .inr (0, [.int (zI qx), .int (zI qy), .int (zI ql)])), zA cI de 480 DD, zA cI fi 480 FF, zA cI qu 480 QQ, (ou, .inl (cJ, 1, .inr (.inl OU)))]) (va_Qi (fun (r9 : Int32) (u9 : Int × Int × Int × (Int → Int) × (Int → Int) × (Int → Int) × Int × Int × Int × (Nat → Int64)) => match u9 with | (n1, s11, s21, D1, F1, Q1, qx1, qy1, ql1, OU1) => r9 = zI 0 ∧ ((Din D1 ∧ Fin6 F1 ∧ ∃ D0 F0 Q0, Din D0 ∧ Fin6 F0 ∧ (∀ j, 0 ≤ j → j < 480 → D0 j = -1) ∧ (s11, s21) = fwT K w h fx fy 100 (plc sx sy 0) D0 F0 Q0) ∧ OU1 0 = (zI s11).toInt64)) (zB (dC, dI) (zT cI cZ cL cT cJ) (va_A [(sl, .inr (5, [.ref sh, .int (zI lc), .ref ru, .ref tr, .ref se])), zQ cL sh 6 sf, (lv, .inr (1, [.int (zI w), .int (zI h), .ref ka, .ref ta, .int (zI sx), .int (zI sy), .int (zI fx), .int (zI fy), .int (zI lf), .int (zI un)])), zA cI ka 96 K, (tr, .inr (0, [.int (zI tx), .int (zI ty), .int (zI tl)])), (se, .inr (3, [.ref de, .ref fi, .ref qu, .ref pr, .int (zI qd), .int (zI s1), .int (zI s2)])), (pr, .inr (0, [.int (zI qx), .int (zI qy), .int (zI ql)])), zA cI de 480 DD, zA cI fi 480 FF, zA cI qu 480 QQ, (ou, .inl (cJ, 1, .inr (.inl OU)))] sz) (fun (u9 : Int × Int × Int × (Int → Int) × (Int → Int) × (Int → Int) × Int × Int × Int × (Nat → Int64)) => match u9 with | (n1, s11, s21, D1, F1, Q1, qx1, qy1, ql1, OU1) => [(sl, .inr (5, [.ref sh, .int (zI lc), .ref ru, .ref tr, .ref se])), zQ cL sh 6 sf, (lv, .inr (1, [.int (zI w), .int (zI h), .ref ka, .ref ta, .int (zI sx), .int (zI sy), .int (zI fx), .int (zI fy), .int (zI s11), .int (zI un)])), zA cI ka 96 K, (tr, .inr (0, [.int (zI sx), .int (zI sy), .int (zI 0)])), (se, .inr (3, [.ref de, .ref fi, .ref qu, .ref pr, .int (zI n1), .int (zI s11), .int (zI s21)])), (pr, .inr (0, [.int (zI qx1), .int (zI qy1), .int (zI ql1)])), zA cI de 480 D1, zA cI fi 480 F1, zA cI qu 480 Q1, (ou, .inl (cJ, 1, .inr (.inl OU1)))])) (va_A [(sl, .inr (5, [.ref sh, .int (zI lc), .ref ru, .ref tr, .ref se])), zQ cL sh 6 sf, (lv, .inr (1, [.int (zI w), .int (zI h), .ref ka, .ref ta, .int (zI sx), .int (zI sy), .int (zI fx), .int (zI fy), .int (zI lf), .int (zI un)])), zA cI ka 96 K, (tr, .inr (0, [.int (zI tx), .int (zI ty), .int (zI tl)])), (se, .inr (3, [.ref de, .ref fi, .ref qu, .ref pr, .int (zI qd), .int (zI s1), .int (zI s2)])), (pr, .inr (0, [.int (zI qx), .int (zI qy), .int (zI ql)])), zA cI de 480 DD, zA cI fi 480 FF, zA cI qu 480 QQ, (ou, .inl (cJ, 1, .inr (.inl OU)))] sz)) 0 0 (va_A [(sl, .inr (5, [.ref sh, .int (zI lc), .ref ru, .ref tr, .ref se])), zQ cL sh 6 sf, (lv, .inr (1, [.int (zI w), .int (zI h), .ref ka, .ref ta, .int (zI sx), .int (zI sy), .int (zI fx), .int (zI fy), .int (zI lf), .int (zI un)])), zA cI ka 96 K, (tr, .inr (0, [.int (zI tx), .int (zI ty), .int (zI tl)])), (se, .inr (3, [.ref de, .ref fi, .ref qu, .ref pr, .int (zI qd), .int (zI s1), .int (zI s2)])), (pr, .inr (0, [.int (zI qx), .int (zI qy), .int (zI ql)])), zA cI de 480 DD, zA cI fi 480 FF, zA cI qu 480 QQ, (ou, .inl (cJ, 1, .inr (.inl OU)))] sz) := by
  refine va_MetW (cc := cL_solve) (maxL := 4) (ret := (some .int)) (by decide) rfl ?_
  intro p e s m args below meth c s₁ B hml hv
  obtain ⟨rfl, hsz, hP, hK, hD0⟩ := hv
  have hx := B.exec
  have hb := B.bytes
  have hr := B.returns
  have hts := atoms_spec (ws := wsL_solve) B.pre
  have hown : s.vm.findClass RL = some m.cls := findClass_of_methodNamed B.named
  have hlocks := B.notSynchronized
  subst hsz
  have hD := hD0.self (sz := s.heap.size)
  generalize hAe : va_A [(sl, .inr (5, [.ref sh, .int (zI lc), .ref ru, .ref tr, .ref se])), zQ cL sh 6 sf, (lv, .inr (1, [.int (zI w), .int (zI h), .ref ka, .ref ta, .int (zI sx), .int (zI sy), .int (zI fx), .int (zI fy), .int (zI lf), .int (zI un)])), zA cI ka 96 K, (tr, .inr (0, [.int (zI tx), .int (zI ty), .int (zI tl)])), (se, .inr (3, [.ref de, .ref fi, .ref qu, .ref pr, .int (zI qd), .int (zI s1), .int (zI s2)])), (pr, .inr (0, [.int (zI qx), .int (zI qy), .int (zI ql)])), zA cI de 480 DD, zA cI fi 480 FF, zA cI qu 480 QQ, (ou, .inl (cJ, 1, .inr (.inl OU)))] s.heap.size = A at hD ⊢
  have hA : ∀ q : Nat, s.heap.size ≤ q → A q := fun q h => by rw [← hAe]; exact Or.inr h
  clear hAe hD0
  have hS : va_S A s.heap s.heap [] := va_S.rf
  have hP : va_P (dC, dI) vwCl [(sl, .inr (5, [.ref sh, .int (zI lc), .ref ru, .ref tr, .ref se])), zQ cL sh 6 sf, (lv, .inr (1, [.int (zI w), .int (zI h), .ref ka, .ref ta, .int (zI sx), .int (zI sy), .int (zI fx), .int (zI fy), .int (zI lf), .int (zI un)])), zA cI ka 96 K, (tr, .inr (0, [.int (zI tx), .int (zI ty), .int (zI tl)])), (se, .inr (3, [.ref de, .ref fi, .ref qu, .ref pr, .int (zI qd), .int (zI s1), .int (zI s2)])), (pr, .inr (0, [.int (zI qx), .int (zI qy), .int (zI ql)])), zA cI de 480 DD, zA cI fi 480 FF, zA cI qu 480 QQ, (ou, .inl (cJ, 1, .inr (.inl OU)))] s.heap := hP
  have hl := lv_entry ([.ref sl, .int (zI L), .ref ou]) (n := 4) (Nat.le_of_ble_eq_true rfl)
  rw [lg_entry_eq]
  generalize (lg_sl ([.ref sl, .int (zI L), .ref ou]) ++ List.replicate (4 - (lg_sl ([.ref sl, .int (zI L), .ref ou])).length) Slot.unset).toArray = ls at hl ⊢
  have hl : lv_has ls 4 [(0, .ref sl), (1, .int (zI L)), (2, .ref ou)] := hl
  refine lv_aload_n hx hb dL_solve_0 rfl (lv_at hl 2 rfl) ?_
  refine lv_iconst (v := zI 0) hx hb dL_solve_1 (rfl) ?_
  refine lv_aload_n hx hb dL_solve_2 rfl (lv_at hl 0 rfl) ?_
  refine lv_iload_n hx hb dL_solve_3 rfl (lv_at hl 1 rfl) ?_
  have hPc := hP.sub (ws' := [(sl, .inr (5, [.ref sh, .int (zI lc), .ref ru, .ref tr, .ref se])), zQ cL sh 6 sf, (lv, .inr (1, [.int (zI w), .int (zI h), .ref ka, .ref ta, .int (zI sx), .int (zI sy), .int (zI fx), .int (zI fy), .int (zI lf), .int (zI un)])), zA cI ka 96 K, (tr, .inr (0, [.int (zI tx), .int (zI ty), .int (zI tl)])), (se, .inr (3, [.ref de, .ref fi, .ref qu, .ref pr, .int (zI qd), .int (zI s1), .int (zI s2)])), (pr, .inr (0, [.int (zI qx), .int (zI qy), .int (zI ql)])), zA cI de 480 DD, zA cI fi 480 FF, zA cI qu 480 QQ]) [0, 1, 2, 3, 4, 5, 6, 7, 8, 9] rfl
  have hDc := hD.sub (ws' := [(sl, .inr (5, [.ref sh, .int (zI lc), .ref ru, .ref tr, .ref se])), zQ cL sh 6 sf, (lv, .inr (1, [.int (zI w), .int (zI h), .ref ka, .ref ta, .int (zI sx), .int (zI sy), .int (zI fx), .int (zI fy), .int (zI lf), .int (zI un)])), zA cI ka 96 K, (tr, .inr (0, [.int (zI tx), .int (zI ty), .int (zI tl)])), (se, .inr (3, [.ref de, .ref fi, .ref qu, .ref pr, .int (zI qd), .int (zI s1), .int (zI s2)])), (pr, .inr (0, [.int (zI qx), .int (zI qy), .int (zI ql)])), zA cI de 480 DD, zA cI fi 480 FF, zA cI qu 480 QQ]) [0, 1, 2, 3, 4, 5, 6, 7, 8, 9] (by decide) rfl
  have hFc := va_free (wc := [(sl, .inr (5, [.ref sh, .int (zI lc), .ref ru, .ref tr, .ref se])), zQ cL sh 6 sf, (lv, .inr (1, [.int (zI w), .int (zI h), .ref ka, .ref ta, .int (zI sx), .int (zI sy), .int (zI fx), .int (zI fy), .int (zI lf), .int (zI un)])), zA cI ka 96 K, (tr, .inr (0, [.int (zI tx), .int (zI ty), .int (zI tl)])), (se, .inr (3, [.ref de, .ref fi, .ref qu, .ref pr, .int (zI qd), .int (zI s1), .int (zI s2)])), (pr, .inr (0, [.int (zI qx), .int (zI qy), .int (zI ql)])), zA cI de 480 DD, zA cI fi 480 FF, zA cI qu 480 QQ]) hD hS hA [0, 1, 2, 3, 4, 5, 6, 7, 8, 9] rfl
  refine va_calli (va_runV (As := [.int (zI L)]) (rest := [.int (zI 0), .ref ou]) ⟨hx, hb, hml, hown, hts⟩ (c_X5_solve l dC dI cI cZ cL cT cJ s.heap.size sl sh lc ru tr se sf L k lv w h ka ta sx sy fx fy lf un K tx ty tl de fi qu pr qd s1 s2 DD FF QQ qx qy ql (by first | assumption | omega) (by first | assumption | omega) (by first | assumption | omega) (by first | assumption | omega) (by first | assumption | omega) (by first | assumption | omega) (by first | assumption | omega) (by first | assumption | omega) (by first | assumption | omega) (by first | assumption | omega) (by first | assumption | omega)) (cwV 1 hts gL_solve_X5_solve rfl rfl rfl (by decide +kernel) ⟨Nat.le_of_ble_eq_true rfl, Nat.le_of_ble_eq_true rfl⟩) ⟨zP_blind, va_recv hK hPc (ci := 5) (q0 := 0) rfl rfl, zP_pre hPc hDc hK⟩ rfl rfl hl.1 rfl (lv_room (Nat.le_of_ble_eq_true rfl)) dL_solve_4 ⟨Nat.le_of_ble_eq_true rfl, Nat.le_of_ble_eq_true rfl⟩) hS (fun q _ h => hFc q h) hFc (fun r_1 u_1 t H1 locs ht hvm hw hB hz1 hk1 hS => ?_)
  obtain ⟨n1_2, s11_3, s21_4, D1_5, F1_6, Q1_7, qx1_8, qy1_9, ql1_10⟩ := u_1
  obtain ⟨hP1, hK1, hD1⟩ := hB
  rw [ht] at hP1
  have hP1 : va_P (dC, dI) vwCl [(sl, .inr (5, [.ref sh, .int (zI lc), .ref ru, .ref tr, .ref se])), zQ cL sh 6 sf, (lv, .inr (1, [.int (zI w), .int (zI h), .ref ka, .ref ta, .int (zI sx), .int (zI sy), .int (zI fx), .int (zI fy), .int (zI s11_3), .int (zI un)])), zA cI ka 96 K, (tr, .inr (0, [.int (zI sx), .int (zI sy), .int (zI 0)])), (se, .inr (3, [.ref de, .ref fi, .ref qu, .ref pr, .int (zI n1_2), .int (zI s11_3), .int (zI s21_4)])), (pr, .inr (0, [.int (zI qx1_8), .int (zI qy1_9), .int (zI ql1_10)])), zA cI de 480 D1_5, zA cI fi 480 F1_6, zA cI qu 480 Q1_7] H1 := hP1
  obtain ⟨hP, hD⟩ := va_join (wr := [(ou, .inl (cJ, 1, .inr (.inl OU)))]) (w1 := [(sl, .inr (5, [.ref sh, .int (zI lc), .ref ru, .ref tr, .ref se])), zQ cL sh 6 sf, (lv, .inr (1, [.int (zI w), .int (zI h), .ref ka, .ref ta, .int (zI sx), .int (zI sy), .int (zI fx), .int (zI fy), .int (zI s11_3), .int (zI un)])), zA cI ka 96 K, (tr, .inr (0, [.int (zI sx), .int (zI sy), .int (zI 0)])), (se, .inr (3, [.ref de, .ref fi, .ref qu, .ref pr, .int (zI n1_2), .int (zI s11_3), .int (zI s21_4)])), (pr, .inr (0, [.int (zI qx1_8), .int (zI qy1_9), .int (zI ql1_10)])), zA cI de 480 D1_5, zA cI fi 480 F1_6, zA cI qu 480 Q1_7]) hP hD [0, 1, 2, 3, 4, 5, 6, 7, 8, 9] [10] rfl rfl (by decide) (by decide) hk1 hFc hP1 hD1
  clear hP1 hD1 hk1 hFc hPc hDc hz1
  generalize H1 = H at hP hS ⊢
  have hP : va_P (dC, dI) vwCl [(sl, .inr (5, [.ref sh, .int (zI lc), .ref ru, .ref tr, .ref se])), zQ cL sh 6 sf, (lv, .inr (1, [.int (zI w), .int (zI h), .ref ka, .ref ta, .int (zI sx), .int (zI sy), .int (zI fx), .int (zI fy), .int (zI s11_3), .int (zI un)])), zA cI ka 96 K, (tr, .inr (0, [.int (zI sx), .int (zI sy), .int (zI 0)])), (se, .inr (3, [.ref de, .ref fi, .ref qu, .ref pr, .int (zI n1_2), .int (zI s11_3), .int (zI s21_4)])), (pr, .inr (0, [.int (zI qx1_8), .int (zI qy1_9), .int (zI ql1_10)])), zA cI de 480 D1_5, zA cI fi 480 F1_6, zA cI qu 480 Q1_7, (ou, .inl (cJ, 1, .inr (.inl OU)))] H := hP.sub [1, 2, 3, 4, 5, 6, 7, 8, 9, 10, 0] rfl
  have hD : va_D A [(sl, .inr (5, [.ref sh, .int (zI lc), .ref ru, .ref tr, .ref se])), zQ cL sh 6 sf, (lv, .inr (1, [.int (zI w), .int (zI h), .ref ka, .ref ta, .int (zI sx), .int (zI sy), .int (zI fx), .int (zI fy), .int (zI s11_3), .int (zI un)])), zA cI ka 96 K, (tr, .inr (0, [.int (zI sx), .int (zI sy), .int (zI 0)])), (se, .inr (3, [.ref de, .ref fi, .ref qu, .ref pr, .int (zI n1_2), .int (zI s11_3), .int (zI s21_4)])), (pr, .inr (0, [.int (zI qx1_8), .int (zI qy1_9), .int (zI ql1_10)])), zA cI de 480 D1_5, zA cI fi 480 F1_6, zA cI qu 480 Q1_7, (ou, .inl (cJ, 1, .inr (.inl OU)))] := hD.sub [1, 2, 3, 4, 5, 6, 7, 8, 9, 10, 0] (by decide) rfl
  clear hK1 hvm
  obtain ⟨rfl, po_11⟩ := hw
  have po_11 : Din D1_5 ∧ Fin6 F1_6 ∧ ∃ D0 F0 Q0, Din D0 ∧ Fin6 F0 ∧ (∀ j, 0 ≤ j → j < 480 → D0 j = -1) ∧ (s11_3, s21_4) = fwT K w h fx fy 100 (plc sx sy 0) D0 F0 Q0 := po_11
  refine W.eq (g2 := F0 m 7 ls [.int (zI s11_3), .int (zI 0), .ref ou]) rfl ?_
  refine lv_i2l (v := (zI s11_3).toInt64) hx hb dL_solve_7 rfl ?_
  refine va_last (n := 1) (f := OU) (i := zI 0) (x := (zI s11_3).toInt64) hx hb hK hP hD hS 10 4 rfl rfl (zI_in (by decide) (by decide) (by decide)) dL_solve_8 (fun H locs hP hD hS => ?_)
  have hP : va_P (dC, dI) vwCl [(sl, .inr (5, [.ref sh, .int (zI lc), .ref ru, .ref tr, .ref se])), zQ cL sh 6 sf, (lv, .inr (1, [.int (zI w), .int (zI h), .ref ka, .ref ta, .int (zI sx), .int (zI sy), .int (zI fx), .int (zI fy), .int (zI s11_3), .int (zI un)])), zA cI ka 96 K, (tr, .inr (0, [.int (zI sx), .int (zI sy), .int (zI 0)])), (se, .inr (3, [.ref de, .ref fi, .ref qu, .ref pr, .int (zI n1_2), .int (zI s11_3), .int (zI s21_4)])), (pr, .inr (0, [.int (zI qx1_8), .int (zI qy1_9), .int (zI ql1_10)])), zA cI de 480 D1_5, zA cI fi 480 F1_6, zA cI qu 480 Q1_7, (ou, .inl (cJ, 1, .inr (.inl (vp_updL OU (zI 0).toNatClampNeg ((zI s11_3).toInt64)))))] H := hP
  have hD : va_D A [(sl, .inr (5, [.ref sh, .int (zI lc), .ref ru, .ref tr, .ref se])), zQ cL sh 6 sf, (lv, .inr (1, [.int (zI w), .int (zI h), .ref ka, .ref ta, .int (zI sx), .int (zI sy), .int (zI fx), .int (zI fy), .int (zI s11_3), .int (zI un)])), zA cI ka 96 K, (tr, .inr (0, [.int (zI sx), .int (zI sy), .int (zI 0)])), (se, .inr (3, [.ref de, .ref fi, .ref qu, .ref pr, .int (zI n1_2), .int (zI s11_3), .int (zI s21_4)])), (pr, .inr (0, [.int (zI qx1_8), .int (zI qy1_9), .int (zI ql1_10)])), zA cI de 480 D1_5, zA cI fi 480 F1_6, zA cI qu 480 Q1_7, (ou, .inl (cJ, 1, .inr (.inl (vp_updL OU (zI 0).toNatClampNeg ((zI s11_3).toInt64)))))] := hD
  refine lv_goto (tgt := 15) hx hb dL_solve_9 (by decide) ?_
  refine lv_iconst (v := zI 0) hx hb dL_solve_15 (rfl) ?_
  have hP9 := hP.sub (ws' := [(sl, .inr (5, [.ref sh, .int (zI lc), .ref ru, .ref tr, .ref se])), zQ cL sh 6 sf, (lv, .inr (1, [.int (zI w), .int (zI h), .ref ka, .ref ta, .int (zI sx), .int (zI sy), .int (zI fx), .int (zI fy), .int (zI s11_3), .int (zI un)])), zA cI ka 96 K, (tr, .inr (0, [.int (zI sx), .int (zI sy), .int (zI 0)])), (se, .inr (3, [.ref de, .ref fi, .ref qu, .ref pr, .int (zI n1_2), .int (zI s11_3), .int (zI s21_4)])), (pr, .inr (0, [.int (zI qx1_8), .int (zI qy1_9), .int (zI ql1_10)])), zA cI de 480 D1_5, zA cI fi 480 F1_6, zA cI qu 480 Q1_7, (ou, .inl (cJ, 1, .inr (.inl (vp_updL OU (zI 0).toNatClampNeg ((zI s11_3).toInt64)))))]) [0, 1, 2, 3, 4, 5, 6, 7, 8, 9, 10] rfl
  have hD9 := hD.sub (ws' := [(sl, .inr (5, [.ref sh, .int (zI lc), .ref ru, .ref tr, .ref se])), zQ cL sh 6 sf, (lv, .inr (1, [.int (zI w), .int (zI h), .ref ka, .ref ta, .int (zI sx), .int (zI sy), .int (zI fx), .int (zI fy), .int (zI s11_3), .int (zI un)])), zA cI ka 96 K, (tr, .inr (0, [.int (zI sx), .int (zI sy), .int (zI 0)])), (se, .inr (3, [.ref de, .ref fi, .ref qu, .ref pr, .int (zI n1_2), .int (zI s11_3), .int (zI s21_4)])), (pr, .inr (0, [.int (zI qx1_8), .int (zI qy1_9), .int (zI ql1_10)])), zA cI de 480 D1_5, zA cI fi 480 F1_6, zA cI qu 480 Q1_7, (ou, .inl (cJ, 1, .inr (.inl (vp_updL OU (zI 0).toNatClampNeg ((zI s11_3).toInt64)))))]) [0, 1, 2, 3, 4, 5, 6, 7, 8, 9, 10] (by decide) rfl
  have po : zI 0 = zI 0 ∧ ((Din D1_5 ∧ Fin6 F1_6 ∧ ∃ D0 F0 Q0, Din D0 ∧ Fin6 F0 ∧ (∀ j, 0 ≤ j → j < 480 → D0 j = -1) ∧ (s11_3, s21_4) = fwT K w h fx fy 100 (plc sx sy 0) D0 F0 Q0) ∧ (vp_updL OU (zI 0).toNatClampNeg ((zI s11_3).toInt64)) 0 = (zI s11_3).toInt64) := by
    refine ⟨by first | rfl | (congr 1; omega) | (congr 1; simp [*]), ?_⟩
    exact ⟨po_11, zou⟩
  exact W.iret (v := zI 0) hx hb hr (fun t ht hW => ⟨⟨zI 0, (n1_2, s11_3, s21_4, D1_5, F1_6, Q1_7, qx1_8, qy1_9, ql1_10, vp_updL OU (zI 0).toNatClampNeg ((zI s11_3).toInt64)), rfl, po, by rw [ht]; exact hP9, va_K.moved hW.alike hK, hD9⟩, hS.F ht⟩) hS.2.2 dL_solve_16
set_option maxHeartbeats 4000000 in
set_option maxRecDepth 100000 in
theorem c_L_way (l : Launch) (dC : Nat → ClassId) (dI : Nat → Nat → Nat) (cI cZ cL cT cJ : ClassId) (sz : Nat) (sl : Nat) (sh : Nat) (lc : Int) (ru : Nat) (tr : Nat) (se : Nat) (sf : Nat → Option Nat) (L : Int) (k : Nat) (lv : Nat) (w : Int) (h : Int) (ka : Nat) (ta : Nat) (sx : Int) (sy : Int) (fx : Int) (fy : Int) (lf : Int) (un : Int) (ou : Nat) (OU : Nat → Int64) (gk : L = (k : Int) ∧ k < 6) (gf : sf k = some lv) : Met l yL_way wsL_way ({ frames := 2, cells := 0, slots := 0, locals := 43 }) (zP (dC, dI) (zT cI cZ cL cT cJ) sz [.ref sl, .int (zI L), .ref ou] [(sl, .inr (5, [.ref sh, .int (zI lc), .ref ru, .ref tr, .ref se])), zQ cL sh 6 sf, (lv, .inr (1, [.int (zI w), .int (zI h), .ref ka, .ref ta, .int (zI sx), .int (zI sy), .int (zI fx), .int (zI fy), .int (zI lf), .int (zI un)])), (ou, .inl (cJ, 1, .inr (.inl OU)))]) (va_Qi (fun (r9 : Int32) (u9 : (Nat → Int64)) => match u9 with | OU1 => r9 = zI 0 ∧ (OU1 0 = (zI lf).toInt64)) (zB (dC, dI) (zT cI cZ cL cT cJ) (va_A [(sl, .inr (5, [.ref sh, .int (zI lc), .ref ru, .ref tr, .ref se])), zQ cL sh 6 sf, (lv, .inr (1, [.int (zI w), .int (zI h), .ref ka, .ref ta, .int (zI sx), .int (zI sy), .int (zI fx), .int (zI fy), .int (zI lf), .int (zI un)])), (ou, .inl (cJ, 1, .inr (.inl OU)))] sz) (fun (u9 : (Nat → Int64)) => match u9 with | OU1 => [(sl, .inr (5, [.ref sh, .int (zI lc), .ref ru, .ref tr, .ref se])), zQ cL sh 6 sf, (lv, .inr (1, [.int (zI w), .int (zI h), .ref ka, .ref ta, .int (zI sx), .int (zI sy), .int (zI fx), .int (zI fy), .int (zI lf), .int (zI un)])), (ou, .inl (cJ, 1, .inr (.inl OU1)))])) (va_A [(sl, .inr (5, [.ref sh, .int (zI lc), .ref ru, .ref tr, .ref se])), zQ cL sh 6 sf, (lv, .inr (1, [.int (zI w), .int (zI h), .ref ka, .ref ta, .int (zI sx), .int (zI sy), .int (zI fx), .int (zI fy), .int (zI lf), .int (zI un)])), (ou, .inl (cJ, 1, .inr (.inl OU)))] sz)) 0 0 (va_A [(sl, .inr (5, [.ref sh, .int (zI lc), .ref ru, .ref tr, .ref se])), zQ cL sh 6 sf, (lv, .inr (1, [.int (zI w), .int (zI h), .ref ka, .ref ta, .int (zI sx), .int (zI sy), .int (zI fx), .int (zI fy), .int (zI lf), .int (zI un)])), (ou, .inl (cJ, 1, .inr (.inl OU)))] sz) := by
  refine va_MetW (cc := cL_way) (maxL := 4) (ret := (some .int)) (by decide) rfl ?_
  intro p e s m args below meth c s₁ B hml hv
  obtain ⟨rfl, hsz, hP, hK, hD0⟩ := hv
  have hx := B.exec
  have hb := B.bytes
  have hr := B.returns
  have hts := atoms_spec (ws := wsL_way) B.pre
  have hown : s.vm.findClass RL = some m.cls := findClass_of_methodNamed B.named
  have hlocks := B.notSynchronized
  subst hsz
  have hD := hD0.self (sz := s.heap.size)
  generalize hAe : va_A [(sl, .inr (5, [.ref sh, .int (zI lc), .ref ru, .ref tr, .ref se])), zQ cL sh 6 sf, (lv, .inr (1, [.int (zI w), .int (zI h), .ref ka, .ref ta, .int (zI sx), .int (zI sy), .int (zI fx), .int (zI fy), .int (zI lf), .int (zI un)])), (ou, .inl (cJ, 1, .inr (.inl OU)))] s.heap.size = A at hD ⊢
  have hA : ∀ q : Nat, s.heap.size ≤ q → A q := fun q h => by rw [← hAe]; exact Or.inr h
  clear hAe hD0
  have hS : va_S A s.heap s.heap [] := va_S.rf
  have hP : va_P (dC, dI) vwCl [(sl, .inr (5, [.ref sh, .int (zI lc), .ref ru, .ref tr, .ref se])), zQ cL sh 6 sf, (lv, .inr (1, [.int (zI w), .int (zI h), .ref ka, .ref ta, .int (zI sx), .int (zI sy), .int (zI fx), .int (zI fy), .int (zI lf), .int (zI un)])), (ou, .inl (cJ, 1, .inr (.inl OU)))] s.heap := hP
  have hl := lv_entry ([.ref sl, .int (zI L), .ref ou]) (n := 4) (Nat.le_of_ble_eq_true rfl)
  rw [lg_entry_eq]
  generalize (lg_sl ([.ref sl, .int (zI L), .ref ou]) ++ List.replicate (4 - (lg_sl ([.ref sl, .int (zI L), .ref ou])).length) Slot.unset).toArray = ls at hl ⊢
  have hl : lv_has ls 4 [(0, .ref sl), (1, .int (zI L)), (2, .ref ou)] := hl
  refine lv_aload_n hx hb dL_way_0 rfl (lv_at hl 2 rfl) ?_
  refine lv_iconst (v := zI 0) hx hb dL_way_1 (rfl) ?_
  refine lv_aload_n hx hb dL_way_2 rfl (lv_at hl 0 rfl) ?_
  refine lv_iload_n hx hb dL_way_3 rfl (lv_at hl 1 rfl) ?_
  have hPc := hP.sub (ws' := [(sl, .inr (5, [.ref sh, .int (zI lc), .ref ru, .ref tr, .ref se])), zQ cL sh 6 sf, (lv, .inr (1, [.int (zI w), .int (zI h), .ref ka, .ref ta, .int (zI sx), .int (zI sy), .int (zI fx), .int (zI fy), .int (zI lf), .int (zI un)]))]) [0, 1, 2] rfl
  have hDc := hD.sub (ws' := [(sl, .inr (5, [.ref sh, .int (zI lc), .ref ru, .ref tr, .ref se])), zQ cL sh 6 sf, (lv, .inr (1, [.int (zI w), .int (zI h), .ref ka, .ref ta, .int (zI sx), .int (zI sy), .int (zI fx), .int (zI fy), .int (zI lf), .int (zI un)]))]) [0, 1, 2] (by decide) rfl
  have hFc := va_free (wc := [(sl, .inr (5, [.ref sh, .int (zI lc), .ref ru, .ref tr, .ref se])), zQ cL sh 6 sf, (lv, .inr (1, [.int (zI w), .int (zI h), .ref ka, .ref ta, .int (zI sx), .int (zI sy), .int (zI fx), .int (zI fy), .int (zI lf), .int (zI un)]))]) hD hS hA [0, 1, 2] rfl
  refine va_calli (va_runV (As := [.int (zI L)]) (rest := [.int (zI 0), .ref ou]) ⟨hx, hb, hml, hown, hts⟩ (c_X5_way l dC dI cI cZ cL cT cJ s.heap.size sl sh lc ru tr se sf L k lv w h ka ta sx sy fx fy lf un (by first | assumption | omega) (by first | assumption | omega)) (cwV 1 hts gL_way_X5_way rfl rfl rfl (by decide +kernel) ⟨Nat.le_of_ble_eq_true rfl, Nat.le_of_ble_eq_true rfl⟩) ⟨zP_blind, va_recv hK hPc (ci := 5) (q0 := 0) rfl rfl, zP_pre hPc hDc hK⟩ rfl rfl hl.1 rfl (lv_room (Nat.le_of_ble_eq_true rfl)) dL_way_4 ⟨Nat.le_of_ble_eq_true rfl, Nat.le_of_ble_eq_true rfl⟩) hS (fun q _ h => hFc q h) hFc (fun r_1 u_1 t H1 locs ht hvm hw hB hz1 hk1 hS => ?_)
  obtain ⟨hP1, hK1, hD1⟩ := hB
  rw [ht] at hP1
  have hP1 : va_P (dC, dI) vwCl [(sl, .inr (5, [.ref sh, .int (zI lc), .ref ru, .ref tr, .ref se])), zQ cL sh 6 sf, (lv, .inr (1, [.int (zI w), .int (zI h), .ref ka, .ref ta, .int (zI sx), .int (zI sy), .int (zI fx), .int (zI fy), .int (zI lf), .int (zI un)]))] H1 := hP1
  obtain ⟨hP, hD⟩ := va_join (wr := [(ou, .inl (cJ, 1, .inr (.inl OU)))]) (w1 := [(sl, .inr (5, [.ref sh, .int (zI lc), .ref ru, .ref tr, .ref se])), zQ cL sh 6 sf, (lv, .inr (1, [.int (zI w), .int (zI h), .ref ka, .ref ta, .int (zI sx), .int (zI sy), .int (zI fx), .int (zI fy), .int (zI lf), .int (zI un)]))]) hP hD [0, 1, 2] [3] rfl rfl (by decide) (by decide) hk1 hFc hP1 hD1
  clear hP1 hD1 hk1 hFc hPc hDc hz1
  generalize H1 = H at hP hS ⊢
  have hP : va_P (dC, dI) vwCl [(sl, .inr (5, [.ref sh, .int (zI lc), .ref ru, .ref tr, .ref se])), zQ cL sh 6 sf, (lv, .inr (1, [.int (zI w), .int (zI h), .ref ka, .ref ta, .int (zI sx), .int (zI sy), .int (zI fx), .int (zI fy), .int (zI lf), .int (zI un)])), (ou, .inl (cJ, 1, .inr (.inl OU)))] H := hP.sub [1, 2, 3, 0] rfl
  have hD : va_D A [(sl, .inr (5, [.ref sh, .int (zI lc), .ref ru, .ref tr, .ref se])), zQ cL sh 6 sf, (lv, .inr (1, [.int (zI w), .int (zI h), .ref ka, .ref ta, .int (zI sx), .int (zI sy), .int (zI fx), .int (zI fy), .int (zI lf), .int (zI un)])), (ou, .inl (cJ, 1, .inr (.inl OU)))] := hD.sub [1, 2, 3, 0] (by decide) rfl
  clear hK1 hvm
  obtain ⟨rfl, po_2⟩ := hw
  refine W.eq (g2 := F0 m 7 ls [.int (zI lf), .int (zI 0), .ref ou]) rfl ?_
  refine lv_i2l (v := (zI lf).toInt64) hx hb dL_way_7 rfl ?_
  refine va_last (n := 1) (f := OU) (i := zI 0) (x := (zI lf).toInt64) hx hb hK hP hD hS 3 4 rfl rfl (zI_in (by decide) (by decide) (by decide)) dL_way_8 (fun H locs hP hD hS => ?_)
  have hP : va_P (dC, dI) vwCl [(sl, .inr (5, [.ref sh, .int (zI lc), .ref ru, .ref tr, .ref se])), zQ cL sh 6 sf, (lv, .inr (1, [.int (zI w), .int (zI h), .ref ka, .ref ta, .int (zI sx), .int (zI sy), .int (zI fx), .int (zI fy), .int (zI lf), .int (zI un)])), (ou, .inl (cJ, 1, .inr (.inl (vp_updL OU (zI 0).toNatClampNeg ((zI lf).toInt64)))))] H := hP
  have hD : va_D A [(sl, .inr (5, [.ref sh, .int (zI lc), .ref ru, .ref tr, .ref se])), zQ cL sh 6 sf, (lv, .inr (1, [.int (zI w), .int (zI h), .ref ka, .ref ta, .int (zI sx), .int (zI sy), .int (zI fx), .int (zI fy), .int (zI lf), .int (zI un)])), (ou, .inl (cJ, 1, .inr (.inl (vp_updL OU (zI 0).toNatClampNeg ((zI lf).toInt64)))))] := hD
  refine lv_goto (tgt := 15) hx hb dL_way_9 (by decide) ?_
  refine lv_iconst (v := zI 0) hx hb dL_way_15 (rfl) ?_
  have hP9 := hP.sub (ws' := [(sl, .inr (5, [.ref sh, .int (zI lc), .ref ru, .ref tr, .ref se])), zQ cL sh 6 sf, (lv, .inr (1, [.int (zI w), .int (zI h), .ref ka, .ref ta, .int (zI sx), .int (zI sy), .int (zI fx), .int (zI fy), .int (zI lf), .int (zI un)])), (ou, .inl (cJ, 1, .inr (.inl (vp_updL OU (zI 0).toNatClampNeg ((zI lf).toInt64)))))]) [0, 1, 2, 3] rfl
  have hD9 := hD.sub (ws' := [(sl, .inr (5, [.ref sh, .int (zI lc), .ref ru, .ref tr, .ref se])), zQ cL sh 6 sf, (lv, .inr (1, [.int (zI w), .int (zI h), .ref ka, .ref ta, .int (zI sx), .int (zI sy), .int (zI fx), .int (zI fy), .int (zI lf), .int (zI un)])), (ou, .inl (cJ, 1, .inr (.inl (vp_updL OU (zI 0).toNatClampNeg ((zI lf).toInt64)))))]) [0, 1, 2, 3] (by decide) rfl
  have po : zI 0 = zI 0 ∧ ((vp_updL OU (zI 0).toNatClampNeg ((zI lf).toInt64)) 0 = (zI lf).toInt64) := by
    refine ⟨by first | rfl | (congr 1; omega) | (congr 1; simp [*]), ?_⟩
    exact zou
  exact W.iret (v := zI 0) hx hb hr (fun t ht hW => ⟨⟨zI 0, vp_updL OU (zI 0).toNatClampNeg ((zI lf).toInt64), rfl, po, by rw [ht]; exact hP9, va_K.moved hW.alike hK, hD9⟩, hS.F ht⟩) hS.2.2 dL_way_16
set_option maxHeartbeats 4000000 in
set_option maxRecDepth 100000 in
theorem c_L_open (l : Launch) (dC : Nat → ClassId) (dI : Nat → Nat → Nat) (cI cZ cL cT cJ : ClassId) (sz : Nat) (sl : Nat) (sh : Nat) (lc : Int) (ru : Nat) (tr : Nat) (se : Nat) (sf : Nat → Option Nat) (L : Int) (k : Nat) (lv : Nat) (w : Int) (h : Int) (ka : Nat) (ta : Nat) (sx : Int) (sy : Int) (fx : Int) (fy : Int) (lf : Int) (un : Int) (ou : Nat) (OU : Nat → Int64) (gk : L = (k : Int) ∧ k < 6) (gf : sf k = some lv) (gy : ¬ lf = -1) (gr : -1 ≤ lf ∧ lf ≤ 100) (gu : un = 0 ∨ un = 1) : Met l yL_open wsL_open ({ frames := 2, cells := 0, slots := 0, locals := 45 }) (zP (dC, dI) (zT cI cZ cL cT cJ) sz [.ref sl, .int (zI L), .ref ou] [(sl, .inr (5, [.ref sh, .int (zI lc), .ref ru, .ref tr, .ref se])), zQ cL sh 6 sf, (lv, .inr (1, [.int (zI w), .int (zI h), .ref ka, .ref ta, .int (zI sx), .int (zI sy), .int (zI fx), .int (zI fy), .int (zI lf), .int (zI un)])), (ou, .inl (cJ, 1, .inr (.inl OU)))]) (va_Qi (fun (r9 : Int32) (u9 : (Nat → Int64)) => match u9 with | OU1 => r9 = zI 0 ∧ (OU1 0 = (zI un).toInt64)) (zB (dC, dI) (zT cI cZ cL cT cJ) (va_A [(sl, .inr (5, [.ref sh, .int (zI lc), .ref ru, .ref tr, .ref se])), zQ cL sh 6 sf, (lv, .inr (1, [.int (zI w), .int (zI h), .ref ka, .ref ta, .int (zI sx), .int (zI sy), .int (zI fx), .int (zI fy), .int (zI lf), .int (zI un)])), (ou, .inl (cJ, 1, .inr (.inl OU)))] sz) (fun (u9 : (Nat → Int64)) => match u9 with | OU1 => [(sl, .inr (5, [.ref sh, .int (zI lc), .ref ru, .ref tr, .ref se])), zQ cL sh 6 sf, (lv, .inr (1, [.int (zI w), .int (zI h), .ref ka, .ref ta, .int (zI sx), .int (zI sy), .int (zI fx), .int (zI fy), .int (zI lf), .int (zI 1)])), (ou, .inl (cJ, 1, .inr (.inl OU1)))])) (va_A [(sl, .inr (5, [.ref sh, .int (zI lc), .ref ru, .ref tr, .ref se])), zQ cL sh 6 sf, (lv, .inr (1, [.int (zI w), .int (zI h), .ref ka, .ref ta, .int (zI sx), .int (zI sy), .int (zI fx), .int (zI fy), .int (zI lf), .int (zI un)])), (ou, .inl (cJ, 1, .inr (.inl OU)))] sz)) 0 0 (va_A [(sl, .inr (5, [.ref sh, .int (zI lc), .ref ru, .ref tr, .ref se])), zQ cL sh 6 sf, (lv, .inr (1, [.int (zI w), .int (zI h), .ref ka, .ref ta, .int (zI sx), .int (zI sy), .int (zI fx), .int (zI fy), .int (zI lf), .int (zI un)])), (ou, .inl (cJ, 1, .inr (.inl OU)))] sz) := by
  refine va_MetW (cc := cL_open) (maxL := 4) (ret := (some .int)) (by decide) rfl ?_
  intro p e s m args below meth c s₁ B hml hv
  obtain ⟨rfl, hsz, hP, hK, hD0⟩ := hv
  have hx := B.exec
  have hb := B.bytes
  have hr := B.returns
  have hts := atoms_spec (ws := wsL_open) B.pre
  have hown : s.vm.findClass RL = some m.cls := findClass_of_methodNamed B.named
  have hlocks := B.notSynchronized
  subst hsz
  have hD := hD0.self (sz := s.heap.size)
  generalize hAe : va_A [(sl, .inr (5, [.ref sh, .int (zI lc), .ref ru, .ref tr, .ref se])), zQ cL sh 6 sf, (lv, .inr (1, [.int (zI w), .int (zI h), .ref ka, .ref ta, .int (zI sx), .int (zI sy), .int (zI fx), .int (zI fy), .int (zI lf), .int (zI un)])), (ou, .inl (cJ, 1, .inr (.inl OU)))] s.heap.size = A at hD ⊢
  have hA : ∀ q : Nat, s.heap.size ≤ q → A q := fun q h => by rw [← hAe]; exact Or.inr h
  clear hAe hD0
  have hS : va_S A s.heap s.heap [] := va_S.rf
  have hP : va_P (dC, dI) vwCl [(sl, .inr (5, [.ref sh, .int (zI lc), .ref ru, .ref tr, .ref se])), zQ cL sh 6 sf, (lv, .inr (1, [.int (zI w), .int (zI h), .ref ka, .ref ta, .int (zI sx), .int (zI sy), .int (zI fx), .int (zI fy), .int (zI lf), .int (zI un)])), (ou, .inl (cJ, 1, .inr (.inl OU)))] s.heap := hP
  have hl := lv_entry ([.ref sl, .int (zI L), .ref ou]) (n := 4) (Nat.le_of_ble_eq_true rfl)
  rw [lg_entry_eq]
  generalize (lg_sl ([.ref sl, .int (zI L), .ref ou]) ++ List.replicate (4 - (lg_sl ([.ref sl, .int (zI L), .ref ou])).length) Slot.unset).toArray = ls at hl ⊢
  have hl : lv_has ls 4 [(0, .ref sl), (1, .int (zI L)), (2, .ref ou)] := hl
  refine lv_aload_n hx hb dL_open_0 rfl (lv_at hl 2 rfl) ?_
  refine lv_iconst (v := zI 0) hx hb dL_open_1 (rfl) ?_
  refine lv_aload_n hx hb dL_open_2 rfl (lv_at hl 0 rfl) ?_
  refine lv_iload_n hx hb dL_open_3 rfl (lv_at hl 1 rfl) ?_
  have hPc := hP.sub (ws' := [(sl, .inr (5, [.ref sh, .int (zI lc), .ref ru, .ref tr, .ref se])), zQ cL sh 6 sf, (lv, .inr (1, [.int (zI w), .int (zI h), .ref ka, .ref ta, .int (zI sx), .int (zI sy), .int (zI fx), .int (zI fy), .int (zI lf), .int (zI un)]))]) [0, 1, 2] rfl
  have hDc := hD.sub (ws' := [(sl, .inr (5, [.ref sh, .int (zI lc), .ref ru, .ref tr, .ref se])), zQ cL sh 6 sf, (lv, .inr (1, [.int (zI w), .int (zI h), .ref ka, .ref ta, .int (zI sx), .int (zI sy), .int (zI fx), .int (zI fy), .int (zI lf), .int (zI un)]))]) [0, 1, 2] (by decide) rfl
  have hFc := va_free (wc := [(sl, .inr (5, [.ref sh, .int (zI lc), .ref ru, .ref tr, .ref se])), zQ cL sh 6 sf, (lv, .inr (1, [.int (zI w), .int (zI h), .ref ka, .ref ta, .int (zI sx), .int (zI sy), .int (zI fx), .int (zI fy), .int (zI lf), .int (zI un)]))]) hD hS hA [0, 1, 2] rfl
  refine va_calli (va_runV (As := [.int (zI L)]) (rest := [.int (zI 0), .ref ou]) ⟨hx, hb, hml, hown, hts⟩ (c_X5_open l dC dI cI cZ cL cT cJ s.heap.size sl sh lc ru tr se sf L k lv w h ka ta sx sy fx fy lf un (by first | assumption | omega) (by first | assumption | omega) (by first | assumption | omega) (by first | assumption | omega) (by first | assumption | omega)) (cwV 1 hts gL_open_X5_open rfl rfl rfl (by decide +kernel) ⟨Nat.le_of_ble_eq_true rfl, Nat.le_of_ble_eq_true rfl⟩) ⟨zP_blind, va_recv hK hPc (ci := 5) (q0 := 0) rfl rfl, zP_pre hPc hDc hK⟩ rfl rfl hl.1 rfl (lv_room (Nat.le_of_ble_eq_true rfl)) dL_open_4 ⟨Nat.le_of_ble_eq_true rfl, Nat.le_of_ble_eq_true rfl⟩) hS (fun q _ h => hFc q h) hFc (fun r_1 u_1 t H1 locs ht hvm hw hB hz1 hk1 hS => ?_)
  obtain ⟨hP1, hK1, hD1⟩ := hB
  rw [ht] at hP1
  have hP1 : va_P (dC, dI) vwCl [(sl, .inr (5, [.ref sh, .int (zI lc), .ref ru, .ref tr, .ref se])), zQ cL sh 6 sf, (lv, .inr (1, [.int (zI w), .int (zI h), .ref ka, .ref ta, .int (zI sx), .int (zI sy), .int (zI fx), .int (zI fy), .int (zI lf), .int (zI 1)]))] H1 := hP1
  obtain ⟨hP, hD⟩ := va_join (wr := [(ou, .inl (cJ, 1, .inr (.inl OU)))]) (w1 := [(sl, .inr (5, [.ref sh, .int (zI lc), .ref ru, .ref tr, .ref se])), zQ cL sh 6 sf, (lv, .inr (1, [.int (zI w), .int (zI h), .ref ka, .ref ta, .int (zI sx), .int (zI sy), .int (zI fx), .int (zI fy), .int (zI lf), .int (zI 1)]))]) hP hD [0, 1, 2] [3] rfl rfl (by decide) (by decide) hk1 hFc hP1 hD1
  clear hP1 hD1 hk1 hFc hPc hDc hz1
  generalize H1 = H at hP hS ⊢
  have hP : va_P (dC, dI) vwCl [(sl, .inr (5, [.ref sh, .int (zI lc), .ref ru, .ref tr, .ref se])), zQ cL sh 6 sf, (lv, .inr (1, [.int (zI w), .int (zI h), .ref ka, .ref ta, .int (zI sx), .int (zI sy), .int (zI fx), .int (zI fy), .int (zI lf), .int (zI 1)])), (ou, .inl (cJ, 1, .inr (.inl OU)))] H := hP.sub [1, 2, 3, 0] rfl
  have hD : va_D A [(sl, .inr (5, [.ref sh, .int (zI lc), .ref ru, .ref tr, .ref se])), zQ cL sh 6 sf, (lv, .inr (1, [.int (zI w), .int (zI h), .ref ka, .ref ta, .int (zI sx), .int (zI sy), .int (zI fx), .int (zI fy), .int (zI lf), .int (zI 1)])), (ou, .inl (cJ, 1, .inr (.inl OU)))] := hD.sub [1, 2, 3, 0] (by decide) rfl
  clear hK1 hvm
  obtain ⟨rfl, po_2⟩ := hw
  refine W.eq (g2 := F0 m 7 ls [.int (zI un), .int (zI 0), .ref ou]) rfl ?_
  refine lz_if_eq (tgt := 14) hx hb dL_open_7 (by decide) (by omega) (fun c_3 => ?_) (fun c_3 => ?_)
  ·
    refine lv_lconst (v := (zI 0).toInt64) hx hb dL_open_14 (by decide) ?_
    refine va_last (n := 1) (f := OU) (i := zI 0) (x := (zI 0).toInt64) hx hb hK hP hD hS 3 4 rfl rfl (zI_in (by decide) (by decide) (by decide)) dL_open_15 (fun H locs hP hD hS => ?_)
    have hP : va_P (dC, dI) vwCl [(sl, .inr (5, [.ref sh, .int (zI lc), .ref ru, .ref tr, .ref se])), zQ cL sh 6 sf, (lv, .inr (1, [.int (zI w), .int (zI h), .ref ka, .ref ta, .int (zI sx), .int (zI sy), .int (zI fx), .int (zI fy), .int (zI lf), .int (zI 1)])), (ou, .inl (cJ, 1, .inr (.inl (vp_updL OU (zI 0).toNatClampNeg ((zI 0).toInt64)))))] H := hP
    have hD : va_D A [(sl, .inr (5, [.ref sh, .int (zI lc), .ref ru, .ref tr, .ref se])), zQ cL sh 6 sf, (lv, .inr (1, [.int (zI w), .int (zI h), .ref ka, .ref ta, .int (zI sx), .int (zI sy), .int (zI fx), .int (zI fy), .int (zI lf), .int (zI 1)])), (ou, .inl (cJ, 1, .inr (.inl (vp_updL OU (zI 0).toNatClampNeg ((zI 0).toInt64)))))] := hD
    refine lv_goto (tgt := 25) hx hb dL_open_16 (by decide) ?_
    refine lv_iconst (v := zI 0) hx hb dL_open_25 (rfl) ?_
    have hP9 := hP.sub (ws' := [(sl, .inr (5, [.ref sh, .int (zI lc), .ref ru, .ref tr, .ref se])), zQ cL sh 6 sf, (lv, .inr (1, [.int (zI w), .int (zI h), .ref ka, .ref ta, .int (zI sx), .int (zI sy), .int (zI fx), .int (zI fy), .int (zI lf), .int (zI 1)])), (ou, .inl (cJ, 1, .inr (.inl (vp_updL OU (zI 0).toNatClampNeg ((zI 0).toInt64)))))]) [0, 1, 2, 3] rfl
    have hD9 := hD.sub (ws' := [(sl, .inr (5, [.ref sh, .int (zI lc), .ref ru, .ref tr, .ref se])), zQ cL sh 6 sf, (lv, .inr (1, [.int (zI w), .int (zI h), .ref ka, .ref ta, .int (zI sx), .int (zI sy), .int (zI fx), .int (zI fy), .int (zI lf), .int (zI 1)])), (ou, .inl (cJ, 1, .inr (.inl (vp_updL OU (zI 0).toNatClampNeg ((zI 0).toInt64)))))]) [0, 1, 2, 3] (by decide) rfl
    have po : zI 0 = zI 0 ∧ ((vp_updL OU (zI 0).toNatClampNeg ((zI 0).toInt64)) 0 = (zI un).toInt64) := by
      refine ⟨by first | rfl | (congr 1; omega) | (congr 1; simp [*]), ?_⟩
      rw [zou, show un = 0 by omega]
    exact W.iret (v := zI 0) hx hb hr (fun t ht hW => ⟨⟨zI 0, vp_updL OU (zI 0).toNatClampNeg ((zI 0).toInt64), rfl, po, by rw [ht]; exact hP9, va_K.moved hW.alike hK, hD9⟩, hS.F ht⟩) hS.2.2 dL_open_26
  ·
    refine lv_lconst (v := (zI 1).toInt64) hx hb dL_open_10 (by decide) ?_
    refine lv_goto (tgt := 15) hx hb dL_open_11 (by decide) ?_
    refine va_last (n := 1) (f := OU) (i := zI 0) (x := (zI 1).toInt64) hx hb hK hP hD hS 3 4 rfl rfl (zI_in (by decide) (by decide) (by decide)) dL_open_15 (fun H locs hP hD hS => ?_)
    have hP : va_P (dC, dI) vwCl [(sl, .inr (5, [.ref sh, .int (zI lc), .ref ru, .ref tr, .ref se])), zQ cL sh 6 sf, (lv, .inr (1, [.int (zI w), .int (zI h), .ref ka, .ref ta, .int (zI sx), .int (zI sy), .int (zI fx), .int (zI fy), .int (zI lf), .int (zI 1)])), (ou, .inl (cJ, 1, .inr (.inl (vp_updL OU (zI 0).toNatClampNeg ((zI 1).toInt64)))))] H := hP
    have hD : va_D A [(sl, .inr (5, [.ref sh, .int (zI lc), .ref ru, .ref tr, .ref se])), zQ cL sh 6 sf, (lv, .inr (1, [.int (zI w), .int (zI h), .ref ka, .ref ta, .int (zI sx), .int (zI sy), .int (zI fx), .int (zI fy), .int (zI lf), .int (zI 1)])), (ou, .inl (cJ, 1, .inr (.inl (vp_updL OU (zI 0).toNatClampNeg ((zI 1).toInt64)))))] := hD
    refine lv_goto (tgt := 25) hx hb dL_open_16 (by decide) ?_
    refine lv_iconst (v := zI 0) hx hb dL_open_25 (rfl) ?_
    have hP9 := hP.sub (ws' := [(sl, .inr (5, [.ref sh, .int (zI lc), .ref ru, .ref tr, .ref se])), zQ cL sh 6 sf, (lv, .inr (1, [.int (zI w), .int (zI h), .ref ka, .ref ta, .int (zI sx), .int (zI sy), .int (zI fx), .int (zI fy), .int (zI lf), .int (zI 1)])), (ou, .inl (cJ, 1, .inr (.inl (vp_updL OU (zI 0).toNatClampNeg ((zI 1).toInt64)))))]) [0, 1, 2, 3] rfl
    have hD9 := hD.sub (ws' := [(sl, .inr (5, [.ref sh, .int (zI lc), .ref ru, .ref tr, .ref se])), zQ cL sh 6 sf, (lv, .inr (1, [.int (zI w), .int (zI h), .ref ka, .ref ta, .int (zI sx), .int (zI sy), .int (zI fx), .int (zI fy), .int (zI lf), .int (zI 1)])), (ou, .inl (cJ, 1, .inr (.inl (vp_updL OU (zI 0).toNatClampNeg ((zI 1).toInt64)))))]) [0, 1, 2, 3] (by decide) rfl
    have po : zI 0 = zI 0 ∧ ((vp_updL OU (zI 0).toNatClampNeg ((zI 1).toInt64)) 0 = (zI un).toInt64) := by
      refine ⟨by first | rfl | (congr 1; omega) | (congr 1; simp [*]), ?_⟩
      rw [zou, show un = 1 by omega]
    exact W.iret (v := zI 0) hx hb hr (fun t ht hW => ⟨⟨zI 0, vp_updL OU (zI 0).toNatClampNeg ((zI 1).toInt64), rfl, po, by rw [ht]; exact hP9, va_K.moved hW.alike hK, hD9⟩, hS.F ht⟩) hS.2.2 dL_open_26
set_option maxHeartbeats 4000000 in
set_option maxRecDepth 100000 in
theorem c_L_isOpen (l : Launch) (dC : Nat → ClassId) (dI : Nat → Nat → Nat) (cI cZ cL cT cJ : ClassId) (sz : Nat) (sl : Nat) (sh : Nat) (lc : Int) (ru : Nat) (tr : Nat) (se : Nat) (sf : Nat → Option Nat) (L : Int) (k : Nat) (lv : Nat) (w : Int) (h : Int) (ka : Nat) (ta : Nat) (sx : Int) (sy : Int) (fx : Int) (fy : Int) (lf : Int) (un : Int) (ou : Nat) (OU : Nat → Int64) (gk : L = (k : Int) ∧ k < 6) (gf : sf k = some lv) (gu : un = 0 ∨ un = 1) : Met l yL_isOpen wsL_isOpen ({ frames := 2, cells := 0, slots := 0, locals := 43 }) (zP (dC, dI) (zT cI cZ cL cT cJ) sz [.ref sl, .int (zI L), .ref ou] [(sl, .inr (5, [.ref sh, .int (zI lc), .ref ru, .ref tr, .ref se])), zQ cL sh 6 sf, (lv, .inr (1, [.int (zI w), .int (zI h), .ref ka, .ref ta, .int (zI sx), .int (zI sy), .int (zI fx), .int (zI fy), .int (zI lf), .int (zI un)])), (ou, .inl (cJ, 1, .inr (.inl OU)))]) (va_Qi (fun (r9 : Int32) (u9 : (Nat → Int64)) => match u9 with | OU1 => r9 = zI 0 ∧ (OU1 0 = (zI un).toInt64)) (zB (dC, dI) (zT cI cZ cL cT cJ) (va_A [(sl, .inr (5, [.ref sh, .int (zI lc), .ref ru, .ref tr, .ref se])), zQ cL sh 6 sf, (lv, .inr (1, [.int (zI w), .int (zI h), .ref ka, .ref ta, .int (zI sx), .int (zI sy), .int (zI fx), .int (zI fy), .int (zI lf), .int (zI un)])), (ou, .inl (cJ, 1, .inr (.inl OU)))] sz) (fun (u9 : (Nat → Int64)) => match u9 with | OU1 => [(sl, .inr (5, [.ref sh, .int (zI lc), .ref ru, .ref tr, .ref se])), zQ cL sh 6 sf, (lv, .inr (1, [.int (zI w), .int (zI h), .ref ka, .ref ta, .int (zI sx), .int (zI sy), .int (zI fx), .int (zI fy), .int (zI lf), .int (zI un)])), (ou, .inl (cJ, 1, .inr (.inl OU1)))])) (va_A [(sl, .inr (5, [.ref sh, .int (zI lc), .ref ru, .ref tr, .ref se])), zQ cL sh 6 sf, (lv, .inr (1, [.int (zI w), .int (zI h), .ref ka, .ref ta, .int (zI sx), .int (zI sy), .int (zI fx), .int (zI fy), .int (zI lf), .int (zI un)])), (ou, .inl (cJ, 1, .inr (.inl OU)))] sz)) 0 0 (va_A [(sl, .inr (5, [.ref sh, .int (zI lc), .ref ru, .ref tr, .ref se])), zQ cL sh 6 sf, (lv, .inr (1, [.int (zI w), .int (zI h), .ref ka, .ref ta, .int (zI sx), .int (zI sy), .int (zI fx), .int (zI fy), .int (zI lf), .int (zI un)])), (ou, .inl (cJ, 1, .inr (.inl OU)))] sz) := by
  refine va_MetW (cc := cL_isOpen) (maxL := 4) (ret := (some .int)) (by decide) rfl ?_
  intro p e s m args below meth c s₁ B hml hv
  obtain ⟨rfl, hsz, hP, hK, hD0⟩ := hv
  have hx := B.exec
  have hb := B.bytes
  have hr := B.returns
  have hts := atoms_spec (ws := wsL_isOpen) B.pre
  have hown : s.vm.findClass RL = some m.cls := findClass_of_methodNamed B.named
  have hlocks := B.notSynchronized
  subst hsz
  have hD := hD0.self (sz := s.heap.size)
  generalize hAe : va_A [(sl, .inr (5, [.ref sh, .int (zI lc), .ref ru, .ref tr, .ref se])), zQ cL sh 6 sf, (lv, .inr (1, [.int (zI w), .int (zI h), .ref ka, .ref ta, .int (zI sx), .int (zI sy), .int (zI fx), .int (zI fy), .int (zI lf), .int (zI un)])), (ou, .inl (cJ, 1, .inr (.inl OU)))] s.heap.size = A at hD ⊢
  have hA : ∀ q : Nat, s.heap.size ≤ q → A q := fun q h => by rw [← hAe]; exact Or.inr h
  clear hAe hD0
  have hS : va_S A s.heap s.heap [] := va_S.rf
  have hP : va_P (dC, dI) vwCl [(sl, .inr (5, [.ref sh, .int (zI lc), .ref ru, .ref tr, .ref se])), zQ cL sh 6 sf, (lv, .inr (1, [.int (zI w), .int (zI h), .ref ka, .ref ta, .int (zI sx), .int (zI sy), .int (zI fx), .int (zI fy), .int (zI lf), .int (zI un)])), (ou, .inl (cJ, 1, .inr (.inl OU)))] s.heap := hP
  have hl := lv_entry ([.ref sl, .int (zI L), .ref ou]) (n := 4) (Nat.le_of_ble_eq_true rfl)
  rw [lg_entry_eq]
  generalize (lg_sl ([.ref sl, .int (zI L), .ref ou]) ++ List.replicate (4 - (lg_sl ([.ref sl, .int (zI L), .ref ou])).length) Slot.unset).toArray = ls at hl ⊢
  have hl : lv_has ls 4 [(0, .ref sl), (1, .int (zI L)), (2, .ref ou)] := hl
  refine lv_aload_n hx hb dL_isOpen_0 rfl (lv_at hl 2 rfl) ?_
  refine lv_iconst (v := zI 0) hx hb dL_isOpen_1 (rfl) ?_
  refine lv_aload_n hx hb dL_isOpen_2 rfl (lv_at hl 0 rfl) ?_
  refine lv_iload_n hx hb dL_isOpen_3 rfl (lv_at hl 1 rfl) ?_
  have hPc := hP.sub (ws' := [(sl, .inr (5, [.ref sh, .int (zI lc), .ref ru, .ref tr, .ref se])), zQ cL sh 6 sf, (lv, .inr (1, [.int (zI w), .int (zI h), .ref ka, .ref ta, .int (zI sx), .int (zI sy), .int (zI fx), .int (zI fy), .int (zI lf), .int (zI un)]))]) [0, 1, 2] rfl
  have hDc := hD.sub (ws' := [(sl, .inr (5, [.ref sh, .int (zI lc), .ref ru, .ref tr, .ref se])), zQ cL sh 6 sf, (lv, .inr (1, [.int (zI w), .int (zI h), .ref ka, .ref ta, .int (zI sx), .int (zI sy), .int (zI fx), .int (zI fy), .int (zI lf), .int (zI un)]))]) [0, 1, 2] (by decide) rfl
  have hFc := va_free (wc := [(sl, .inr (5, [.ref sh, .int (zI lc), .ref ru, .ref tr, .ref se])), zQ cL sh 6 sf, (lv, .inr (1, [.int (zI w), .int (zI h), .ref ka, .ref ta, .int (zI sx), .int (zI sy), .int (zI fx), .int (zI fy), .int (zI lf), .int (zI un)]))]) hD hS hA [0, 1, 2] rfl
  refine va_calli (va_runV (As := [.int (zI L)]) (rest := [.int (zI 0), .ref ou]) ⟨hx, hb, hml, hown, hts⟩ (c_X5_isOpen l dC dI cI cZ cL cT cJ s.heap.size sl sh lc ru tr se sf L k lv w h ka ta sx sy fx fy lf un (by first | assumption | omega) (by first | assumption | omega) (by first | assumption | omega)) (cwV 1 hts gL_isOpen_X5_isOpen rfl rfl rfl (by decide +kernel) ⟨Nat.le_of_ble_eq_true rfl, Nat.le_of_ble_eq_true rfl⟩) ⟨zP_blind, va_recv hK hPc (ci := 5) (q0 := 0) rfl rfl, zP_pre hPc hDc hK⟩ rfl rfl hl.1 rfl (lv_room (Nat.le_of_ble_eq_true rfl)) dL_isOpen_4 ⟨Nat.le_of_ble_eq_true rfl, Nat.le_of_ble_eq_true rfl⟩) hS (fun q _ h => hFc q h) hFc (fun r_1 u_1 t H1 locs ht hvm hw hB hz1 hk1 hS => ?_)
  obtain ⟨hP1, hK1, hD1⟩ := hB
  rw [ht] at hP1
  have hP1 : va_P (dC, dI) vwCl [(sl, .inr (5, [.ref sh, .int (zI lc), .ref ru, .ref tr, .ref se])), zQ cL sh 6 sf, (lv, .inr (1, [.int (zI w), .int (zI h), .ref ka, .ref ta, .int (zI sx), .int (zI sy), .int (zI fx), .int (zI fy), .int (zI lf), .int (zI un)]))] H1 := hP1
  obtain ⟨hP, hD⟩ := va_join (wr := [(ou, .inl (cJ, 1, .inr (.inl OU)))]) (w1 := [(sl, .inr (5, [.ref sh, .int (zI lc), .ref ru, .ref tr, .ref se])), zQ cL sh 6 sf, (lv, .inr (1, [.int (zI w), .int (zI h), .ref ka, .ref ta, .int (zI sx), .int (zI sy), .int (zI fx), .int (zI fy), .int (zI lf), .int (zI un)]))]) hP hD [0, 1, 2] [3] rfl rfl (by decide) (by decide) hk1 hFc hP1 hD1
  clear hP1 hD1 hk1 hFc hPc hDc hz1
  generalize H1 = H at hP hS ⊢
  have hP : va_P (dC, dI) vwCl [(sl, .inr (5, [.ref sh, .int (zI lc), .ref ru, .ref tr, .ref se])), zQ cL sh 6 sf, (lv, .inr (1, [.int (zI w), .int (zI h), .ref ka, .ref ta, .int (zI sx), .int (zI sy), .int (zI fx), .int (zI fy), .int (zI lf), .int (zI un)])), (ou, .inl (cJ, 1, .inr (.inl OU)))] H := hP.sub [1, 2, 3, 0] rfl
  have hD : va_D A [(sl, .inr (5, [.ref sh, .int (zI lc), .ref ru, .ref tr, .ref se])), zQ cL sh 6 sf, (lv, .inr (1, [.int (zI w), .int (zI h), .ref ka, .ref ta, .int (zI sx), .int (zI sy), .int (zI fx), .int (zI fy), .int (zI lf), .int (zI un)])), (ou, .inl (cJ, 1, .inr (.inl OU)))] := hD.sub [1, 2, 3, 0] (by decide) rfl
  clear hK1 hvm
  obtain ⟨rfl, po_2⟩ := hw
  refine W.eq (g2 := F0 m 7 ls [.int (zI un), .int (zI 0), .ref ou]) rfl ?_
  refine lz_if_eq (tgt := 14) hx hb dL_isOpen_7 (by decide) (by omega) (fun c_3 => ?_) (fun c_3 => ?_)
  ·
    refine lv_lconst (v := (zI 0).toInt64) hx hb dL_isOpen_14 (by decide) ?_
    refine va_last (n := 1) (f := OU) (i := zI 0) (x := (zI 0).toInt64) hx hb hK hP hD hS 3 4 rfl rfl (zI_in (by decide) (by decide) (by decide)) dL_isOpen_15 (fun H locs hP hD hS => ?_)
    have hP : va_P (dC, dI) vwCl [(sl, .inr (5, [.ref sh, .int (zI lc), .ref ru, .ref tr, .ref se])), zQ cL sh 6 sf, (lv, .inr (1, [.int (zI w), .int (zI h), .ref ka, .ref ta, .int (zI sx), .int (zI sy), .int (zI fx), .int (zI fy), .int (zI lf), .int (zI un)])), (ou, .inl (cJ, 1, .inr (.inl (vp_updL OU (zI 0).toNatClampNeg ((zI 0).toInt64)))))] H := hP
    have hD : va_D A [(sl, .inr (5, [.ref sh, .int (zI lc), .ref ru, .ref tr, .ref se])), zQ cL sh 6 sf, (lv, .inr (1, [.int (zI w), .int (zI h), .ref ka, .ref ta, .int (zI sx), .int (zI sy), .int (zI fx), .int (zI fy), .int (zI lf), .int (zI un)])), (ou, .inl (cJ, 1, .inr (.inl (vp_updL OU (zI 0).toNatClampNeg ((zI 0).toInt64)))))] := hD
    refine lv_goto (tgt := 22) hx hb dL_isOpen_16 (by decide) ?_
    refine lv_iconst (v := zI 0) hx hb dL_isOpen_22 (rfl) ?_
    have hP9 := hP.sub (ws' := [(sl, .inr (5, [.ref sh, .int (zI lc), .ref ru, .ref tr, .ref se])), zQ cL sh 6 sf, (lv, .inr (1, [.int (zI w), .int (zI h), .ref ka, .ref ta, .int (zI sx), .int (zI sy), .int (zI fx), .int (zI fy), .int (zI lf), .int (zI un)])), (ou, .inl (cJ, 1, .inr (.inl (vp_updL OU (zI 0).toNatClampNeg ((zI 0).toInt64)))))]) [0, 1, 2, 3] rfl
    have hD9 := hD.sub (ws' := [(sl, .inr (5, [.ref sh, .int (zI lc), .ref ru, .ref tr, .ref se])), zQ cL sh 6 sf, (lv, .inr (1, [.int (zI w), .int (zI h), .ref ka, .ref ta, .int (zI sx), .int (zI sy), .int (zI fx), .int (zI fy), .int (zI lf), .int (zI un)])), (ou, .inl (cJ, 1, .inr (.inl (vp_updL OU (zI 0).toNatClampNeg ((zI 0).toInt64)))))]) [0, 1, 2, 3] (by decide) rfl
    have po : zI 0 = zI 0 ∧ ((vp_updL OU (zI 0).toNatClampNeg ((zI 0).toInt64)) 0 = (zI un).toInt64) := by
      refine ⟨by first | rfl | (congr 1; omega) | (congr 1; simp [*]), ?_⟩
      rw [zou, show un = 0 by omega]
    exact W.iret (v := zI 0) hx hb hr (fun t ht hW => ⟨⟨zI 0, vp_updL OU (zI 0).toNatClampNeg ((zI 0).toInt64), rfl, po, by rw [ht]; exact hP9, va_K.moved hW.alike hK, hD9⟩, hS.F ht⟩) hS.2.2 dL_isOpen_23
  ·
    refine lv_lconst (v := (zI 1).toInt64) hx hb dL_isOpen_10 (by decide) ?_
    refine lv_goto (tgt := 15) hx hb dL_isOpen_11 (by decide) ?_
    refine va_last (n := 1) (f := OU) (i := zI 0) (x := (zI 1).toInt64) hx hb hK hP hD hS 3 4 rfl rfl (zI_in (by decide) (by decide) (by decide)) dL_isOpen_15 (fun H locs hP hD hS => ?_)
    have hP : va_P (dC, dI) vwCl [(sl, .inr (5, [.ref sh, .int (zI lc), .ref ru, .ref tr, .ref se])), zQ cL sh 6 sf, (lv, .inr (1, [.int (zI w), .int (zI h), .ref ka, .ref ta, .int (zI sx), .int (zI sy), .int (zI fx), .int (zI fy), .int (zI lf), .int (zI un)])), (ou, .inl (cJ, 1, .inr (.inl (vp_updL OU (zI 0).toNatClampNeg ((zI 1).toInt64)))))] H := hP
    have hD : va_D A [(sl, .inr (5, [.ref sh, .int (zI lc), .ref ru, .ref tr, .ref se])), zQ cL sh 6 sf, (lv, .inr (1, [.int (zI w), .int (zI h), .ref ka, .ref ta, .int (zI sx), .int (zI sy), .int (zI fx), .int (zI fy), .int (zI lf), .int (zI un)])), (ou, .inl (cJ, 1, .inr (.inl (vp_updL OU (zI 0).toNatClampNeg ((zI 1).toInt64)))))] := hD
    refine lv_goto (tgt := 22) hx hb dL_isOpen_16 (by decide) ?_
    refine lv_iconst (v := zI 0) hx hb dL_isOpen_22 (rfl) ?_
    have hP9 := hP.sub (ws' := [(sl, .inr (5, [.ref sh, .int (zI lc), .ref ru, .ref tr, .ref se])), zQ cL sh 6 sf, (lv, .inr (1, [.int (zI w), .int (zI h), .ref ka, .ref ta, .int (zI sx), .int (zI sy), .int (zI fx), .int (zI fy), .int (zI lf), .int (zI un)])), (ou, .inl (cJ, 1, .inr (.inl (vp_updL OU (zI 0).toNatClampNeg ((zI 1).toInt64)))))]) [0, 1, 2, 3] rfl
    have hD9 := hD.sub (ws' := [(sl, .inr (5, [.ref sh, .int (zI lc), .ref ru, .ref tr, .ref se])), zQ cL sh 6 sf, (lv, .inr (1, [.int (zI w), .int (zI h), .ref ka, .ref ta, .int (zI sx), .int (zI sy), .int (zI fx), .int (zI fy), .int (zI lf), .int (zI un)])), (ou, .inl (cJ, 1, .inr (.inl (vp_updL OU (zI 0).toNatClampNeg ((zI 1).toInt64)))))]) [0, 1, 2, 3] (by decide) rfl
    have po : zI 0 = zI 0 ∧ ((vp_updL OU (zI 0).toNatClampNeg ((zI 1).toInt64)) 0 = (zI un).toInt64) := by
      refine ⟨by first | rfl | (congr 1; omega) | (congr 1; simp [*]), ?_⟩
      rw [zou, show un = 1 by omega]
    exact W.iret (v := zI 0) hx hb hr (fun t ht hW => ⟨⟨zI 0, vp_updL OU (zI 0).toNatClampNeg ((zI 1).toInt64), rfl, po, by rw [ht]; exact hP9, va_K.moved hW.alike hK, hD9⟩, hS.F ht⟩) hS.2.2 dL_isOpen_23
set_option maxHeartbeats 4000000 in
set_option maxRecDepth 100000 in
theorem c_L_begin (l : Launch) (dC : Nat → ClassId) (dI : Nat → Nat → Nat) (cI cZ cL cT cJ : ClassId) (sz : Nat) (sl : Nat) (sh : Nat) (lc : Int) (ru : Nat) (tr : Nat) (se : Nat) (sf : Nat → Option Nat) (L : Int) (k : Nat) (rh : Nat) (rt : Nat) (rp : Int) (oc : Int) (rl : Option Nat) (hx9 : Int) (hy9 : Int) (hl9 : Int) (ri : Nat) (rln : Int) (rhf : Int) (lv : Nat) (w : Int) (h : Int) (ka : Nat) (ta : Nat) (sx : Int) (sy : Int) (fx : Int) (fy : Int) (lf : Int) (un : Int) (pl : Int) (ou : Nat) (OU : Nat → Int64) (gk : L = (k : Int) ∧ k < 6) (gf : sf k = some lv) (gp : 0 ≤ pl ∧ pl ≤ 3) (gu : un = 1) (gw : 0 ≤ w ∧ w ≤ 100) (gs : 0 ≤ sx ∧ sx ≤ 100) : Met l yL_begin wsL_begin ({ frames := 4, cells := 0, slots := 0, locals := 89 }) (zP (dC, dI) (zT cI cZ cL cT cJ) sz [.ref sl, .int (zI pl), .int (zI L), .ref ou] [(sl, .inr (5, [.ref sh, .int (zI lc), .ref ru, .ref tr, .ref se])), zQ cL sh 6 sf, (ru, .inr (2, [.ref rh, .ref rt, va_rf rl, .int (zI rp), .int (zI oc)])), (rh, .inr (0, [.int (zI hx9), .int (zI hy9), .int (zI hl9)])), (rt, .inr (4, [.ref ri, .int (zI rln), .int (zI rhf)])), (lv, .inr (1, [.int (zI w), .int (zI h), .ref ka, .ref ta, .int (zI sx), .int (zI sy), .int (zI fx), .int (zI fy), .int (zI lf), .int (zI un)])), (ou, .inl (cJ, 1, .inr (.inl OU)))]) (va_Qi (fun (r9 : Int32) (u9 : Int × (Nat → Int64)) => match u9 with | (h1, OU1) => r9 = zI 0 ∧ ((h1 = ncF (-1) 0 sx w) ∧ OU1 0 = (zI sx).toInt64)) (zB (dC, dI) (zT cI cZ cL cT cJ) (va_A [(sl, .inr (5, [.ref sh, .int (zI lc), .ref ru, .ref tr, .ref se])), zQ cL sh 6 sf, (ru, .inr (2, [.ref rh, .ref rt, va_rf rl, .int (zI rp), .int (zI oc)])), (rh, .inr (0, [.int (zI hx9), .int (zI hy9), .int (zI hl9)])), (rt, .inr (4, [.ref ri, .int (zI rln), .int (zI rhf)])), (lv, .inr (1, [.int (zI w), .int (zI h), .ref ka, .ref ta, .int (zI sx), .int (zI sy), .int (zI fx), .int (zI fy), .int (zI lf), .int (zI un)])), (ou, .inl (cJ, 1, .inr (.inl OU)))] sz) (fun (u9 : Int × (Nat → Int64)) => match u9 with | (h1, OU1) => [(sl, .inr (5, [.ref sh, .int (zI lc), .ref ru, .ref tr, .ref se])), zQ cL sh 6 sf, (ru, .inr (2, [.ref rh, .ref rt, .ref lv, .int (zI pl), .int (zI 0)])), (rh, .inr (0, [.int (zI sx), .int (zI sy), .int (zI 0)])), (rt, .inr (4, [.ref ri, .int (zI 0), .int (zI h1)])), (lv, .inr (1, [.int (zI w), .int (zI h), .ref ka, .ref ta, .int (zI sx), .int (zI sy), .int (zI fx), .int (zI fy), .int (zI lf), .int (zI un)])), (ou, .inl (cJ, 1, .inr (.inl OU1)))])) (va_A [(sl, .inr (5, [.ref sh, .int (zI lc), .ref ru, .ref tr, .ref se])), zQ cL sh 6 sf, (ru, .inr (2, [.ref rh, .ref rt, va_rf rl, .int (zI rp), .int (zI oc)])), (rh, .inr (0, [.int (zI hx9), .int (zI hy9), .int (zI hl9)])), (rt, .inr (4, [.ref ri, .int (zI rln), .int (zI rhf)])), (lv, .inr (1, [.int (zI w), .int (zI h), .ref ka, .ref ta, .int (zI sx), .int (zI sy), .int (zI fx), .int (zI fy), .int (zI lf), .int (zI un)])), (ou, .inl (cJ, 1, .inr (.inl OU)))] sz)) 0 0 (va_A [(sl, .inr (5, [.ref sh, .int (zI lc), .ref ru, .ref tr, .ref se])), zQ cL sh 6 sf, (ru, .inr (2, [.ref rh, .ref rt, va_rf rl, .int (zI rp), .int (zI oc)])), (rh, .inr (0, [.int (zI hx9), .int (zI hy9), .int (zI hl9)])), (rt, .inr (4, [.ref ri, .int (zI rln), .int (zI rhf)])), (lv, .inr (1, [.int (zI w), .int (zI h), .ref ka, .ref ta, .int (zI sx), .int (zI sy), .int (zI fx), .int (zI fy), .int (zI lf), .int (zI un)])), (ou, .inl (cJ, 1, .inr (.inl OU)))] sz) := by
  refine va_MetW (cc := cL_begin) (maxL := 5) (ret := (some .int)) (by decide) rfl ?_
  intro p e s m args below meth c s₁ B hml hv
  obtain ⟨rfl, hsz, hP, hK, hD0⟩ := hv
  have hx := B.exec
  have hb := B.bytes
  have hr := B.returns
  have hts := atoms_spec (ws := wsL_begin) B.pre
  have hown : s.vm.findClass RL = some m.cls := findClass_of_methodNamed B.named
  have hlocks := B.notSynchronized
  subst hsz
  have hD := hD0.self (sz := s.heap.size)
  generalize hAe : va_A [(sl, .inr (5, [.ref sh, .int (zI lc), .ref ru, .ref tr, .ref se])), zQ cL sh 6 sf, (ru, .inr (2, [.ref rh, .ref rt, va_rf rl, .int (zI rp), .int (zI oc)])), (rh, .inr (0, [.int (zI hx9), .int (zI hy9), .int (zI hl9)])), (rt, .inr (4, [.ref ri, .int (zI rln), .int (zI rhf)])), (lv, .inr (1, [.int (zI w), .int (zI h), .ref ka, .ref ta, .int (zI sx), .int (zI sy), .int (zI fx), .int (zI fy), .int (zI lf), .int (zI un)])), (ou, .inl (cJ, 1, .inr (.inl OU)))] s.heap.size = A at hD ⊢
  have hA : ∀ q : Nat, s.heap.size ≤ q → A q := fun q h => by rw [← hAe]; exact Or.inr h
  clear hAe hD0
  have hS : va_S A s.heap s.heap [] := va_S.rf
  have hP : va_P (dC, dI) vwCl [(sl, .inr (5, [.ref sh, .int (zI lc), .ref ru, .ref tr, .ref se])), zQ cL sh 6 sf, (ru, .inr (2, [.ref rh, .ref rt, va_rf rl, .int (zI rp), .int (zI oc)])), (rh, .inr (0, [.int (zI hx9), .int (zI hy9), .int (zI hl9)])), (rt, .inr (4, [.ref ri, .int (zI rln), .int (zI rhf)])), (lv, .inr (1, [.int (zI w), .int (zI h), .ref ka, .ref ta, .int (zI sx), .int (zI sy), .int (zI fx), .int (zI fy), .int (zI lf), .int (zI un)])), (ou, .inl (cJ, 1, .inr (.inl OU)))] s.heap := hP
  have hl := lv_entry ([.ref sl, .int (zI pl), .int (zI L), .ref ou]) (n := 5) (Nat.le_of_ble_eq_true rfl)
  rw [lg_entry_eq]
  generalize (lg_sl ([.ref sl, .int (zI pl), .int (zI L), .ref ou]) ++ List.replicate (5 - (lg_sl ([.ref sl, .int (zI pl), .int (zI L), .ref ou])).length) Slot.unset).toArray = ls at hl ⊢
  have hl : lv_has ls 5 [(0, .ref sl), (1, .int (zI pl)), (2, .int (zI L)), (3, .ref ou)] := hl
  refine lv_aload_n hx hb dL_begin_0 rfl (lv_at hl 3 rfl) ?_
  refine lv_iconst (v := zI 0) hx hb dL_begin_1 (rfl) ?_
  refine lv_aload_n hx hb dL_begin_2 rfl (lv_at hl 0 rfl) ?_
  refine lv_iload_n hx hb dL_begin_3 rfl (lv_at hl 1 rfl) ?_
  refine lv_iload_n hx hb dL_begin_4 rfl (lv_at hl 2 rfl) ?_
  have hPc := hP.sub (ws' := [(sl, .inr (5, [.ref sh, .int (zI lc), .ref ru, .ref tr, .ref se])), zQ cL sh 6 sf, (ru, .inr (2, [.ref rh, .ref rt, va_rf rl, .int (zI rp), .int (zI oc)])), (rh, .inr (0, [.int (zI hx9), .int (zI hy9), .int (zI hl9)])), (rt, .inr (4, [.ref ri, .int (zI rln), .int (zI rhf)])), (lv, .inr (1, [.int (zI w), .int (zI h), .ref ka, .ref ta, .int (zI sx), .int (zI sy), .int (zI fx), .int (zI fy), .int (zI lf), .int (zI un)]))]) [0, 1, 2, 3, 4, 5] rfl
  have hDc := hD.sub (ws' := [(sl, .inr (5, [.ref sh, .int (zI lc), .ref ru, .ref tr, .ref se])), zQ cL sh 6 sf, (ru, .inr (2, [.ref rh, .ref rt, va_rf rl, .int (zI rp), .int (zI oc)])), (rh, .inr (0, [.int (zI hx9), .int (zI hy9), .int (zI hl9)])), (rt, .inr (4, [.ref ri, .int (zI rln), .int (zI rhf)])), (lv, .inr (1, [.int (zI w), .int (zI h), .ref ka, .ref ta, .int (zI sx), .int (zI sy), .int (zI fx), .int (zI fy), .int (zI lf), .int (zI un)]))]) [0, 1, 2, 3, 4, 5] (by decide) rfl
  have hFc := va_free (wc := [(sl, .inr (5, [.ref sh, .int (zI lc), .ref ru, .ref tr, .ref se])), zQ cL sh 6 sf, (ru, .inr (2, [.ref rh, .ref rt, va_rf rl, .int (zI rp), .int (zI oc)])), (rh, .inr (0, [.int (zI hx9), .int (zI hy9), .int (zI hl9)])), (rt, .inr (4, [.ref ri, .int (zI rln), .int (zI rhf)])), (lv, .inr (1, [.int (zI w), .int (zI h), .ref ka, .ref ta, .int (zI sx), .int (zI sy), .int (zI fx), .int (zI fy), .int (zI lf), .int (zI un)]))]) hD hS hA [0, 1, 2, 3, 4, 5] rfl
  refine va_calli (va_runV (As := [.int (zI pl), .int (zI L)]) (rest := [.int (zI 0), .ref ou]) ⟨hx, hb, hml, hown, hts⟩ (c_X5_begin l dC dI cI cZ cL cT cJ s.heap.size sl sh lc ru tr se sf L k rh rt rp oc rl hx9 hy9 hl9 ri rln rhf lv w h ka ta sx sy fx fy lf un pl (by first | assumption | omega) (by first | assumption | omega) (by first | assumption | omega) (by first | assumption | omega) (by first | assumption | omega) (by first | assumption | omega)) (cwV 2 hts gL_begin_X5_begin rfl rfl rfl (by decide +kernel) ⟨Nat.le_of_ble_eq_true rfl, Nat.le_of_ble_eq_true rfl⟩) ⟨zP_blind, va_recv hK hPc (ci := 5) (q0 := 0) rfl rfl, zP_pre hPc hDc hK⟩ rfl rfl hl.1 rfl (lv_room (Nat.le_of_ble_eq_true rfl)) dL_begin_5 ⟨Nat.le_of_ble_eq_true rfl, Nat.le_of_ble_eq_true rfl⟩) hS (fun q _ h => hFc q h) hFc (fun r_1 u_1 t H1 locs ht hvm hw hB hz1 hk1 hS => ?_)
  obtain ⟨h1_2, rfl⟩ : ∃ z, z = u_1 := ⟨_, rfl⟩
  obtain ⟨hP1, hK1, hD1⟩ := hB
  rw [ht] at hP1
  have hP1 : va_P (dC, dI) vwCl [(sl, .inr (5, [.ref sh, .int (zI lc), .ref ru, .ref tr, .ref se])), zQ cL sh 6 sf, (ru, .inr (2, [.ref rh, .ref rt, .ref lv, .int (zI pl), .int (zI 0)])), (rh, .inr (0, [.int (zI sx), .int (zI sy), .int (zI 0)])), (rt, .inr (4, [.ref ri, .int (zI 0), .int (zI h1_2)])), (lv, .inr (1, [.int (zI w), .int (zI h), .ref ka, .ref ta, .int (zI sx), .int (zI sy), .int (zI fx), .int (zI fy), .int (zI lf), .int (zI un)]))] H1 := hP1
  obtain ⟨hP, hD⟩ := va_join (wr := [(ou, .inl (cJ, 1, .inr (.inl OU)))]) (w1 := [(sl, .inr (5, [.ref sh, .int (zI lc), .ref ru, .ref tr, .ref se])), zQ cL sh 6 sf, (ru, .inr (2, [.ref rh, .ref rt, .ref lv, .int (zI pl), .int (zI 0)])), (rh, .inr (0, [.int (zI sx), .int (zI sy), .int (zI 0)])), (rt, .inr (4, [.ref ri, .int (zI 0), .int (zI h1_2)])), (lv, .inr (1, [.int (zI w), .int (zI h), .ref ka, .ref ta, .int (zI sx), .int (zI sy), .int (zI fx), .int (zI fy), .int (zI lf), .int (zI un)]))]) hP hD [0, 1, 2, 3, 4, 5] [6] rfl rfl (by decide) (by decide) hk1 hFc hP1 hD1
  clear hP1 hD1 hk1 hFc hPc hDc hz1
  generalize H1 = H at hP hS ⊢
  have hP : va_P (dC, dI) vwCl [(sl, .inr (5, [.ref sh, .int (zI lc), .ref ru, .ref tr, .ref se])), zQ cL sh 6 sf, (ru, .inr (2, [.ref rh, .ref rt, .ref lv, .int (zI pl), .int (zI 0)])), (rh, .inr (0, [.int (zI sx), .int (zI sy), .int (zI 0)])), (rt, .inr (4, [.ref ri, .int (zI 0), .int (zI h1_2)])), (lv, .inr (1, [.int (zI w), .int (zI h), .ref ka, .ref ta, .int (zI sx), .int (zI sy), .int (zI fx), .int (zI fy), .int (zI lf), .int (zI un)])), (ou, .inl (cJ, 1, .inr (.inl OU)))] H := hP.sub [1, 2, 3, 4, 5, 6, 0] rfl
  have hD : va_D A [(sl, .inr (5, [.ref sh, .int (zI lc), .ref ru, .ref tr, .ref se])), zQ cL sh 6 sf, (ru, .inr (2, [.ref rh, .ref rt, .ref lv, .int (zI pl), .int (zI 0)])), (rh, .inr (0, [.int (zI sx), .int (zI sy), .int (zI 0)])), (rt, .inr (4, [.ref ri, .int (zI 0), .int (zI h1_2)])), (lv, .inr (1, [.int (zI w), .int (zI h), .ref ka, .ref ta, .int (zI sx), .int (zI sy), .int (zI fx), .int (zI fy), .int (zI lf), .int (zI un)])), (ou, .inl (cJ, 1, .inr (.inl OU)))] := hD.sub [1, 2, 3, 4, 5, 6, 0] (by decide) rfl
  clear hK1 hvm
  obtain ⟨rfl, po_3⟩ := hw
  have po_3 : h1_2 = ncF (-1) 0 sx w := po_3
  refine W.eq (g2 := F0 m 8 ls [.int (zI sx), .int (zI 0), .ref ou]) rfl ?_
  refine lv_i2l (v := (zI sx).toInt64) hx hb dL_begin_8 rfl ?_
  refine va_last (n := 1) (f := OU) (i := zI 0) (x := (zI sx).toInt64) hx hb hK hP hD hS 6 4 rfl rfl (zI_in (by decide) (by decide) (by decide)) dL_begin_9 (fun H locs hP hD hS => ?_)
  have hP : va_P (dC, dI) vwCl [(sl, .inr (5, [.ref sh, .int (zI lc), .ref ru, .ref tr, .ref se])), zQ cL sh 6 sf, (ru, .inr (2, [.ref rh, .ref rt, .ref lv, .int (zI pl), .int (zI 0)])), (rh, .inr (0, [.int (zI sx), .int (zI sy), .int (zI 0)])), (rt, .inr (4, [.ref ri, .int (zI 0), .int (zI h1_2)])), (lv, .inr (1, [.int (zI w), .int (zI h), .ref ka, .ref ta, .int (zI sx), .int (zI sy), .int (zI fx), .int (zI fy), .int (zI lf), .int (zI un)])), (ou, .inl (cJ, 1, .inr (.inl (vp_updL OU (zI 0).toNatClampNeg ((zI sx).toInt64)))))] H := hP
  have hD : va_D A [(sl, .inr (5, [.ref sh, .int (zI lc), .ref ru, .ref tr, .ref se])), zQ cL sh 6 sf, (ru, .inr (2, [.ref rh, .ref rt, .ref lv, .int (zI pl), .int (zI 0)])), (rh, .inr (0, [.int (zI sx), .int (zI sy), .int (zI 0)])), (rt, .inr (4, [.ref ri, .int (zI 0), .int (zI h1_2)])), (lv, .inr (1, [.int (zI w), .int (zI h), .ref ka, .ref ta, .int (zI sx), .int (zI sy), .int (zI fx), .int (zI fy), .int (zI lf), .int (zI un)])), (ou, .inl (cJ, 1, .inr (.inl (vp_updL OU (zI 0).toNatClampNeg ((zI sx).toInt64)))))] := hD
  refine lv_goto (tgt := 21) hx hb dL_begin_10 (by decide) ?_
  refine lv_iconst (v := zI 0) hx hb dL_begin_21 (rfl) ?_
  have hP9 := hP.sub (ws' := [(sl, .inr (5, [.ref sh, .int (zI lc), .ref ru, .ref tr, .ref se])), zQ cL sh 6 sf, (ru, .inr (2, [.ref rh, .ref rt, .ref lv, .int (zI pl), .int (zI 0)])), (rh, .inr (0, [.int (zI sx), .int (zI sy), .int (zI 0)])), (rt, .inr (4, [.ref ri, .int (zI 0), .int (zI h1_2)])), (lv, .inr (1, [.int (zI w), .int (zI h), .ref ka, .ref ta, .int (zI sx), .int (zI sy), .int (zI fx), .int (zI fy), .int (zI lf), .int (zI un)])), (ou, .inl (cJ, 1, .inr (.inl (vp_updL OU (zI 0).toNatClampNeg ((zI sx).toInt64)))))]) [0, 1, 2, 3, 4, 5, 6] rfl
  have hD9 := hD.sub (ws' := [(sl, .inr (5, [.ref sh, .int (zI lc), .ref ru, .ref tr, .ref se])), zQ cL sh 6 sf, (ru, .inr (2, [.ref rh, .ref rt, .ref lv, .int (zI pl), .int (zI 0)])), (rh, .inr (0, [.int (zI sx), .int (zI sy), .int (zI 0)])), (rt, .inr (4, [.ref ri, .int (zI 0), .int (zI h1_2)])), (lv, .inr (1, [.int (zI w), .int (zI h), .ref ka, .ref ta, .int (zI sx), .int (zI sy), .int (zI fx), .int (zI fy), .int (zI lf), .int (zI un)])), (ou, .inl (cJ, 1, .inr (.inl (vp_updL OU (zI 0).toNatClampNeg ((zI sx).toInt64)))))]) [0, 1, 2, 3, 4, 5, 6] (by decide) rfl
  have po : zI 0 = zI 0 ∧ ((h1_2 = ncF (-1) 0 sx w) ∧ (vp_updL OU (zI 0).toNatClampNeg ((zI sx).toInt64)) 0 = (zI sx).toInt64) := by
    refine ⟨by first | rfl | (congr 1; omega) | (congr 1; simp [*]), ?_⟩
    exact ⟨po_3, zou⟩
  exact W.iret (v := zI 0) hx hb hr (fun t ht hW => ⟨⟨zI 0, (h1_2, vp_updL OU (zI 0).toNatClampNeg ((zI sx).toInt64)), rfl, po, by rw [ht]; exact hP9, va_K.moved hW.alike hK, hD9⟩, hS.F ht⟩) hS.2.2 dL_begin_22
set_option maxHeartbeats 4000000 in
set_option maxRecDepth 100000 in
theorem c_L_play (l : Launch) (dC : Nat → ClassId) (dI : Nat → Nat → Nat) (cI cZ cL cT cJ : ClassId) (sz : Nat) (sl : Nat) (sh : Nat) (lc : Int) (ru : Nat) (tr : Nat) (se : Nat) (rh : Nat) (rt : Nat) (rp : Int) (oc : Int) (hx9 : Int) (hy9 : Int) (hl9 : Int) (ri : Nat) (rln : Int) (rhf : Int) (RI : Int → Int) (lv : Nat) (w : Int) (h : Int) (ka : Nat) (ta : Nat) (sx : Int) (sy : Int) (fx : Int) (fy : Int) (lf : Int) (un : Int) (K : Int → Int) (tq : Nat → Option Nat) (tp : Nat → Nat) (kp : Nat) (ti : Nat) (ln : Int) (hf : Int) (FI : Int → Int) (i : Int) (ou : Nat) (OU : Nat → Int64) (gw : 0 < w ∧ w ≤ 12) (gh : 0 < h ∧ h ≤ 8) (gK : Kin K) (gsx : 0 ≤ sx ∧ sx < w) (gsy : 0 ≤ sy ∧ sy < h) (gfx : 0 ≤ fx ∧ fx < w) (gfy : 0 ≤ fy ∧ fy < h) (gt : ∀ k, k < 4 → tq k = some (tp k)) (gkp : rp = (kp : Int) ∧ kp < 4) (goc : oc = 0) (gi : 0 ≤ i ∧ i ≤ 5) (grx : 0 ≤ hx9 ∧ hx9 < w) (gry : 0 ≤ hy9 ∧ hy9 < h) (grl : 0 ≤ hl9 ∧ hl9 ≤ 4) (gn : 0 ≤ rln ∧ rln < 100) (ghf : -1 ≤ rhf ∧ rhf ≤ 100) (gl : -1 ≤ ln ∧ ln ≤ 100) : Met l yL_play wsL_play ({ frames := 5, cells := 0, slots := 0, locals := 113 }) (zP (dC, dI) (zT cI cZ cL cT cJ) sz [.ref sl, .int (zI i), .ref ou] [(sl, .inr (5, [.ref sh, .int (zI lc), .ref ru, .ref tr, .ref se])), (ru, .inr (2, [.ref rh, .ref rt, .ref lv, .int (zI rp), .int (zI oc)])), (rh, .inr (0, [.int (zI hx9), .int (zI hy9), .int (zI hl9)])), (rt, .inr (4, [.ref ri, .int (zI rln), .int (zI rhf)])), zA cI ri 100 RI, (lv, .inr (1, [.int (zI w), .int (zI h), .ref ka, .ref ta, .int (zI sx), .int (zI sy), .int (zI fx), .int (zI fy), .int (zI lf), .int (zI un)])), zA cI ka 96 K, zQ cT ta 4 tq, (tp kp, .inr (4, [.ref ti, .int (zI ln), .int (zI hf)])), zA cI ti 100 FI, (ou, .inl (cJ, 1, .inr (.inl OU)))]) (va_Qi (fun (r9 : Int32) (u9 : Int × Int × Int × Int × Int × Int × Int × (Int → Int) × (Nat → Int64)) => match u9 with | (x1, y1, l1, o1, h1, ln1, hf1, F1, OU1) => r9 = zI 0 ∧ ((x1 = mvX K w h hx9 hy9 i ∧ y1 = mvY K w h hx9 hy9 hl9 i ∧ l1 = mvL K w h hx9 hy9 hl9 i ∧ o1 = (if mvO K w h fx fy hx9 hy9 hl9 i = 0 ∧ 100 ≤ rln + 1 then 1 else mvO K w h fx fy hx9 hy9 hl9 i) ∧ h1 = ncF rhf (rln + 1) x1 w ∧ ((o1 = 2 ∧ (ln = -1 ∨ rln + 1 < ln) ∧ ln1 = rln + 1 ∧ hf1 = h1 ∧ (∀ j, 0 ≤ j → j < 100 → F1 j = zu RI rln i j)) ∨ (¬ (o1 = 2 ∧ (ln = -1 ∨ rln + 1 < ln)) ∧ ln1 = ln ∧ hf1 = hf ∧ F1 = FI))) ∧ OU1 0 = (zI o1).toInt64)) (zB (dC, dI) (zT cI cZ cL cT cJ) (va_A [(sl, .inr (5, [.ref sh, .int (zI lc), .ref ru, .ref tr, .ref se])), (ru, .inr (2, [.ref rh, .ref rt, .ref lv, .int (zI rp), .int (zI oc)])), (rh, .inr (0, [.int (zI hx9), .int (zI hy9), .int (zI hl9)])), (rt, .inr (4, [.ref ri, .int (zI rln), .int (zI rhf)])), zA cI ri 100 RI, (lv, .inr (1, [.int (zI w), .int (zI h), .ref ka, .ref ta, .int (zI sx), .int (zI sy), .int (zI fx), .int (zI fy), .int (zI lf), .int (zI un)])), zA cI ka 96 K, zQ cT ta 4 tq, (tp kp, .inr (4, [.ref ti, .int (zI ln), .int (zI hf)])), zA cI ti 100 FI, (ou, .inl (cJ, 1, .inr (.inl OU)))] sz) (fun (u9 : Int × Int × Int × Int × Int × Int × Int × (Int → Int) × (Nat → Int64)) => match u9 with | (x1, y1, l1, o1, h1, ln1, hf1, F1, OU1) => [(sl, .inr (5, [.ref sh, .int (zI lc), .ref ru, .ref tr, .ref se])), (ru, .inr (2, [.ref rh, .ref rt, .ref lv, .int (zI rp), .int (zI o1)])), (rh, .inr (0, [.int (zI x1), .int (zI y1), .int (zI l1)])), (rt, .inr (4, [.ref ri, .int (zI (rln + 1)), .int (zI h1)])), zA cI ri 100 (zu RI rln i), (lv, .inr (1, [.int (zI w), .int (zI h), .ref ka, .ref ta, .int (zI sx), .int (zI sy), .int (zI fx), .int (zI fy), .int (zI lf), .int (zI un)])), zA cI ka 96 K, zQ cT ta 4 tq, (tp kp, .inr (4, [.ref ti, .int (zI ln1), .int (zI hf1)])), zA cI ti 100 F1, (ou, .inl (cJ, 1, .inr (.inl OU1)))])) (va_A [(sl, .inr (5, [.ref sh, .int (zI lc), .ref ru, .ref tr, .ref se])), (ru, .inr (2, [.ref rh, .ref rt, .ref lv, .int (zI rp), .int (zI oc)])), (rh, .inr (0, [.int (zI hx9), .int (zI hy9), .int (zI hl9)])), (rt, .inr (4, [.ref ri, .int (zI rln), .int (zI rhf)])), zA cI ri 100 RI, (lv, .inr (1, [.int (zI w), .int (zI h), .ref ka, .ref ta, .int (zI sx), .int (zI sy), .int (zI fx), .int (zI fy), .int (zI lf), .int (zI un)])), zA cI ka 96 K, zQ cT ta 4 tq, (tp kp, .inr (4, [.ref ti, .int (zI ln), .int (zI hf)])), zA cI ti 100 FI, (ou, .inl (cJ, 1, .inr (.inl OU)))] sz)) 0 0 (va_A [(sl, .inr (5, [.ref sh, .int (zI lc), .ref ru, .ref tr, .ref se])), (ru, .inr (2, [.ref rh, .ref rt, .ref lv, .int (zI rp), .int (zI oc)])), (rh, .inr (0, [.int (zI hx9), .int (zI hy9), .int (zI hl9)])), (rt, .inr (4, [.ref ri, .int (zI rln), .int (zI rhf)])), zA cI ri 100 RI, (lv, .inr (1, [.int (zI w), .int (zI h), .ref ka, .ref ta, .int (zI sx), .int (zI sy), .int (zI fx), .int (zI fy), .int (zI lf), .int (zI un)])), zA cI ka 96 K, zQ cT ta 4 tq, (tp kp, .inr (4, [.ref ti, .int (zI ln), .int (zI hf)])), zA cI ti 100 FI, (ou, .inl (cJ, 1, .inr (.inl OU)))] sz) := by
  refine va_MetW (cc := cL_play) (maxL := 4) (ret := (some .int)) (by decide) rfl ?_
  intro p e s m args below meth c s₁ B hml hv
  obtain ⟨rfl, hsz, hP, hK, hD0⟩ := hv
  have hx := B.exec
  have hb := B.bytes
  have hr := B.returns
  have hts := atoms_spec (ws := wsL_play) B.pre
  have hown : s.vm.findClass RL = some m.cls := findClass_of_methodNamed B.named
  have hlocks := B.notSynchronized
  subst hsz
  have hD := hD0.self (sz := s.heap.size)
  generalize hAe : va_A [(sl, .inr (5, [.ref sh, .int (zI lc), .ref ru, .ref tr, .ref se])), (ru, .inr (2, [.ref rh, .ref rt, .ref lv, .int (zI rp), .int (zI oc)])), (rh, .inr (0, [.int (zI hx9), .int (zI hy9), .int (zI hl9)])), (rt, .inr (4, [.ref ri, .int (zI rln), .int (zI rhf)])), zA cI ri 100 RI, (lv, .inr (1, [.int (zI w), .int (zI h), .ref ka, .ref ta, .int (zI sx), .int (zI sy), .int (zI fx), .int (zI fy), .int (zI lf), .int (zI un)])), zA cI ka 96 K, zQ cT ta 4 tq, (tp kp, .inr (4, [.ref ti, .int (zI ln), .int (zI hf)])), zA cI ti 100 FI, (ou, .inl (cJ, 1, .inr (.inl OU)))] s.heap.size = A at hD ⊢
  have hA : ∀ q : Nat, s.heap.size ≤ q → A q := fun q h => by rw [← hAe]; exact Or.inr h
  clear hAe hD0
  have hS : va_S A s.heap s.heap [] := va_S.rf
  have hP : va_P (dC, dI) vwCl [(sl, .inr (5, [.ref sh, .int (zI lc), .ref ru, .ref tr, .ref se])), (ru, .inr (2, [.ref rh, .ref rt, .ref lv, .int (zI rp), .int (zI oc)])), (rh, .inr (0, [.int (zI hx9), .int (zI hy9), .int (zI hl9)])), (rt, .inr (4, [.ref ri, .int (zI rln), .int (zI rhf)])), zA cI ri 100 RI, (lv, .inr (1, [.int (zI w), .int (zI h), .ref ka, .ref ta, .int (zI sx), .int (zI sy), .int (zI fx), .int (zI fy), .int (zI lf), .int (zI un)])), zA cI ka 96 K, zQ cT ta 4 tq, (tp kp, .inr (4, [.ref ti, .int (zI ln), .int (zI hf)])), zA cI ti 100 FI, (ou, .inl (cJ, 1, .inr (.inl OU)))] s.heap := hP
  have hl := lv_entry ([.ref sl, .int (zI i), .ref ou]) (n := 4) (Nat.le_of_ble_eq_true rfl)
  rw [lg_entry_eq]
  generalize (lg_sl ([.ref sl, .int (zI i), .ref ou]) ++ List.replicate (4 - (lg_sl ([.ref sl, .int (zI i), .ref ou])).length) Slot.unset).toArray = ls at hl ⊢
  have hl : lv_has ls 4 [(0, .ref sl), (1, .int (zI i)), (2, .ref ou)] := hl
  refine lv_aload_n hx hb dL_play_0 rfl (lv_at hl 2 rfl) ?_
  refine lv_iconst (v := zI 0) hx hb dL_play_1 (rfl) ?_
  refine lv_aload_n hx hb dL_play_2 rfl (lv_at hl 0 rfl) ?_
  refine lv_iload_n hx hb dL_play_3 rfl (lv_at hl 1 rfl) ?_
  have hPc := hP.sub (ws' := [(sl, .inr (5, [.ref sh, .int (zI lc), .ref ru, .ref tr, .ref se])), (ru, .inr (2, [.ref rh, .ref rt, .ref lv, .int (zI rp), .int (zI oc)])), (rh, .inr (0, [.int (zI hx9), .int (zI hy9), .int (zI hl9)])), (rt, .inr (4, [.ref ri, .int (zI rln), .int (zI rhf)])), zA cI ri 100 RI, (lv, .inr (1, [.int (zI w), .int (zI h), .ref ka, .ref ta, .int (zI sx), .int (zI sy), .int (zI fx), .int (zI fy), .int (zI lf), .int (zI un)])), zA cI ka 96 K, zQ cT ta 4 tq, (tp kp, .inr (4, [.ref ti, .int (zI ln), .int (zI hf)])), zA cI ti 100 FI]) [0, 1, 2, 3, 4, 5, 6, 7, 8, 9] rfl
  have hDc := hD.sub (ws' := [(sl, .inr (5, [.ref sh, .int (zI lc), .ref ru, .ref tr, .ref se])), (ru, .inr (2, [.ref rh, .ref rt, .ref lv, .int (zI rp), .int (zI oc)])), (rh, .inr (0, [.int (zI hx9), .int (zI hy9), .int (zI hl9)])), (rt, .inr (4, [.ref ri, .int (zI rln), .int (zI rhf)])), zA cI ri 100 RI, (lv, .inr (1, [.int (zI w), .int (zI h), .ref ka, .ref ta, .int (zI sx), .int (zI sy), .int (zI fx), .int (zI fy), .int (zI lf), .int (zI un)])), zA cI ka 96 K, zQ cT ta 4 tq, (tp kp, .inr (4, [.ref ti, .int (zI ln), .int (zI hf)])), zA cI ti 100 FI]) [0, 1, 2, 3, 4, 5, 6, 7, 8, 9] (by decide) rfl
  have hFc := va_free (wc := [(sl, .inr (5, [.ref sh, .int (zI lc), .ref ru, .ref tr, .ref se])), (ru, .inr (2, [.ref rh, .ref rt, .ref lv, .int (zI rp), .int (zI oc)])), (rh, .inr (0, [.int (zI hx9), .int (zI hy9), .int (zI hl9)])), (rt, .inr (4, [.ref ri, .int (zI rln), .int (zI rhf)])), zA cI ri 100 RI, (lv, .inr (1, [.int (zI w), .int (zI h), .ref ka, .ref ta, .int (zI sx), .int (zI sy), .int (zI fx), .int (zI fy), .int (zI lf), .int (zI un)])), zA cI ka 96 K, zQ cT ta 4 tq, (tp kp, .inr (4, [.ref ti, .int (zI ln), .int (zI hf)])), zA cI ti 100 FI]) hD hS hA [0, 1, 2, 3, 4, 5, 6, 7, 8, 9] rfl
  refine va_calli (va_runV (As := [.int (zI i)]) (rest := [.int (zI 0), .ref ou]) ⟨hx, hb, hml, hown, hts⟩ (c_X5_play l dC dI cI cZ cL cT cJ s.heap.size sl sh lc ru tr se rh rt rp oc hx9 hy9 hl9 ri rln rhf RI lv w h ka ta sx sy fx fy lf un K tq tp kp ti ln hf FI i (by first | assumption | omega) (by first | assumption | omega) (by first | assumption | omega) (by first | assumption | omega) (by first | assumption | omega) (by first | assumption | omega) (by first | assumption | omega) (by first | assumption | omega) (by first | assumption | omega) (by first | assumption | omega) (by first | assumption | omega) (by first | assumption | omega) (by first | assumption | omega) (by first | assumption | omega) (by first | assumption | omega) (by first | assumption | omega) (by first | assumption | omega)) (cwV 1 hts gL_play_X5_play rfl rfl rfl (by decide +kernel) ⟨Nat.le_of_ble_eq_true rfl, Nat.le_of_ble_eq_true rfl⟩) ⟨zP_blind, va_recv hK hPc (ci := 5) (q0 := 0) rfl rfl, zP_pre hPc hDc hK⟩ rfl rfl hl.1 rfl (lv_room (Nat.le_of_ble_eq_true rfl)) dL_play_4 ⟨Nat.le_of_ble_eq_true rfl, Nat.le_of_ble_eq_true rfl⟩) hS (fun q _ h => hFc q h) hFc (fun r_1 u_1 t H1 locs ht hvm hw hB hz1 hk1 hS => ?_)
  obtain ⟨x1_2, y1_3, l1_4, o1_5, h1_6, ln1_7, hf1_8, F1_9⟩ := u_1
  obtain ⟨hP1, hK1, hD1⟩ := hB
  rw [ht] at hP1
  have hP1 : va_P (dC, dI) vwCl [(sl, .inr (5, [.ref sh, .int (zI lc), .ref ru, .ref tr, .ref se])), (ru, .inr (2, [.ref rh, .ref rt, .ref lv, .int (zI rp), .int (zI o1_5)])), (rh, .inr (0, [.int (zI x1_2), .int (zI y1_3), .int (zI l1_4)])), (rt, .inr (4, [.ref ri, .int (zI (rln + 1)), .int (zI h1_6)])), zA cI ri 100 (zu RI rln i), (lv, .inr (1, [.int (zI w), .int (zI h), .ref ka, .ref ta, .int (zI sx), .int (zI sy), .int (zI fx), .int (zI fy), .int (zI lf), .int (zI un)])), zA cI ka 96 K, zQ cT ta 4 tq, (tp kp, .inr (4, [.ref ti, .int (zI ln1_7), .int (zI hf1_8)])), zA cI ti 100 F1_9] H1 := hP1
  obtain ⟨hP, hD⟩ := va_join (wr := [(ou, .inl (cJ, 1, .inr (.inl OU)))]) (w1 := [(sl, .inr (5, [.ref sh, .int (zI lc), .ref ru, .ref tr, .ref se])), (ru, .inr (2, [.ref rh, .ref rt, .ref lv, .int (zI rp), .int (zI o1_5)])), (rh, .inr (0, [.int (zI x1_2), .int (zI y1_3), .int (zI l1_4)])), (rt, .inr (4, [.ref ri, .int (zI (rln + 1)), .int (zI h1_6)])), zA cI ri 100 (zu RI rln i), (lv, .inr (1, [.int (zI w), .int (zI h), .ref ka, .ref ta, .int (zI sx), .int (zI sy), .int (zI fx), .int (zI fy), .int (zI lf), .int (zI un)])), zA cI ka 96 K, zQ cT ta 4 tq, (tp kp, .inr (4, [.ref ti, .int (zI ln1_7), .int (zI hf1_8)])), zA cI ti 100 F1_9]) hP hD [0, 1, 2, 3, 4, 5, 6, 7, 8, 9] [10] rfl rfl (by decide) (by decide) hk1 hFc hP1 hD1
  clear hP1 hD1 hk1 hFc hPc hDc hz1
  generalize H1 = H at hP hS ⊢
  have hP : va_P (dC, dI) vwCl [(sl, .inr (5, [.ref sh, .int (zI lc), .ref ru, .ref tr, .ref se])), (ru, .inr (2, [.ref rh, .ref rt, .ref lv, .int (zI rp), .int (zI o1_5)])), (rh, .inr (0, [.int (zI x1_2), .int (zI y1_3), .int (zI l1_4)])), (rt, .inr (4, [.ref ri, .int (zI (rln + 1)), .int (zI h1_6)])), zA cI ri 100 (zu RI rln i), (lv, .inr (1, [.int (zI w), .int (zI h), .ref ka, .ref ta, .int (zI sx), .int (zI sy), .int (zI fx), .int (zI fy), .int (zI lf), .int (zI un)])), zA cI ka 96 K, zQ cT ta 4 tq, (tp kp, .inr (4, [.ref ti, .int (zI ln1_7), .int (zI hf1_8)])), zA cI ti 100 F1_9, (ou, .inl (cJ, 1, .inr (.inl OU)))] H := hP.sub [1, 2, 3, 4, 5, 6, 7, 8, 9, 10, 0] rfl
  have hD : va_D A [(sl, .inr (5, [.ref sh, .int (zI lc), .ref ru, .ref tr, .ref se])), (ru, .inr (2, [.ref rh, .ref rt, .ref lv, .int (zI rp), .int (zI o1_5)])), (rh, .inr (0, [.int (zI x1_2), .int (zI y1_3), .int (zI l1_4)])), (rt, .inr (4, [.ref ri, .int (zI (rln + 1)), .int (zI h1_6)])), zA cI ri 100 (zu RI rln i), (lv, .inr (1, [.int (zI w), .int (zI h), .ref ka, .ref ta, .int (zI sx), .int (zI sy), .int (zI fx), .int (zI fy), .int (zI lf), .int (zI un)])), zA cI ka 96 K, zQ cT ta 4 tq, (tp kp, .inr (4, [.ref ti, .int (zI ln1_7), .int (zI hf1_8)])), zA cI ti 100 F1_9, (ou, .inl (cJ, 1, .inr (.inl OU)))] := hD.sub [1, 2, 3, 4, 5, 6, 7, 8, 9, 10, 0] (by decide) rfl
  clear hK1 hvm
  obtain ⟨rfl, po_10⟩ := hw
  have po_10 : x1_2 = mvX K w h hx9 hy9 i ∧ y1_3 = mvY K w h hx9 hy9 hl9 i ∧ l1_4 = mvL K w h hx9 hy9 hl9 i ∧ o1_5 = (if mvO K w h fx fy hx9 hy9 hl9 i = 0 ∧ 100 ≤ rln + 1 then 1 else mvO K w h fx fy hx9 hy9 hl9 i) ∧ h1_6 = ncF rhf (rln + 1) x1_2 w ∧ ((o1_5 = 2 ∧ (ln = -1 ∨ rln + 1 < ln) ∧ ln1_7 = rln + 1 ∧ hf1_8 = h1_6 ∧ (∀ j, 0 ≤ j → j < 100 → F1_9 j = zu RI rln i j)) ∨ (¬ (o1_5 = 2 ∧ (ln = -1 ∨ rln + 1 < ln)) ∧ ln1_7 = ln ∧ hf1_8 = hf ∧ F1_9 = FI)) := po_10
  refine W.eq (g2 := F0 m 7 ls [.int (zI o1_5), .int (zI 0), .ref ou]) rfl ?_
  refine lv_i2l (v := (zI o1_5).toInt64) hx hb dL_play_7 rfl ?_
  refine va_last (n := 1) (f := OU) (i := zI 0) (x := (zI o1_5).toInt64) hx hb hK hP hD hS 10 4 rfl rfl (zI_in (by decide) (by decide) (by decide)) dL_play_8 (fun H locs hP hD hS => ?_)
  have hP : va_P (dC, dI) vwCl [(sl, .inr (5, [.ref sh, .int (zI lc), .ref ru, .ref tr, .ref se])), (ru, .inr (2, [.ref rh, .ref rt, .ref lv, .int (zI rp), .int (zI o1_5)])), (rh, .inr (0, [.int (zI x1_2), .int (zI y1_3), .int (zI l1_4)])), (rt, .inr (4, [.ref ri, .int (zI (rln + 1)), .int (zI h1_6)])), zA cI ri 100 (zu RI rln i), (lv, .inr (1, [.int (zI w), .int (zI h), .ref ka, .ref ta, .int (zI sx), .int (zI sy), .int (zI fx), .int (zI fy), .int (zI lf), .int (zI un)])), zA cI ka 96 K, zQ cT ta 4 tq, (tp kp, .inr (4, [.ref ti, .int (zI ln1_7), .int (zI hf1_8)])), zA cI ti 100 F1_9, (ou, .inl (cJ, 1, .inr (.inl (vp_updL OU (zI 0).toNatClampNeg ((zI o1_5).toInt64)))))] H := hP
  have hD : va_D A [(sl, .inr (5, [.ref sh, .int (zI lc), .ref ru, .ref tr, .ref se])), (ru, .inr (2, [.ref rh, .ref rt, .ref lv, .int (zI rp), .int (zI o1_5)])), (rh, .inr (0, [.int (zI x1_2), .int (zI y1_3), .int (zI l1_4)])), (rt, .inr (4, [.ref ri, .int (zI (rln + 1)), .int (zI h1_6)])), zA cI ri 100 (zu RI rln i), (lv, .inr (1, [.int (zI w), .int (zI h), .ref ka, .ref ta, .int (zI sx), .int (zI sy), .int (zI fx), .int (zI fy), .int (zI lf), .int (zI un)])), zA cI ka 96 K, zQ cT ta 4 tq, (tp kp, .inr (4, [.ref ti, .int (zI ln1_7), .int (zI hf1_8)])), zA cI ti 100 F1_9, (ou, .inl (cJ, 1, .inr (.inl (vp_updL OU (zI 0).toNatClampNeg ((zI o1_5).toInt64)))))] := hD
  refine lv_goto (tgt := 18) hx hb dL_play_9 (by decide) ?_
  refine lv_iconst (v := zI 0) hx hb dL_play_18 (rfl) ?_
  have hP9 := hP.sub (ws' := [(sl, .inr (5, [.ref sh, .int (zI lc), .ref ru, .ref tr, .ref se])), (ru, .inr (2, [.ref rh, .ref rt, .ref lv, .int (zI rp), .int (zI o1_5)])), (rh, .inr (0, [.int (zI x1_2), .int (zI y1_3), .int (zI l1_4)])), (rt, .inr (4, [.ref ri, .int (zI (rln + 1)), .int (zI h1_6)])), zA cI ri 100 (zu RI rln i), (lv, .inr (1, [.int (zI w), .int (zI h), .ref ka, .ref ta, .int (zI sx), .int (zI sy), .int (zI fx), .int (zI fy), .int (zI lf), .int (zI un)])), zA cI ka 96 K, zQ cT ta 4 tq, (tp kp, .inr (4, [.ref ti, .int (zI ln1_7), .int (zI hf1_8)])), zA cI ti 100 F1_9, (ou, .inl (cJ, 1, .inr (.inl (vp_updL OU (zI 0).toNatClampNeg ((zI o1_5).toInt64)))))]) [0, 1, 2, 3, 4, 5, 6, 7, 8, 9, 10] rfl
  have hD9 := hD.sub (ws' := [(sl, .inr (5, [.ref sh, .int (zI lc), .ref ru, .ref tr, .ref se])), (ru, .inr (2, [.ref rh, .ref rt, .ref lv, .int (zI rp), .int (zI o1_5)])), (rh, .inr (0, [.int (zI x1_2), .int (zI y1_3), .int (zI l1_4)])), (rt, .inr (4, [.ref ri, .int (zI (rln + 1)), .int (zI h1_6)])), zA cI ri 100 (zu RI rln i), (lv, .inr (1, [.int (zI w), .int (zI h), .ref ka, .ref ta, .int (zI sx), .int (zI sy), .int (zI fx), .int (zI fy), .int (zI lf), .int (zI un)])), zA cI ka 96 K, zQ cT ta 4 tq, (tp kp, .inr (4, [.ref ti, .int (zI ln1_7), .int (zI hf1_8)])), zA cI ti 100 F1_9, (ou, .inl (cJ, 1, .inr (.inl (vp_updL OU (zI 0).toNatClampNeg ((zI o1_5).toInt64)))))]) [0, 1, 2, 3, 4, 5, 6, 7, 8, 9, 10] (by decide) rfl
  have po : zI 0 = zI 0 ∧ ((x1_2 = mvX K w h hx9 hy9 i ∧ y1_3 = mvY K w h hx9 hy9 hl9 i ∧ l1_4 = mvL K w h hx9 hy9 hl9 i ∧ o1_5 = (if mvO K w h fx fy hx9 hy9 hl9 i = 0 ∧ 100 ≤ rln + 1 then 1 else mvO K w h fx fy hx9 hy9 hl9 i) ∧ h1_6 = ncF rhf (rln + 1) x1_2 w ∧ ((o1_5 = 2 ∧ (ln = -1 ∨ rln + 1 < ln) ∧ ln1_7 = rln + 1 ∧ hf1_8 = h1_6 ∧ (∀ j, 0 ≤ j → j < 100 → F1_9 j = zu RI rln i j)) ∨ (¬ (o1_5 = 2 ∧ (ln = -1 ∨ rln + 1 < ln)) ∧ ln1_7 = ln ∧ hf1_8 = hf ∧ F1_9 = FI))) ∧ (vp_updL OU (zI 0).toNatClampNeg ((zI o1_5).toInt64)) 0 = (zI o1_5).toInt64) := by
    refine ⟨by first | rfl | (congr 1; omega) | (congr 1; simp [*]), ?_⟩
    exact ⟨po_10, zou⟩
  exact W.iret (v := zI 0) hx hb hr (fun t ht hW => ⟨⟨zI 0, (x1_2, y1_3, l1_4, o1_5, h1_6, ln1_7, hf1_8, F1_9, vp_updL OU (zI 0).toNatClampNeg ((zI o1_5).toInt64)), rfl, po, by rw [ht]; exact hP9, va_K.moved hW.alike hK, hD9⟩, hS.F ht⟩) hS.2.2 dL_play_19
set_option maxHeartbeats 4000000 in
set_option maxRecDepth 100000 in
theorem c_L_record (l : Launch) (dC : Nat → ClassId) (dI : Nat → Nat → Nat) (cI cZ cL cT cJ : ClassId) (sz : Nat) (sl : Nat) (sh : Nat) (lc : Int) (ru : Nat) (tr : Nat) (se : Nat) (sf : Nat → Option Nat) (L : Int) (k : Nat) (lv : Nat) (w : Int) (h : Int) (ka : Nat) (ta : Nat) (sx : Int) (sy : Int) (fx : Int) (fy : Int) (lf : Int) (un : Int) (tq : Nat → Option Nat) (tp : Nat → Nat) (pl : Int) (kp : Nat) (ti : Nat) (ln : Int) (hf : Int) (ou : Nat) (OU : Nat → Int64) (gk : L = (k : Int) ∧ k < 6) (gf : sf k = some lv) (gt : ∀ k, k < 4 → tq k = some (tp k)) (gkp : pl = (kp : Int) ∧ kp < 4) : Met l yL_record wsL_record ({ frames := 3, cells := 0, slots := 0, locals := 67 }) (zP (dC, dI) (zT cI cZ cL cT cJ) sz [.ref sl, .int (zI L), .int (zI pl), .ref ou] [(sl, .inr (5, [.ref sh, .int (zI lc), .ref ru, .ref tr, .ref se])), zQ cL sh 6 sf, (lv, .inr (1, [.int (zI w), .int (zI h), .ref ka, .ref ta, .int (zI sx), .int (zI sy), .int (zI fx), .int (zI fy), .int (zI lf), .int (zI un)])), zQ cT ta 4 tq, (tp kp, .inr (4, [.ref ti, .int (zI ln), .int (zI hf)])), (ou, .inl (cJ, 1, .inr (.inl OU)))]) (va_Qi (fun (r9 : Int32) (u9 : (Nat → Int64)) => match u9 with | OU1 => r9 = zI 0 ∧ (OU1 0 = (zI ln).toInt64)) (zB (dC, dI) (zT cI cZ cL cT cJ) (va_A [(sl, .inr (5, [.ref sh, .int (zI lc), .ref ru, .ref tr, .ref se])), zQ cL sh 6 sf, (lv, .inr (1, [.int (zI w), .int (zI h), .ref ka, .ref ta, .int (zI sx), .int (zI sy), .int (zI fx), .int (zI fy), .int (zI lf), .int (zI un)])), zQ cT ta 4 tq, (tp kp, .inr (4, [.ref ti, .int (zI ln), .int (zI hf)])), (ou, .inl (cJ, 1, .inr (.inl OU)))] sz) (fun (u9 : (Nat → Int64)) => match u9 with | OU1 => [(sl, .inr (5, [.ref sh, .int (zI lc), .ref ru, .ref tr, .ref se])), zQ cL sh 6 sf, (lv, .inr (1, [.int (zI w), .int (zI h), .ref ka, .ref ta, .int (zI sx), .int (zI sy), .int (zI fx), .int (zI fy), .int (zI lf), .int (zI un)])), zQ cT ta 4 tq, (tp kp, .inr (4, [.ref ti, .int (zI ln), .int (zI hf)])), (ou, .inl (cJ, 1, .inr (.inl OU1)))])) (va_A [(sl, .inr (5, [.ref sh, .int (zI lc), .ref ru, .ref tr, .ref se])), zQ cL sh 6 sf, (lv, .inr (1, [.int (zI w), .int (zI h), .ref ka, .ref ta, .int (zI sx), .int (zI sy), .int (zI fx), .int (zI fy), .int (zI lf), .int (zI un)])), zQ cT ta 4 tq, (tp kp, .inr (4, [.ref ti, .int (zI ln), .int (zI hf)])), (ou, .inl (cJ, 1, .inr (.inl OU)))] sz)) 0 0 (va_A [(sl, .inr (5, [.ref sh, .int (zI lc), .ref ru, .ref tr, .ref se])), zQ cL sh 6 sf, (lv, .inr (1, [.int (zI w), .int (zI h), .ref ka, .ref ta, .int (zI sx), .int (zI sy), .int (zI fx), .int (zI fy), .int (zI lf), .int (zI un)])), zQ cT ta 4 tq, (tp kp, .inr (4, [.ref ti, .int (zI ln), .int (zI hf)])), (ou, .inl (cJ, 1, .inr (.inl OU)))] sz) := by
  refine va_MetW (cc := cL_record) (maxL := 5) (ret := (some .int)) (by decide) rfl ?_
  intro p e s m args below meth c s₁ B hml hv
  obtain ⟨rfl, hsz, hP, hK, hD0⟩ := hv
  have hx := B.exec
  have hb := B.bytes
  have hr := B.returns
  have hts := atoms_spec (ws := wsL_record) B.pre
  have hown : s.vm.findClass RL = some m.cls := findClass_of_methodNamed B.named
  have hlocks := B.notSynchronized
  subst hsz
  have hD := hD0.self (sz := s.heap.size)
  generalize hAe : va_A [(sl, .inr (5, [.ref sh, .int (zI lc), .ref ru, .ref tr, .ref se])), zQ cL sh 6 sf, (lv, .inr (1, [.int (zI w), .int (zI h), .ref ka, .ref ta, .int (zI sx), .int (zI sy), .int (zI fx), .int (zI fy), .int (zI lf), .int (zI un)])), zQ cT ta 4 tq, (tp kp, .inr (4, [.ref ti, .int (zI ln), .int (zI hf)])), (ou, .inl (cJ, 1, .inr (.inl OU)))] s.heap.size = A at hD ⊢
  have hA : ∀ q : Nat, s.heap.size ≤ q → A q := fun q h => by rw [← hAe]; exact Or.inr h
  clear hAe hD0
  have hS : va_S A s.heap s.heap [] := va_S.rf
  have hP : va_P (dC, dI) vwCl [(sl, .inr (5, [.ref sh, .int (zI lc), .ref ru, .ref tr, .ref se])), zQ cL sh 6 sf, (lv, .inr (1, [.int (zI w), .int (zI h), .ref ka, .ref ta, .int (zI sx), .int (zI sy), .int (zI fx), .int (zI fy), .int (zI lf), .int (zI un)])), zQ cT ta 4 tq, (tp kp, .inr (4, [.ref ti, .int (zI ln), .int (zI hf)])), (ou, .inl (cJ, 1, .inr (.inl OU)))] s.heap := hP
  have hl := lv_entry ([.ref sl, .int (zI L), .int (zI pl), .ref ou]) (n := 5) (Nat.le_of_ble_eq_true rfl)
  rw [lg_entry_eq]
  generalize (lg_sl ([.ref sl, .int (zI L), .int (zI pl), .ref ou]) ++ List.replicate (5 - (lg_sl ([.ref sl, .int (zI L), .int (zI pl), .ref ou])).length) Slot.unset).toArray = ls at hl ⊢
  have hl : lv_has ls 5 [(0, .ref sl), (1, .int (zI L)), (2, .int (zI pl)), (3, .ref ou)] := hl
  refine lv_aload_n hx hb dL_record_0 rfl (lv_at hl 3 rfl) ?_
  refine lv_iconst (v := zI 0) hx hb dL_record_1 (rfl) ?_
  refine lv_aload_n hx hb dL_record_2 rfl (lv_at hl 0 rfl) ?_
  refine lv_iload_n hx hb dL_record_3 rfl (lv_at hl 1 rfl) ?_
  refine lv_iload_n hx hb dL_record_4 rfl (lv_at hl 2 rfl) ?_
  have hPc := hP.sub (ws' := [(sl, .inr (5, [.ref sh, .int (zI lc), .ref ru, .ref tr, .ref se])), zQ cL sh 6 sf, (lv, .inr (1, [.int (zI w), .int (zI h), .ref ka, .ref ta, .int (zI sx), .int (zI sy), .int (zI fx), .int (zI fy), .int (zI lf), .int (zI un)])), zQ cT ta 4 tq, (tp kp, .inr (4, [.ref ti, .int (zI ln), .int (zI hf)]))]) [0, 1, 2, 3, 4] rfl
  have hDc := hD.sub (ws' := [(sl, .inr (5, [.ref sh, .int (zI lc), .ref ru, .ref tr, .ref se])), zQ cL sh 6 sf, (lv, .inr (1, [.int (zI w), .int (zI h), .ref ka, .ref ta, .int (zI sx), .int (zI sy), .int (zI fx), .int (zI fy), .int (zI lf), .int (zI un)])), zQ cT ta 4 tq, (tp kp, .inr (4, [.ref ti, .int (zI ln), .int (zI hf)]))]) [0, 1, 2, 3, 4] (by decide) rfl
  have hFc := va_free (wc := [(sl, .inr (5, [.ref sh, .int (zI lc), .ref ru, .ref tr, .ref se])), zQ cL sh 6 sf, (lv, .inr (1, [.int (zI w), .int (zI h), .ref ka, .ref ta, .int (zI sx), .int (zI sy), .int (zI fx), .int (zI fy), .int (zI lf), .int (zI un)])), zQ cT ta 4 tq, (tp kp, .inr (4, [.ref ti, .int (zI ln), .int (zI hf)]))]) hD hS hA [0, 1, 2, 3, 4] rfl
  refine va_calli (va_runV (As := [.int (zI L), .int (zI pl)]) (rest := [.int (zI 0), .ref ou]) ⟨hx, hb, hml, hown, hts⟩ (c_X5_record l dC dI cI cZ cL cT cJ s.heap.size sl sh lc ru tr se sf L k lv w h ka ta sx sy fx fy lf un tq tp pl kp ti ln hf (by first | assumption | omega) (by first | assumption | omega) (by first | assumption | omega) (by first | assumption | omega)) (cwV 2 hts gL_record_X5_record rfl rfl rfl (by decide +kernel) ⟨Nat.le_of_ble_eq_true rfl, Nat.le_of_ble_eq_true rfl⟩) ⟨zP_blind, va_recv hK hPc (ci := 5) (q0 := 0) rfl rfl, zP_pre hPc hDc hK⟩ rfl rfl hl.1 rfl (lv_room (Nat.le_of_ble_eq_true rfl)) dL_record_5 ⟨Nat.le_of_ble_eq_true rfl, Nat.le_of_ble_eq_true rfl⟩) hS (fun q _ h => hFc q h) hFc (fun r_1 u_1 t H1 locs ht hvm hw hB hz1 hk1 hS => ?_)
  obtain ⟨hP1, hK1, hD1⟩ := hB
  rw [ht] at hP1
  have hP1 : va_P (dC, dI) vwCl [(sl, .inr (5, [.ref sh, .int (zI lc), .ref ru, .ref tr, .ref se])), zQ cL sh 6 sf, (lv, .inr (1, [.int (zI w), .int (zI h), .ref ka, .ref ta, .int (zI sx), .int (zI sy), .int (zI fx), .int (zI fy), .int (zI lf), .int (zI un)])), zQ cT ta 4 tq, (tp kp, .inr (4, [.ref ti, .int (zI ln), .int (zI hf)]))] H1 := hP1
  obtain ⟨hP, hD⟩ := va_join (wr := [(ou, .inl (cJ, 1, .inr (.inl OU)))]) (w1 := [(sl, .inr (5, [.ref sh, .int (zI lc), .ref ru, .ref tr, .ref se])), zQ cL sh 6 sf, (lv, .inr (1, [.int (zI w), .int (zI h), .ref ka, .ref ta, .int (zI sx), .int (zI sy), .int (zI fx), .int (zI fy), .int (zI lf), .int (zI un)])), zQ cT ta 4 tq, (tp kp, .inr (4, [.ref ti, .int (zI ln), .int (zI hf)]))]) hP hD [0, 1, 2, 3, 4] [5] rfl rfl (by decide) (by decide) hk1 hFc hP1 hD1
  clear hP1 hD1 hk1 hFc hPc hDc hz1
  generalize H1 = H at hP hS ⊢
  have hP : va_P (dC, dI) vwCl [(sl, .inr (5, [.ref sh, .int (zI lc), .ref ru, .ref tr, .ref se])), zQ cL sh 6 sf, (lv, .inr (1, [.int (zI w), .int (zI h), .ref ka, .ref ta, .int (zI sx), .int (zI sy), .int (zI fx), .int (zI fy), .int (zI lf), .int (zI un)])), zQ cT ta 4 tq, (tp kp, .inr (4, [.ref ti, .int (zI ln), .int (zI hf)])), (ou, .inl (cJ, 1, .inr (.inl OU)))] H := hP.sub [1, 2, 3, 4, 5, 0] rfl
  have hD : va_D A [(sl, .inr (5, [.ref sh, .int (zI lc), .ref ru, .ref tr, .ref se])), zQ cL sh 6 sf, (lv, .inr (1, [.int (zI w), .int (zI h), .ref ka, .ref ta, .int (zI sx), .int (zI sy), .int (zI fx), .int (zI fy), .int (zI lf), .int (zI un)])), zQ cT ta 4 tq, (tp kp, .inr (4, [.ref ti, .int (zI ln), .int (zI hf)])), (ou, .inl (cJ, 1, .inr (.inl OU)))] := hD.sub [1, 2, 3, 4, 5, 0] (by decide) rfl
  clear hK1 hvm
  obtain ⟨rfl, po_2⟩ := hw
  refine W.eq (g2 := F0 m 8 ls [.int (zI ln), .int (zI 0), .ref ou]) rfl ?_
  refine lv_i2l (v := (zI ln).toInt64) hx hb dL_record_8 rfl ?_
  refine va_last (n := 1) (f := OU) (i := zI 0) (x := (zI ln).toInt64) hx hb hK hP hD hS 5 4 rfl rfl (zI_in (by decide) (by decide) (by decide)) dL_record_9 (fun H locs hP hD hS => ?_)
  have hP : va_P (dC, dI) vwCl [(sl, .inr (5, [.ref sh, .int (zI lc), .ref ru, .ref tr, .ref se])), zQ cL sh 6 sf, (lv, .inr (1, [.int (zI w), .int (zI h), .ref ka, .ref ta, .int (zI sx), .int (zI sy), .int (zI fx), .int (zI fy), .int (zI lf), .int (zI un)])), zQ cT ta 4 tq, (tp kp, .inr (4, [.ref ti, .int (zI ln), .int (zI hf)])), (ou, .inl (cJ, 1, .inr (.inl (vp_updL OU (zI 0).toNatClampNeg ((zI ln).toInt64)))))] H := hP
  have hD : va_D A [(sl, .inr (5, [.ref sh, .int (zI lc), .ref ru, .ref tr, .ref se])), zQ cL sh 6 sf, (lv, .inr (1, [.int (zI w), .int (zI h), .ref ka, .ref ta, .int (zI sx), .int (zI sy), .int (zI fx), .int (zI fy), .int (zI lf), .int (zI un)])), zQ cT ta 4 tq, (tp kp, .inr (4, [.ref ti, .int (zI ln), .int (zI hf)])), (ou, .inl (cJ, 1, .inr (.inl (vp_updL OU (zI 0).toNatClampNeg ((zI ln).toInt64)))))] := hD
  refine lv_goto (tgt := 17) hx hb dL_record_10 (by decide) ?_
  refine lv_iconst (v := zI 0) hx hb dL_record_17 (rfl) ?_
  have hP9 := hP.sub (ws' := [(sl, .inr (5, [.ref sh, .int (zI lc), .ref ru, .ref tr, .ref se])), zQ cL sh 6 sf, (lv, .inr (1, [.int (zI w), .int (zI h), .ref ka, .ref ta, .int (zI sx), .int (zI sy), .int (zI fx), .int (zI fy), .int (zI lf), .int (zI un)])), zQ cT ta 4 tq, (tp kp, .inr (4, [.ref ti, .int (zI ln), .int (zI hf)])), (ou, .inl (cJ, 1, .inr (.inl (vp_updL OU (zI 0).toNatClampNeg ((zI ln).toInt64)))))]) [0, 1, 2, 3, 4, 5] rfl
  have hD9 := hD.sub (ws' := [(sl, .inr (5, [.ref sh, .int (zI lc), .ref ru, .ref tr, .ref se])), zQ cL sh 6 sf, (lv, .inr (1, [.int (zI w), .int (zI h), .ref ka, .ref ta, .int (zI sx), .int (zI sy), .int (zI fx), .int (zI fy), .int (zI lf), .int (zI un)])), zQ cT ta 4 tq, (tp kp, .inr (4, [.ref ti, .int (zI ln), .int (zI hf)])), (ou, .inl (cJ, 1, .inr (.inl (vp_updL OU (zI 0).toNatClampNeg ((zI ln).toInt64)))))]) [0, 1, 2, 3, 4, 5] (by decide) rfl
  have po : zI 0 = zI 0 ∧ ((vp_updL OU (zI 0).toNatClampNeg ((zI ln).toInt64)) 0 = (zI ln).toInt64) := by
    refine ⟨by first | rfl | (congr 1; omega) | (congr 1; simp [*]), ?_⟩
    exact zou
  exact W.iret (v := zI 0) hx hb hr (fun t ht hW => ⟨⟨zI 0, vp_updL OU (zI 0).toNatClampNeg ((zI ln).toInt64), rfl, po, by rw [ht]; exact hP9, va_K.moved hW.alike hK, hD9⟩, hS.F ht⟩) hS.2.2 dL_record_18
set_option maxHeartbeats 4000000 in
set_option maxRecDepth 100000 in
theorem c_L_half (l : Launch) (dC : Nat → ClassId) (dI : Nat → Nat → Nat) (cI cZ cL cT cJ : ClassId) (sz : Nat) (sl : Nat) (sh : Nat) (lc : Int) (ru : Nat) (tr : Nat) (se : Nat) (sf : Nat → Option Nat) (L : Int) (k : Nat) (lv : Nat) (w : Int) (h : Int) (ka : Nat) (ta : Nat) (sx : Int) (sy : Int) (fx : Int) (fy : Int) (lf : Int) (un : Int) (tq : Nat → Option Nat) (tp : Nat → Nat) (pl : Int) (kp : Nat) (ti : Nat) (ln : Int) (hf : Int) (ou : Nat) (OU : Nat → Int64) (gk : L = (k : Int) ∧ k < 6) (gf : sf k = some lv) (gt : ∀ k, k < 4 → tq k = some (tp k)) (gkp : pl = (kp : Int) ∧ kp < 4) : Met l yL_half wsL_half ({ frames := 3, cells := 0, slots := 0, locals := 67 }) (zP (dC, dI) (zT cI cZ cL cT cJ) sz [.ref sl, .int (zI L), .int (zI pl), .ref ou] [(sl, .inr (5, [.ref sh, .int (zI lc), .ref ru, .ref tr, .ref se])), zQ cL sh 6 sf, (lv, .inr (1, [.int (zI w), .int (zI h), .ref ka, .ref ta, .int (zI sx), .int (zI sy), .int (zI fx), .int (zI fy), .int (zI lf), .int (zI un)])), zQ cT ta 4 tq, (tp kp, .inr (4, [.ref ti, .int (zI ln), .int (zI hf)])), (ou, .inl (cJ, 1, .inr (.inl OU)))]) (va_Qi (fun (r9 : Int32) (u9 : (Nat → Int64)) => match u9 with | OU1 => r9 = zI 0 ∧ (OU1 0 = (zI hf).toInt64)) (zB (dC, dI) (zT cI cZ cL cT cJ) (va_A [(sl, .inr (5, [.ref sh, .int (zI lc), .ref ru, .ref tr, .ref se])), zQ cL sh 6 sf, (lv, .inr (1, [.int (zI w), .int (zI h), .ref ka, .ref ta, .int (zI sx), .int (zI sy), .int (zI fx), .int (zI fy), .int (zI lf), .int (zI un)])), zQ cT ta 4 tq, (tp kp, .inr (4, [.ref ti, .int (zI ln), .int (zI hf)])), (ou, .inl (cJ, 1, .inr (.inl OU)))] sz) (fun (u9 : (Nat → Int64)) => match u9 with | OU1 => [(sl, .inr (5, [.ref sh, .int (zI lc), .ref ru, .ref tr, .ref se])), zQ cL sh 6 sf, (lv, .inr (1, [.int (zI w), .int (zI h), .ref ka, .ref ta, .int (zI sx), .int (zI sy), .int (zI fx), .int (zI fy), .int (zI lf), .int (zI un)])), zQ cT ta 4 tq, (tp kp, .inr (4, [.ref ti, .int (zI ln), .int (zI hf)])), (ou, .inl (cJ, 1, .inr (.inl OU1)))])) (va_A [(sl, .inr (5, [.ref sh, .int (zI lc), .ref ru, .ref tr, .ref se])), zQ cL sh 6 sf, (lv, .inr (1, [.int (zI w), .int (zI h), .ref ka, .ref ta, .int (zI sx), .int (zI sy), .int (zI fx), .int (zI fy), .int (zI lf), .int (zI un)])), zQ cT ta 4 tq, (tp kp, .inr (4, [.ref ti, .int (zI ln), .int (zI hf)])), (ou, .inl (cJ, 1, .inr (.inl OU)))] sz)) 0 0 (va_A [(sl, .inr (5, [.ref sh, .int (zI lc), .ref ru, .ref tr, .ref se])), zQ cL sh 6 sf, (lv, .inr (1, [.int (zI w), .int (zI h), .ref ka, .ref ta, .int (zI sx), .int (zI sy), .int (zI fx), .int (zI fy), .int (zI lf), .int (zI un)])), zQ cT ta 4 tq, (tp kp, .inr (4, [.ref ti, .int (zI ln), .int (zI hf)])), (ou, .inl (cJ, 1, .inr (.inl OU)))] sz) := by
  refine va_MetW (cc := cL_half) (maxL := 5) (ret := (some .int)) (by decide) rfl ?_
  intro p e s m args below meth c s₁ B hml hv
  obtain ⟨rfl, hsz, hP, hK, hD0⟩ := hv
  have hx := B.exec
  have hb := B.bytes
  have hr := B.returns
  have hts := atoms_spec (ws := wsL_half) B.pre
  have hown : s.vm.findClass RL = some m.cls := findClass_of_methodNamed B.named
  have hlocks := B.notSynchronized
  subst hsz
  have hD := hD0.self (sz := s.heap.size)
  generalize hAe : va_A [(sl, .inr (5, [.ref sh, .int (zI lc), .ref ru, .ref tr, .ref se])), zQ cL sh 6 sf, (lv, .inr (1, [.int (zI w), .int (zI h), .ref ka, .ref ta, .int (zI sx), .int (zI sy), .int (zI fx), .int (zI fy), .int (zI lf), .int (zI un)])), zQ cT ta 4 tq, (tp kp, .inr (4, [.ref ti, .int (zI ln), .int (zI hf)])), (ou, .inl (cJ, 1, .inr (.inl OU)))] s.heap.size = A at hD ⊢
  have hA : ∀ q : Nat, s.heap.size ≤ q → A q := fun q h => by rw [← hAe]; exact Or.inr h
  clear hAe hD0
  have hS : va_S A s.heap s.heap [] := va_S.rf
  have hP : va_P (dC, dI) vwCl [(sl, .inr (5, [.ref sh, .int (zI lc), .ref ru, .ref tr, .ref se])), zQ cL sh 6 sf, (lv, .inr (1, [.int (zI w), .int (zI h), .ref ka, .ref ta, .int (zI sx), .int (zI sy), .int (zI fx), .int (zI fy), .int (zI lf), .int (zI un)])), zQ cT ta 4 tq, (tp kp, .inr (4, [.ref ti, .int (zI ln), .int (zI hf)])), (ou, .inl (cJ, 1, .inr (.inl OU)))] s.heap := hP
  have hl := lv_entry ([.ref sl, .int (zI L), .int (zI pl), .ref ou]) (n := 5) (Nat.le_of_ble_eq_true rfl)
  rw [lg_entry_eq]
  generalize (lg_sl ([.ref sl, .int (zI L), .int (zI pl), .ref ou]) ++ List.replicate (5 - (lg_sl ([.ref sl, .int (zI L), .int (zI pl), .ref ou])).length) Slot.unset).toArray = ls at hl ⊢
  have hl : lv_has ls 5 [(0, .ref sl), (1, .int (zI L)), (2, .int (zI pl)), (3, .ref ou)] := hl
  refine lv_aload_n hx hb dL_half_0 rfl (lv_at hl 3 rfl) ?_
  refine lv_iconst (v := zI 0) hx hb dL_half_1 (rfl) ?_
  refine lv_aload_n hx hb dL_half_2 rfl (lv_at hl 0 rfl) ?_
  refine lv_iload_n hx hb dL_half_3 rfl (lv_at hl 1 rfl) ?_
  refine lv_iload_n hx hb dL_half_4 rfl (lv_at hl 2 rfl) ?_
  have hPc := hP.sub (ws' := [(sl, .inr (5, [.ref sh, .int (zI lc), .ref ru, .ref tr, .ref se])), zQ cL sh 6 sf, (lv, .inr (1, [.int (zI w), .int (zI h), .ref ka, .ref ta, .int (zI sx), .int (zI sy), .int (zI fx), .int (zI fy), .int (zI lf), .int (zI un)])), zQ cT ta 4 tq, (tp kp, .inr (4, [.ref ti, .int (zI ln), .int (zI hf)]))]) [0, 1, 2, 3, 4] rfl
  have hDc := hD.sub (ws' := [(sl, .inr (5, [.ref sh, .int (zI lc), .ref ru, .ref tr, .ref se])), zQ cL sh 6 sf, (lv, .inr (1, [.int (zI w), .int (zI h), .ref ka, .ref ta, .int (zI sx), .int (zI sy), .int (zI fx), .int (zI fy), .int (zI lf), .int (zI un)])), zQ cT ta 4 tq, (tp kp, .inr (4, [.ref ti, .int (zI ln), .int (zI hf)]))]) [0, 1, 2, 3, 4] (by decide) rfl
  have hFc := va_free (wc := [(sl, .inr (5, [.ref sh, .int (zI lc), .ref ru, .ref tr, .ref se])), zQ cL sh 6 sf, (lv, .inr (1, [.int (zI w), .int (zI h), .ref ka, .ref ta, .int (zI sx), .int (zI sy), .int (zI fx), .int (zI fy), .int (zI lf), .int (zI un)])), zQ cT ta 4 tq, (tp kp, .inr (4, [.ref ti, .int (zI ln), .int (zI hf)]))]) hD hS hA [0, 1, 2, 3, 4] rfl
  refine va_calli (va_runV (As := [.int (zI L), .int (zI pl)]) (rest := [.int (zI 0), .ref ou]) ⟨hx, hb, hml, hown, hts⟩ (c_X5_half l dC dI cI cZ cL cT cJ s.heap.size sl sh lc ru tr se sf L k lv w h ka ta sx sy fx fy lf un tq tp pl kp ti ln hf (by first | assumption | omega) (by first | assumption | omega) (by first | assumption | omega) (by first | assumption | omega)) (cwV 2 hts gL_half_X5_half rfl rfl rfl (by decide +kernel) ⟨Nat.le_of_ble_eq_true rfl, Nat.le_of_ble_eq_true rfl⟩) ⟨zP_blind, va_recv hK hPc (ci := 5) (q0 := 0) rfl rfl, zP_pre hPc hDc hK⟩ rfl rfl hl.1 rfl (lv_room (Nat.le_of_ble_eq_true rfl)) dL_half_5 ⟨Nat.le_of_ble_eq_true rfl, Nat.le_of_ble_eq_true rfl⟩) hS (fun q _ h => hFc q h) hFc (fun r_1 u_1 t H1 locs ht hvm hw hB hz1 hk1 hS => ?_)
  obtain ⟨hP1, hK1, hD1⟩ := hB
  rw [ht] at hP1
  have hP1 : va_P (dC, dI) vwCl [(sl, .inr (5, [.ref sh, .int (zI lc), .ref ru, .ref tr, .ref se])), zQ cL sh 6 sf, (lv, .inr (1, [.int (zI w), .int (zI h), .ref ka, .ref ta, .int (zI sx), .int (zI sy), .int (zI fx), .int (zI fy), .int (zI lf), .int (zI un)])), zQ cT ta 4 tq, (tp kp, .inr (4, [.ref ti, .int (zI ln), .int (zI hf)]))] H1 := hP1
  obtain ⟨hP, hD⟩ := va_join (wr := [(ou, .inl (cJ, 1, .inr (.inl OU)))]) (w1 := [(sl, .inr (5, [.ref sh, .int (zI lc), .ref ru, .ref tr, .ref se])), zQ cL sh 6 sf, (lv, .inr (1, [.int (zI w), .int (zI h), .ref ka, .ref ta, .int (zI sx), .int (zI sy), .int (zI fx), .int (zI fy), .int (zI lf), .int (zI un)])), zQ cT ta 4 tq, (tp kp, .inr (4, [.ref ti, .int (zI ln), .int (zI hf)]))]) hP hD [0, 1, 2, 3, 4] [5] rfl rfl (by decide) (by decide) hk1 hFc hP1 hD1
  clear hP1 hD1 hk1 hFc hPc hDc hz1
  generalize H1 = H at hP hS ⊢
  have hP : va_P (dC, dI) vwCl [(sl, .inr (5, [.ref sh, .int (zI lc), .ref ru, .ref tr, .ref se])), zQ cL sh 6 sf, (lv, .inr (1, [.int (zI w), .int (zI h), .ref ka, .ref ta, .int (zI sx), .int (zI sy), .int (zI fx), .int (zI fy), .int (zI lf), .int (zI un)])), zQ cT ta 4 tq, (tp kp, .inr (4, [.ref ti, .int (zI ln), .int (zI hf)])), (ou, .inl (cJ, 1, .inr (.inl OU)))] H := hP.sub [1, 2, 3, 4, 5, 0] rfl
  have hD : va_D A [(sl, .inr (5, [.ref sh, .int (zI lc), .ref ru, .ref tr, .ref se])), zQ cL sh 6 sf, (lv, .inr (1, [.int (zI w), .int (zI h), .ref ka, .ref ta, .int (zI sx), .int (zI sy), .int (zI fx), .int (zI fy), .int (zI lf), .int (zI un)])), zQ cT ta 4 tq, (tp kp, .inr (4, [.ref ti, .int (zI ln), .int (zI hf)])), (ou, .inl (cJ, 1, .inr (.inl OU)))] := hD.sub [1, 2, 3, 4, 5, 0] (by decide) rfl
  clear hK1 hvm
  obtain ⟨rfl, po_2⟩ := hw
  refine W.eq (g2 := F0 m 8 ls [.int (zI hf), .int (zI 0), .ref ou]) rfl ?_
  refine lv_i2l (v := (zI hf).toInt64) hx hb dL_half_8 rfl ?_
  refine va_last (n := 1) (f := OU) (i := zI 0) (x := (zI hf).toInt64) hx hb hK hP hD hS 5 4 rfl rfl (zI_in (by decide) (by decide) (by decide)) dL_half_9 (fun H locs hP hD hS => ?_)
  have hP : va_P (dC, dI) vwCl [(sl, .inr (5, [.ref sh, .int (zI lc), .ref ru, .ref tr, .ref se])), zQ cL sh 6 sf, (lv, .inr (1, [.int (zI w), .int (zI h), .ref ka, .ref ta, .int (zI sx), .int (zI sy), .int (zI fx), .int (zI fy), .int (zI lf), .int (zI un)])), zQ cT ta 4 tq, (tp kp, .inr (4, [.ref ti, .int (zI ln), .int (zI hf)])), (ou, .inl (cJ, 1, .inr (.inl (vp_updL OU (zI 0).toNatClampNeg ((zI hf).toInt64)))))] H := hP
  have hD : va_D A [(sl, .inr (5, [.ref sh, .int (zI lc), .ref ru, .ref tr, .ref se])), zQ cL sh 6 sf, (lv, .inr (1, [.int (zI w), .int (zI h), .ref ka, .ref ta, .int (zI sx), .int (zI sy), .int (zI fx), .int (zI fy), .int (zI lf), .int (zI un)])), zQ cT ta 4 tq, (tp kp, .inr (4, [.ref ti, .int (zI ln), .int (zI hf)])), (ou, .inl (cJ, 1, .inr (.inl (vp_updL OU (zI 0).toNatClampNeg ((zI hf).toInt64)))))] := hD
  refine lv_goto (tgt := 17) hx hb dL_half_10 (by decide) ?_
  refine lv_iconst (v := zI 0) hx hb dL_half_17 (rfl) ?_
  have hP9 := hP.sub (ws' := [(sl, .inr (5, [.ref sh, .int (zI lc), .ref ru, .ref tr, .ref se])), zQ cL sh 6 sf, (lv, .inr (1, [.int (zI w), .int (zI h), .ref ka, .ref ta, .int (zI sx), .int (zI sy), .int (zI fx), .int (zI fy), .int (zI lf), .int (zI un)])), zQ cT ta 4 tq, (tp kp, .inr (4, [.ref ti, .int (zI ln), .int (zI hf)])), (ou, .inl (cJ, 1, .inr (.inl (vp_updL OU (zI 0).toNatClampNeg ((zI hf).toInt64)))))]) [0, 1, 2, 3, 4, 5] rfl
  have hD9 := hD.sub (ws' := [(sl, .inr (5, [.ref sh, .int (zI lc), .ref ru, .ref tr, .ref se])), zQ cL sh 6 sf, (lv, .inr (1, [.int (zI w), .int (zI h), .ref ka, .ref ta, .int (zI sx), .int (zI sy), .int (zI fx), .int (zI fy), .int (zI lf), .int (zI un)])), zQ cT ta 4 tq, (tp kp, .inr (4, [.ref ti, .int (zI ln), .int (zI hf)])), (ou, .inl (cJ, 1, .inr (.inl (vp_updL OU (zI 0).toNatClampNeg ((zI hf).toInt64)))))]) [0, 1, 2, 3, 4, 5] (by decide) rfl
  have po : zI 0 = zI 0 ∧ ((vp_updL OU (zI 0).toNatClampNeg ((zI hf).toInt64)) 0 = (zI hf).toInt64) := by
    refine ⟨by first | rfl | (congr 1; omega) | (congr 1; simp [*]), ?_⟩
    exact zou
  exact W.iret (v := zI 0) hx hb hr (fun t ht hW => ⟨⟨zI 0, vp_updL OU (zI 0).toNatClampNeg ((zI hf).toInt64), rfl, po, by rw [ht]; exact hP9, va_K.moved hW.alike hK, hD9⟩, hS.F ht⟩) hS.2.2 dL_half_18
set_option maxHeartbeats 4000000 in
set_option maxRecDepth 100000 in
theorem c_L_bestPlayer (l : Launch) (dC : Nat → ClassId) (dI : Nat → Nat → Nat) (cI cZ cL cT cJ : ClassId) (sz : Nat) (sl : Nat) (sh : Nat) (lc : Int) (ru : Nat) (tr : Nat) (se : Nat) (sf : Nat → Option Nat) (L : Int) (k : Nat) (lv : Nat) (w : Int) (h : Int) (ka : Nat) (ta : Nat) (sx : Int) (sy : Int) (fx : Int) (fy : Int) (lf : Int) (un : Int) (tq : Nat → Option Nat) (tp : Nat → Nat) (ti : Nat → Nat) (LN : Nat → Int) (HF : Nat → Int) (ou : Nat) (OU : Nat → Int64) (gk : L = (k : Int) ∧ k < 6) (gf : sf k = some lv) (gt : ∀ k, k < 4 → tq k = some (tp k)) (gL : ∀ k, k < 4 → -1 ≤ LN k ∧ LN k ≤ 100) : Met l yL_bestPlayer wsL_bestPlayer ({ frames := 2, cells := 0, slots := 0, locals := 45 }) (zP (dC, dI) (zT cI cZ cL cT cJ) sz [.ref sl, .int (zI L), .ref ou] [(sl, .inr (5, [.ref sh, .int (zI lc), .ref ru, .ref tr, .ref se])), zQ cL sh 6 sf, (lv, .inr (1, [.int (zI w), .int (zI h), .ref ka, .ref ta, .int (zI sx), .int (zI sy), .int (zI fx), .int (zI fy), .int (zI lf), .int (zI un)])), zQ cT ta 4 tq, (tp 0, .inr (4, [.ref (ti 0), .int (zI (LN 0)), .int (zI (HF 0))])), (tp 1, .inr (4, [.ref (ti 1), .int (zI (LN 1)), .int (zI (HF 1))])), (tp 2, .inr (4, [.ref (ti 2), .int (zI (LN 2)), .int (zI (HF 2))])), (tp 3, .inr (4, [.ref (ti 3), .int (zI (LN 3)), .int (zI (HF 3))])), (ou, .inl (cJ, 1, .inr (.inl OU)))]) (va_Qi (fun (r9 : Int32) (u9 : Int × (Nat → Int64)) => match u9 with | (rr, OU1) => r9 = zI 0 ∧ ((rr = (bp4 LN).1) ∧ OU1 0 = (zI rr).toInt64)) (zB (dC, dI) (zT cI cZ cL cT cJ) (va_A [(sl, .inr (5, [.ref sh, .int (zI lc), .ref ru, .ref tr, .ref se])), zQ cL sh 6 sf, (lv, .inr (1, [.int (zI w), .int (zI h), .ref ka, .ref ta, .int (zI sx), .int (zI sy), .int (zI fx), .int (zI fy), .int (zI lf), .int (zI un)])), zQ cT ta 4 tq, (tp 0, .inr (4, [.ref (ti 0), .int (zI (LN 0)), .int (zI (HF 0))])), (tp 1, .inr (4, [.ref (ti 1), .int (zI (LN 1)), .int (zI (HF 1))])), (tp 2, .inr (4, [.ref (ti 2), .int (zI (LN 2)), .int (zI (HF 2))])), (tp 3, .inr (4, [.ref (ti 3), .int (zI (LN 3)), .int (zI (HF 3))])), (ou, .inl (cJ, 1, .inr (.inl OU)))] sz) (fun (u9 : Int × (Nat → Int64)) => match u9 with | (rr, OU1) => [(sl, .inr (5, [.ref sh, .int (zI lc), .ref ru, .ref tr, .ref se])), zQ cL sh 6 sf, (lv, .inr (1, [.int (zI w), .int (zI h), .ref ka, .ref ta, .int (zI sx), .int (zI sy), .int (zI fx), .int (zI fy), .int (zI lf), .int (zI un)])), zQ cT ta 4 tq, (tp 0, .inr (4, [.ref (ti 0), .int (zI (LN 0)), .int (zI (HF 0))])), (tp 1, .inr (4, [.ref (ti 1), .int (zI (LN 1)), .int (zI (HF 1))])), (tp 2, .inr (4, [.ref (ti 2), .int (zI (LN 2)), .int (zI (HF 2))])), (tp 3, .inr (4, [.ref (ti 3), .int (zI (LN 3)), .int (zI (HF 3))])), (ou, .inl (cJ, 1, .inr (.inl OU1)))])) (va_A [(sl, .inr (5, [.ref sh, .int (zI lc), .ref ru, .ref tr, .ref se])), zQ cL sh 6 sf, (lv, .inr (1, [.int (zI w), .int (zI h), .ref ka, .ref ta, .int (zI sx), .int (zI sy), .int (zI fx), .int (zI fy), .int (zI lf), .int (zI un)])), zQ cT ta 4 tq, (tp 0, .inr (4, [.ref (ti 0), .int (zI (LN 0)), .int (zI (HF 0))])), (tp 1, .inr (4, [.ref (ti 1), .int (zI (LN 1)), .int (zI (HF 1))])), (tp 2, .inr (4, [.ref (ti 2), .int (zI (LN 2)), .int (zI (HF 2))])), (tp 3, .inr (4, [.ref (ti 3), .int (zI (LN 3)), .int (zI (HF 3))])), (ou, .inl (cJ, 1, .inr (.inl OU)))] sz)) 0 0 (va_A [(sl, .inr (5, [.ref sh, .int (zI lc), .ref ru, .ref tr, .ref se])), zQ cL sh 6 sf, (lv, .inr (1, [.int (zI w), .int (zI h), .ref ka, .ref ta, .int (zI sx), .int (zI sy), .int (zI fx), .int (zI fy), .int (zI lf), .int (zI un)])), zQ cT ta 4 tq, (tp 0, .inr (4, [.ref (ti 0), .int (zI (LN 0)), .int (zI (HF 0))])), (tp 1, .inr (4, [.ref (ti 1), .int (zI (LN 1)), .int (zI (HF 1))])), (tp 2, .inr (4, [.ref (ti 2), .int (zI (LN 2)), .int (zI (HF 2))])), (tp 3, .inr (4, [.ref (ti 3), .int (zI (LN 3)), .int (zI (HF 3))])), (ou, .inl (cJ, 1, .inr (.inl OU)))] sz) := by
  refine va_MetW (cc := cL_bestPlayer) (maxL := 4) (ret := (some .int)) (by decide) rfl ?_
  intro p e s m args below meth c s₁ B hml hv
  obtain ⟨rfl, hsz, hP, hK, hD0⟩ := hv
  have hx := B.exec
  have hb := B.bytes
  have hr := B.returns
  have hts := atoms_spec (ws := wsL_bestPlayer) B.pre
  have hown : s.vm.findClass RL = some m.cls := findClass_of_methodNamed B.named
  have hlocks := B.notSynchronized
  subst hsz
  have hD := hD0.self (sz := s.heap.size)
  generalize hAe : va_A [(sl, .inr (5, [.ref sh, .int (zI lc), .ref ru, .ref tr, .ref se])), zQ cL sh 6 sf, (lv, .inr (1, [.int (zI w), .int (zI h), .ref ka, .ref ta, .int (zI sx), .int (zI sy), .int (zI fx), .int (zI fy), .int (zI lf), .int (zI un)])), zQ cT ta 4 tq, (tp 0, .inr (4, [.ref (ti 0), .int (zI (LN 0)), .int (zI (HF 0))])), (tp 1, .inr (4, [.ref (ti 1), .int (zI (LN 1)), .int (zI (HF 1))])), (tp 2, .inr (4, [.ref (ti 2), .int (zI (LN 2)), .int (zI (HF 2))])), (tp 3, .inr (4, [.ref (ti 3), .int (zI (LN 3)), .int (zI (HF 3))])), (ou, .inl (cJ, 1, .inr (.inl OU)))] s.heap.size = A at hD ⊢
  have hA : ∀ q : Nat, s.heap.size ≤ q → A q := fun q h => by rw [← hAe]; exact Or.inr h
  clear hAe hD0
  have hS : va_S A s.heap s.heap [] := va_S.rf
  have hP : va_P (dC, dI) vwCl [(sl, .inr (5, [.ref sh, .int (zI lc), .ref ru, .ref tr, .ref se])), zQ cL sh 6 sf, (lv, .inr (1, [.int (zI w), .int (zI h), .ref ka, .ref ta, .int (zI sx), .int (zI sy), .int (zI fx), .int (zI fy), .int (zI lf), .int (zI un)])), zQ cT ta 4 tq, (tp 0, .inr (4, [.ref (ti 0), .int (zI (LN 0)), .int (zI (HF 0))])), (tp 1, .inr (4, [.ref (ti 1), .int (zI (LN 1)), .int (zI (HF 1))])), (tp 2, .inr (4, [.ref (ti 2), .int (zI (LN 2)), .int (zI (HF 2))])), (tp 3, .inr (4, [.ref (ti 3), .int (zI (LN 3)), .int (zI (HF 3))])), (ou, .inl (cJ, 1, .inr (.inl OU)))] s.heap := hP
  have hl := lv_entry ([.ref sl, .int (zI L), .ref ou]) (n := 4) (Nat.le_of_ble_eq_true rfl)
  rw [lg_entry_eq]
  generalize (lg_sl ([.ref sl, .int (zI L), .ref ou]) ++ List.replicate (4 - (lg_sl ([.ref sl, .int (zI L), .ref ou])).length) Slot.unset).toArray = ls at hl ⊢
  have hl : lv_has ls 4 [(0, .ref sl), (1, .int (zI L)), (2, .ref ou)] := hl
  refine lv_aload_n hx hb dL_bestPlayer_0 rfl (lv_at hl 2 rfl) ?_
  refine lv_iconst (v := zI 0) hx hb dL_bestPlayer_1 (rfl) ?_
  refine lv_aload_n hx hb dL_bestPlayer_2 rfl (lv_at hl 0 rfl) ?_
  refine lv_iload_n hx hb dL_bestPlayer_3 rfl (lv_at hl 1 rfl) ?_
  have hPc := hP.sub (ws' := [(sl, .inr (5, [.ref sh, .int (zI lc), .ref ru, .ref tr, .ref se])), zQ cL sh 6 sf, (lv, .inr (1, [.int (zI w), .int (zI h), .ref ka, .ref ta, .int (zI sx), .int (zI sy), .int (zI fx), .int (zI fy), .int (zI lf), .int (zI un)])), zQ cT ta 4 tq, (tp 0, .inr (4, [.ref (ti 0), .int (zI (LN 0)), .int (zI (HF 0))])), (tp 1, .inr (4, [.ref (ti 1), .int (zI (LN 1)), .int (zI (HF 1))])), (tp 2, .inr (4, [.ref (ti 2), .int (zI (LN 2)), .int (zI (HF 2))])), (tp 3, .inr (4, [.ref (ti 3), .int (zI (LN 3)), .int (zI (HF 3))]))]) [0, 1, 2, 3, 4, 5, 6, 7] rfl
  have hDc := hD.sub (ws' := [(sl, .inr (5, [.ref sh, .int (zI lc), .ref ru, .ref tr, .ref se])), zQ cL sh 6 sf, (lv, .inr (1, [.int (zI w), .int (zI h), .ref ka, .ref ta, .int (zI sx), .int (zI sy), .int (zI fx), .int (zI fy), .int (zI lf), .int (zI un)])), zQ cT ta 4 tq, (tp 0, .inr (4, [.ref (ti 0), .int (zI (LN 0)), .int (zI (HF 0))])), (tp 1, .inr (4, [.ref (ti 1), .int (zI (LN 1)), .int (zI (HF 1))])), (tp 2, .inr (4, [.ref (ti 2), .int (zI (LN 2)), .int (zI (HF 2))])), (tp 3, .inr (4, [.ref (ti 3), .int (zI (LN 3)), .int (zI (HF 3))]))]) [0, 1, 2, 3, 4, 5, 6, 7] (by decide) rfl
  have hFc := va_free (wc := [(sl, .inr (5, [.ref sh, .int (zI lc), .ref ru, .ref tr, .ref se])), zQ cL sh 6 sf, (lv, .inr (1, [.int (zI w), .int (zI h), .ref ka, .ref ta, .int (zI sx), .int (zI sy), .int (zI fx), .int (zI fy), .int (zI lf), .int (zI un)])), zQ cT ta 4 tq, (tp 0, .inr (4, [.ref (ti 0), .int (zI (LN 0)), .int (zI (HF 0))])), (tp 1, .inr (4, [.ref (ti 1), .int (zI (LN 1)), .int (zI (HF 1))])), (tp 2, .inr (4, [.ref (ti 2), .int (zI (LN 2)), .int (zI (HF 2))])), (tp 3, .inr (4, [.ref (ti 3), .int (zI (LN 3)), .int (zI (HF 3))]))]) hD hS hA [0, 1, 2, 3, 4, 5, 6, 7] rfl
  refine va_calli (va_runV (As := [.int (zI L)]) (rest := [.int (zI 0), .ref ou]) ⟨hx, hb, hml, hown, hts⟩ (c_X5_bestPlayer l dC dI cI cZ cL cT cJ s.heap.size sl sh lc ru tr se sf L k lv w h ka ta sx sy fx fy lf un tq tp ti LN HF (by first | assumption | omega) (by first | assumption | omega) (by first | assumption | omega) (by first | assumption | omega)) (cwV 1 hts gL_bestPlayer_X5_bestPlayer rfl rfl rfl (by decide +kernel) ⟨Nat.le_of_ble_eq_true rfl, Nat.le_of_ble_eq_true rfl⟩) ⟨zP_blind, va_recv hK hPc (ci := 5) (q0 := 0) rfl rfl, zP_pre hPc hDc hK⟩ rfl rfl hl.1 rfl (lv_room (Nat.le_of_ble_eq_true rfl)) dL_bestPlayer_4 ⟨Nat.le_of_ble_eq_true rfl, Nat.le_of_ble_eq_true rfl⟩) hS (fun q _ h => hFc q h) hFc (fun r_1 u_1 t H1 locs ht hvm hw hB hz1 hk1 hS => ?_)
  obtain ⟨rr_2, rfl⟩ : ∃ z, z = u_1 := ⟨_, rfl⟩
  obtain ⟨hP1, hK1, hD1⟩ := hB
  rw [ht] at hP1
  have hP1 : va_P (dC, dI) vwCl [(sl, .inr (5, [.ref sh, .int (zI lc), .ref ru, .ref tr, .ref se])), zQ cL sh 6 sf, (lv, .inr (1, [.int (zI w), .int (zI h), .ref ka, .ref ta, .int (zI sx), .int (zI sy), .int (zI fx), .int (zI fy), .int (zI lf), .int (zI un)])), zQ cT ta 4 tq, (tp 0, .inr (4, [.ref (ti 0), .int (zI (LN 0)), .int (zI (HF 0))])), (tp 1, .inr (4, [.ref (ti 1), .int (zI (LN 1)), .int (zI (HF 1))])), (tp 2, .inr (4, [.ref (ti 2), .int (zI (LN 2)), .int (zI (HF 2))])), (tp 3, .inr (4, [.ref (ti 3), .int (zI (LN 3)), .int (zI (HF 3))]))] H1 := hP1
  obtain ⟨hP, hD⟩ := va_join (wr := [(ou, .inl (cJ, 1, .inr (.inl OU)))]) (w1 := [(sl, .inr (5, [.ref sh, .int (zI lc), .ref ru, .ref tr, .ref se])), zQ cL sh 6 sf, (lv, .inr (1, [.int (zI w), .int (zI h), .ref ka, .ref ta, .int (zI sx), .int (zI sy), .int (zI fx), .int (zI fy), .int (zI lf), .int (zI un)])), zQ cT ta 4 tq, (tp 0, .inr (4, [.ref (ti 0), .int (zI (LN 0)), .int (zI (HF 0))])), (tp 1, .inr (4, [.ref (ti 1), .int (zI (LN 1)), .int (zI (HF 1))])), (tp 2, .inr (4, [.ref (ti 2), .int (zI (LN 2)), .int (zI (HF 2))])), (tp 3, .inr (4, [.ref (ti 3), .int (zI (LN 3)), .int (zI (HF 3))]))]) hP hD [0, 1, 2, 3, 4, 5, 6, 7] [8] rfl rfl (by decide) (by decide) hk1 hFc hP1 hD1
  clear hP1 hD1 hk1 hFc hPc hDc hz1
  generalize H1 = H at hP hS ⊢
  have hP : va_P (dC, dI) vwCl [(sl, .inr (5, [.ref sh, .int (zI lc), .ref ru, .ref tr, .ref se])), zQ cL sh 6 sf, (lv, .inr (1, [.int (zI w), .int (zI h), .ref ka, .ref ta, .int (zI sx), .int (zI sy), .int (zI fx), .int (zI fy), .int (zI lf), .int (zI un)])), zQ cT ta 4 tq, (tp 0, .inr (4, [.ref (ti 0), .int (zI (LN 0)), .int (zI (HF 0))])), (tp 1, .inr (4, [.ref (ti 1), .int (zI (LN 1)), .int (zI (HF 1))])), (tp 2, .inr (4, [.ref (ti 2), .int (zI (LN 2)), .int (zI (HF 2))])), (tp 3, .inr (4, [.ref (ti 3), .int (zI (LN 3)), .int (zI (HF 3))])), (ou, .inl (cJ, 1, .inr (.inl OU)))] H := hP.sub [1, 2, 3, 4, 5, 6, 7, 8, 0] rfl
  have hD : va_D A [(sl, .inr (5, [.ref sh, .int (zI lc), .ref ru, .ref tr, .ref se])), zQ cL sh 6 sf, (lv, .inr (1, [.int (zI w), .int (zI h), .ref ka, .ref ta, .int (zI sx), .int (zI sy), .int (zI fx), .int (zI fy), .int (zI lf), .int (zI un)])), zQ cT ta 4 tq, (tp 0, .inr (4, [.ref (ti 0), .int (zI (LN 0)), .int (zI (HF 0))])), (tp 1, .inr (4, [.ref (ti 1), .int (zI (LN 1)), .int (zI (HF 1))])), (tp 2, .inr (4, [.ref (ti 2), .int (zI (LN 2)), .int (zI (HF 2))])), (tp 3, .inr (4, [.ref (ti 3), .int (zI (LN 3)), .int (zI (HF 3))])), (ou, .inl (cJ, 1, .inr (.inl OU)))] := hD.sub [1, 2, 3, 4, 5, 6, 7, 8, 0] (by decide) rfl
  clear hK1 hvm
  obtain ⟨rfl, po_3⟩ := hw
  have po_3 : rr_2 = (bp4 LN).1 := po_3
  refine W.eq (g2 := F0 m 7 ls [.int (zI rr_2), .int (zI 0), .ref ou]) rfl ?_
  refine lv_i2l (v := (zI rr_2).toInt64) hx hb dL_bestPlayer_7 rfl ?_
  refine va_last (n := 1) (f := OU) (i := zI 0) (x := (zI rr_2).toInt64) hx hb hK hP hD hS 8 4 rfl rfl (zI_in (by decide) (by decide) (by decide)) dL_bestPlayer_8 (fun H locs hP hD hS => ?_)
  have hP : va_P (dC, dI) vwCl [(sl, .inr (5, [.ref sh, .int (zI lc), .ref ru, .ref tr, .ref se])), zQ cL sh 6 sf, (lv, .inr (1, [.int (zI w), .int (zI h), .ref ka, .ref ta, .int (zI sx), .int (zI sy), .int (zI fx), .int (zI fy), .int (zI lf), .int (zI un)])), zQ cT ta 4 tq, (tp 0, .inr (4, [.ref (ti 0), .int (zI (LN 0)), .int (zI (HF 0))])), (tp 1, .inr (4, [.ref (ti 1), .int (zI (LN 1)), .int (zI (HF 1))])), (tp 2, .inr (4, [.ref (ti 2), .int (zI (LN 2)), .int (zI (HF 2))])), (tp 3, .inr (4, [.ref (ti 3), .int (zI (LN 3)), .int (zI (HF 3))])), (ou, .inl (cJ, 1, .inr (.inl (vp_updL OU (zI 0).toNatClampNeg ((zI rr_2).toInt64)))))] H := hP
  have hD : va_D A [(sl, .inr (5, [.ref sh, .int (zI lc), .ref ru, .ref tr, .ref se])), zQ cL sh 6 sf, (lv, .inr (1, [.int (zI w), .int (zI h), .ref ka, .ref ta, .int (zI sx), .int (zI sy), .int (zI fx), .int (zI fy), .int (zI lf), .int (zI un)])), zQ cT ta 4 tq, (tp 0, .inr (4, [.ref (ti 0), .int (zI (LN 0)), .int (zI (HF 0))])), (tp 1, .inr (4, [.ref (ti 1), .int (zI (LN 1)), .int (zI (HF 1))])), (tp 2, .inr (4, [.ref (ti 2), .int (zI (LN 2)), .int (zI (HF 2))])), (tp 3, .inr (4, [.ref (ti 3), .int (zI (LN 3)), .int (zI (HF 3))])), (ou, .inl (cJ, 1, .inr (.inl (vp_updL OU (zI 0).toNatClampNeg ((zI rr_2).toInt64)))))] := hD
  refine lv_goto (tgt := 15) hx hb dL_bestPlayer_9 (by decide) ?_
  refine lv_iconst (v := zI 0) hx hb dL_bestPlayer_15 (rfl) ?_
  have hP9 := hP.sub (ws' := [(sl, .inr (5, [.ref sh, .int (zI lc), .ref ru, .ref tr, .ref se])), zQ cL sh 6 sf, (lv, .inr (1, [.int (zI w), .int (zI h), .ref ka, .ref ta, .int (zI sx), .int (zI sy), .int (zI fx), .int (zI fy), .int (zI lf), .int (zI un)])), zQ cT ta 4 tq, (tp 0, .inr (4, [.ref (ti 0), .int (zI (LN 0)), .int (zI (HF 0))])), (tp 1, .inr (4, [.ref (ti 1), .int (zI (LN 1)), .int (zI (HF 1))])), (tp 2, .inr (4, [.ref (ti 2), .int (zI (LN 2)), .int (zI (HF 2))])), (tp 3, .inr (4, [.ref (ti 3), .int (zI (LN 3)), .int (zI (HF 3))])), (ou, .inl (cJ, 1, .inr (.inl (vp_updL OU (zI 0).toNatClampNeg ((zI rr_2).toInt64)))))]) [0, 1, 2, 3, 4, 5, 6, 7, 8] rfl
  have hD9 := hD.sub (ws' := [(sl, .inr (5, [.ref sh, .int (zI lc), .ref ru, .ref tr, .ref se])), zQ cL sh 6 sf, (lv, .inr (1, [.int (zI w), .int (zI h), .ref ka, .ref ta, .int (zI sx), .int (zI sy), .int (zI fx), .int (zI fy), .int (zI lf), .int (zI un)])), zQ cT ta 4 tq, (tp 0, .inr (4, [.ref (ti 0), .int (zI (LN 0)), .int (zI (HF 0))])), (tp 1, .inr (4, [.ref (ti 1), .int (zI (LN 1)), .int (zI (HF 1))])), (tp 2, .inr (4, [.ref (ti 2), .int (zI (LN 2)), .int (zI (HF 2))])), (tp 3, .inr (4, [.ref (ti 3), .int (zI (LN 3)), .int (zI (HF 3))])), (ou, .inl (cJ, 1, .inr (.inl (vp_updL OU (zI 0).toNatClampNeg ((zI rr_2).toInt64)))))]) [0, 1, 2, 3, 4, 5, 6, 7, 8] (by decide) rfl
  have po : zI 0 = zI 0 ∧ ((rr_2 = (bp4 LN).1) ∧ (vp_updL OU (zI 0).toNatClampNeg ((zI rr_2).toInt64)) 0 = (zI rr_2).toInt64) := by
    refine ⟨by first | rfl | (congr 1; omega) | (congr 1; simp [*]), ?_⟩
    exact ⟨po_3, zou⟩
  exact W.iret (v := zI 0) hx hb hr (fun t ht hW => ⟨⟨zI 0, (rr_2, vp_updL OU (zI 0).toNatClampNeg ((zI rr_2).toInt64)), rfl, po, by rw [ht]; exact hP9, va_K.moved hW.alike hK, hD9⟩, hS.F ht⟩) hS.2.2 dL_bestPlayer_16
set_option maxHeartbeats 4000000 in
set_option maxRecDepth 100000 in
theorem c_L_replay (l : Launch) (dC : Nat → ClassId) (dI : Nat → Nat → Nat) (cI cZ cL cT cJ : ClassId) (sz : Nat) (sl : Nat) (sh : Nat) (lc : Int) (ru : Nat) (tr : Nat) (se : Nat) (sf : Nat → Option Nat) (L : Int) (k : Nat) (tx : Int) (ty : Int) (tl : Int) (lv : Nat) (w : Int) (h : Int) (ka : Nat) (ta : Nat) (sx : Int) (sy : Int) (fx : Int) (fy : Int) (lf : Int) (un : Int) (K : Int → Int) (tq : Nat → Option Nat) (tp : Nat → Nat) (pl : Int) (kp : Nat) (ti : Nat) (ln : Int) (hf : Int) (FI : Int → Int) (ou : Nat) (OU : Nat → Int64) (gk : L = (k : Int) ∧ k < 6) (gf : sf k = some lv) (gw : 0 < w ∧ w ≤ 12) (gh : 0 < h ∧ h ≤ 8) (gK : Kin K) (gsx : 0 ≤ sx ∧ sx < w) (gsy : 0 ≤ sy ∧ sy < h) (gfx : 0 ≤ fx ∧ fx < w) (gfy : 0 ≤ fy ∧ fy < h) (gt : ∀ k, k < 4 → tq k = some (tp k)) (gkp : pl = (kp : Int) ∧ kp < 4) (gn : 1 ≤ ln ∧ ln ≤ 100) (gFI : ∀ j, 0 ≤ j → j < ln → 0 ≤ FI j ∧ FI j ≤ 5) (gO : ∀ j : Nat, (j : Int) < ln - 1 → (smO K w h fx fy sx sy FI j) = 0) (gW : (smO K w h fx fy sx sy FI (ln - 1).toNat) = 2) : Met l yL_replay wsL_replay ({ frames := 5, cells := 0, slots := 0, locals := 116 }) (zP (dC, dI) (zT cI cZ cL cT cJ) sz [.ref sl, .int (zI L), .int (zI pl), .ref ou] [(sl, .inr (5, [.ref sh, .int (zI lc), .ref ru, .ref tr, .ref se])), zQ cL sh 6 sf, (tr, .inr (0, [.int (zI tx), .int (zI ty), .int (zI tl)])), (lv, .inr (1, [.int (zI w), .int (zI h), .ref ka, .ref ta, .int (zI sx), .int (zI sy), .int (zI fx), .int (zI fy), .int (zI lf), .int (zI un)])), zA cI ka 96 K, zQ cT ta 4 tq, (tp kp, .inr (4, [.ref ti, .int (zI ln), .int (zI hf)])), zA cI ti 100 FI, (ou, .inl (cJ, 1, .inr (.inl OU)))]) (va_Qi (fun (r9 : Int32) (u9 : Int × Int × Int × Int × (Nat → Int64)) => match u9 with | (x1, y1, l1, rr, OU1) => r9 = zI 0 ∧ ((rr = ln) ∧ OU1 0 = (zI rr).toInt64)) (zB (dC, dI) (zT cI cZ cL cT cJ) (va_A [(sl, .inr (5, [.ref sh, .int (zI lc), .ref ru, .ref tr, .ref se])), zQ cL sh 6 sf, (tr, .inr (0, [.int (zI tx), .int (zI ty), .int (zI tl)])), (lv, .inr (1, [.int (zI w), .int (zI h), .ref ka, .ref ta, .int (zI sx), .int (zI sy), .int (zI fx), .int (zI fy), .int (zI lf), .int (zI un)])), zA cI ka 96 K, zQ cT ta 4 tq, (tp kp, .inr (4, [.ref ti, .int (zI ln), .int (zI hf)])), zA cI ti 100 FI, (ou, .inl (cJ, 1, .inr (.inl OU)))] sz) (fun (u9 : Int × Int × Int × Int × (Nat → Int64)) => match u9 with | (x1, y1, l1, rr, OU1) => [(sl, .inr (5, [.ref sh, .int (zI lc), .ref ru, .ref tr, .ref se])), zQ cL sh 6 sf, (tr, .inr (0, [.int (zI x1), .int (zI y1), .int (zI l1)])), (lv, .inr (1, [.int (zI w), .int (zI h), .ref ka, .ref ta, .int (zI sx), .int (zI sy), .int (zI fx), .int (zI fy), .int (zI lf), .int (zI un)])), zA cI ka 96 K, zQ cT ta 4 tq, (tp kp, .inr (4, [.ref ti, .int (zI ln), .int (zI hf)])), zA cI ti 100 FI, (ou, .inl (cJ, 1, .inr (.inl OU1)))])) (va_A [(sl, .inr (5, [.ref sh, .int (zI lc), .ref ru, .ref tr, .ref se])), zQ cL sh 6 sf, (tr, .inr (0, [.int (zI tx), .int (zI ty), .int (zI tl)])), (lv, .inr (1, [.int (zI w), .int (zI h), .ref ka, .ref ta, .int (zI sx), .int (zI sy), .int (zI fx), .int (zI fy), .int (zI lf), .int (zI un)])), zA cI ka 96 K, zQ cT ta 4 tq, (tp kp, .inr (4, [.ref ti, .int (zI ln), .int (zI hf)])), zA cI ti 100 FI, (ou, .inl (cJ, 1, .inr (.inl OU)))] sz)) 0 0 (va_A [(sl, .inr (5, [.ref sh, .int (zI lc), .ref ru, .ref tr, .ref se])), zQ cL sh 6 sf, (tr, .inr (0, [.int (zI tx), .int (zI ty), .int (zI tl)])), (lv, .inr (1, [.int (zI w), .int (zI h), .ref ka, .ref ta, .int (zI sx), .int (zI sy), .int (zI fx), .int (zI fy), .int (zI lf), .int (zI un)])), zA cI ka 96 K, zQ cT ta 4 tq, (tp kp, .inr (4, [.ref ti, .int (zI ln), .int (zI hf)])), zA cI ti 100 FI, (ou, .inl (cJ, 1, .inr (.inl OU)))] sz) := by
  refine va_MetW (cc := cL_replay) (maxL := 5) (ret := (some .int)) (by decide) rfl ?_
  intro p e s m args below meth c s₁ B hml hv
  obtain ⟨rfl, hsz, hP, hK, hD0⟩ := hv
  have hx := B.exec
  have hb := B.bytes
  have hr := B.returns
  have hts := atoms_spec (ws := wsL_replay) B.pre
  have hown : s.vm.findClass RL = some m.cls := findClass_of_methodNamed B.named
  have hlocks := B.notSynchronized
  subst hsz
  have hD := hD0.self (sz := s.heap.size)
  generalize hAe : va_A [(sl, .inr (5, [.ref sh, .int (zI lc), .ref ru, .ref tr, .ref se])), zQ cL sh 6 sf, (tr, .inr (0, [.int (zI tx), .int (zI ty), .int (zI tl)])), (lv, .inr (1, [.int (zI w), .int (zI h), .ref ka, .ref ta, .int (zI sx), .int (zI sy), .int (zI fx), .int (zI fy), .int (zI lf), .int (zI un)])), zA cI ka 96 K, zQ cT ta 4 tq, (tp kp, .inr (4, [.ref ti, .int (zI ln), .int (zI hf)])), zA cI ti 100 FI, (ou, .inl (cJ, 1, .inr (.inl OU)))] s.heap.size = A at hD ⊢
  have hA : ∀ q : Nat, s.heap.size ≤ q → A q := fun q h => by rw [← hAe]; exact Or.inr h
  clear hAe hD0
  have hS : va_S A s.heap s.heap [] := va_S.rf
  have hP : va_P (dC, dI) vwCl [(sl, .inr (5, [.ref sh, .int (zI lc), .ref ru, .ref tr, .ref se])), zQ cL sh 6 sf, (tr, .inr (0, [.int (zI tx), .int (zI ty), .int (zI tl)])), (lv, .inr (1, [.int (zI w), .int (zI h), .ref ka, .ref ta, .int (zI sx), .int (zI sy), .int (zI fx), .int (zI fy), .int (zI lf), .int (zI un)])), zA cI ka 96 K, zQ cT ta 4 tq, (tp kp, .inr (4, [.ref ti, .int (zI ln), .int (zI hf)])), zA cI ti 100 FI, (ou, .inl (cJ, 1, .inr (.inl OU)))] s.heap := hP
  have hl := lv_entry ([.ref sl, .int (zI L), .int (zI pl), .ref ou]) (n := 5) (Nat.le_of_ble_eq_true rfl)
  rw [lg_entry_eq]
  generalize (lg_sl ([.ref sl, .int (zI L), .int (zI pl), .ref ou]) ++ List.replicate (5 - (lg_sl ([.ref sl, .int (zI L), .int (zI pl), .ref ou])).length) Slot.unset).toArray = ls at hl ⊢
  have hl : lv_has ls 5 [(0, .ref sl), (1, .int (zI L)), (2, .int (zI pl)), (3, .ref ou)] := hl
  refine lv_aload_n hx hb dL_replay_0 rfl (lv_at hl 3 rfl) ?_
  refine lv_iconst (v := zI 0) hx hb dL_replay_1 (rfl) ?_
  refine lv_aload_n hx hb dL_replay_2 rfl (lv_at hl 0 rfl) ?_
  refine lv_iload_n hx hb dL_replay_3 rfl (lv_at hl 1 rfl) ?_
  refine lv_iload_n hx hb dL_replay_4 rfl (lv_at hl 2 rfl) ?_
  have hPc := hP.sub (ws' := [(sl, .inr (5, [.ref sh, .int (zI lc), .ref ru, .ref tr, .ref se])), zQ cL sh 6 sf, (tr, .inr (0, [.int (zI tx), .int (zI ty), .int (zI tl)])), (lv, .inr (1, [.int (zI w), .int (zI h), .ref ka, .ref ta, .int (zI sx), .int (zI sy), .int (zI fx), .int (zI fy), .int (zI lf), .int (zI un)])), zA cI ka 96 K, zQ cT ta 4 tq, (tp kp, .inr (4, [.ref ti, .int (zI ln), .int (zI hf)])), zA cI ti 100 FI]) [0, 1, 2, 3, 4, 5, 6, 7] rfl
  have hDc := hD.sub (ws' := [(sl, .inr (5, [.ref sh, .int (zI lc), .ref ru, .ref tr, .ref se])), zQ cL sh 6 sf, (tr, .inr (0, [.int (zI tx), .int (zI ty), .int (zI tl)])), (lv, .inr (1, [.int (zI w), .int (zI h), .ref ka, .ref ta, .int (zI sx), .int (zI sy), .int (zI fx), .int (zI fy), .int (zI lf), .int (zI un)])), zA cI ka 96 K, zQ cT ta 4 tq, (tp kp, .inr (4, [.ref ti, .int (zI ln), .int (zI hf)])), zA cI ti 100 FI]) [0, 1, 2, 3, 4, 5, 6, 7] (by decide) rfl
  have hFc := va_free (wc := [(sl, .inr (5, [.ref sh, .int (zI lc), .ref ru, .ref tr, .ref se])), zQ cL sh 6 sf, (tr, .inr (0, [.int (zI tx), .int (zI ty), .int (zI tl)])), (lv, .inr (1, [.int (zI w), .int (zI h), .ref ka, .ref ta, .int (zI sx), .int (zI sy), .int (zI fx), .int (zI fy), .int (zI lf), .int (zI un)])), zA cI ka 96 K, zQ cT ta 4 tq, (tp kp, .inr (4, [.ref ti, .int (zI ln), .int (zI hf)])), zA cI ti 100 FI]) hD hS hA [0, 1, 2, 3, 4, 5, 6, 7] rfl
  refine va_calli (va_runV (As := [.int (zI L), .int (zI pl)]) (rest := [.int (zI 0), .ref ou]) ⟨hx, hb, hml, hown, hts⟩ (c_X5_replay l dC dI cI cZ cL cT cJ s.heap.size sl sh lc ru tr se sf L k tx ty tl lv w h ka ta sx sy fx fy lf un K tq tp pl kp ti ln hf FI (by first | assumption | omega) (by first | assumption | omega) (by first | assumption | omega) (by first | assumption | omega) (by first | assumption | omega) (by first | assumption | omega) (by first | assumption | omega) (by first | assumption | omega) (by first | assumption | omega) (by first | assumption | omega) (by first | assumption | omega) (by first | assumption | omega) (by first | assumption | omega) (by first | assumption | omega) (by first | assumption | omega)) (cwV 2 hts gL_replay_X5_replay rfl rfl rfl (by decide +kernel) ⟨Nat.le_of_ble_eq_true rfl, Nat.le_of_ble_eq_true rfl⟩) ⟨zP_blind, va_recv hK hPc (ci := 5) (q0 := 0) rfl rfl, zP_pre hPc hDc hK⟩ rfl rfl hl.1 rfl (lv_room (Nat.le_of_ble_eq_true rfl)) dL_replay_5 ⟨Nat.le_of_ble_eq_true rfl, Nat.le_of_ble_eq_true rfl⟩) hS (fun q _ h => hFc q h) hFc (fun r_1 u_1 t H1 locs ht hvm hw hB hz1 hk1 hS => ?_)
  obtain ⟨x1_2, y1_3, l1_4, rr_5⟩ := u_1
  obtain ⟨hP1, hK1, hD1⟩ := hB
  rw [ht] at hP1
  have hP1 : va_P (dC, dI) vwCl [(sl, .inr (5, [.ref sh, .int (zI lc), .ref ru, .ref tr, .ref se])), zQ cL sh 6 sf, (tr, .inr (0, [.int (zI x1_2), .int (zI y1_3), .int (zI l1_4)])), (lv, .inr (1, [.int (zI w), .int (zI h), .ref ka, .ref ta, .int (zI sx), .int (zI sy), .int (zI fx), .int (zI fy), .int (zI lf), .int (zI un)])), zA cI ka 96 K, zQ cT ta 4 tq, (tp kp, .inr (4, [.ref ti, .int (zI ln), .int (zI hf)])), zA cI ti 100 FI] H1 := hP1
  obtain ⟨hP, hD⟩ := va_join (wr := [(ou, .inl (cJ, 1, .inr (.inl OU)))]) (w1 := [(sl, .inr (5, [.ref sh, .int (zI lc), .ref ru, .ref tr, .ref se])), zQ cL sh 6 sf, (tr, .inr (0, [.int (zI x1_2), .int (zI y1_3), .int (zI l1_4)])), (lv, .inr (1, [.int (zI w), .int (zI h), .ref ka, .ref ta, .int (zI sx), .int (zI sy), .int (zI fx), .int (zI fy), .int (zI lf), .int (zI un)])), zA cI ka 96 K, zQ cT ta 4 tq, (tp kp, .inr (4, [.ref ti, .int (zI ln), .int (zI hf)])), zA cI ti 100 FI]) hP hD [0, 1, 2, 3, 4, 5, 6, 7] [8] rfl rfl (by decide) (by decide) hk1 hFc hP1 hD1
  clear hP1 hD1 hk1 hFc hPc hDc hz1
  generalize H1 = H at hP hS ⊢
  have hP : va_P (dC, dI) vwCl [(sl, .inr (5, [.ref sh, .int (zI lc), .ref ru, .ref tr, .ref se])), zQ cL sh 6 sf, (tr, .inr (0, [.int (zI x1_2), .int (zI y1_3), .int (zI l1_4)])), (lv, .inr (1, [.int (zI w), .int (zI h), .ref ka, .ref ta, .int (zI sx), .int (zI sy), .int (zI fx), .int (zI fy), .int (zI lf), .int (zI un)])), zA cI ka 96 K, zQ cT ta 4 tq, (tp kp, .inr (4, [.ref ti, .int (zI ln), .int (zI hf)])), zA cI ti 100 FI, (ou, .inl (cJ, 1, .inr (.inl OU)))] H := hP.sub [1, 2, 3, 4, 5, 6, 7, 8, 0] rfl
  have hD : va_D A [(sl, .inr (5, [.ref sh, .int (zI lc), .ref ru, .ref tr, .ref se])), zQ cL sh 6 sf, (tr, .inr (0, [.int (zI x1_2), .int (zI y1_3), .int (zI l1_4)])), (lv, .inr (1, [.int (zI w), .int (zI h), .ref ka, .ref ta, .int (zI sx), .int (zI sy), .int (zI fx), .int (zI fy), .int (zI lf), .int (zI un)])), zA cI ka 96 K, zQ cT ta 4 tq, (tp kp, .inr (4, [.ref ti, .int (zI ln), .int (zI hf)])), zA cI ti 100 FI, (ou, .inl (cJ, 1, .inr (.inl OU)))] := hD.sub [1, 2, 3, 4, 5, 6, 7, 8, 0] (by decide) rfl
  clear hK1 hvm
  obtain ⟨rfl, po_6⟩ := hw
  have po_6 : rr_5 = ln := po_6
  refine W.eq (g2 := F0 m 8 ls [.int (zI rr_5), .int (zI 0), .ref ou]) rfl ?_
  refine lv_i2l (v := (zI rr_5).toInt64) hx hb dL_replay_8 rfl ?_
  refine va_last (n := 1) (f := OU) (i := zI 0) (x := (zI rr_5).toInt64) hx hb hK hP hD hS 8 4 rfl rfl (zI_in (by decide) (by decide) (by decide)) dL_replay_9 (fun H locs hP hD hS => ?_)
  have hP : va_P (dC, dI) vwCl [(sl, .inr (5, [.ref sh, .int (zI lc), .ref ru, .ref tr, .ref se])), zQ cL sh 6 sf, (tr, .inr (0, [.int (zI x1_2), .int (zI y1_3), .int (zI l1_4)])), (lv, .inr (1, [.int (zI w), .int (zI h), .ref ka, .ref ta, .int (zI sx), .int (zI sy), .int (zI fx), .int (zI fy), .int (zI lf), .int (zI un)])), zA cI ka 96 K, zQ cT ta 4 tq, (tp kp, .inr (4, [.ref ti, .int (zI ln), .int (zI hf)])), zA cI ti 100 FI, (ou, .inl (cJ, 1, .inr (.inl (vp_updL OU (zI 0).toNatClampNeg ((zI rr_5).toInt64)))))] H := hP
  have hD : va_D A [(sl, .inr (5, [.ref sh, .int (zI lc), .ref ru, .ref tr, .ref se])), zQ cL sh 6 sf, (tr, .inr (0, [.int (zI x1_2), .int (zI y1_3), .int (zI l1_4)])), (lv, .inr (1, [.int (zI w), .int (zI h), .ref ka, .ref ta, .int (zI sx), .int (zI sy), .int (zI fx), .int (zI fy), .int (zI lf), .int (zI un)])), zA cI ka 96 K, zQ cT ta 4 tq, (tp kp, .inr (4, [.ref ti, .int (zI ln), .int (zI hf)])), zA cI ti 100 FI, (ou, .inl (cJ, 1, .inr (.inl (vp_updL OU (zI 0).toNatClampNeg ((zI rr_5).toInt64)))))] := hD
  refine lv_goto (tgt := 17) hx hb dL_replay_10 (by decide) ?_
  refine lv_iconst (v := zI 0) hx hb dL_replay_17 (rfl) ?_
  have hP9 := hP.sub (ws' := [(sl, .inr (5, [.ref sh, .int (zI lc), .ref ru, .ref tr, .ref se])), zQ cL sh 6 sf, (tr, .inr (0, [.int (zI x1_2), .int (zI y1_3), .int (zI l1_4)])), (lv, .inr (1, [.int (zI w), .int (zI h), .ref ka, .ref ta, .int (zI sx), .int (zI sy), .int (zI fx), .int (zI fy), .int (zI lf), .int (zI un)])), zA cI ka 96 K, zQ cT ta 4 tq, (tp kp, .inr (4, [.ref ti, .int (zI ln), .int (zI hf)])), zA cI ti 100 FI, (ou, .inl (cJ, 1, .inr (.inl (vp_updL OU (zI 0).toNatClampNeg ((zI rr_5).toInt64)))))]) [0, 1, 2, 3, 4, 5, 6, 7, 8] rfl
  have hD9 := hD.sub (ws' := [(sl, .inr (5, [.ref sh, .int (zI lc), .ref ru, .ref tr, .ref se])), zQ cL sh 6 sf, (tr, .inr (0, [.int (zI x1_2), .int (zI y1_3), .int (zI l1_4)])), (lv, .inr (1, [.int (zI w), .int (zI h), .ref ka, .ref ta, .int (zI sx), .int (zI sy), .int (zI fx), .int (zI fy), .int (zI lf), .int (zI un)])), zA cI ka 96 K, zQ cT ta 4 tq, (tp kp, .inr (4, [.ref ti, .int (zI ln), .int (zI hf)])), zA cI ti 100 FI, (ou, .inl (cJ, 1, .inr (.inl (vp_updL OU (zI 0).toNatClampNeg ((zI rr_5).toInt64)))))]) [0, 1, 2, 3, 4, 5, 6, 7, 8] (by decide) rfl
  have po : zI 0 = zI 0 ∧ ((rr_5 = ln) ∧ (vp_updL OU (zI 0).toNatClampNeg ((zI rr_5).toInt64)) 0 = (zI rr_5).toInt64) := by
    refine ⟨by first | rfl | (congr 1; omega) | (congr 1; simp [*]), ?_⟩
    exact ⟨po_6, zou⟩
  exact W.iret (v := zI 0) hx hb hr (fun t ht hW => ⟨⟨zI 0, (x1_2, y1_3, l1_4, rr_5, vp_updL OU (zI 0).toNatClampNeg ((zI rr_5).toInt64)), rfl, po, by rw [ht]; exact hP9, va_K.moved hW.alike hK, hD9⟩, hS.F ht⟩) hS.2.2 dL_replay_18
set_option maxHeartbeats 4000000 in
set_option maxRecDepth 100000 in
theorem c_L_replay_0 (l : Launch) (dC : Nat → ClassId) (dI : Nat → Nat → Nat) (cI cZ cL cT cJ : ClassId) (sz : Nat) (sl : Nat) (sh : Nat) (lc : Int) (ru : Nat) (tr : Nat) (se : Nat) (sf : Nat → Option Nat) (L : Int) (k : Nat) (tx : Int) (ty : Int) (tl : Int) (lv : Nat) (w : Int) (h : Int) (ka : Nat) (ta : Nat) (sx : Int) (sy : Int) (fx : Int) (fy : Int) (lf : Int) (un : Int) (tq : Nat → Option Nat) (tp : Nat → Nat) (pl : Int) (kp : Nat) (ti : Nat) (hf : Int) (ou : Nat) (OU : Nat → Int64) (gk : L = (k : Int) ∧ k < 6) (gf : sf k = some lv) (gt : ∀ k, k < 4 → tq k = some (tp k)) (gkp : pl = (kp : Int) ∧ kp < 4) : Met l yL_replay wsL_replay ({ frames := 5, cells := 0, slots := 0, locals := 116 }) (zP (dC, dI) (zT cI cZ cL cT cJ) sz [.ref sl, .int (zI L), .int (zI pl), .ref ou] [(sl, .inr (5, [.ref sh, .int (zI lc), .ref ru, .ref tr, .ref se])), zQ cL sh 6 sf, (tr, .inr (0, [.int (zI tx), .int (zI ty), .int (zI tl)])), (lv, .inr (1, [.int (zI w), .int (zI h), .ref ka, .ref ta, .int (zI sx), .int (zI sy), .int (zI fx), .int (zI fy), .int (zI lf), .int (zI un)])), zQ cT ta 4 tq, (tp kp, .inr (4, [.ref ti, .int (zI (-1)), .int (zI hf)])), (ou, .inl (cJ, 1, .inr (.inl OU)))]) (va_Qi (fun (r9 : Int32) (u9 : (Nat → Int64)) => match u9 with | OU1 => r9 = zI 0 ∧ (OU1 0 = (zI (-1)).toInt64)) (zB (dC, dI) (zT cI cZ cL cT cJ) (va_A [(sl, .inr (5, [.ref sh, .int (zI lc), .ref ru, .ref tr, .ref se])), zQ cL sh 6 sf, (tr, .inr (0, [.int (zI tx), .int (zI ty), .int (zI tl)])), (lv, .inr (1, [.int (zI w), .int (zI h), .ref ka, .ref ta, .int (zI sx), .int (zI sy), .int (zI fx), .int (zI fy), .int (zI lf), .int (zI un)])), zQ cT ta 4 tq, (tp kp, .inr (4, [.ref ti, .int (zI (-1)), .int (zI hf)])), (ou, .inl (cJ, 1, .inr (.inl OU)))] sz) (fun (u9 : (Nat → Int64)) => match u9 with | OU1 => [(sl, .inr (5, [.ref sh, .int (zI lc), .ref ru, .ref tr, .ref se])), zQ cL sh 6 sf, (tr, .inr (0, [.int (zI sx), .int (zI sy), .int (zI 0)])), (lv, .inr (1, [.int (zI w), .int (zI h), .ref ka, .ref ta, .int (zI sx), .int (zI sy), .int (zI fx), .int (zI fy), .int (zI lf), .int (zI un)])), zQ cT ta 4 tq, (tp kp, .inr (4, [.ref ti, .int (zI (-1)), .int (zI hf)])), (ou, .inl (cJ, 1, .inr (.inl OU1)))])) (va_A [(sl, .inr (5, [.ref sh, .int (zI lc), .ref ru, .ref tr, .ref se])), zQ cL sh 6 sf, (tr, .inr (0, [.int (zI tx), .int (zI ty), .int (zI tl)])), (lv, .inr (1, [.int (zI w), .int (zI h), .ref ka, .ref ta, .int (zI sx), .int (zI sy), .int (zI fx), .int (zI fy), .int (zI lf), .int (zI un)])), zQ cT ta 4 tq, (tp kp, .inr (4, [.ref ti, .int (zI (-1)), .int (zI hf)])), (ou, .inl (cJ, 1, .inr (.inl OU)))] sz)) 0 0 (va_A [(sl, .inr (5, [.ref sh, .int (zI lc), .ref ru, .ref tr, .ref se])), zQ cL sh 6 sf, (tr, .inr (0, [.int (zI tx), .int (zI ty), .int (zI tl)])), (lv, .inr (1, [.int (zI w), .int (zI h), .ref ka, .ref ta, .int (zI sx), .int (zI sy), .int (zI fx), .int (zI fy), .int (zI lf), .int (zI un)])), zQ cT ta 4 tq, (tp kp, .inr (4, [.ref ti, .int (zI (-1)), .int (zI hf)])), (ou, .inl (cJ, 1, .inr (.inl OU)))] sz) := by
  refine va_MetW (cc := cL_replay) (maxL := 5) (ret := (some .int)) (by decide) rfl ?_
  intro p e s m args below meth c s₁ B hml hv
  obtain ⟨rfl, hsz, hP, hK, hD0⟩ := hv
  have hx := B.exec
  have hb := B.bytes
  have hr := B.returns
  have hts := atoms_spec (ws := wsL_replay) B.pre
  have hown : s.vm.findClass RL = some m.cls := findClass_of_methodNamed B.named
  have hlocks := B.notSynchronized
  subst hsz
  have hD := hD0.self (sz := s.heap.size)
  generalize hAe : va_A [(sl, .inr (5, [.ref sh, .int (zI lc), .ref ru, .ref tr, .ref se])), zQ cL sh 6 sf, (tr, .inr (0, [.int (zI tx), .int (zI ty), .int (zI tl)])), (lv, .inr (1, [.int (zI w), .int (zI h), .ref ka, .ref ta, .int (zI sx), .int (zI sy), .int (zI fx), .int (zI fy), .int (zI lf), .int (zI un)])), zQ cT ta 4 tq, (tp kp, .inr (4, [.ref ti, .int (zI (-1)), .int (zI hf)])), (ou, .inl (cJ, 1, .inr (.inl OU)))] s.heap.size = A at hD ⊢
  have hA : ∀ q : Nat, s.heap.size ≤ q → A q := fun q h => by rw [← hAe]; exact Or.inr h
  clear hAe hD0
  have hS : va_S A s.heap s.heap [] := va_S.rf
  have hP : va_P (dC, dI) vwCl [(sl, .inr (5, [.ref sh, .int (zI lc), .ref ru, .ref tr, .ref se])), zQ cL sh 6 sf, (tr, .inr (0, [.int (zI tx), .int (zI ty), .int (zI tl)])), (lv, .inr (1, [.int (zI w), .int (zI h), .ref ka, .ref ta, .int (zI sx), .int (zI sy), .int (zI fx), .int (zI fy), .int (zI lf), .int (zI un)])), zQ cT ta 4 tq, (tp kp, .inr (4, [.ref ti, .int (zI (-1)), .int (zI hf)])), (ou, .inl (cJ, 1, .inr (.inl OU)))] s.heap := hP
  have hl := lv_entry ([.ref sl, .int (zI L), .int (zI pl), .ref ou]) (n := 5) (Nat.le_of_ble_eq_true rfl)
  rw [lg_entry_eq]
  generalize (lg_sl ([.ref sl, .int (zI L), .int (zI pl), .ref ou]) ++ List.replicate (5 - (lg_sl ([.ref sl, .int (zI L), .int (zI pl), .ref ou])).length) Slot.unset).toArray = ls at hl ⊢
  have hl : lv_has ls 5 [(0, .ref sl), (1, .int (zI L)), (2, .int (zI pl)), (3, .ref ou)] := hl
  refine lv_aload_n hx hb dL_replay_0 rfl (lv_at hl 3 rfl) ?_
  refine lv_iconst (v := zI 0) hx hb dL_replay_1 (rfl) ?_
  refine lv_aload_n hx hb dL_replay_2 rfl (lv_at hl 0 rfl) ?_
  refine lv_iload_n hx hb dL_replay_3 rfl (lv_at hl 1 rfl) ?_
  refine lv_iload_n hx hb dL_replay_4 rfl (lv_at hl 2 rfl) ?_
  have hPc := hP.sub (ws' := [(sl, .inr (5, [.ref sh, .int (zI lc), .ref ru, .ref tr, .ref se])), zQ cL sh 6 sf, (tr, .inr (0, [.int (zI tx), .int (zI ty), .int (zI tl)])), (lv, .inr (1, [.int (zI w), .int (zI h), .ref ka, .ref ta, .int (zI sx), .int (zI sy), .int (zI fx), .int (zI fy), .int (zI lf), .int (zI un)])), zQ cT ta 4 tq, (tp kp, .inr (4, [.ref ti, .int (zI (-1)), .int (zI hf)]))]) [0, 1, 2, 3, 4, 5] rfl
  have hDc := hD.sub (ws' := [(sl, .inr (5, [.ref sh, .int (zI lc), .ref ru, .ref tr, .ref se])), zQ cL sh 6 sf, (tr, .inr (0, [.int (zI tx), .int (zI ty), .int (zI tl)])), (lv, .inr (1, [.int (zI w), .int (zI h), .ref ka, .ref ta, .int (zI sx), .int (zI sy), .int (zI fx), .int (zI fy), .int (zI lf), .int (zI un)])), zQ cT ta 4 tq, (tp kp, .inr (4, [.ref ti, .int (zI (-1)), .int (zI hf)]))]) [0, 1, 2, 3, 4, 5] (by decide) rfl
  have hFc := va_free (wc := [(sl, .inr (5, [.ref sh, .int (zI lc), .ref ru, .ref tr, .ref se])), zQ cL sh 6 sf, (tr, .inr (0, [.int (zI tx), .int (zI ty), .int (zI tl)])), (lv, .inr (1, [.int (zI w), .int (zI h), .ref ka, .ref ta, .int (zI sx), .int (zI sy), .int (zI fx), .int (zI fy), .int (zI lf), .int (zI un)])), zQ cT ta 4 tq, (tp kp, .inr (4, [.ref ti, .int (zI (-1)), .int (zI hf)]))]) hD hS hA [0, 1, 2, 3, 4, 5] rfl
  refine va_calli (va_runV (As := [.int (zI L), .int (zI pl)]) (rest := [.int (zI 0), .ref ou]) ⟨hx, hb, hml, hown, hts⟩ (c_X5_replay_0 l dC dI cI cZ cL cT cJ s.heap.size sl sh lc ru tr se sf L k tx ty tl lv w h ka ta sx sy fx fy lf un tq tp pl kp ti hf (by first | assumption | omega) (by first | assumption | omega) (by first | assumption | omega) (by first | assumption | omega)) (cwV 2 hts gL_replay_X5_replay rfl rfl rfl (by decide +kernel) ⟨Nat.le_of_ble_eq_true rfl, Nat.le_of_ble_eq_true rfl⟩) ⟨zP_blind, va_recv hK hPc (ci := 5) (q0 := 0) rfl rfl, zP_pre hPc hDc hK⟩ rfl rfl hl.1 rfl (lv_room (Nat.le_of_ble_eq_true rfl)) dL_replay_5 ⟨Nat.le_of_ble_eq_true rfl, Nat.le_of_ble_eq_true rfl⟩) hS (fun q _ h => hFc q h) hFc (fun r_1 u_1 t H1 locs ht hvm hw hB hz1 hk1 hS => ?_)
  obtain ⟨hP1, hK1, hD1⟩ := hB
  rw [ht] at hP1
  have hP1 : va_P (dC, dI) vwCl [(sl, .inr (5, [.ref sh, .int (zI lc), .ref ru, .ref tr, .ref se])), zQ cL sh 6 sf, (tr, .inr (0, [.int (zI sx), .int (zI sy), .int (zI 0)])), (lv, .inr (1, [.int (zI w), .int (zI h), .ref ka, .ref ta, .int (zI sx), .int (zI sy), .int (zI fx), .int (zI fy), .int (zI lf), .int (zI un)])), zQ cT ta 4 tq, (tp kp, .inr (4, [.ref ti, .int (zI (-1)), .int (zI hf)]))] H1 := hP1
  obtain ⟨hP, hD⟩ := va_join (wr := [(ou, .inl (cJ, 1, .inr (.inl OU)))]) (w1 := [(sl, .inr (5, [.ref sh, .int (zI lc), .ref ru, .ref tr, .ref se])), zQ cL sh 6 sf, (tr, .inr (0, [.int (zI sx), .int (zI sy), .int (zI 0)])), (lv, .inr (1, [.int (zI w), .int (zI h), .ref ka, .ref ta, .int (zI sx), .int (zI sy), .int (zI fx), .int (zI fy), .int (zI lf), .int (zI un)])), zQ cT ta 4 tq, (tp kp, .inr (4, [.ref ti, .int (zI (-1)), .int (zI hf)]))]) hP hD [0, 1, 2, 3, 4, 5] [6] rfl rfl (by decide) (by decide) hk1 hFc hP1 hD1
  clear hP1 hD1 hk1 hFc hPc hDc hz1
  generalize H1 = H at hP hS ⊢
  have hP : va_P (dC, dI) vwCl [(sl, .inr (5, [.ref sh, .int (zI lc), .ref ru, .ref tr, .ref se])), zQ cL sh 6 sf, (tr, .inr (0, [.int (zI sx), .int (zI sy), .int (zI 0)])), (lv, .inr (1, [.int (zI w), .int (zI h), .ref ka, .ref ta, .int (zI sx), .int (zI sy), .int (zI fx), .int (zI fy), .int (zI lf), .int (zI un)])), zQ cT ta 4 tq, (tp kp, .inr (4, [.ref ti, .int (zI (-1)), .int (zI hf)])), (ou, .inl (cJ, 1, .inr (.inl OU)))] H := hP.sub [1, 2, 3, 4, 5, 6, 0] rfl
  have hD : va_D A [(sl, .inr (5, [.ref sh, .int (zI lc), .ref ru, .ref tr, .ref se])), zQ cL sh 6 sf, (tr, .inr (0, [.int (zI sx), .int (zI sy), .int (zI 0)])), (lv, .inr (1, [.int (zI w), .int (zI h), .ref ka, .ref ta, .int (zI sx), .int (zI sy), .int (zI fx), .int (zI fy), .int (zI lf), .int (zI un)])), zQ cT ta 4 tq, (tp kp, .inr (4, [.ref ti, .int (zI (-1)), .int (zI hf)])), (ou, .inl (cJ, 1, .inr (.inl OU)))] := hD.sub [1, 2, 3, 4, 5, 6, 0] (by decide) rfl
  clear hK1 hvm
  obtain ⟨rfl, po_2⟩ := hw
  refine W.eq (g2 := F0 m 8 ls [.int (zI (-1)), .int (zI 0), .ref ou]) rfl ?_
  refine lv_i2l (v := (zI (-1)).toInt64) hx hb dL_replay_8 rfl ?_
  refine va_last (n := 1) (f := OU) (i := zI 0) (x := (zI (-1)).toInt64) hx hb hK hP hD hS 6 4 rfl rfl (zI_in (by decide) (by decide) (by decide)) dL_replay_9 (fun H locs hP hD hS => ?_)
  have hP : va_P (dC, dI) vwCl [(sl, .inr (5, [.ref sh, .int (zI lc), .ref ru, .ref tr, .ref se])), zQ cL sh 6 sf, (tr, .inr (0, [.int (zI sx), .int (zI sy), .int (zI 0)])), (lv, .inr (1, [.int (zI w), .int (zI h), .ref ka, .ref ta, .int (zI sx), .int (zI sy), .int (zI fx), .int (zI fy), .int (zI lf), .int (zI un)])), zQ cT ta 4 tq, (tp kp, .inr (4, [.ref ti, .int (zI (-1)), .int (zI hf)])), (ou, .inl (cJ, 1, .inr (.inl (vp_updL OU (zI 0).toNatClampNeg ((zI (-1)).toInt64)))))] H := hP
  have hD : va_D A [(sl, .inr (5, [.ref sh, .int (zI lc), .ref ru, .ref tr, .ref se])), zQ cL sh 6 sf, (tr, .inr (0, [.int (zI sx), .int (zI sy), .int (zI 0)])), (lv, .inr (1, [.int (zI w), .int (zI h), .ref ka, .ref ta, .int (zI sx), .int (zI sy), .int (zI fx), .int (zI fy), .int (zI lf), .int (zI un)])), zQ cT ta 4 tq, (tp kp, .inr (4, [.ref ti, .int (zI (-1)), .int (zI hf)])), (ou, .inl (cJ, 1, .inr (.inl (vp_updL OU (zI 0).toNatClampNeg ((zI (-1)).toInt64)))))] := hD
  refine lv_goto (tgt := 17) hx hb dL_replay_10 (by decide) ?_
  refine lv_iconst (v := zI 0) hx hb dL_replay_17 (rfl) ?_
  have hP9 := hP.sub (ws' := [(sl, .inr (5, [.ref sh, .int (zI lc), .ref ru, .ref tr, .ref se])), zQ cL sh 6 sf, (tr, .inr (0, [.int (zI sx), .int (zI sy), .int (zI 0)])), (lv, .inr (1, [.int (zI w), .int (zI h), .ref ka, .ref ta, .int (zI sx), .int (zI sy), .int (zI fx), .int (zI fy), .int (zI lf), .int (zI un)])), zQ cT ta 4 tq, (tp kp, .inr (4, [.ref ti, .int (zI (-1)), .int (zI hf)])), (ou, .inl (cJ, 1, .inr (.inl (vp_updL OU (zI 0).toNatClampNeg ((zI (-1)).toInt64)))))]) [0, 1, 2, 3, 4, 5, 6] rfl
  have hD9 := hD.sub (ws' := [(sl, .inr (5, [.ref sh, .int (zI lc), .ref ru, .ref tr, .ref se])), zQ cL sh 6 sf, (tr, .inr (0, [.int (zI sx), .int (zI sy), .int (zI 0)])), (lv, .inr (1, [.int (zI w), .int (zI h), .ref ka, .ref ta, .int (zI sx), .int (zI sy), .int (zI fx), .int (zI fy), .int (zI lf), .int (zI un)])), zQ cT ta 4 tq, (tp kp, .inr (4, [.ref ti, .int (zI (-1)), .int (zI hf)])), (ou, .inl (cJ, 1, .inr (.inl (vp_updL OU (zI 0).toNatClampNeg ((zI (-1)).toInt64)))))]) [0, 1, 2, 3, 4, 5, 6] (by decide) rfl
  have po : zI 0 = zI 0 ∧ ((vp_updL OU (zI 0).toNatClampNeg ((zI (-1)).toInt64)) 0 = (zI (-1)).toInt64) := by
    refine ⟨by first | rfl | (congr 1; omega) | (congr 1; simp [*]), ?_⟩
    exact zou
  exact W.iret (v := zI 0) hx hb hr (fun t ht hW => ⟨⟨zI 0, vp_updL OU (zI 0).toNatClampNeg ((zI (-1)).toInt64), rfl, po, by rw [ht]; exact hP9, va_K.moved hW.alike hK, hD9⟩, hS.F ht⟩) hS.2.2 dL_replay_18
set_option maxHeartbeats 4000000 in
set_option maxRecDepth 100000 in
theorem c_L_addLevel_xa (l : Launch) (hfl : l.stackTraces = false) (dC : Nat → ClassId) (dI : Nat → Nat → Nat) (cI cZ cL cT cJ : ClassId) (sz : Nat) (sl : Nat) (sh : Nat) (lc : Int) (ru : Nat) (tr : Nat) (se : Nat) (sf : Nat → Option Nat) (a : Int) (b : Int) (ou : Nat) (gra : -2147483648 ≤ a ∧ a < 2147483648) (grb : -2147483648 ≤ b ∧ b < 2147483648) (gq : ¬ (2 ≤ a ∧ a ≤ 12 ∧ 2 ≤ b ∧ b ≤ 8)) : Met l yL_addLevel wsL_addLevel ({ frames := 7, cells := 1, slots := 6, locals := 113 }) (zPy (dC, dI) (zT cI cZ cL cT cJ) sz [.ref sl, .int (zI a), .int (zI b), .ref ou] [(sl, .inr (5, [.ref sh, .int (zI lc), .ref ru, .ref tr, .ref se])), zQ cL sh 6 sf]) (va_Qi (fun (r9 : Int32) (u9 : Unit) => match u9 with | _ => r9 = zI 1 ∧ (True)) (zB (dC, dI) (zT cI cZ cL cT cJ) (va_A [(sl, .inr (5, [.ref sh, .int (zI lc), .ref ru, .ref tr, .ref se])), zQ cL sh 6 sf] sz) (fun (u9 : Unit) => match u9 with | _ => [(sl, .inr (5, [.ref sh, .int (zI lc), .ref ru, .ref tr, .ref se])), zQ cL sh 6 sf])) (va_A [(sl, .inr (5, [.ref sh, .int (zI lc), .ref ru, .ref tr, .ref se])), zQ cL sh 6 sf] sz)) 1 6 (va_A [(sl, .inr (5, [.ref sh, .int (zI lc), .ref ru, .ref tr, .ref se])), zQ cL sh 6 sf] sz) := by
  refine va_MetW (cc := cL_addLevel) (maxL := 5) (ret := (some .int)) (by decide) rfl ?_
  intro p e s m args below meth c s₁ B hml hv
  obtain ⟨rfl, hsz, hP, hK, hD0, hEx, hNc⟩ := hv
  have hx := B.exec
  have hb := B.bytes
  have hr := B.returns
  have hts := atoms_spec (ws := wsL_addLevel) B.pre
  have hown : s.vm.findClass RL = some m.cls := findClass_of_methodNamed B.named
  have hlocks := B.notSynchronized
  subst hsz
  have hD := hD0.self (sz := s.heap.size)
  generalize hAe : va_A [(sl, .inr (5, [.ref sh, .int (zI lc), .ref ru, .ref tr, .ref se])), zQ cL sh 6 sf] s.heap.size = A at hD hEx ⊢
  have hA : ∀ q : Nat, s.heap.size ≤ q → A q := fun q h => by rw [← hAe]; exact Or.inr h
  clear hAe hD0
  have hS : va_S A s.heap s.heap [] := va_S.rf
  have hP : va_P (dC, dI) vwCl [(sl, .inr (5, [.ref sh, .int (zI lc), .ref ru, .ref tr, .ref se])), zQ cL sh 6 sf] s.heap := hP
  have hl := lv_entry ([.ref sl, .int (zI a), .int (zI b), .ref ou]) (n := 5) (Nat.le_of_ble_eq_true rfl)
  rw [lg_entry_eq]
  generalize (lg_sl ([.ref sl, .int (zI a), .int (zI b), .ref ou]) ++ List.replicate (5 - (lg_sl ([.ref sl, .int (zI a), .int (zI b), .ref ou])).length) Slot.unset).toArray = ls at hl ⊢
  have hl : lv_has ls 5 [(0, .ref sl), (1, .int (zI a)), (2, .int (zI b)), (3, .ref ou)] := hl
  refine lv_aload_n hx hb dL_addLevel_0 rfl (lv_at hl 3 rfl) ?_
  refine lv_iconst (v := zI 0) hx hb dL_addLevel_1 (rfl) ?_
  refine lv_aload_n hx hb dL_addLevel_2 rfl (lv_at hl 0 rfl) ?_
  refine lv_iload_n hx hb dL_addLevel_3 rfl (lv_at hl 1 rfl) ?_
  refine lv_iload_n hx hb dL_addLevel_4 rfl (lv_at hl 2 rfl) ?_
  have hPc := hP.sub (ws' := [(sl, .inr (5, [.ref sh, .int (zI lc), .ref ru, .ref tr, .ref se])), zQ cL sh 6 sf]) [0, 1] rfl
  have hDc := hD.sub (ws' := [(sl, .inr (5, [.ref sh, .int (zI lc), .ref ru, .ref tr, .ref se])), zQ cL sh 6 sf]) [0, 1] (by decide) rfl
  have hFc := va_free (wc := [(sl, .inr (5, [.ref sh, .int (zI lc), .ref ru, .ref tr, .ref se])), zQ cL sh 6 sf]) hD hS hA [0, 1] rfl
  refine vx_calli (vx_runV (As := [.int (zI a), .int (zI b)]) (rest := [.int (zI 0), .ref ou]) ⟨hx, hb, hml, hown, hts⟩ (x_X5_addLevel_xa l hfl dC dI cI cZ cL cT cJ s.heap.size sl sh lc ru tr se sf a b (by first | assumption | omega) (by first | assumption | omega) (by first | assumption | omega)) (cwV 2 hts gL_addLevel_X5_addLevel rfl rfl rfl (by decide +kernel) ⟨Nat.le_of_ble_eq_true rfl, Nat.le_of_ble_eq_true rfl⟩) ⟨zPx_blind, va_recv hK hPc (ci := 5) (q0 := 0) rfl rfl, zPx_pre hPc hDc hK hEx hS hFc⟩ rfl rfl hl.1 rfl (lv_room (Nat.le_of_ble_eq_true rfl)) dL_addLevel_5 ⟨Nat.le_of_ble_eq_true rfl, Nat.le_of_ble_eq_true rfl⟩) hS (fun q _ h => hFc q h) hFc (fun q _ h => hFc q h) (fun E9 ce9 q9 u t H1 locs ht hvm _ hB hz1 hk1 hS hc9 hv9 hf9 => ?_) (fun r u t H1 locs ht hvm hw => hw.elim)
  obtain ⟨rfl, hP1, hK1, hD1⟩ := hB
  rw [ht] at hP1
  obtain ⟨hP, hD⟩ := va_join (wr := []) (w1 := [(sl, .inr (5, [.ref sh, .int (zI lc), .ref ru, .ref tr, .ref se])), zQ cL sh 6 sf]) hP hD [0, 1] [] rfl rfl (by decide) (by decide) hk1 hFc hP1 hD1
  have hP : va_P (dC, dI) vwCl [(sl, .inr (5, [.ref sh, .int (zI lc), .ref ru, .ref tr, .ref se])), zQ cL sh 6 sf] H1 := hP.sub [0, 1] rfl
  have hD : va_D A [(sl, .inr (5, [.ref sh, .int (zI lc), .ref ru, .ref tr, .ref se])), zQ cL sh 6 sf] := hD.sub [0, 1] (by decide) rfl
  refine vx_catch (name := "java/lang/IllegalArgumentException") hown [] ({ startPc := 0, endPc := 10, handlerPc := 13, catchType := 13 } : ExceptionTableEntry) [({ startPc := 0, endPc := 10, handlerPc := 17, catchType := 15 } : ExceptionTableEntry)] ((vx_table (x := yL_addLevel) B (hts _ List.mem_cons_self)).trans rfl) (fun z hz => by cases hz) (by decide) (by decide) (hts (.classLink RL 13 "java/lang/IllegalArgumentException") (by decide +kernel)) (va_Nw.use rfl hEx.2.2.1) hc9 hv9 hf9 ?_
  generalize H1 = H at hP hS ⊢
  refine W.eq (g2 := F0 m 13 ls [.ref q9]) rfl ?_
  refine lv_astore (lv' := [(4, .ref q9), (0, .ref sl), (1, .int (zI a)), (2, .int (zI b)), (3, .ref ou)]) hx hb dL_addLevel_13 hl (by decide) rfl (fun ls hl => ?_)
  refine lv_iconst (v := zI 1) hx hb dL_addLevel_15 (rfl) ?_
  have hP9 := hP.sub (ws' := [(sl, .inr (5, [.ref sh, .int (zI lc), .ref ru, .ref tr, .ref se])), zQ cL sh 6 sf]) [0, 1] rfl
  have hD9 := hD.sub (ws' := [(sl, .inr (5, [.ref sh, .int (zI lc), .ref ru, .ref tr, .ref se])), zQ cL sh 6 sf]) [0, 1] (by decide) rfl
  refine W.widen (k := 1) (n := 6) (Nat.le_of_ble_eq_true rfl) (Nat.le_of_ble_eq_true rfl) ?_
  have po : zI 1 = zI 1 ∧ (True) := by
    refine ⟨by first | rfl | (congr 1; omega) | (congr 1; simp [*]), ?_⟩
    trivial
  exact W.iret (v := zI 1) hx hb hr (fun t ht hW => ⟨⟨zI 1, (), rfl, po, by rw [ht]; exact hP9, va_K.moved hW.alike hK, hD9⟩, hS.F ht⟩) hS.2.2 dL_addLevel_16
set_option maxHeartbeats 4000000 in
set_option maxRecDepth 100000 in
theorem c_L_addLevel_xb (l : Launch) (hfl : l.stackTraces = false) (dC : Nat → ClassId) (dI : Nat → Nat → Nat) (cI cZ cL cT cJ : ClassId) (sz : Nat) (sl : Nat) (sh : Nat) (lc : Int) (ru : Nat) (tr : Nat) (se : Nat) (sf : Nat → Option Nat) (a : Int) (b : Int) (ou : Nat) (ga : 2 ≤ a ∧ a ≤ 12) (gb : 2 ≤ b ∧ b ≤ 8) (gq : lc = 6) : Met l yL_addLevel wsL_addLevel ({ frames := 7, cells := 1, slots := 6, locals := 113 }) (zPy (dC, dI) (zT cI cZ cL cT cJ) sz [.ref sl, .int (zI a), .int (zI b), .ref ou] [(sl, .inr (5, [.ref sh, .int (zI lc), .ref ru, .ref tr, .ref se])), zQ cL sh 6 sf]) (va_Qi (fun (r9 : Int32) (u9 : Unit) => match u9 with | _ => r9 = zI 2 ∧ (True)) (zB (dC, dI) (zT cI cZ cL cT cJ) (va_A [(sl, .inr (5, [.ref sh, .int (zI lc), .ref ru, .ref tr, .ref se])), zQ cL sh 6 sf] sz) (fun (u9 : Unit) => match u9 with | _ => [(sl, .inr (5, [.ref sh, .int (zI lc), .ref ru, .ref tr, .ref se])), zQ cL sh 6 sf])) (va_A [(sl, .inr (5, [.ref sh, .int (zI lc), .ref ru, .ref tr, .ref se])), zQ cL sh 6 sf] sz)) 1 6 (va_A [(sl, .inr (5, [.ref sh, .int (zI lc), .ref ru, .ref tr, .ref se])), zQ cL sh 6 sf] sz) := by
  refine va_MetW (cc := cL_addLevel) (maxL := 5) (ret := (some .int)) (by decide) rfl ?_
  intro p e s m args below meth c s₁ B hml hv
  obtain ⟨rfl, hsz, hP, hK, hD0, hEx, hNc⟩ := hv
  have hx := B.exec
  have hb := B.bytes
  have hr := B.returns
  have hts := atoms_spec (ws := wsL_addLevel) B.pre
  have hown : s.vm.findClass RL = some m.cls := findClass_of_methodNamed B.named
  have hlocks := B.notSynchronized
  subst hsz
  have hD := hD0.self (sz := s.heap.size)
  generalize hAe : va_A [(sl, .inr (5, [.ref sh, .int (zI lc), .ref ru, .ref tr, .ref se])), zQ cL sh 6 sf] s.heap.size = A at hD hEx ⊢
  have hA : ∀ q : Nat, s.heap.size ≤ q → A q := fun q h => by rw [← hAe]; exact Or.inr h
  clear hAe hD0
  have hS : va_S A s.heap s.heap [] := va_S.rf
  have hP : va_P (dC, dI) vwCl [(sl, .inr (5, [.ref sh, .int (zI lc), .ref ru, .ref tr, .ref se])), zQ cL sh 6 sf] s.heap := hP
  have hl := lv_entry ([.ref sl, .int (zI a), .int (zI b), .ref ou]) (n := 5) (Nat.le_of_ble_eq_true rfl)
  rw [lg_entry_eq]
  generalize (lg_sl ([.ref sl, .int (zI a), .int (zI b), .ref ou]) ++ List.replicate (5 - (lg_sl ([.ref sl, .int (zI a), .int (zI b), .ref ou])).length) Slot.unset).toArray = ls at hl ⊢
  have hl : lv_has ls 5 [(0, .ref sl), (1, .int (zI a)), (2, .int (zI b)), (3, .ref ou)] := hl
  refine lv_aload_n hx hb dL_addLevel_0 rfl (lv_at hl 3 rfl) ?_
  refine lv_iconst (v := zI 0) hx hb dL_addLevel_1 (rfl) ?_
  refine lv_aload_n hx hb dL_addLevel_2 rfl (lv_at hl 0 rfl) ?_
  refine lv_iload_n hx hb dL_addLevel_3 rfl (lv_at hl 1 rfl) ?_
  refine lv_iload_n hx hb dL_addLevel_4 rfl (lv_at hl 2 rfl) ?_
  have hPc := hP.sub (ws' := [(sl, .inr (5, [.ref sh, .int (zI lc), .ref ru, .ref tr, .ref se])), zQ cL sh 6 sf]) [0, 1] rfl
  have hDc := hD.sub (ws' := [(sl, .inr (5, [.ref sh, .int (zI lc), .ref ru, .ref tr, .ref se])), zQ cL sh 6 sf]) [0, 1] (by decide) rfl
  have hFc := va_free (wc := [(sl, .inr (5, [.ref sh, .int (zI lc), .ref ru, .ref tr, .ref se])), zQ cL sh 6 sf]) hD hS hA [0, 1] rfl
  refine vx_calli (vx_runV (As := [.int (zI a), .int (zI b)]) (rest := [.int (zI 0), .ref ou]) ⟨hx, hb, hml, hown, hts⟩ (x_X5_addLevel_xb l hfl dC dI cI cZ cL cT cJ s.heap.size sl sh lc ru tr se sf a b (by first | assumption | omega) (by first | assumption | omega) (by first | assumption | omega)) (cwV 2 hts gL_addLevel_X5_addLevel rfl rfl rfl (by decide +kernel) ⟨Nat.le_of_ble_eq_true rfl, Nat.le_of_ble_eq_true rfl⟩) ⟨zPx_blind, va_recv hK hPc (ci := 5) (q0 := 0) rfl rfl, zPx_pre hPc hDc hK hEx hS hFc⟩ rfl rfl hl.1 rfl (lv_room (Nat.le_of_ble_eq_true rfl)) dL_addLevel_5 ⟨Nat.le_of_ble_eq_true rfl, Nat.le_of_ble_eq_true rfl⟩) hS (fun q _ h => hFc q h) hFc (fun q _ h => hFc q h) (fun E9 ce9 q9 u t H1 locs ht hvm _ hB hz1 hk1 hS hc9 hv9 hf9 => ?_) (fun r u t H1 locs ht hvm hw => hw.elim)
  obtain ⟨rfl, hP1, hK1, hD1⟩ := hB
  rw [ht] at hP1
  obtain ⟨hP, hD⟩ := va_join (wr := []) (w1 := [(sl, .inr (5, [.ref sh, .int (zI lc), .ref ru, .ref tr, .ref se])), zQ cL sh 6 sf]) hP hD [0, 1] [] rfl rfl (by decide) (by decide) hk1 hFc hP1 hD1
  have hP : va_P (dC, dI) vwCl [(sl, .inr (5, [.ref sh, .int (zI lc), .ref ru, .ref tr, .ref se])), zQ cL sh 6 sf] H1 := hP.sub [0, 1] rfl
  have hD : va_D A [(sl, .inr (5, [.ref sh, .int (zI lc), .ref ru, .ref tr, .ref se])), zQ cL sh 6 sf] := hD.sub [0, 1] (by decide) rfl
  refine vx_catch (name := "java/lang/IllegalStateException") hown [({ startPc := 0, endPc := 10, handlerPc := 13, catchType := 13 } : ExceptionTableEntry)] ({ startPc := 0, endPc := 10, handlerPc := 17, catchType := 15 } : ExceptionTableEntry) [] ((vx_table (x := yL_addLevel) B (hts _ List.mem_cons_self)).trans rfl) (fun z hz => (List.mem_cons.mp hz).elim (fun e9 => by subst e9; exact Or.inr ⟨by decide, "java/lang/IllegalArgumentException", hts (.classLink RL 13 "java/lang/IllegalArgumentException") (by decide +kernel), hNc.2.2.1⟩) (fun hz => absurd hz List.not_mem_nil)) (by decide) (by decide) (hts (.classLink RL 15 "java/lang/IllegalStateException") (by decide +kernel)) (va_Nw.use rfl hEx.2.2.2.1) hc9 hv9 hf9 ?_
  generalize H1 = H at hP hS ⊢
  refine W.eq (g2 := F0 m 17 ls [.ref q9]) rfl ?_
  refine lv_astore (lv' := [(4, .ref q9), (0, .ref sl), (1, .int (zI a)), (2, .int (zI b)), (3, .ref ou)]) hx hb dL_addLevel_17 hl (by decide) rfl (fun ls hl => ?_)
  refine lv_iconst (v := zI 2) hx hb dL_addLevel_19 (rfl) ?_
  have hP9 := hP.sub (ws' := [(sl, .inr (5, [.ref sh, .int (zI lc), .ref ru, .ref tr, .ref se])), zQ cL sh 6 sf]) [0, 1] rfl
  have hD9 := hD.sub (ws' := [(sl, .inr (5, [.ref sh, .int (zI lc), .ref ru, .ref tr, .ref se])), zQ cL sh 6 sf]) [0, 1] (by decide) rfl
  refine W.widen (k := 1) (n := 6) (Nat.le_of_ble_eq_true rfl) (Nat.le_of_ble_eq_true rfl) ?_
  have po : zI 2 = zI 2 ∧ (True) := by
    refine ⟨by first | rfl | (congr 1; omega) | (congr 1; simp [*]), ?_⟩
    trivial
  exact W.iret (v := zI 2) hx hb hr (fun t ht hW => ⟨⟨zI 2, (), rfl, po, by rw [ht]; exact hP9, va_K.moved hW.alike hK, hD9⟩, hS.F ht⟩) hS.2.2 dL_addLevel_20
set_option maxHeartbeats 4000000 in
set_option maxRecDepth 100000 in
theorem c_L_setCell_xa (l : Launch) (hfl : l.stackTraces = false) (dC : Nat → ClassId) (dI : Nat → Nat → Nat) (cI cZ cL cT cJ : ClassId) (sz : Nat) (sl : Nat) (sh : Nat) (lc : Int) (ru : Nat) (tr : Nat) (se : Nat) (sf : Nat → Option Nat) (L : Int) (cx : Int) (cy : Int) (v : Int) (ou : Nat) (gr9 : -2147483648 ≤ L ∧ L < 2147483648) (gb : L < 0 ∨ 6 ≤ L ∨ ∃ k : Nat, L = (k : Int) ∧ k < 6 ∧ sf k = none) : Met l yL_setCell wsL_setCell ({ frames := 9, cells := 1, slots := 6, locals := 162 }) (zPy (dC, dI) (zT cI cZ cL cT cJ) sz [.ref sl, .int (zI L), .int (zI cx), .int (zI cy), .int (zI v), .ref ou] [(sl, .inr (5, [.ref sh, .int (zI lc), .ref ru, .ref tr, .ref se])), zQ cL sh 6 sf]) (va_Qi (fun (r9 : Int32) (u9 : Unit) => match u9 with | _ => r9 = zI 1 ∧ (True)) (zB (dC, dI) (zT cI cZ cL cT cJ) (va_A [(sl, .inr (5, [.ref sh, .int (zI lc), .ref ru, .ref tr, .ref se])), zQ cL sh 6 sf] sz) (fun (u9 : Unit) => match u9 with | _ => [(sl, .inr (5, [.ref sh, .int (zI lc), .ref ru, .ref tr, .ref se])), zQ cL sh 6 sf])) (va_A [(sl, .inr (5, [.ref sh, .int (zI lc), .ref ru, .ref tr, .ref se])), zQ cL sh 6 sf] sz)) 1 6 (va_A [(sl, .inr (5, [.ref sh, .int (zI lc), .ref ru, .ref tr, .ref se])), zQ cL sh 6 sf] sz) := by
  refine va_MetW (cc := cL_setCell) (maxL := 7) (ret := (some .int)) (by decide) rfl ?_
  intro p e s m args below meth c s₁ B hml hv
  obtain ⟨rfl, hsz, hP, hK, hD0, hEx, hNc⟩ := hv
  have hx := B.exec
  have hb := B.bytes
  have hr := B.returns
  have hts := atoms_spec (ws := wsL_setCell) B.pre
  have hown : s.vm.findClass RL = some m.cls := findClass_of_methodNamed B.named
  have hlocks := B.notSynchronized
  subst hsz
  have hD := hD0.self (sz := s.heap.size)
  generalize hAe : va_A [(sl, .inr (5, [.ref sh, .int (zI lc), .ref ru, .ref tr, .ref se])), zQ cL sh 6 sf] s.heap.size = A at hD hEx ⊢
  have hA : ∀ q : Nat, s.heap.size ≤ q → A q := fun q h => by rw [← hAe]; exact Or.inr h
  clear hAe hD0
  have hS : va_S A s.heap s.heap [] := va_S.rf
  have hP : va_P (dC, dI) vwCl [(sl, .inr (5, [.ref sh, .int (zI lc), .ref ru, .ref tr, .ref se])), zQ cL sh 6 sf] s.heap := hP
  have hl := lv_entry ([.ref sl, .int (zI L), .int (zI cx), .int (zI cy), .int (zI v), .ref ou]) (n := 7) (Nat.le_of_ble_eq_true rfl)
  rw [lg_entry_eq]
  generalize (lg_sl ([.ref sl, .int (zI L), .int (zI cx), .int (zI cy), .int (zI v), .ref ou]) ++ List.replicate (7 - (lg_sl ([.ref sl, .int (zI L), .int (zI cx), .int (zI cy), .int (zI v), .ref ou])).length) Slot.unset).toArray = ls at hl ⊢
  have hl : lv_has ls 7 [(0, .ref sl), (1, .int (zI L)), (2, .int (zI cx)), (3, .int (zI cy)), (4, .int (zI v)), (5, .ref ou)] := hl
  refine lv_aload hx hb dL_setCell_0 (lv_at hl 5 rfl) ?_
  refine lv_iconst (v := zI 0) hx hb dL_setCell_2 (rfl) ?_
  refine lv_aload_n hx hb dL_setCell_3 rfl (lv_at hl 0 rfl) ?_
  refine lv_iload_n hx hb dL_setCell_4 rfl (lv_at hl 1 rfl) ?_
  refine lv_iload_n hx hb dL_setCell_5 rfl (lv_at hl 2 rfl) ?_
  refine lv_iload_n hx hb dL_setCell_6 rfl (lv_at hl 3 rfl) ?_
  refine lv_iload hx hb dL_setCell_7 (lv_at hl 4 rfl) ?_
  have hPc := hP.sub (ws' := [(sl, .inr (5, [.ref sh, .int (zI lc), .ref ru, .ref tr, .ref se])), zQ cL sh 6 sf]) [0, 1] rfl
  have hDc := hD.sub (ws' := [(sl, .inr (5, [.ref sh, .int (zI lc), .ref ru, .ref tr, .ref se])), zQ cL sh 6 sf]) [0, 1] (by decide) rfl
  have hFc := va_free (wc := [(sl, .inr (5, [.ref sh, .int (zI lc), .ref ru, .ref tr, .ref se])), zQ cL sh 6 sf]) hD hS hA [0, 1] rfl
  refine vx_calli (vx_runV (As := [.int (zI L), .int (zI cx), .int (zI cy), .int (zI v)]) (rest := [.int (zI 0), .ref ou]) ⟨hx, hb, hml, hown, hts⟩ (x_X5_setCell_xa l hfl dC dI cI cZ cL cT cJ s.heap.size sl sh lc ru tr se sf L cx cy v (by first | assumption | omega) (by first | assumption | omega)) (cwV 4 hts gL_setCell_X5_setCell rfl rfl rfl (by decide +kernel) ⟨Nat.le_of_ble_eq_true rfl, Nat.le_of_ble_eq_true rfl⟩) ⟨zPx_blind, va_recv hK hPc (ci := 5) (q0 := 0) rfl rfl, zPx_pre hPc hDc hK hEx hS hFc⟩ rfl rfl hl.1 rfl (lv_room (Nat.le_of_ble_eq_true rfl)) dL_setCell_9 ⟨Nat.le_of_ble_eq_true rfl, Nat.le_of_ble_eq_true rfl⟩) hS (fun q _ h => hFc q h) hFc (fun q _ h => hFc q h) (fun E9 ce9 q9 u t H1 locs ht hvm _ hB hz1 hk1 hS hc9 hv9 hf9 => ?_) (fun r u t H1 locs ht hvm hw => hw.elim)
  obtain ⟨rfl, hP1, hK1, hD1⟩ := hB
  rw [ht] at hP1
  obtain ⟨hP, hD⟩ := va_join (wr := []) (w1 := [(sl, .inr (5, [.ref sh, .int (zI lc), .ref ru, .ref tr, .ref se])), zQ cL sh 6 sf]) hP hD [0, 1] [] rfl rfl (by decide) (by decide) hk1 hFc hP1 hD1
  have hP : va_P (dC, dI) vwCl [(sl, .inr (5, [.ref sh, .int (zI lc), .ref ru, .ref tr, .ref se])), zQ cL sh 6 sf] H1 := hP.sub [0, 1] rfl
  have hD : va_D A [(sl, .inr (5, [.ref sh, .int (zI lc), .ref ru, .ref tr, .ref se])), zQ cL sh 6 sf] := hD.sub [0, 1] (by decide) rfl
  refine vx_catch (name := "java/lang/IndexOutOfBoundsException") hown [] ({ startPc := 0, endPc := 14, handlerPc := 17, catchType := 21 } : ExceptionTableEntry) [({ startPc := 0, endPc := 14, handlerPc := 21, catchType := 13 } : ExceptionTableEntry), ({ startPc := 0, endPc := 14, handlerPc := 25, catchType := 15 } : ExceptionTableEntry)] ((vx_table (x := yL_setCell) B (hts _ List.mem_cons_self)).trans rfl) (fun z hz => by cases hz) (by decide) (by decide) (hts (.classLink RL 21 "java/lang/IndexOutOfBoundsException") (by decide +kernel)) (va_Nw.use rfl hEx.2.2.2.2.1) hc9 hv9 hf9 ?_
  generalize H1 = H at hP hS ⊢
  refine W.eq (g2 := F0 m 17 ls [.ref q9]) rfl ?_
  refine lv_astore (lv' := [(6, .ref q9), (0, .ref sl), (1, .int (zI L)), (2, .int (zI cx)), (3, .int (zI cy)), (4, .int (zI v)), (5, .ref ou)]) hx hb dL_setCell_17 hl (by decide) rfl (fun ls hl => ?_)
  refine lv_iconst (v := zI 1) hx hb dL_setCell_19 (rfl) ?_
  have hP9 := hP.sub (ws' := [(sl, .inr (5, [.ref sh, .int (zI lc), .ref ru, .ref tr, .ref se])), zQ cL sh 6 sf]) [0, 1] rfl
  have hD9 := hD.sub (ws' := [(sl, .inr (5, [.ref sh, .int (zI lc), .ref ru, .ref tr, .ref se])), zQ cL sh 6 sf]) [0, 1] (by decide) rfl
  refine W.widen (k := 1) (n := 6) (Nat.le_of_ble_eq_true rfl) (Nat.le_of_ble_eq_true rfl) ?_
  have po : zI 1 = zI 1 ∧ (True) := by
    refine ⟨by first | rfl | (congr 1; omega) | (congr 1; simp [*]), ?_⟩
    trivial
  exact W.iret (v := zI 1) hx hb hr (fun t ht hW => ⟨⟨zI 1, (), rfl, po, by rw [ht]; exact hP9, va_K.moved hW.alike hK, hD9⟩, hS.F ht⟩) hS.2.2 dL_setCell_20
set_option maxHeartbeats 4000000 in
set_option maxRecDepth 100000 in
theorem c_L_setCell_xb (l : Launch) (hfl : l.stackTraces = false) (dC : Nat → ClassId) (dI : Nat → Nat → Nat) (cI cZ cL cT cJ : ClassId) (sz : Nat) (sl : Nat) (sh : Nat) (lc : Int) (ru : Nat) (tr : Nat) (se : Nat) (sf : Nat → Option Nat) (L : Int) (k : Nat) (lv : Nat) (w : Int) (h : Int) (ka : Nat) (ta : Nat) (sx : Int) (sy : Int) (fx : Int) (fy : Int) (lf : Int) (un : Int) (K : Int → Int) (cx : Int) (cy : Int) (v : Int) (ou : Nat) (gk : L = (k : Int) ∧ k < 6) (gf : sf k = some lv) (gw : 0 < w ∧ w ≤ 12) (gh : 0 < h ∧ h ≤ 8) (gK : Kin K) (r9x : -2147483648 ≤ cx ∧ cx < 2147483648) (r9y : -2147483648 ≤ cy ∧ cy < 2147483648) (gq : kd K w h cx cy = -1) : Met l yL_setCell wsL_setCell ({ frames := 8, cells := 1, slots := 6, locals := 140 }) (zPy (dC, dI) (zT cI cZ cL cT cJ) sz [.ref sl, .int (zI L), .int (zI cx), .int (zI cy), .int (zI v), .ref ou] [(sl, .inr (5, [.ref sh, .int (zI lc), .ref ru, .ref tr, .ref se])), zQ cL sh 6 sf, (lv, .inr (1, [.int (zI w), .int (zI h), .ref ka, .ref ta, .int (zI sx), .int (zI sy), .int (zI fx), .int (zI fy), .int (zI lf), .int (zI un)])), zA cI ka 96 K]) (va_Qi (fun (r9 : Int32) (u9 : Unit) => match u9 with | _ => r9 = zI 1 ∧ (True)) (zB (dC, dI) (zT cI cZ cL cT cJ) (va_A [(sl, .inr (5, [.ref sh, .int (zI lc), .ref ru, .ref tr, .ref se])), zQ cL sh 6 sf, (lv, .inr (1, [.int (zI w), .int (zI h), .ref ka, .ref ta, .int (zI sx), .int (zI sy), .int (zI fx), .int (zI fy), .int (zI lf), .int (zI un)])), zA cI ka 96 K] sz) (fun (u9 : Unit) => match u9 with | _ => [(sl, .inr (5, [.ref sh, .int (zI lc), .ref ru, .ref tr, .ref se])), zQ cL sh 6 sf, (lv, .inr (1, [.int (zI w), .int (zI h), .ref ka, .ref ta, .int (zI sx), .int (zI sy), .int (zI fx), .int (zI fy), .int (zI lf), .int (zI un)])), zA cI ka 96 K])) (va_A [(sl, .inr (5, [.ref sh, .int (zI lc), .ref ru, .ref tr, .ref se])), zQ cL sh 6 sf, (lv, .inr (1, [.int (zI w), .int (zI h), .ref ka, .ref ta, .int (zI sx), .int (zI sy), .int (zI fx), .int (zI fy), .int (zI lf), .int (zI un)])), zA cI ka 96 K] sz)) 1 6 (va_A [(sl, .inr (5, [.ref sh, .int (zI lc), .ref ru, .ref tr, .ref se])), zQ cL sh 6 sf, (lv, .inr (1, [.int (zI w), .int (zI h), .ref ka, .ref ta, .int (zI sx), .int (zI sy), .int (zI fx), .int (zI fy), .int (zI lf), .int (zI un)])), zA cI ka 96 K] sz) := by
  refine va_MetW (cc := cL_setCell) (maxL := 7) (ret := (some .int)) (by decide) rfl ?_
  intro p e s m args below meth c s₁ B hml hv
  obtain ⟨rfl, hsz, hP, hK, hD0, hEx, hNc⟩ := hv
  have hx := B.exec
  have hb := B.bytes
  have hr := B.returns
  have hts := atoms_spec (ws := wsL_setCell) B.pre
  have hown : s.vm.findClass RL = some m.cls := findClass_of_methodNamed B.named
  have hlocks := B.notSynchronized
  subst hsz
  have hD := hD0.self (sz := s.heap.size)
  generalize hAe : va_A [(sl, .inr (5, [.ref sh, .int (zI lc), .ref ru, .ref tr, .ref se])), zQ cL sh 6 sf, (lv, .inr (1, [.int (zI w), .int (zI h), .ref ka, .ref ta, .int (zI sx), .int (zI sy), .int (zI fx), .int (zI fy), .int (zI lf), .int (zI un)])), zA cI ka 96 K] s.heap.size = A at hD hEx ⊢
  have hA : ∀ q : Nat, s.heap.size ≤ q → A q := fun q h => by rw [← hAe]; exact Or.inr h
  clear hAe hD0
  have hS : va_S A s.heap s.heap [] := va_S.rf
  have hP : va_P (dC, dI) vwCl [(sl, .inr (5, [.ref sh, .int (zI lc), .ref ru, .ref tr, .ref se])), zQ cL sh 6 sf, (lv, .inr (1, [.int (zI w), .int (zI h), .ref ka, .ref ta, .int (zI sx), .int (zI sy), .int (zI fx), .int (zI fy), .int (zI lf), .int (zI un)])), zA cI ka 96 K] s.heap := hP
  have hl := lv_entry ([.ref sl, .int (zI L), .int (zI cx), .int (zI cy), .int (zI v), .ref ou]) (n := 7) (Nat.le_of_ble_eq_true rfl)
  rw [lg_entry_eq]
  generalize (lg_sl ([.ref sl, .int (zI L), .int (zI cx), .int (zI cy), .int (zI v), .ref ou]) ++ List.replicate (7 - (lg_sl ([.ref sl, .int (zI L), .int (zI cx), .int (zI cy), .int (zI v), .ref ou])).length) Slot.unset).toArray = ls at hl ⊢
  have hl : lv_has ls 7 [(0, .ref sl), (1, .int (zI L)), (2, .int (zI cx)), (3, .int (zI cy)), (4, .int (zI v)), (5, .ref ou)] := hl
  refine lv_aload hx hb dL_setCell_0 (lv_at hl 5 rfl) ?_
  refine lv_iconst (v := zI 0) hx hb dL_setCell_2 (rfl) ?_
  refine lv_aload_n hx hb dL_setCell_3 rfl (lv_at hl 0 rfl) ?_
  refine lv_iload_n hx hb dL_setCell_4 rfl (lv_at hl 1 rfl) ?_
  refine lv_iload_n hx hb dL_setCell_5 rfl (lv_at hl 2 rfl) ?_
  refine lv_iload_n hx hb dL_setCell_6 rfl (lv_at hl 3 rfl) ?_
  refine lv_iload hx hb dL_setCell_7 (lv_at hl 4 rfl) ?_
  have hPc := hP.sub (ws' := [(sl, .inr (5, [.ref sh, .int (zI lc), .ref ru, .ref tr, .ref se])), zQ cL sh 6 sf, (lv, .inr (1, [.int (zI w), .int (zI h), .ref ka, .ref ta, .int (zI sx), .int (zI sy), .int (zI fx), .int (zI fy), .int (zI lf), .int (zI un)])), zA cI ka 96 K]) [0, 1, 2, 3] rfl
  have hDc := hD.sub (ws' := [(sl, .inr (5, [.ref sh, .int (zI lc), .ref ru, .ref tr, .ref se])), zQ cL sh 6 sf, (lv, .inr (1, [.int (zI w), .int (zI h), .ref ka, .ref ta, .int (zI sx), .int (zI sy), .int (zI fx), .int (zI fy), .int (zI lf), .int (zI un)])), zA cI ka 96 K]) [0, 1, 2, 3] (by decide) rfl
  have hFc := va_free (wc := [(sl, .inr (5, [.ref sh, .int (zI lc), .ref ru, .ref tr, .ref se])), zQ cL sh 6 sf, (lv, .inr (1, [.int (zI w), .int (zI h), .ref ka, .ref ta, .int (zI sx), .int (zI sy), .int (zI fx), .int (zI fy), .int (zI lf), .int (zI un)])), zA cI ka 96 K]) hD hS hA [0, 1, 2, 3] rfl
  refine vx_calli (vx_runV (As := [.int (zI L), .int (zI cx), .int (zI cy), .int (zI v)]) (rest := [.int (zI 0), .ref ou]) ⟨hx, hb, hml, hown, hts⟩ (x_X5_setCell_xb l hfl dC dI cI cZ cL cT cJ s.heap.size sl sh lc ru tr se sf L k lv w h ka ta sx sy fx fy lf un K cx cy v (by first | assumption | omega) (by first | assumption | omega) (by first | assumption | omega) (by first | assumption | omega) (by first | assumption | omega) (by first | assumption | omega) (by first | assumption | omega) (by first | assumption | omega)) (cwV 4 hts gL_setCell_X5_setCell rfl rfl rfl (by decide +kernel) ⟨Nat.le_of_ble_eq_true rfl, Nat.le_of_ble_eq_true rfl⟩) ⟨zPx_blind, va_recv hK hPc (ci := 5) (q0 := 0) rfl rfl, zPx_pre hPc hDc hK hEx hS hFc⟩ rfl rfl hl.1 rfl (lv_room (Nat.le_of_ble_eq_true rfl)) dL_setCell_9 ⟨Nat.le_of_ble_eq_true rfl, Nat.le_of_ble_eq_true rfl⟩) hS (fun q _ h => hFc q h) hFc (fun q _ h => hFc q h) (fun E9 ce9 q9 u t H1 locs ht hvm _ hB hz1 hk1 hS hc9 hv9 hf9 => ?_) (fun r u t H1 locs ht hvm hw => hw.elim)
  obtain ⟨rfl, hP1, hK1, hD1⟩ := hB
  rw [ht] at hP1
  obtain ⟨hP, hD⟩ := va_join (wr := []) (w1 := [(sl, .inr (5, [.ref sh, .int (zI lc), .ref ru, .ref tr, .ref se])), zQ cL sh 6 sf, (lv, .inr (1, [.int (zI w), .int (zI h), .ref ka, .ref ta, .int (zI sx), .int (zI sy), .int (zI fx), .int (zI fy), .int (zI lf), .int (zI un)])), zA cI ka 96 K]) hP hD [0, 1, 2, 3] [] rfl rfl (by decide) (by decide) hk1 hFc hP1 hD1
  have hP : va_P (dC, dI) vwCl [(sl, .inr (5, [.ref sh, .int (zI lc), .ref ru, .ref tr, .ref se])), zQ cL sh 6 sf, (lv, .inr (1, [.int (zI w), .int (zI h), .ref ka, .ref ta, .int (zI sx), .int (zI sy), .int (zI fx), .int (zI fy), .int (zI lf), .int (zI un)])), zA cI ka 96 K] H1 := hP.sub [0, 1, 2, 3] rfl
  have hD : va_D A [(sl, .inr (5, [.ref sh, .int (zI lc), .ref ru, .ref tr, .ref se])), zQ cL sh 6 sf, (lv, .inr (1, [.int (zI w), .int (zI h), .ref ka, .ref ta, .int (zI sx), .int (zI sy), .int (zI fx), .int (zI fy), .int (zI lf), .int (zI un)])), zA cI ka 96 K] := hD.sub [0, 1, 2, 3] (by decide) rfl
  refine vx_catch (name := "java/lang/IndexOutOfBoundsException") hown [] ({ startPc := 0, endPc := 14, handlerPc := 17, catchType := 21 } : ExceptionTableEntry) [({ startPc := 0, endPc := 14, handlerPc := 21, catchType := 13 } : ExceptionTableEntry), ({ startPc := 0, endPc := 14, handlerPc := 25, catchType := 15 } : ExceptionTableEntry)] ((vx_table (x := yL_setCell) B (hts _ List.mem_cons_self)).trans rfl) (fun z hz => by cases hz) (by decide) (by decide) (hts (.classLink RL 21 "java/lang/IndexOutOfBoundsException") (by decide +kernel)) (va_Nw.use rfl hEx.2.2.2.2.1) hc9 hv9 hf9 ?_
  generalize H1 = H at hP hS ⊢
  refine W.eq (g2 := F0 m 17 ls [.ref q9]) rfl ?_
  refine lv_astore (lv' := [(6, .ref q9), (0, .ref sl), (1, .int (zI L)), (2, .int (zI cx)), (3, .int (zI cy)), (4, .int (zI v)), (5, .ref ou)]) hx hb dL_setCell_17 hl (by decide) rfl (fun ls hl => ?_)
  refine lv_iconst (v := zI 1) hx hb dL_setCell_19 (rfl) ?_
  have hP9 := hP.sub (ws' := [(sl, .inr (5, [.ref sh, .int (zI lc), .ref ru, .ref tr, .ref se])), zQ cL sh 6 sf, (lv, .inr (1, [.int (zI w), .int (zI h), .ref ka, .ref ta, .int (zI sx), .int (zI sy), .int (zI fx), .int (zI fy), .int (zI lf), .int (zI un)])), zA cI ka 96 K]) [0, 1, 2, 3] rfl
  have hD9 := hD.sub (ws' := [(sl, .inr (5, [.ref sh, .int (zI lc), .ref ru, .ref tr, .ref se])), zQ cL sh 6 sf, (lv, .inr (1, [.int (zI w), .int (zI h), .ref ka, .ref ta, .int (zI sx), .int (zI sy), .int (zI fx), .int (zI fy), .int (zI lf), .int (zI un)])), zA cI ka 96 K]) [0, 1, 2, 3] (by decide) rfl
  refine W.widen (k := 1) (n := 6) (Nat.le_of_ble_eq_true rfl) (Nat.le_of_ble_eq_true rfl) ?_
  have po : zI 1 = zI 1 ∧ (True) := by
    refine ⟨by first | rfl | (congr 1; omega) | (congr 1; simp [*]), ?_⟩
    trivial
  exact W.iret (v := zI 1) hx hb hr (fun t ht hW => ⟨⟨zI 1, (), rfl, po, by rw [ht]; exact hP9, va_K.moved hW.alike hK, hD9⟩, hS.F ht⟩) hS.2.2 dL_setCell_20
set_option maxHeartbeats 4000000 in
set_option maxRecDepth 100000 in
theorem c_L_setCell_xc (l : Launch) (hfl : l.stackTraces = false) (dC : Nat → ClassId) (dI : Nat → Nat → Nat) (cI cZ cL cT cJ : ClassId) (sz : Nat) (sl : Nat) (sh : Nat) (lc : Int) (ru : Nat) (tr : Nat) (se : Nat) (sf : Nat → Option Nat) (L : Int) (k : Nat) (lv : Nat) (w : Int) (h : Int) (ka : Nat) (ta : Nat) (sx : Int) (sy : Int) (fx : Int) (fy : Int) (lf : Int) (un : Int) (K : Int → Int) (cx : Int) (cy : Int) (v : Int) (ou : Nat) (gk : L = (k : Int) ∧ k < 6) (gf : sf k = some lv) (gw : 0 < w ∧ w ≤ 12) (gh : 0 < h ∧ h ≤ 8) (gK : Kin K) (gx : 0 ≤ cx ∧ cx < w) (gy : 0 ≤ cy ∧ cy < h) (r9v : -2147483648 ≤ v ∧ v < 2147483648) (gq : ¬ (0 ≤ v ∧ v ≤ 3)) : Met l yL_setCell wsL_setCell ({ frames := 7, cells := 1, slots := 6, locals := 116 }) (zPy (dC, dI) (zT cI cZ cL cT cJ) sz [.ref sl, .int (zI L), .int (zI cx), .int (zI cy), .int (zI v), .ref ou] [(sl, .inr (5, [.ref sh, .int (zI lc), .ref ru, .ref tr, .ref se])), zQ cL sh 6 sf, (lv, .inr (1, [.int (zI w), .int (zI h), .ref ka, .ref ta, .int (zI sx), .int (zI sy), .int (zI fx), .int (zI fy), .int (zI lf), .int (zI un)])), zA cI ka 96 K]) (va_Qi (fun (r9 : Int32) (u9 : Unit) => match u9 with | _ => r9 = zI 2 ∧ (True)) (zB (dC, dI) (zT cI cZ cL cT cJ) (va_A [(sl, .inr (5, [.ref sh, .int (zI lc), .ref ru, .ref tr, .ref se])), zQ cL sh 6 sf, (lv, .inr (1, [.int (zI w), .int (zI h), .ref ka, .ref ta, .int (zI sx), .int (zI sy), .int (zI fx), .int (zI fy), .int (zI lf), .int (zI un)])), zA cI ka 96 K] sz) (fun (u9 : Unit) => match u9 with | _ => [(sl, .inr (5, [.ref sh, .int (zI lc), .ref ru, .ref tr, .ref se])), zQ cL sh 6 sf, (lv, .inr (1, [.int (zI w), .int (zI h), .ref ka, .ref ta, .int (zI sx), .int (zI sy), .int (zI fx), .int (zI fy), .int (zI lf), .int (zI un)])), zA cI ka 96 K])) (va_A [(sl, .inr (5, [.ref sh, .int (zI lc), .ref ru, .ref tr, .ref se])), zQ cL sh 6 sf, (lv, .inr (1, [.int (zI w), .int (zI h), .ref ka, .ref ta, .int (zI sx), .int (zI sy), .int (zI fx), .int (zI fy), .int (zI lf), .int (zI un)])), zA cI ka 96 K] sz)) 1 6 (va_A [(sl, .inr (5, [.ref sh, .int (zI lc), .ref ru, .ref tr, .ref se])), zQ cL sh 6 sf, (lv, .inr (1, [.int (zI w), .int (zI h), .ref ka, .ref ta, .int (zI sx), .int (zI sy), .int (zI fx), .int (zI fy), .int (zI lf), .int (zI un)])), zA cI ka 96 K] sz) := by
  refine va_MetW (cc := cL_setCell) (maxL := 7) (ret := (some .int)) (by decide) rfl ?_
  intro p e s m args below meth c s₁ B hml hv
  obtain ⟨rfl, hsz, hP, hK, hD0, hEx, hNc⟩ := hv
  have hx := B.exec
  have hb := B.bytes
  have hr := B.returns
  have hts := atoms_spec (ws := wsL_setCell) B.pre
  have hown : s.vm.findClass RL = some m.cls := findClass_of_methodNamed B.named
  have hlocks := B.notSynchronized
  subst hsz
  have hD := hD0.self (sz := s.heap.size)
  generalize hAe : va_A [(sl, .inr (5, [.ref sh, .int (zI lc), .ref ru, .ref tr, .ref se])), zQ cL sh 6 sf, (lv, .inr (1, [.int (zI w), .int (zI h), .ref ka, .ref ta, .int (zI sx), .int (zI sy), .int (zI fx), .int (zI fy), .int (zI lf), .int (zI un)])), zA cI ka 96 K] s.heap.size = A at hD hEx ⊢
  have hA : ∀ q : Nat, s.heap.size ≤ q → A q := fun q h => by rw [← hAe]; exact Or.inr h
  clear hAe hD0
  have hS : va_S A s.heap s.heap [] := va_S.rf
  have hP : va_P (dC, dI) vwCl [(sl, .inr (5, [.ref sh, .int (zI lc), .ref ru, .ref tr, .ref se])), zQ cL sh 6 sf, (lv, .inr (1, [.int (zI w), .int (zI h), .ref ka, .ref ta, .int (zI sx), .int (zI sy), .int (zI fx), .int (zI fy), .int (zI lf), .int (zI un)])), zA cI ka 96 K] s.heap := hP
  have hl := lv_entry ([.ref sl, .int (zI L), .int (zI cx), .int (zI cy), .int (zI v), .ref ou]) (n := 7) (Nat.le_of_ble_eq_true rfl)
  rw [lg_entry_eq]
  generalize (lg_sl ([.ref sl, .int (zI L), .int (zI cx), .int (zI cy), .int (zI v), .ref ou]) ++ List.replicate (7 - (lg_sl ([.ref sl, .int (zI L), .int (zI cx), .int (zI cy), .int (zI v), .ref ou])).length) Slot.unset).toArray = ls at hl ⊢
  have hl : lv_has ls 7 [(0, .ref sl), (1, .int (zI L)), (2, .int (zI cx)), (3, .int (zI cy)), (4, .int (zI v)), (5, .ref ou)] := hl
  refine lv_aload hx hb dL_setCell_0 (lv_at hl 5 rfl) ?_
  refine lv_iconst (v := zI 0) hx hb dL_setCell_2 (rfl) ?_
  refine lv_aload_n hx hb dL_setCell_3 rfl (lv_at hl 0 rfl) ?_
  refine lv_iload_n hx hb dL_setCell_4 rfl (lv_at hl 1 rfl) ?_
  refine lv_iload_n hx hb dL_setCell_5 rfl (lv_at hl 2 rfl) ?_
  refine lv_iload_n hx hb dL_setCell_6 rfl (lv_at hl 3 rfl) ?_
  refine lv_iload hx hb dL_setCell_7 (lv_at hl 4 rfl) ?_
  have hPc := hP.sub (ws' := [(sl, .inr (5, [.ref sh, .int (zI lc), .ref ru, .ref tr, .ref se])), zQ cL sh 6 sf, (lv, .inr (1, [.int (zI w), .int (zI h), .ref ka, .ref ta, .int (zI sx), .int (zI sy), .int (zI fx), .int (zI fy), .int (zI lf), .int (zI un)])), zA cI ka 96 K]) [0, 1, 2, 3] rfl
  have hDc := hD.sub (ws' := [(sl, .inr (5, [.ref sh, .int (zI lc), .ref ru, .ref tr, .ref se])), zQ cL sh 6 sf, (lv, .inr (1, [.int (zI w), .int (zI h), .ref ka, .ref ta, .int (zI sx), .int (zI sy), .int (zI fx), .int (zI fy), .int (zI lf), .int (zI un)])), zA cI ka 96 K]) [0, 1, 2, 3] (by decide) rfl
  have hFc := va_free (wc := [(sl, .inr (5, [.ref sh, .int (zI lc), .ref ru, .ref tr, .ref se])), zQ cL sh 6 sf, (lv, .inr (1, [.int (zI w), .int (zI h), .ref ka, .ref ta, .int (zI sx), .int (zI sy), .int (zI fx), .int (zI fy), .int (zI lf), .int (zI un)])), zA cI ka 96 K]) hD hS hA [0, 1, 2, 3] rfl
  refine vx_calli (vx_runV (As := [.int (zI L), .int (zI cx), .int (zI cy), .int (zI v)]) (rest := [.int (zI 0), .ref ou]) ⟨hx, hb, hml, hown, hts⟩ (x_X5_setCell_xc l hfl dC dI cI cZ cL cT cJ s.heap.size sl sh lc ru tr se sf L k lv w h ka ta sx sy fx fy lf un K cx cy v (by first | assumption | omega) (by first | assumption | omega) (by first | assumption | omega) (by first | assumption | omega) (by first | assumption | omega) (by first | assumption | omega) (by first | assumption | omega) (by first | assumption | omega) (by first | assumption | omega)) (cwV 4 hts gL_setCell_X5_setCell rfl rfl rfl (by decide +kernel) ⟨Nat.le_of_ble_eq_true rfl, Nat.le_of_ble_eq_true rfl⟩) ⟨zPx_blind, va_recv hK hPc (ci := 5) (q0 := 0) rfl rfl, zPx_pre hPc hDc hK hEx hS hFc⟩ rfl rfl hl.1 rfl (lv_room (Nat.le_of_ble_eq_true rfl)) dL_setCell_9 ⟨Nat.le_of_ble_eq_true rfl, Nat.le_of_ble_eq_true rfl⟩) hS (fun q _ h => hFc q h) hFc (fun q _ h => hFc q h) (fun E9 ce9 q9 u t H1 locs ht hvm _ hB hz1 hk1 hS hc9 hv9 hf9 => ?_) (fun r u t H1 locs ht hvm hw => hw.elim)
  obtain ⟨rfl, hP1, hK1, hD1⟩ := hB
  rw [ht] at hP1
  obtain ⟨hP, hD⟩ := va_join (wr := []) (w1 := [(sl, .inr (5, [.ref sh, .int (zI lc), .ref ru, .ref tr, .ref se])), zQ cL sh 6 sf, (lv, .inr (1, [.int (zI w), .int (zI h), .ref ka, .ref ta, .int (zI sx), .int (zI sy), .int (zI fx), .int (zI fy), .int (zI lf), .int (zI un)])), zA cI ka 96 K]) hP hD [0, 1, 2, 3] [] rfl rfl (by decide) (by decide) hk1 hFc hP1 hD1
  have hP : va_P (dC, dI) vwCl [(sl, .inr (5, [.ref sh, .int (zI lc), .ref ru, .ref tr, .ref se])), zQ cL sh 6 sf, (lv, .inr (1, [.int (zI w), .int (zI h), .ref ka, .ref ta, .int (zI sx), .int (zI sy), .int (zI fx), .int (zI fy), .int (zI lf), .int (zI un)])), zA cI ka 96 K] H1 := hP.sub [0, 1, 2, 3] rfl
  have hD : va_D A [(sl, .inr (5, [.ref sh, .int (zI lc), .ref ru, .ref tr, .ref se])), zQ cL sh 6 sf, (lv, .inr (1, [.int (zI w), .int (zI h), .ref ka, .ref ta, .int (zI sx), .int (zI sy), .int (zI fx), .int (zI fy), .int (zI lf), .int (zI un)])), zA cI ka 96 K] := hD.sub [0, 1, 2, 3] (by decide) rfl
  refine vx_catch (name := "java/lang/IllegalArgumentException") hown [({ startPc := 0, endPc := 14, handlerPc := 17, catchType := 21 } : ExceptionTableEntry)] ({ startPc := 0, endPc := 14, handlerPc := 21, catchType := 13 } : ExceptionTableEntry) [({ startPc := 0, endPc := 14, handlerPc := 25, catchType := 15 } : ExceptionTableEntry)] ((vx_table (x := yL_setCell) B (hts _ List.mem_cons_self)).trans rfl) (fun z hz => (List.mem_cons.mp hz).elim (fun e9 => by subst e9; exact Or.inr ⟨by decide, "java/lang/IndexOutOfBoundsException", hts (.classLink RL 21 "java/lang/IndexOutOfBoundsException") (by decide +kernel), hNc.2.1⟩) (fun hz => absurd hz List.not_mem_nil)) (by decide) (by decide) (hts (.classLink RL 13 "java/lang/IllegalArgumentException") (by decide +kernel)) (va_Nw.use rfl hEx.2.2.1) hc9 hv9 hf9 ?_
  generalize H1 = H at hP hS ⊢
  refine W.eq (g2 := F0 m 21 ls [.ref q9]) rfl ?_
  refine lv_astore (lv' := [(6, .ref q9), (0, .ref sl), (1, .int (zI L)), (2, .int (zI cx)), (3, .int (zI cy)), (4, .int (zI v)), (5, .ref ou)]) hx hb dL_setCell_21 hl (by decide) rfl (fun ls hl => ?_)
  refine lv_iconst (v := zI 2) hx hb dL_setCell_23 (rfl) ?_
  have hP9 := hP.sub (ws' := [(sl, .inr (5, [.ref sh, .int (zI lc), .ref ru, .ref tr, .ref se])), zQ cL sh 6 sf, (lv, .inr (1, [.int (zI w), .int (zI h), .ref ka, .ref ta, .int (zI sx), .int (zI sy), .int (zI fx), .int (zI fy), .int (zI lf), .int (zI un)])), zA cI ka 96 K]) [0, 1, 2, 3] rfl
  have hD9 := hD.sub (ws' := [(sl, .inr (5, [.ref sh, .int (zI lc), .ref ru, .ref tr, .ref se])), zQ cL sh 6 sf, (lv, .inr (1, [.int (zI w), .int (zI h), .ref ka, .ref ta, .int (zI sx), .int (zI sy), .int (zI fx), .int (zI fy), .int (zI lf), .int (zI un)])), zA cI ka 96 K]) [0, 1, 2, 3] (by decide) rfl
  refine W.widen (k := 1) (n := 6) (Nat.le_of_ble_eq_true rfl) (Nat.le_of_ble_eq_true rfl) ?_
  have po : zI 2 = zI 2 ∧ (True) := by
    refine ⟨by first | rfl | (congr 1; omega) | (congr 1; simp [*]), ?_⟩
    trivial
  exact W.iret (v := zI 2) hx hb hr (fun t ht hW => ⟨⟨zI 2, (), rfl, po, by rw [ht]; exact hP9, va_K.moved hW.alike hK, hD9⟩, hS.F ht⟩) hS.2.2 dL_setCell_24
set_option maxHeartbeats 4000000 in
set_option maxRecDepth 100000 in
theorem c_L_setCell_xd (l : Launch) (hfl : l.stackTraces = false) (dC : Nat → ClassId) (dI : Nat → Nat → Nat) (cI cZ cL cT cJ : ClassId) (sz : Nat) (sl : Nat) (sh : Nat) (lc : Int) (ru : Nat) (tr : Nat) (se : Nat) (sf : Nat → Option Nat) (L : Int) (k : Nat) (lv : Nat) (w : Int) (h : Int) (ka : Nat) (ta : Nat) (sx : Int) (sy : Int) (fx : Int) (fy : Int) (lf : Int) (un : Int) (K : Int → Int) (cx : Int) (cy : Int) (v : Int) (ou : Nat) (gk : L = (k : Int) ∧ k < 6) (gf : sf k = some lv) (gw : 0 < w ∧ w ≤ 12) (gh : 0 < h ∧ h ≤ 8) (gK : Kin K) (gx : 0 ≤ cx ∧ cx < w) (gy : 0 ≤ cy ∧ cy < h) (gsx : 0 ≤ sx ∧ sx < w) (gsy : 0 ≤ sy ∧ sy < h) (gfx : 0 ≤ fx ∧ fx < w) (gfy : 0 ≤ fy ∧ fy < h) (gq : v = 1) (gm : ((sx = cx ∧ sy = cy) ∨ (fx = cx ∧ fy = cy))) : Met l yL_setCell wsL_setCell ({ frames := 7, cells := 1, slots := 6, locals := 116 }) (zPy (dC, dI) (zT cI cZ cL cT cJ) sz [.ref sl, .int (zI L), .int (zI cx), .int (zI cy), .int (zI v), .ref ou] [(sl, .inr (5, [.ref sh, .int (zI lc), .ref ru, .ref tr, .ref se])), zQ cL sh 6 sf, (lv, .inr (1, [.int (zI w), .int (zI h), .ref ka, .ref ta, .int (zI sx), .int (zI sy), .int (zI fx), .int (zI fy), .int (zI lf), .int (zI un)])), zA cI ka 96 K]) (va_Qi (fun (r9 : Int32) (u9 : Unit) => match u9 with | _ => r9 = zI 3 ∧ (True)) (zB (dC, dI) (zT cI cZ cL cT cJ) (va_A [(sl, .inr (5, [.ref sh, .int (zI lc), .ref ru, .ref tr, .ref se])), zQ cL sh 6 sf, (lv, .inr (1, [.int (zI w), .int (zI h), .ref ka, .ref ta, .int (zI sx), .int (zI sy), .int (zI fx), .int (zI fy), .int (zI lf), .int (zI un)])), zA cI ka 96 K] sz) (fun (u9 : Unit) => match u9 with | _ => [(sl, .inr (5, [.ref sh, .int (zI lc), .ref ru, .ref tr, .ref se])), zQ cL sh 6 sf, (lv, .inr (1, [.int (zI w), .int (zI h), .ref ka, .ref ta, .int (zI sx), .int (zI sy), .int (zI fx), .int (zI fy), .int (zI lf), .int (zI un)])), zA cI ka 96 K])) (va_A [(sl, .inr (5, [.ref sh, .int (zI lc), .ref ru, .ref tr, .ref se])), zQ cL sh 6 sf, (lv, .inr (1, [.int (zI w), .int (zI h), .ref ka, .ref ta, .int (zI sx), .int (zI sy), .int (zI fx), .int (zI fy), .int (zI lf), .int (zI un)])), zA cI ka 96 K] sz)) 1 6 (va_A [(sl, .inr (5, [.ref sh, .int (zI lc), .ref ru, .ref tr, .ref se])), zQ cL sh 6 sf, (lv, .inr (1, [.int (zI w), .int (zI h), .ref ka, .ref ta, .int (zI sx), .int (zI sy), .int (zI fx), .int (zI fy), .int (zI lf), .int (zI un)])), zA cI ka 96 K] sz) := by
  refine va_MetW (cc := cL_setCell) (maxL := 7) (ret := (some .int)) (by decide) rfl ?_
  intro p e s m args below meth c s₁ B hml hv
  obtain ⟨rfl, hsz, hP, hK, hD0, hEx, hNc⟩ := hv
  have hx := B.exec
  have hb := B.bytes
  have hr := B.returns
  have hts := atoms_spec (ws := wsL_setCell) B.pre
  have hown : s.vm.findClass RL = some m.cls := findClass_of_methodNamed B.named
  have hlocks := B.notSynchronized
  subst hsz
  have hD := hD0.self (sz := s.heap.size)
  generalize hAe : va_A [(sl, .inr (5, [.ref sh, .int (zI lc), .ref ru, .ref tr, .ref se])), zQ cL sh 6 sf, (lv, .inr (1, [.int (zI w), .int (zI h), .ref ka, .ref ta, .int (zI sx), .int (zI sy), .int (zI fx), .int (zI fy), .int (zI lf), .int (zI un)])), zA cI ka 96 K] s.heap.size = A at hD hEx ⊢
  have hA : ∀ q : Nat, s.heap.size ≤ q → A q := fun q h => by rw [← hAe]; exact Or.inr h
  clear hAe hD0
  have hS : va_S A s.heap s.heap [] := va_S.rf
  have hP : va_P (dC, dI) vwCl [(sl, .inr (5, [.ref sh, .int (zI lc), .ref ru, .ref tr, .ref se])), zQ cL sh 6 sf, (lv, .inr (1, [.int (zI w), .int (zI h), .ref ka, .ref ta, .int (zI sx), .int (zI sy), .int (zI fx), .int (zI fy), .int (zI lf), .int (zI un)])), zA cI ka 96 K] s.heap := hP
  have hl := lv_entry ([.ref sl, .int (zI L), .int (zI cx), .int (zI cy), .int (zI v), .ref ou]) (n := 7) (Nat.le_of_ble_eq_true rfl)
  rw [lg_entry_eq]
  generalize (lg_sl ([.ref sl, .int (zI L), .int (zI cx), .int (zI cy), .int (zI v), .ref ou]) ++ List.replicate (7 - (lg_sl ([.ref sl, .int (zI L), .int (zI cx), .int (zI cy), .int (zI v), .ref ou])).length) Slot.unset).toArray = ls at hl ⊢
  have hl : lv_has ls 7 [(0, .ref sl), (1, .int (zI L)), (2, .int (zI cx)), (3, .int (zI cy)), (4, .int (zI v)), (5, .ref ou)] := hl
  refine lv_aload hx hb dL_setCell_0 (lv_at hl 5 rfl) ?_
  refine lv_iconst (v := zI 0) hx hb dL_setCell_2 (rfl) ?_
  refine lv_aload_n hx hb dL_setCell_3 rfl (lv_at hl 0 rfl) ?_
  refine lv_iload_n hx hb dL_setCell_4 rfl (lv_at hl 1 rfl) ?_
  refine lv_iload_n hx hb dL_setCell_5 rfl (lv_at hl 2 rfl) ?_
  refine lv_iload_n hx hb dL_setCell_6 rfl (lv_at hl 3 rfl) ?_
  refine lv_iload hx hb dL_setCell_7 (lv_at hl 4 rfl) ?_
  have hPc := hP.sub (ws' := [(sl, .inr (5, [.ref sh, .int (zI lc), .ref ru, .ref tr, .ref se])), zQ cL sh 6 sf, (lv, .inr (1, [.int (zI w), .int (zI h), .ref ka, .ref ta, .int (zI sx), .int (zI sy), .int (zI fx), .int (zI fy), .int (zI lf), .int (zI un)])), zA cI ka 96 K]) [0, 1, 2, 3] rfl
  have hDc := hD.sub (ws' := [(sl, .inr (5, [.ref sh, .int (zI lc), .ref ru, .ref tr, .ref se])), zQ cL sh 6 sf, (lv, .inr (1, [.int (zI w), .int (zI h), .ref ka, .ref ta, .int (zI sx), .int (zI sy), .int (zI fx), .int (zI fy), .int (zI lf), .int (zI un)])), zA cI ka 96 K]) [0, 1, 2, 3] (by decide) rfl
  have hFc := va_free (wc := [(sl, .inr (5, [.ref sh, .int (zI lc), .ref ru, .ref tr, .ref se])), zQ cL sh 6 sf, (lv, .inr (1, [.int (zI w), .int (zI h), .ref ka, .ref ta, .int (zI sx), .int (zI sy), .int (zI fx), .int (zI fy), .int (zI lf), .int (zI un)])), zA cI ka 96 K]) hD hS hA [0, 1, 2, 3] rfl
  refine vx_calli (vx_runV (As := [.int (zI L), .int (zI cx), .int (zI cy), .int (zI v)]) (rest := [.int (zI 0), .ref ou]) ⟨hx, hb, hml, hown, hts⟩ (x_X5_setCell_xd l hfl dC dI cI cZ cL cT cJ s.heap.size sl sh lc ru tr se sf L k lv w h ka ta sx sy fx fy lf un K cx cy v (by first | assumption | omega) (by first | assumption | omega) (by first | assumption | omega) (by first | assumption | omega) (by first | assumption | omega) (by first | assumption | omega) (by first | assumption | omega) (by first | assumption | omega) (by first | assumption | omega) (by first | assumption | omega) (by first | assumption | omega) (by first | assumption | omega) (by first | assumption | omega)) (cwV 4 hts gL_setCell_X5_setCell rfl rfl rfl (by decide +kernel) ⟨Nat.le_of_ble_eq_true rfl, Nat.le_of_ble_eq_true rfl⟩) ⟨zPx_blind, va_recv hK hPc (ci := 5) (q0 := 0) rfl rfl, zPx_pre hPc hDc hK hEx hS hFc⟩ rfl rfl hl.1 rfl (lv_room (Nat.le_of_ble_eq_true rfl)) dL_setCell_9 ⟨Nat.le_of_ble_eq_true rfl, Nat.le_of_ble_eq_true rfl⟩) hS (fun q _ h => hFc q h) hFc (fun q _ h => hFc q h) (fun E9 ce9 q9 u t H1 locs ht hvm _ hB hz1 hk1 hS hc9 hv9 hf9 => ?_) (fun r u t H1 locs ht hvm hw => hw.elim)
  obtain ⟨rfl, hP1, hK1, hD1⟩ := hB
  rw [ht] at hP1
  obtain ⟨hP, hD⟩ := va_join (wr := []) (w1 := [(sl, .inr (5, [.ref sh, .int (zI lc), .ref ru, .ref tr, .ref se])), zQ cL sh 6 sf, (lv, .inr (1, [.int (zI w), .int (zI h), .ref ka, .ref ta, .int (zI sx), .int (zI sy), .int (zI fx), .int (zI fy), .int (zI lf), .int (zI un)])), zA cI ka 96 K]) hP hD [0, 1, 2, 3] [] rfl rfl (by decide) (by decide) hk1 hFc hP1 hD1
  have hP : va_P (dC, dI) vwCl [(sl, .inr (5, [.ref sh, .int (zI lc), .ref ru, .ref tr, .ref se])), zQ cL sh 6 sf, (lv, .inr (1, [.int (zI w), .int (zI h), .ref ka, .ref ta, .int (zI sx), .int (zI sy), .int (zI fx), .int (zI fy), .int (zI lf), .int (zI un)])), zA cI ka 96 K] H1 := hP.sub [0, 1, 2, 3] rfl
  have hD : va_D A [(sl, .inr (5, [.ref sh, .int (zI lc), .ref ru, .ref tr, .ref se])), zQ cL sh 6 sf, (lv, .inr (1, [.int (zI w), .int (zI h), .ref ka, .ref ta, .int (zI sx), .int (zI sy), .int (zI fx), .int (zI fy), .int (zI lf), .int (zI un)])), zA cI ka 96 K] := hD.sub [0, 1, 2, 3] (by decide) rfl
  refine vx_catch (name := "java/lang/IllegalStateException") hown [({ startPc := 0, endPc := 14, handlerPc := 17, catchType := 21 } : ExceptionTableEntry), ({ startPc := 0, endPc := 14, handlerPc := 21, catchType := 13 } : ExceptionTableEntry)] ({ startPc := 0, endPc := 14, handlerPc := 25, catchType := 15 } : ExceptionTableEntry) [] ((vx_table (x := yL_setCell) B (hts _ List.mem_cons_self)).trans rfl) (fun z hz => (List.mem_cons.mp hz).elim (fun e9 => by subst e9; exact Or.inr ⟨by decide, "java/lang/IndexOutOfBoundsException", hts (.classLink RL 21 "java/lang/IndexOutOfBoundsException") (by decide +kernel), hNc.2.2.2.1⟩) (fun hz => (List.mem_cons.mp hz).elim (fun e9 => by subst e9; exact Or.inr ⟨by decide, "java/lang/IllegalArgumentException", hts (.classLink RL 13 "java/lang/IllegalArgumentException") (by decide +kernel), hNc.2.2.1⟩) (fun hz => absurd hz List.not_mem_nil))) (by decide) (by decide) (hts (.classLink RL 15 "java/lang/IllegalStateException") (by decide +kernel)) (va_Nw.use rfl hEx.2.2.2.1) hc9 hv9 hf9 ?_
  generalize H1 = H at hP hS ⊢
  refine W.eq (g2 := F0 m 25 ls [.ref q9]) rfl ?_
  refine lv_astore (lv' := [(6, .ref q9), (0, .ref sl), (1, .int (zI L)), (2, .int (zI cx)), (3, .int (zI cy)), (4, .int (zI v)), (5, .ref ou)]) hx hb dL_setCell_25 hl (by decide) rfl (fun ls hl => ?_)
  refine lv_iconst (v := zI 3) hx hb dL_setCell_27 (rfl) ?_
  have hP9 := hP.sub (ws' := [(sl, .inr (5, [.ref sh, .int (zI lc), .ref ru, .ref tr, .ref se])), zQ cL sh 6 sf, (lv, .inr (1, [.int (zI w), .int (zI h), .ref ka, .ref ta, .int (zI sx), .int (zI sy), .int (zI fx), .int (zI fy), .int (zI lf), .int (zI un)])), zA cI ka 96 K]) [0, 1, 2, 3] rfl
  have hD9 := hD.sub (ws' := [(sl, .inr (5, [.ref sh, .int (zI lc), .ref ru, .ref tr, .ref se])), zQ cL sh 6 sf, (lv, .inr (1, [.int (zI w), .int (zI h), .ref ka, .ref ta, .int (zI sx), .int (zI sy), .int (zI fx), .int (zI fy), .int (zI lf), .int (zI un)])), zA cI ka 96 K]) [0, 1, 2, 3] (by decide) rfl
  refine W.widen (k := 1) (n := 6) (Nat.le_of_ble_eq_true rfl) (Nat.le_of_ble_eq_true rfl) ?_
  have po : zI 3 = zI 3 ∧ (True) := by
    refine ⟨by first | rfl | (congr 1; omega) | (congr 1; simp [*]), ?_⟩
    trivial
  exact W.iret (v := zI 3) hx hb hr (fun t ht hW => ⟨⟨zI 3, (), rfl, po, by rw [ht]; exact hP9, va_K.moved hW.alike hK, hD9⟩, hS.F ht⟩) hS.2.2 dL_setCell_28
set_option maxHeartbeats 4000000 in
set_option maxRecDepth 100000 in
theorem c_L_setStart_xa (l : Launch) (hfl : l.stackTraces = false) (dC : Nat → ClassId) (dI : Nat → Nat → Nat) (cI cZ cL cT cJ : ClassId) (sz : Nat) (sl : Nat) (sh : Nat) (lc : Int) (ru : Nat) (tr : Nat) (se : Nat) (sf : Nat → Option Nat) (L : Int) (cx : Int) (cy : Int) (gr9 : -2147483648 ≤ L ∧ L < 2147483648) (gb : L < 0 ∨ 6 ≤ L ∨ ∃ k : Nat, L = (k : Int) ∧ k < 6 ∧ sf k = none) : Met l yL_setStart wsL_setStart ({ frames := 10, cells := 1, slots := 6, locals := 184 }) (zPy (dC, dI) (zT cI cZ cL cT cJ) sz [.ref sl, .int (zI L), .int (zI cx), .int (zI cy)] [(sl, .inr (5, [.ref sh, .int (zI lc), .ref ru, .ref tr, .ref se])), zQ cL sh 6 sf]) (va_Qi (fun (r9 : Int32) (u9 : Unit) => match u9 with | _ => r9 = zI 1 ∧ (True)) (zB (dC, dI) (zT cI cZ cL cT cJ) (va_A [(sl, .inr (5, [.ref sh, .int (zI lc), .ref ru, .ref tr, .ref se])), zQ cL sh 6 sf] sz) (fun (u9 : Unit) => match u9 with | _ => [(sl, .inr (5, [.ref sh, .int (zI lc), .ref ru, .ref tr, .ref se])), zQ cL sh 6 sf])) (va_A [(sl, .inr (5, [.ref sh, .int (zI lc), .ref ru, .ref tr, .ref se])), zQ cL sh 6 sf] sz)) 1 6 (va_A [(sl, .inr (5, [.ref sh, .int (zI lc), .ref ru, .ref tr, .ref se])), zQ cL sh 6 sf] sz) := by
  refine va_MetW (cc := cL_setStart) (maxL := 5) (ret := (some .int)) (by decide) rfl ?_
  intro p e s m args below meth c s₁ B hml hv
  obtain ⟨rfl, hsz, hP, hK, hD0, hEx, hNc⟩ := hv
  have hx := B.exec
  have hb := B.bytes
  have hr := B.returns
  have hts := atoms_spec (ws := wsL_setStart) B.pre
  have hown : s.vm.findClass RL = some m.cls := findClass_of_methodNamed B.named
  have hlocks := B.notSynchronized
  subst hsz
  have hD := hD0.self (sz := s.heap.size)
  generalize hAe : va_A [(sl, .inr (5, [.ref sh, .int (zI lc), .ref ru, .ref tr, .ref se])), zQ cL sh 6 sf] s.heap.size = A at hD hEx ⊢
  have hA : ∀ q : Nat, s.heap.size ≤ q → A q := fun q h => by rw [← hAe]; exact Or.inr h
  clear hAe hD0
  have hS : va_S A s.heap s.heap [] := va_S.rf
  have hP : va_P (dC, dI) vwCl [(sl, .inr (5, [.ref sh, .int (zI lc), .ref ru, .ref tr, .ref se])), zQ cL sh 6 sf] s.heap := hP
  have hl := lv_entry ([.ref sl, .int (zI L), .int (zI cx), .int (zI cy)]) (n := 5) (Nat.le_of_ble_eq_true rfl)
  rw [lg_entry_eq]
  generalize (lg_sl ([.ref sl, .int (zI L), .int (zI cx), .int (zI cy)]) ++ List.replicate (5 - (lg_sl ([.ref sl, .int (zI L), .int (zI cx), .int (zI cy)])).length) Slot.unset).toArray = ls at hl ⊢
  have hl : lv_has ls 5 [(0, .ref sl), (1, .int (zI L)), (2, .int (zI cx)), (3, .int (zI cy))] := hl
  refine lv_aload_n hx hb dL_setStart_0 rfl (lv_at hl 0 rfl) ?_
  refine lv_iload_n hx hb dL_setStart_1 rfl (lv_at hl 1 rfl) ?_
  refine lv_iload_n hx hb dL_setStart_2 rfl (lv_at hl 2 rfl) ?_
  refine lv_iload_n hx hb dL_setStart_3 rfl (lv_at hl 3 rfl) ?_
  have hPc := hP.sub (ws' := [(sl, .inr (5, [.ref sh, .int (zI lc), .ref ru, .ref tr, .ref se])), zQ cL sh 6 sf]) [0, 1] rfl
  have hDc := hD.sub (ws' := [(sl, .inr (5, [.ref sh, .int (zI lc), .ref ru, .ref tr, .ref se])), zQ cL sh 6 sf]) [0, 1] (by decide) rfl
  have hFc := va_free (wc := [(sl, .inr (5, [.ref sh, .int (zI lc), .ref ru, .ref tr, .ref se])), zQ cL sh 6 sf]) hD hS hA [0, 1] rfl
  refine vx_callv (vx_runV (As := [.int (zI L), .int (zI cx), .int (zI cy)]) (rest := []) ⟨hx, hb, hml, hown, hts⟩ (x_X5_setStart_xa l hfl dC dI cI cZ cL cT cJ s.heap.size sl sh lc ru tr se sf L cx cy (by first | assumption | omega) (by first | assumption | omega)) (cwV 3 hts gL_setStart_X5_setStart rfl rfl rfl (by decide +kernel) ⟨Nat.le_of_ble_eq_true rfl, Nat.le_of_ble_eq_true rfl⟩) ⟨zPx_blind, va_recv hK hPc (ci := 5) (q0 := 0) rfl rfl, zPx_pre hPc hDc hK hEx hS hFc⟩ rfl rfl hl.1 rfl (lv_room (Nat.le_of_ble_eq_true rfl)) dL_setStart_4 ⟨Nat.le_of_ble_eq_true rfl, Nat.le_of_ble_eq_true rfl⟩) hS (fun q _ h => hFc q h) hFc (fun q _ h => hFc q h) (fun E9 ce9 q9 u t H1 locs ht hvm _ hB hz1 hk1 hS hc9 hv9 hf9 => ?_) (fun u t H1 locs ht hvm hw => hw.elim)
  obtain ⟨rfl, hP1, hK1, hD1⟩ := hB
  rw [ht] at hP1
  obtain ⟨hP, hD⟩ := va_join (wr := []) (w1 := [(sl, .inr (5, [.ref sh, .int (zI lc), .ref ru, .ref tr, .ref se])), zQ cL sh 6 sf]) hP hD [0, 1] [] rfl rfl (by decide) (by decide) hk1 hFc hP1 hD1
  have hP : va_P (dC, dI) vwCl [(sl, .inr (5, [.ref sh, .int (zI lc), .ref ru, .ref tr, .ref se])), zQ cL sh 6 sf] H1 := hP.sub [0, 1] rfl
  have hD : va_D A [(sl, .inr (5, [.ref sh, .int (zI lc), .ref ru, .ref tr, .ref se])), zQ cL sh 6 sf] := hD.sub [0, 1] (by decide) rfl
  refine vx_catch (name := "java/lang/IndexOutOfBoundsException") hown [] ({ startPc := 0, endPc := 7, handlerPc := 10, catchType := 21 } : ExceptionTableEntry) [({ startPc := 0, endPc := 7, handlerPc := 14, catchType := 15 } : ExceptionTableEntry)] ((vx_table (x := yL_setStart) B (hts _ List.mem_cons_self)).trans rfl) (fun z hz => by cases hz) (by decide) (by decide) (hts (.classLink RL 21 "java/lang/IndexOutOfBoundsException") (by decide +kernel)) (va_Nw.use rfl hEx.2.2.2.2.1) hc9 hv9 hf9 ?_
  generalize H1 = H at hP hS ⊢
  refine W.eq (g2 := F0 m 10 ls [.ref q9]) rfl ?_
  refine lv_astore (lv' := [(4, .ref q9), (0, .ref sl), (1, .int (zI L)), (2, .int (zI cx)), (3, .int (zI cy))]) hx hb dL_setStart_10 hl (by decide) rfl (fun ls hl => ?_)
  refine lv_iconst (v := zI 1) hx hb dL_setStart_12 (rfl) ?_
  have hP9 := hP.sub (ws' := [(sl, .inr (5, [.ref sh, .int (zI lc), .ref ru, .ref tr, .ref se])), zQ cL sh 6 sf]) [0, 1] rfl
  have hD9 := hD.sub (ws' := [(sl, .inr (5, [.ref sh, .int (zI lc), .ref ru, .ref tr, .ref se])), zQ cL sh 6 sf]) [0, 1] (by decide) rfl
  refine W.widen (k := 1) (n := 6) (Nat.le_of_ble_eq_true rfl) (Nat.le_of_ble_eq_true rfl) ?_
  have po : zI 1 = zI 1 ∧ (True) := by
    refine ⟨by first | rfl | (congr 1; omega) | (congr 1; simp [*]), ?_⟩
    trivial
  exact W.iret (v := zI 1) hx hb hr (fun t ht hW => ⟨⟨zI 1, (), rfl, po, by rw [ht]; exact hP9, va_K.moved hW.alike hK, hD9⟩, hS.F ht⟩) hS.2.2 dL_setStart_13
set_option maxHeartbeats 4000000 in
set_option maxRecDepth 100000 in
theorem c_L_setStart_xb (l : Launch) (hfl : l.stackTraces = false) (dC : Nat → ClassId) (dI : Nat → Nat → Nat) (cI cZ cL cT cJ : ClassId) (sz : Nat) (sl : Nat) (sh : Nat) (lc : Int) (ru : Nat) (tr : Nat) (se : Nat) (sf : Nat → Option Nat) (L : Int) (k : Nat) (lv : Nat) (w : Int) (h : Int) (ka : Nat) (ta : Nat) (sx : Int) (sy : Int) (fx : Int) (fy : Int) (lf : Int) (un : Int) (K : Int → Int) (cx : Int) (cy : Int) (gk : L = (k : Int) ∧ k < 6) (gf : sf k = some lv) (gw : 0 < w ∧ w ≤ 12) (gh : 0 < h ∧ h ≤ 8) (gK : Kin K) (r9x : -2147483648 ≤ cx ∧ cx < 2147483648) (r9y : -2147483648 ≤ cy ∧ cy < 2147483648) (gq : kd K w h cx cy = -1) : Met l yL_setStart wsL_setStart ({ frames := 9, cells := 1, slots := 6, locals := 162 }) (zPy (dC, dI) (zT cI cZ cL cT cJ) sz [.ref sl, .int (zI L), .int (zI cx), .int (zI cy)] [(sl, .inr (5, [.ref sh, .int (zI lc), .ref ru, .ref tr, .ref se])), zQ cL sh 6 sf, (lv, .inr (1, [.int (zI w), .int (zI h), .ref ka, .ref ta, .int (zI sx), .int (zI sy), .int (zI fx), .int (zI fy), .int (zI lf), .int (zI un)])), zA cI ka 96 K]) (va_Qi (fun (r9 : Int32) (u9 : Unit) => match u9 with | _ => r9 = zI 1 ∧ (True)) (zB (dC, dI) (zT cI cZ cL cT cJ) (va_A [(sl, .inr (5, [.ref sh, .int (zI lc), .ref ru, .ref tr, .ref se])), zQ cL sh 6 sf, (lv, .inr (1, [.int (zI w), .int (zI h), .ref ka, .ref ta, .int (zI sx), .int (zI sy), .int (zI fx), .int (zI fy), .int (zI lf), .int (zI un)])), zA cI ka 96 K] sz) (fun (u9 : Unit) => match u9 with | _ => [(sl, .inr (5, [.ref sh, .int (zI lc), .ref ru, .ref tr, .ref se])), zQ cL sh 6 sf, (lv, .inr (1, [.int (zI w), .int (zI h), .ref ka, .ref ta, .int (zI sx), .int (zI sy), .int (zI fx), .int (zI fy), .int (zI lf), .int (zI un)])), zA cI ka 96 K])) (va_A [(sl, .inr (5, [.ref sh, .int (zI lc), .ref ru, .ref tr, .ref se])), zQ cL sh 6 sf, (lv, .inr (1, [.int (zI w), .int (zI h), .ref ka, .ref ta, .int (zI sx), .int (zI sy), .int (zI fx), .int (zI fy), .int (zI lf), .int (zI un)])), zA cI ka 96 K] sz)) 1 6 (va_A [(sl, .inr (5, [.ref sh, .int (zI lc), .ref ru, .ref tr, .ref se])), zQ cL sh 6 sf, (lv, .inr (1, [.int (zI w), .int (zI h), .ref ka, .ref ta, .int (zI sx), .int (zI sy), .int (zI fx), .int (zI fy), .int (zI lf), .int (zI un)])), zA cI ka 96 K] sz) := by
  refine va_MetW (cc := cL_setStart) (maxL := 5) (ret := (some .int)) (by decide) rfl ?_
  intro p e s m args below meth c s₁ B hml hv
  obtain ⟨rfl, hsz, hP, hK, hD0, hEx, hNc⟩ := hv
  have hx := B.exec
  have hb := B.bytes
  have hr := B.returns
  have hts := atoms_spec (ws := wsL_setStart) B.pre
  have hown : s.vm.findClass RL = some m.cls := findClass_of_methodNamed B.named
  have hlocks := B.notSynchronized
  subst hsz
  have hD := hD0.self (sz := s.heap.size)
  generalize hAe : va_A [(sl, .inr (5, [.ref sh, .int (zI lc), .ref ru, .ref tr, .ref se])), zQ cL sh 6 sf, (lv, .inr (1, [.int (zI w), .int (zI h), .ref ka, .ref ta, .int (zI sx), .int (zI sy), .int (zI fx), .int (zI fy), .int (zI lf), .int (zI un)])), zA cI ka 96 K] s.heap.size = A at hD hEx ⊢
  have hA : ∀ q : Nat, s.heap.size ≤ q → A q := fun q h => by rw [← hAe]; exact Or.inr h
  clear hAe hD0
  have hS : va_S A s.heap s.heap [] := va_S.rf
  have hP : va_P (dC, dI) vwCl [(sl, .inr (5, [.ref sh, .int (zI lc), .ref ru, .ref tr, .ref se])), zQ cL sh 6 sf, (lv, .inr (1, [.int (zI w), .int (zI h), .ref ka, .ref ta, .int (zI sx), .int (zI sy), .int (zI fx), .int (zI fy), .int (zI lf), .int (zI un)])), zA cI ka 96 K] s.heap := hP
  have hl := lv_entry ([.ref sl, .int (zI L), .int (zI cx), .int (zI cy)]) (n := 5) (Nat.le_of_ble_eq_true rfl)
  rw [lg_entry_eq]
  generalize (lg_sl ([.ref sl, .int (zI L), .int (zI cx), .int (zI cy)]) ++ List.replicate (5 - (lg_sl ([.ref sl, .int (zI L), .int (zI cx), .int (zI cy)])).length) Slot.unset).toArray = ls at hl ⊢
  have hl : lv_has ls 5 [(0, .ref sl), (1, .int (zI L)), (2, .int (zI cx)), (3, .int (zI cy))] := hl
  refine lv_aload_n hx hb dL_setStart_0 rfl (lv_at hl 0 rfl) ?_
  refine lv_iload_n hx hb dL_setStart_1 rfl (lv_at hl 1 rfl) ?_
  refine lv_iload_n hx hb dL_setStart_2 rfl (lv_at hl 2 rfl) ?_
  refine lv_iload_n hx hb dL_setStart_3 rfl (lv_at hl 3 rfl) ?_
  have hPc := hP.sub (ws' := [(sl, .inr (5, [.ref sh, .int (zI lc), .ref ru, .ref tr, .ref se])), zQ cL sh 6 sf, (lv, .inr (1, [.int (zI w), .int (zI h), .ref ka, .ref ta, .int (zI sx), .int (zI sy), .int (zI fx), .int (zI fy), .int (zI lf), .int (zI un)])), zA cI ka 96 K]) [0, 1, 2, 3] rfl
  have hDc := hD.sub (ws' := [(sl, .inr (5, [.ref sh, .int (zI lc), .ref ru, .ref tr, .ref se])), zQ cL sh 6 sf, (lv, .inr (1, [.int (zI w), .int (zI h), .ref ka, .ref ta, .int (zI sx), .int (zI sy), .int (zI fx), .int (zI fy), .int (zI lf), .int (zI un)])), zA cI ka 96 K]) [0, 1, 2, 3] (by decide) rfl
  have hFc := va_free (wc := [(sl, .inr (5, [.ref sh, .int (zI lc), .ref ru, .ref tr, .ref se])), zQ cL sh 6 sf, (lv, .inr (1, [.int (zI w), .int (zI h), .ref ka, .ref ta, .int (zI sx), .int (zI sy), .int (zI fx), .int (zI fy), .int (zI lf), .int (zI un)])), zA cI ka 96 K]) hD hS hA [0, 1, 2, 3] rfl
  refine vx_callv (vx_runV (As := [.int (zI L), .int (zI cx), .int (zI cy)]) (rest := []) ⟨hx, hb, hml, hown, hts⟩ (x_X5_setStart_xb l hfl dC dI cI cZ cL cT cJ s.heap.size sl sh lc ru tr se sf L k lv w h ka ta sx sy fx fy lf un K cx cy (by first | assumption | omega) (by first | assumption | omega) (by first | assumption | omega) (by first | assumption | omega) (by first | assumption | omega) (by first | assumption | omega) (by first | assumption | omega) (by first | assumption | omega)) (cwV 3 hts gL_setStart_X5_setStart rfl rfl rfl (by decide +kernel) ⟨Nat.le_of_ble_eq_true rfl, Nat.le_of_ble_eq_true rfl⟩) ⟨zPx_blind, va_recv hK hPc (ci := 5) (q0 := 0) rfl rfl, zPx_pre hPc hDc hK hEx hS hFc⟩ rfl rfl hl.1 rfl (lv_room (Nat.le_of_ble_eq_true rfl)) dL_setStart_4 ⟨Nat.le_of_ble_eq_true rfl, Nat.le_of_ble_eq_true rfl⟩) hS (fun q _ h => hFc q h) hFc (fun q _ h => hFc q h) (fun E9 ce9 q9 u t H1 locs ht hvm _ hB hz1 hk1 hS hc9 hv9 hf9 => ?_) (fun u t H1 locs ht hvm hw => hw.elim)
  obtain ⟨rfl, hP1, hK1, hD1⟩ := hB
  rw [ht] at hP1
  obtain ⟨hP, hD⟩ := va_join (wr := []) (w1 := [(sl, .inr (5, [.ref sh, .int (zI lc), .ref ru, .ref tr, .ref se])), zQ cL sh 6 sf, (lv, .inr (1, [.int (zI w), .int (zI h), .ref ka, .ref ta, .int (zI sx), .int (zI sy), .int (zI fx), .int (zI fy), .int (zI lf), .int (zI un)])), zA cI ka 96 K]) hP hD [0, 1, 2, 3] [] rfl rfl (by decide) (by decide) hk1 hFc hP1 hD1
  have hP : va_P (dC, dI) vwCl [(sl, .inr (5, [.ref sh, .int (zI lc), .ref ru, .ref tr, .ref se])), zQ cL sh 6 sf, (lv, .inr (1, [.int (zI w), .int (zI h), .ref ka, .ref ta, .int (zI sx), .int (zI sy), .int (zI fx), .int (zI fy), .int (zI lf), .int (zI un)])), zA cI ka 96 K] H1 := hP.sub [0, 1, 2, 3] rfl
  have hD : va_D A [(sl, .inr (5, [.ref sh, .int (zI lc), .ref ru, .ref tr, .ref se])), zQ cL sh 6 sf, (lv, .inr (1, [.int (zI w), .int (zI h), .ref ka, .ref ta, .int (zI sx), .int (zI sy), .int (zI fx), .int (zI fy), .int (zI lf), .int (zI un)])), zA cI ka 96 K] := hD.sub [0, 1, 2, 3] (by decide) rfl
  refine vx_catch (name := "java/lang/IndexOutOfBoundsException") hown [] ({ startPc := 0, endPc := 7, handlerPc := 10, catchType := 21 } : ExceptionTableEntry) [({ startPc := 0, endPc := 7, handlerPc := 14, catchType := 15 } : ExceptionTableEntry)] ((vx_table (x := yL_setStart) B (hts _ List.mem_cons_self)).trans rfl) (fun z hz => by cases hz) (by decide) (by decide) (hts (.classLink RL 21 "java/lang/IndexOutOfBoundsException") (by decide +kernel)) (va_Nw.use rfl hEx.2.2.2.2.1) hc9 hv9 hf9 ?_
  generalize H1 = H at hP hS ⊢
  refine W.eq (g2 := F0 m 10 ls [.ref q9]) rfl ?_
  refine lv_astore (lv' := [(4, .ref q9), (0, .ref sl), (1, .int (zI L)), (2, .int (zI cx)), (3, .int (zI cy))]) hx hb dL_setStart_10 hl (by decide) rfl (fun ls hl => ?_)
  refine lv_iconst (v := zI 1) hx hb dL_setStart_12 (rfl) ?_
  have hP9 := hP.sub (ws' := [(sl, .inr (5, [.ref sh, .int (zI lc), .ref ru, .ref tr, .ref se])), zQ cL sh 6 sf, (lv, .inr (1, [.int (zI w), .int (zI h), .ref ka, .ref ta, .int (zI sx), .int (zI sy), .int (zI fx), .int (zI fy), .int (zI lf), .int (zI un)])), zA cI ka 96 K]) [0, 1, 2, 3] rfl
  have hD9 := hD.sub (ws' := [(sl, .inr (5, [.ref sh, .int (zI lc), .ref ru, .ref tr, .ref se])), zQ cL sh 6 sf, (lv, .inr (1, [.int (zI w), .int (zI h), .ref ka, .ref ta, .int (zI sx), .int (zI sy), .int (zI fx), .int (zI fy), .int (zI lf), .int (zI un)])), zA cI ka 96 K]) [0, 1, 2, 3] (by decide) rfl
  refine W.widen (k := 1) (n := 6) (Nat.le_of_ble_eq_true rfl) (Nat.le_of_ble_eq_true rfl) ?_
  have po : zI 1 = zI 1 ∧ (True) := by
    refine ⟨by first | rfl | (congr 1; omega) | (congr 1; simp [*]), ?_⟩
    trivial
  exact W.iret (v := zI 1) hx hb hr (fun t ht hW => ⟨⟨zI 1, (), rfl, po, by rw [ht]; exact hP9, va_K.moved hW.alike hK, hD9⟩, hS.F ht⟩) hS.2.2 dL_setStart_13
set_option maxHeartbeats 4000000 in
set_option maxRecDepth 100000 in
theorem c_L_setStart_xc (l : Launch) (hfl : l.stackTraces = false) (dC : Nat → ClassId) (dI : Nat → Nat → Nat) (cI cZ cL cT cJ : ClassId) (sz : Nat) (sl : Nat) (sh : Nat) (lc : Int) (ru : Nat) (tr : Nat) (se : Nat) (sf : Nat → Option Nat) (L : Int) (k : Nat) (lv : Nat) (w : Int) (h : Int) (ka : Nat) (ta : Nat) (sx : Int) (sy : Int) (fx : Int) (fy : Int) (lf : Int) (un : Int) (K : Int → Int) (cx : Int) (cy : Int) (gk : L = (k : Int) ∧ k < 6) (gf : sf k = some lv) (gw : 0 < w ∧ w ≤ 12) (gh : 0 < h ∧ h ≤ 8) (gK : Kin K) (gx : 0 ≤ cx ∧ cx < w) (gy : 0 ≤ cy ∧ cy < h) (gq : kd K w h cx cy = 1) : Met l yL_setStart wsL_setStart ({ frames := 8, cells := 1, slots := 6, locals := 138 }) (zPy (dC, dI) (zT cI cZ cL cT cJ) sz [.ref sl, .int (zI L), .int (zI cx), .int (zI cy)] [(sl, .inr (5, [.ref sh, .int (zI lc), .ref ru, .ref tr, .ref se])), zQ cL sh 6 sf, (lv, .inr (1, [.int (zI w), .int (zI h), .ref ka, .ref ta, .int (zI sx), .int (zI sy), .int (zI fx), .int (zI fy), .int (zI lf), .int (zI un)])), zA cI ka 96 K]) (va_Qi (fun (r9 : Int32) (u9 : Unit) => match u9 with | _ => r9 = zI 2 ∧ (True)) (zB (dC, dI) (zT cI cZ cL cT cJ) (va_A [(sl, .inr (5, [.ref sh, .int (zI lc), .ref ru, .ref tr, .ref se])), zQ cL sh 6 sf, (lv, .inr (1, [.int (zI w), .int (zI h), .ref ka, .ref ta, .int (zI sx), .int (zI sy), .int (zI fx), .int (zI fy), .int (zI lf), .int (zI un)])), zA cI ka 96 K] sz) (fun (u9 : Unit) => match u9 with | _ => [(sl, .inr (5, [.ref sh, .int (zI lc), .ref ru, .ref tr, .ref se])), zQ cL sh 6 sf, (lv, .inr (1, [.int (zI w), .int (zI h), .ref ka, .ref ta, .int (zI sx), .int (zI sy), .int (zI fx), .int (zI fy), .int (zI lf), .int (zI un)])), zA cI ka 96 K])) (va_A [(sl, .inr (5, [.ref sh, .int (zI lc), .ref ru, .ref tr, .ref se])), zQ cL sh 6 sf, (lv, .inr (1, [.int (zI w), .int (zI h), .ref ka, .ref ta, .int (zI sx), .int (zI sy), .int (zI fx), .int (zI fy), .int (zI lf), .int (zI un)])), zA cI ka 96 K] sz)) 1 6 (va_A [(sl, .inr (5, [.ref sh, .int (zI lc), .ref ru, .ref tr, .ref se])), zQ cL sh 6 sf, (lv, .inr (1, [.int (zI w), .int (zI h), .ref ka, .ref ta, .int (zI sx), .int (zI sy), .int (zI fx), .int (zI fy), .int (zI lf), .int (zI un)])), zA cI ka 96 K] sz) := by
  refine va_MetW (cc := cL_setStart) (maxL := 5) (ret := (some .int)) (by decide) rfl ?_
  intro p e s m args below meth c s₁ B hml hv
  obtain ⟨rfl, hsz, hP, hK, hD0, hEx, hNc⟩ := hv
  have hx := B.exec
  have hb := B.bytes
  have hr := B.returns
  have hts := atoms_spec (ws := wsL_setStart) B.pre
  have hown : s.vm.findClass RL = some m.cls := findClass_of_methodNamed B.named
  have hlocks := B.notSynchronized
  subst hsz
  have hD := hD0.self (sz := s.heap.size)
  generalize hAe : va_A [(sl, .inr (5, [.ref sh, .int (zI lc), .ref ru, .ref tr, .ref se])), zQ cL sh 6 sf, (lv, .inr (1, [.int (zI w), .int (zI h), .ref ka, .ref ta, .int (zI sx), .int (zI sy), .int (zI fx), .int (zI fy), .int (zI lf), .int (zI un)])), zA cI ka 96 K] s.heap.size = A at hD hEx ⊢
  have hA : ∀ q : Nat, s.heap.size ≤ q → A q := fun q h => by rw [← hAe]; exact Or.inr h
  clear hAe hD0
  have hS : va_S A s.heap s.heap [] := va_S.rf
  have hP : va_P (dC, dI) vwCl [(sl, .inr (5, [.ref sh, .int (zI lc), .ref ru, .ref tr, .ref se])), zQ cL sh 6 sf, (lv, .inr (1, [.int (zI w), .int (zI h), .ref ka, .ref ta, .int (zI sx), .int (zI sy), .int (zI fx), .int (zI fy), .int (zI lf), .int (zI un)])), zA cI ka 96 K] s.heap := hP
  have hl := lv_entry ([.ref sl, .int (zI L), .int (zI cx), .int (zI cy)]) (n := 5) (Nat.le_of_ble_eq_true rfl)
  rw [lg_entry_eq]
  generalize (lg_sl ([.ref sl, .int (zI L), .int (zI cx), .int (zI cy)]) ++ List.replicate (5 - (lg_sl ([.ref sl, .int (zI L), .int (zI cx), .int (zI cy)])).length) Slot.unset).toArray = ls at hl ⊢
  have hl : lv_has ls 5 [(0, .ref sl), (1, .int (zI L)), (2, .int (zI cx)), (3, .int (zI cy))] := hl
  refine lv_aload_n hx hb dL_setStart_0 rfl (lv_at hl 0 rfl) ?_
  refine lv_iload_n hx hb dL_setStart_1 rfl (lv_at hl 1 rfl) ?_
  refine lv_iload_n hx hb dL_setStart_2 rfl (lv_at hl 2 rfl) ?_
  refine lv_iload_n hx hb dL_setStart_3 rfl (lv_at hl 3 rfl) ?_
  have hPc := hP.sub (ws' := [(sl, .inr (5, [.ref sh, .int (zI lc), .ref ru, .ref tr, .ref se])), zQ cL sh 6 sf, (lv, .inr (1, [.int (zI w), .int (zI h), .ref ka, .ref ta, .int (zI sx), .int (zI sy), .int (zI fx), .int (zI fy), .int (zI lf), .int (zI un)])), zA cI ka 96 K]) [0, 1, 2, 3] rfl
  have hDc := hD.sub (ws' := [(sl, .inr (5, [.ref sh, .int (zI lc), .ref ru, .ref tr, .ref se])), zQ cL sh 6 sf, (lv, .inr (1, [.int (zI w), .int (zI h), .ref ka, .ref ta, .int (zI sx), .int (zI sy), .int (zI fx), .int (zI fy), .int (zI lf), .int (zI un)])), zA cI ka 96 K]) [0, 1, 2, 3] (by decide) rfl
  have hFc := va_free (wc := [(sl, .inr (5, [.ref sh, .int (zI lc), .ref ru, .ref tr, .ref se])), zQ cL sh 6 sf, (lv, .inr (1, [.int (zI w), .int (zI h), .ref ka, .ref ta, .int (zI sx), .int (zI sy), .int (zI fx), .int (zI fy), .int (zI lf), .int (zI un)])), zA cI ka 96 K]) hD hS hA [0, 1, 2, 3] rfl
  refine vx_callv (vx_runV (As := [.int (zI L), .int (zI cx), .int (zI cy)]) (rest := []) ⟨hx, hb, hml, hown, hts⟩ (x_X5_setStart_xc l hfl dC dI cI cZ cL cT cJ s.heap.size sl sh lc ru tr se sf L k lv w h ka ta sx sy fx fy lf un K cx cy (by first | assumption | omega) (by first | assumption | omega) (by first | assumption | omega) (by first | assumption | omega) (by first | assumption | omega) (by first | assumption | omega) (by first | assumption | omega) (by first | assumption | omega)) (cwV 3 hts gL_setStart_X5_setStart rfl rfl rfl (by decide +kernel) ⟨Nat.le_of_ble_eq_true rfl, Nat.le_of_ble_eq_true rfl⟩) ⟨zPx_blind, va_recv hK hPc (ci := 5) (q0 := 0) rfl rfl, zPx_pre hPc hDc hK hEx hS hFc⟩ rfl rfl hl.1 rfl (lv_room (Nat.le_of_ble_eq_true rfl)) dL_setStart_4 ⟨Nat.le_of_ble_eq_true rfl, Nat.le_of_ble_eq_true rfl⟩) hS (fun q _ h => hFc q h) hFc (fun q _ h => hFc q h) (fun E9 ce9 q9 u t H1 locs ht hvm _ hB hz1 hk1 hS hc9 hv9 hf9 => ?_) (fun u t H1 locs ht hvm hw => hw.elim)
  obtain ⟨rfl, hP1, hK1, hD1⟩ := hB
  rw [ht] at hP1
  obtain ⟨hP, hD⟩ := va_join (wr := []) (w1 := [(sl, .inr (5, [.ref sh, .int (zI lc), .ref ru, .ref tr, .ref se])), zQ cL sh 6 sf, (lv, .inr (1, [.int (zI w), .int (zI h), .ref ka, .ref ta, .int (zI sx), .int (zI sy), .int (zI fx), .int (zI fy), .int (zI lf), .int (zI un)])), zA cI ka 96 K]) hP hD [0, 1, 2, 3] [] rfl rfl (by decide) (by decide) hk1 hFc hP1 hD1
  have hP : va_P (dC, dI) vwCl [(sl, .inr (5, [.ref sh, .int (zI lc), .ref ru, .ref tr, .ref se])), zQ cL sh 6 sf, (lv, .inr (1, [.int (zI w), .int (zI h), .ref ka, .ref ta, .int (zI sx), .int (zI sy), .int (zI fx), .int (zI fy), .int (zI lf), .int (zI un)])), zA cI ka 96 K] H1 := hP.sub [0, 1, 2, 3] rfl
  have hD : va_D A [(sl, .inr (5, [.ref sh, .int (zI lc), .ref ru, .ref tr, .ref se])), zQ cL sh 6 sf, (lv, .inr (1, [.int (zI w), .int (zI h), .ref ka, .ref ta, .int (zI sx), .int (zI sy), .int (zI fx), .int (zI fy), .int (zI lf), .int (zI un)])), zA cI ka 96 K] := hD.sub [0, 1, 2, 3] (by decide) rfl
  refine vx_catch (name := "java/lang/IllegalStateException") hown [({ startPc := 0, endPc := 7, handlerPc := 10, catchType := 21 } : ExceptionTableEntry)] ({ startPc := 0, endPc := 7, handlerPc := 14, catchType := 15 } : ExceptionTableEntry) [] ((vx_table (x := yL_setStart) B (hts _ List.mem_cons_self)).trans rfl) (fun z hz => (List.mem_cons.mp hz).elim (fun e9 => by subst e9; exact Or.inr ⟨by decide, "java/lang/IndexOutOfBoundsException", hts (.classLink RL 21 "java/lang/IndexOutOfBoundsException") (by decide +kernel), hNc.2.2.2.1⟩) (fun hz => absurd hz List.not_mem_nil)) (by decide) (by decide) (hts (.classLink RL 15 "java/lang/IllegalStateException") (by decide +kernel)) (va_Nw.use rfl hEx.2.2.2.1) hc9 hv9 hf9 ?_
  generalize H1 = H at hP hS ⊢
  refine W.eq (g2 := F0 m 14 ls [.ref q9]) rfl ?_
  refine lv_astore (lv' := [(4, .ref q9), (0, .ref sl), (1, .int (zI L)), (2, .int (zI cx)), (3, .int (zI cy))]) hx hb dL_setStart_14 hl (by decide) rfl (fun ls hl => ?_)
  refine lv_iconst (v := zI 2) hx hb dL_setStart_16 (rfl) ?_
  have hP9 := hP.sub (ws' := [(sl, .inr (5, [.ref sh, .int (zI lc), .ref ru, .ref tr, .ref se])), zQ cL sh 6 sf, (lv, .inr (1, [.int (zI w), .int (zI h), .ref ka, .ref ta, .int (zI sx), .int (zI sy), .int (zI fx), .int (zI fy), .int (zI lf), .int (zI un)])), zA cI ka 96 K]) [0, 1, 2, 3] rfl
  have hD9 := hD.sub (ws' := [(sl, .inr (5, [.ref sh, .int (zI lc), .ref ru, .ref tr, .ref se])), zQ cL sh 6 sf, (lv, .inr (1, [.int (zI w), .int (zI h), .ref ka, .ref ta, .int (zI sx), .int (zI sy), .int (zI fx), .int (zI fy), .int (zI lf), .int (zI un)])), zA cI ka 96 K]) [0, 1, 2, 3] (by decide) rfl
  refine W.widen (k := 1) (n := 6) (Nat.le_of_ble_eq_true rfl) (Nat.le_of_ble_eq_true rfl) ?_
  have po : zI 2 = zI 2 ∧ (True) := by
    refine ⟨by first | rfl | (congr 1; omega) | (congr 1; simp [*]), ?_⟩
    trivial
  exact W.iret (v := zI 2) hx hb hr (fun t ht hW => ⟨⟨zI 2, (), rfl, po, by rw [ht]; exact hP9, va_K.moved hW.alike hK, hD9⟩, hS.F ht⟩) hS.2.2 dL_setStart_17
set_option maxHeartbeats 4000000 in
set_option maxRecDepth 100000 in
theorem c_L_setFlag_xa (l : Launch) (hfl : l.stackTraces = false) (dC : Nat → ClassId) (dI : Nat → Nat → Nat) (cI cZ cL cT cJ : ClassId) (sz : Nat) (sl : Nat) (sh : Nat) (lc : Int) (ru : Nat) (tr : Nat) (se : Nat) (sf : Nat → Option Nat) (L : Int) (cx : Int) (cy : Int) (gr9 : -2147483648 ≤ L ∧ L < 2147483648) (gb : L < 0 ∨ 6 ≤ L ∨ ∃ k : Nat, L = (k : Int) ∧ k < 6 ∧ sf k = none) : Met l yL_setFlag wsL_setFlag ({ frames := 10, cells := 1, slots := 6, locals := 184 }) (zPy (dC, dI) (zT cI cZ cL cT cJ) sz [.ref sl, .int (zI L), .int (zI cx), .int (zI cy)] [(sl, .inr (5, [.ref sh, .int (zI lc), .ref ru, .ref tr, .ref se])), zQ cL sh 6 sf]) (va_Qi (fun (r9 : Int32) (u9 : Unit) => match u9 with | _ => r9 = zI 1 ∧ (True)) (zB (dC, dI) (zT cI cZ cL cT cJ) (va_A [(sl, .inr (5, [.ref sh, .int (zI lc), .ref ru, .ref tr, .ref se])), zQ cL sh 6 sf] sz) (fun (u9 : Unit) => match u9 with | _ => [(sl, .inr (5, [.ref sh, .int (zI lc), .ref ru, .ref tr, .ref se])), zQ cL sh 6 sf])) (va_A [(sl, .inr (5, [.ref sh, .int (zI lc), .ref ru, .ref tr, .ref se])), zQ cL sh 6 sf] sz)) 1 6 (va_A [(sl, .inr (5, [.ref sh, .int (zI lc), .ref ru, .ref tr, .ref se])), zQ cL sh 6 sf] sz) := by
  refine va_MetW (cc := cL_setFlag) (maxL := 5) (ret := (some .int)) (by decide) rfl ?_
  intro p e s m args below meth c s₁ B hml hv
  obtain ⟨rfl, hsz, hP, hK, hD0, hEx, hNc⟩ := hv
  have hx := B.exec
  have hb := B.bytes
  have hr := B.returns
  have hts := atoms_spec (ws := wsL_setFlag) B.pre
  have hown : s.vm.findClass RL = some m.cls := findClass_of_methodNamed B.named
  have hlocks := B.notSynchronized
  subst hsz
  have hD := hD0.self (sz := s.heap.size)
  generalize hAe : va_A [(sl, .inr (5, [.ref sh, .int (zI lc), .ref ru, .ref tr, .ref se])), zQ cL sh 6 sf] s.heap.size = A at hD hEx ⊢
  have hA : ∀ q : Nat, s.heap.size ≤ q → A q := fun q h => by rw [← hAe]; exact Or.inr h
  clear hAe hD0
  have hS : va_S A s.heap s.heap [] := va_S.rf
  have hP : va_P (dC, dI) vwCl [(sl, .inr (5, [.ref sh, .int (zI lc), .ref ru, .ref tr, .ref se])), zQ cL sh 6 sf] s.heap := hP
  have hl := lv_entry ([.ref sl, .int (zI L), .int (zI cx), .int (zI cy)]) (n := 5) (Nat.le_of_ble_eq_true rfl)
  rw [lg_entry_eq]
  generalize (lg_sl ([.ref sl, .int (zI L), .int (zI cx), .int (zI cy)]) ++ List.replicate (5 - (lg_sl ([.ref sl, .int (zI L), .int (zI cx), .int (zI cy)])).length) Slot.unset).toArray = ls at hl ⊢
  have hl : lv_has ls 5 [(0, .ref sl), (1, .int (zI L)), (2, .int (zI cx)), (3, .int (zI cy))] := hl
  refine lv_aload_n hx hb dL_setFlag_0 rfl (lv_at hl 0 rfl) ?_
  refine lv_iload_n hx hb dL_setFlag_1 rfl (lv_at hl 1 rfl) ?_
  refine lv_iload_n hx hb dL_setFlag_2 rfl (lv_at hl 2 rfl) ?_
  refine lv_iload_n hx hb dL_setFlag_3 rfl (lv_at hl 3 rfl) ?_
  have hPc := hP.sub (ws' := [(sl, .inr (5, [.ref sh, .int (zI lc), .ref ru, .ref tr, .ref se])), zQ cL sh 6 sf]) [0, 1] rfl
  have hDc := hD.sub (ws' := [(sl, .inr (5, [.ref sh, .int (zI lc), .ref ru, .ref tr, .ref se])), zQ cL sh 6 sf]) [0, 1] (by decide) rfl
  have hFc := va_free (wc := [(sl, .inr (5, [.ref sh, .int (zI lc), .ref ru, .ref tr, .ref se])), zQ cL sh 6 sf]) hD hS hA [0, 1] rfl
  refine vx_callv (vx_runV (As := [.int (zI L), .int (zI cx), .int (zI cy)]) (rest := []) ⟨hx, hb, hml, hown, hts⟩ (x_X5_setFlag_xa l hfl dC dI cI cZ cL cT cJ s.heap.size sl sh lc ru tr se sf L cx cy (by first | assumption | omega) (by first | assumption | omega)) (cwV 3 hts gL_setFlag_X5_setFlag rfl rfl rfl (by decide +kernel) ⟨Nat.le_of_ble_eq_true rfl, Nat.le_of_ble_eq_true rfl⟩) ⟨zPx_blind, va_recv hK hPc (ci := 5) (q0 := 0) rfl rfl, zPx_pre hPc hDc hK hEx hS hFc⟩ rfl rfl hl.1 rfl (lv_room (Nat.le_of_ble_eq_true rfl)) dL_setFlag_4 ⟨Nat.le_of_ble_eq_true rfl, Nat.le_of_ble_eq_true rfl⟩) hS (fun q _ h => hFc q h) hFc (fun q _ h => hFc q h) (fun E9 ce9 q9 u t H1 locs ht hvm _ hB hz1 hk1 hS hc9 hv9 hf9 => ?_) (fun u t H1 locs ht hvm hw => hw.elim)
  obtain ⟨rfl, hP1, hK1, hD1⟩ := hB
  rw [ht] at hP1
  obtain ⟨hP, hD⟩ := va_join (wr := []) (w1 := [(sl, .inr (5, [.ref sh, .int (zI lc), .ref ru, .ref tr, .ref se])), zQ cL sh 6 sf]) hP hD [0, 1] [] rfl rfl (by decide) (by decide) hk1 hFc hP1 hD1
  have hP : va_P (dC, dI) vwCl [(sl, .inr (5, [.ref sh, .int (zI lc), .ref ru, .ref tr, .ref se])), zQ cL sh 6 sf] H1 := hP.sub [0, 1] rfl
  have hD : va_D A [(sl, .inr (5, [.ref sh, .int (zI lc), .ref ru, .ref tr, .ref se])), zQ cL sh 6 sf] := hD.sub [0, 1] (by decide) rfl
  refine vx_catch (name := "java/lang/IndexOutOfBoundsException") hown [] ({ startPc := 0, endPc := 7, handlerPc := 10, catchType := 21 } : ExceptionTableEntry) [({ startPc := 0, endPc := 7, handlerPc := 14, catchType := 15 } : ExceptionTableEntry)] ((vx_table (x := yL_setFlag) B (hts _ List.mem_cons_self)).trans rfl) (fun z hz => by cases hz) (by decide) (by decide) (hts (.classLink RL 21 "java/lang/IndexOutOfBoundsException") (by decide +kernel)) (va_Nw.use rfl hEx.2.2.2.2.1) hc9 hv9 hf9 ?_
  generalize H1 = H at hP hS ⊢
  refine W.eq (g2 := F0 m 10 ls [.ref q9]) rfl ?_
  refine lv_astore (lv' := [(4, .ref q9), (0, .ref sl), (1, .int (zI L)), (2, .int (zI cx)), (3, .int (zI cy))]) hx hb dL_setFlag_10 hl (by decide) rfl (fun ls hl => ?_)
  refine lv_iconst (v := zI 1) hx hb dL_setFlag_12 (rfl) ?_
  have hP9 := hP.sub (ws' := [(sl, .inr (5, [.ref sh, .int (zI lc), .ref ru, .ref tr, .ref se])), zQ cL sh 6 sf]) [0, 1] rfl
  have hD9 := hD.sub (ws' := [(sl, .inr (5, [.ref sh, .int (zI lc), .ref ru, .ref tr, .ref se])), zQ cL sh 6 sf]) [0, 1] (by decide) rfl
  refine W.widen (k := 1) (n := 6) (Nat.le_of_ble_eq_true rfl) (Nat.le_of_ble_eq_true rfl) ?_
  have po : zI 1 = zI 1 ∧ (True) := by
    refine ⟨by first | rfl | (congr 1; omega) | (congr 1; simp [*]), ?_⟩
    trivial
  exact W.iret (v := zI 1) hx hb hr (fun t ht hW => ⟨⟨zI 1, (), rfl, po, by rw [ht]; exact hP9, va_K.moved hW.alike hK, hD9⟩, hS.F ht⟩) hS.2.2 dL_setFlag_13
set_option maxHeartbeats 4000000 in
set_option maxRecDepth 100000 in
theorem c_L_setFlag_xb (l : Launch) (hfl : l.stackTraces = false) (dC : Nat → ClassId) (dI : Nat → Nat → Nat) (cI cZ cL cT cJ : ClassId) (sz : Nat) (sl : Nat) (sh : Nat) (lc : Int) (ru : Nat) (tr : Nat) (se : Nat) (sf : Nat → Option Nat) (L : Int) (k : Nat) (lv : Nat) (w : Int) (h : Int) (ka : Nat) (ta : Nat) (sx : Int) (sy : Int) (fx : Int) (fy : Int) (lf : Int) (un : Int) (K : Int → Int) (cx : Int) (cy : Int) (gk : L = (k : Int) ∧ k < 6) (gf : sf k = some lv) (gw : 0 < w ∧ w ≤ 12) (gh : 0 < h ∧ h ≤ 8) (gK : Kin K) (r9x : -2147483648 ≤ cx ∧ cx < 2147483648) (r9y : -2147483648 ≤ cy ∧ cy < 2147483648) (gq : kd K w h cx cy = -1) : Met l yL_setFlag wsL_setFlag ({ frames := 9, cells := 1, slots := 6, locals := 162 }) (zPy (dC, dI) (zT cI cZ cL cT cJ) sz [.ref sl, .int (zI L), .int (zI cx), .int (zI cy)] [(sl, .inr (5, [.ref sh, .int (zI lc), .ref ru, .ref tr, .ref se])), zQ cL sh 6 sf, (lv, .inr (1, [.int (zI w), .int (zI h), .ref ka, .ref ta, .int (zI sx), .int (zI sy), .int (zI fx), .int (zI fy), .int (zI lf), .int (zI un)])), zA cI ka 96 K]) (va_Qi (fun (r9 : Int32) (u9 : Unit) => match u9 with | _ => r9 = zI 1 ∧ (True)) (zB (dC, dI) (zT cI cZ cL cT cJ) (va_A [(sl, .inr (5, [.ref sh, .int (zI lc), .ref ru, .ref tr, .ref se])), zQ cL sh 6 sf, (lv, .inr (1, [.int (zI w), .int (zI h), .ref ka, .ref ta, .int (zI sx), .int (zI sy), .int (zI fx), .int (zI fy), .int (zI lf), .int (zI un)])), zA cI ka 96 K] sz) (fun (u9 : Unit) => match u9 with | _ => [(sl, .inr (5, [.ref sh, .int (zI lc), .ref ru, .ref tr, .ref se])), zQ cL sh 6 sf, (lv, .inr (1, [.int (zI w), .int (zI h), .ref ka, .ref ta, .int (zI sx), .int (zI sy), .int (zI fx), .int (zI fy), .int (zI lf), .int (zI un)])), zA cI ka 96 K])) (va_A [(sl, .inr (5, [.ref sh, .int (zI lc), .ref ru, .ref tr, .ref se])), zQ cL sh 6 sf, (lv, .inr (1, [.int (zI w), .int (zI h), .ref ka, .ref ta, .int (zI sx), .int (zI sy), .int (zI fx), .int (zI fy), .int (zI lf), .int (zI un)])), zA cI ka 96 K] sz)) 1 6 (va_A [(sl, .inr (5, [.ref sh, .int (zI lc), .ref ru, .ref tr, .ref se])), zQ cL sh 6 sf, (lv, .inr (1, [.int (zI w), .int (zI h), .ref ka, .ref ta, .int (zI sx), .int (zI sy), .int (zI fx), .int (zI fy), .int (zI lf), .int (zI un)])), zA cI ka 96 K] sz) := by
  refine va_MetW (cc := cL_setFlag) (maxL := 5) (ret := (some .int)) (by decide) rfl ?_
  intro p e s m args below meth c s₁ B hml hv
  obtain ⟨rfl, hsz, hP, hK, hD0, hEx, hNc⟩ := hv
  have hx := B.exec
  have hb := B.bytes
  have hr := B.returns
  have hts := atoms_spec (ws := wsL_setFlag) B.pre
  have hown : s.vm.findClass RL = some m.cls := findClass_of_methodNamed B.named
  have hlocks := B.notSynchronized
  subst hsz
  have hD := hD0.self (sz := s.heap.size)
  generalize hAe : va_A [(sl, .inr (5, [.ref sh, .int (zI lc), .ref ru, .ref tr, .ref se])), zQ cL sh 6 sf, (lv, .inr (1, [.int (zI w), .int (zI h), .ref ka, .ref ta, .int (zI sx), .int (zI sy), .int (zI fx), .int (zI fy), .int (zI lf), .int (zI un)])), zA cI ka 96 K] s.heap.size = A at hD hEx ⊢
  have hA : ∀ q : Nat, s.heap.size ≤ q → A q := fun q h => by rw [← hAe]; exact Or.inr h
  clear hAe hD0
  have hS : va_S A s.heap s.heap [] := va_S.rf
  have hP : va_P (dC, dI) vwCl [(sl, .inr (5, [.ref sh, .int (zI lc), .ref ru, .ref tr, .ref se])), zQ cL sh 6 sf, (lv, .inr (1, [.int (zI w), .int (zI h), .ref ka, .ref ta, .int (zI sx), .int (zI sy), .int (zI fx), .int (zI fy), .int (zI lf), .int (zI un)])), zA cI ka 96 K] s.heap := hP
  have hl := lv_entry ([.ref sl, .int (zI L), .int (zI cx), .int (zI cy)]) (n := 5) (Nat.le_of_ble_eq_true rfl)
  rw [lg_entry_eq]
  generalize (lg_sl ([.ref sl, .int (zI L), .int (zI cx), .int (zI cy)]) ++ List.replicate (5 - (lg_sl ([.ref sl, .int (zI L), .int (zI cx), .int (zI cy)])).length) Slot.unset).toArray = ls at hl ⊢
  have hl : lv_has ls 5 [(0, .ref sl), (1, .int (zI L)), (2, .int (zI cx)), (3, .int (zI cy))] := hl
  refine lv_aload_n hx hb dL_setFlag_0 rfl (lv_at hl 0 rfl) ?_
  refine lv_iload_n hx hb dL_setFlag_1 rfl (lv_at hl 1 rfl) ?_
  refine lv_iload_n hx hb dL_setFlag_2 rfl (lv_at hl 2 rfl) ?_
  refine lv_iload_n hx hb dL_setFlag_3 rfl (lv_at hl 3 rfl) ?_
  have hPc := hP.sub (ws' := [(sl, .inr (5, [.ref sh, .int (zI lc), .ref ru, .ref tr, .ref se])), zQ cL sh 6 sf, (lv, .inr (1, [.int (zI w), .int (zI h), .ref ka, .ref ta, .int (zI sx), .int (zI sy), .int (zI fx), .int (zI fy), .int (zI lf), .int (zI un)])), zA cI ka 96 K]) [0, 1, 2, 3] rfl
  have hDc := hD.sub (ws' := [(sl, .inr (5, [.ref sh, .int (zI lc), .ref ru, .ref tr, .ref se])), zQ cL sh 6 sf, (lv, .inr (1, [.int (zI w), .int (zI h), .ref ka, .ref ta, .int (zI sx), .int (zI sy), .int (zI fx), .int (zI fy), .int (zI lf), .int (zI un)])), zA cI ka 96 K]) [0, 1, 2, 3] (by decide) rfl
  have hFc := va_free (wc := [(sl, .inr (5, [.ref sh, .int (zI lc), .ref ru, .ref tr, .ref se])), zQ cL sh 6 sf, (lv, .inr (1, [.int (zI w), .int (zI h), .ref ka, .ref ta, .int (zI sx), .int (zI sy), .int (zI fx), .int (zI fy), .int (zI lf), .int (zI un)])), zA cI ka 96 K]) hD hS hA [0, 1, 2, 3] rfl
  refine vx_callv (vx_runV (As := [.int (zI L), .int (zI cx), .int (zI cy)]) (rest := []) ⟨hx, hb, hml, hown, hts⟩ (x_X5_setFlag_xb l hfl dC dI cI cZ cL cT cJ s.heap.size sl sh lc ru tr se sf L k lv w h ka ta sx sy fx fy lf un K cx cy (by first | assumption | omega) (by first | assumption | omega) (by first | assumption | omega) (by first | assumption | omega) (by first | assumption | omega) (by first | assumption | omega) (by first | assumption | omega) (by first | assumption | omega)) (cwV 3 hts gL_setFlag_X5_setFlag rfl rfl rfl (by decide +kernel) ⟨Nat.le_of_ble_eq_true rfl, Nat.le_of_ble_eq_true rfl⟩) ⟨zPx_blind, va_recv hK hPc (ci := 5) (q0 := 0) rfl rfl, zPx_pre hPc hDc hK hEx hS hFc⟩ rfl rfl hl.1 rfl (lv_room (Nat.le_of_ble_eq_true rfl)) dL_setFlag_4 ⟨Nat.le_of_ble_eq_true rfl, Nat.le_of_ble_eq_true rfl⟩) hS (fun q _ h => hFc q h) hFc (fun q _ h => hFc q h) (fun E9 ce9 q9 u t H1 locs ht hvm _ hB hz1 hk1 hS hc9 hv9 hf9 => ?_) (fun u t H1 locs ht hvm hw => hw.elim)
  obtain ⟨rfl, hP1, hK1, hD1⟩ := hB
  rw [ht] at hP1
  obtain ⟨hP, hD⟩ := va_join (wr := []) (w1 := [(sl, .inr (5, [.ref sh, .int (zI lc), .ref ru, .ref tr, .ref se])), zQ cL sh 6 sf, (lv, .inr (1, [.int (zI w), .int (zI h), .ref ka, .ref ta, .int (zI sx), .int (zI sy), .int (zI fx), .int (zI fy), .int (zI lf), .int (zI un)])), zA cI ka 96 K]) hP hD [0, 1, 2, 3] [] rfl rfl (by decide) (by decide) hk1 hFc hP1 hD1
  have hP : va_P (dC, dI) vwCl [(sl, .inr (5, [.ref sh, .int (zI lc), .ref ru, .ref tr, .ref se])), zQ cL sh 6 sf, (lv, .inr (1, [.int (zI w), .int (zI h), .ref ka, .ref ta, .int (zI sx), .int (zI sy), .int (zI fx), .int (zI fy), .int (zI lf), .int (zI un)])), zA cI ka 96 K] H1 := hP.sub [0, 1, 2, 3] rfl
  have hD : va_D A [(sl, .inr (5, [.ref sh, .int (zI lc), .ref ru, .ref tr, .ref se])), zQ cL sh 6 sf, (lv, .inr (1, [.int (zI w), .int (zI h), .ref ka, .ref ta, .int (zI sx), .int (zI sy), .int (zI fx), .int (zI fy), .int (zI lf), .int (zI un)])), zA cI ka 96 K] := hD.sub [0, 1, 2, 3] (by decide) rfl
  refine vx_catch (name := "java/lang/IndexOutOfBoundsException") hown [] ({ startPc := 0, endPc := 7, handlerPc := 10, catchType := 21 } : ExceptionTableEntry) [({ startPc := 0, endPc := 7, handlerPc := 14, catchType := 15 } : ExceptionTableEntry)] ((vx_table (x := yL_setFlag) B (hts _ List.mem_cons_self)).trans rfl) (fun z hz => by cases hz) (by decide) (by decide) (hts (.classLink RL 21 "java/lang/IndexOutOfBoundsException") (by decide +kernel)) (va_Nw.use rfl hEx.2.2.2.2.1) hc9 hv9 hf9 ?_
  generalize H1 = H at hP hS ⊢
  refine W.eq (g2 := F0 m 10 ls [.ref q9]) rfl ?_
  refine lv_astore (lv' := [(4, .ref q9), (0, .ref sl), (1, .int (zI L)), (2, .int (zI cx)), (3, .int (zI cy))]) hx hb dL_setFlag_10 hl (by decide) rfl (fun ls hl => ?_)
  refine lv_iconst (v := zI 1) hx hb dL_setFlag_12 (rfl) ?_
  have hP9 := hP.sub (ws' := [(sl, .inr (5, [.ref sh, .int (zI lc), .ref ru, .ref tr, .ref se])), zQ cL sh 6 sf, (lv, .inr (1, [.int (zI w), .int (zI h), .ref ka, .ref ta, .int (zI sx), .int (zI sy), .int (zI fx), .int (zI fy), .int (zI lf), .int (zI un)])), zA cI ka 96 K]) [0, 1, 2, 3] rfl
  have hD9 := hD.sub (ws' := [(sl, .inr (5, [.ref sh, .int (zI lc), .ref ru, .ref tr, .ref se])), zQ cL sh 6 sf, (lv, .inr (1, [.int (zI w), .int (zI h), .ref ka, .ref ta, .int (zI sx), .int (zI sy), .int (zI fx), .int (zI fy), .int (zI lf), .int (zI un)])), zA cI ka 96 K]) [0, 1, 2, 3] (by decide) rfl
  refine W.widen (k := 1) (n := 6) (Nat.le_of_ble_eq_true rfl) (Nat.le_of_ble_eq_true rfl) ?_
  have po : zI 1 = zI 1 ∧ (True) := by
    refine ⟨by first | rfl | (congr 1; omega) | (congr 1; simp [*]), ?_⟩
    trivial
  exact W.iret (v := zI 1) hx hb hr (fun t ht hW => ⟨⟨zI 1, (), rfl, po, by rw [ht]; exact hP9, va_K.moved hW.alike hK, hD9⟩, hS.F ht⟩) hS.2.2 dL_setFlag_13
set_option maxHeartbeats 4000000 in
set_option maxRecDepth 100000 in
theorem c_L_setFlag_xc (l : Launch) (hfl : l.stackTraces = false) (dC : Nat → ClassId) (dI : Nat → Nat → Nat) (cI cZ cL cT cJ : ClassId) (sz : Nat) (sl : Nat) (sh : Nat) (lc : Int) (ru : Nat) (tr : Nat) (se : Nat) (sf : Nat → Option Nat) (L : Int) (k : Nat) (lv : Nat) (w : Int) (h : Int) (ka : Nat) (ta : Nat) (sx : Int) (sy : Int) (fx : Int) (fy : Int) (lf : Int) (un : Int) (K : Int → Int) (cx : Int) (cy : Int) (gk : L = (k : Int) ∧ k < 6) (gf : sf k = some lv) (gw : 0 < w ∧ w ≤ 12) (gh : 0 < h ∧ h ≤ 8) (gK : Kin K) (gx : 0 ≤ cx ∧ cx < w) (gy : 0 ≤ cy ∧ cy < h) (gq : kd K w h cx cy = 1) : Met l yL_setFlag wsL_setFlag ({ frames := 8, cells := 1, slots := 6, locals := 138 }) (zPy (dC, dI) (zT cI cZ cL cT cJ) sz [.ref sl, .int (zI L), .int (zI cx), .int (zI cy)] [(sl, .inr (5, [.ref sh, .int (zI lc), .ref ru, .ref tr, .ref se])), zQ cL sh 6 sf, (lv, .inr (1, [.int (zI w), .int (zI h), .ref ka, .ref ta, .int (zI sx), .int (zI sy), .int (zI fx), .int (zI fy), .int (zI lf), .int (zI un)])), zA cI ka 96 K]) (va_Qi (fun (r9 : Int32) (u9 : Unit) => match u9 with | _ => r9 = zI 2 ∧ (True)) (zB (dC, dI) (zT cI cZ cL cT cJ) (va_A [(sl, .inr (5, [.ref sh, .int (zI lc), .ref ru, .ref tr, .ref se])), zQ cL sh 6 sf, (lv, .inr (1, [.int (zI w), .int (zI h), .ref ka, .ref ta, .int (zI sx), .int (zI sy), .int (zI fx), .int (zI fy), .int (zI lf), .int (zI un)])), zA cI ka 96 K] sz) (fun (u9 : Unit) => match u9 with | _ => [(sl, .inr (5, [.ref sh, .int (zI lc), .ref ru, .ref tr, .ref se])), zQ cL sh 6 sf, (lv, .inr (1, [.int (zI w), .int (zI h), .ref ka, .ref ta, .int (zI sx), .int (zI sy), .int (zI fx), .int (zI fy), .int (zI lf), .int (zI un)])), zA cI ka 96 K])) (va_A [(sl, .inr (5, [.ref sh, .int (zI lc), .ref ru, .ref tr, .ref se])), zQ cL sh 6 sf, (lv, .inr (1, [.int (zI w), .int (zI h), .ref ka, .ref ta, .int (zI sx), .int (zI sy), .int (zI fx), .int (zI fy), .int (zI lf), .int (zI un)])), zA cI ka 96 K] sz)) 1 6 (va_A [(sl, .inr (5, [.ref sh, .int (zI lc), .ref ru, .ref tr, .ref se])), zQ cL sh 6 sf, (lv, .inr (1, [.int (zI w), .int (zI h), .ref ka, .ref ta, .int (zI sx), .int (zI sy), .int (zI fx), .int (zI fy), .int (zI lf), .int (zI un)])), zA cI ka 96 K] sz) := by
  refine va_MetW (cc := cL_setFlag) (maxL := 5) (ret := (some .int)) (by decide) rfl ?_
  intro p e s m args below meth c s₁ B hml hv
  obtain ⟨rfl, hsz, hP, hK, hD0, hEx, hNc⟩ := hv
  have hx := B.exec
  have hb := B.bytes
  have hr := B.returns
  have hts := atoms_spec (ws := wsL_setFlag) B.pre
  have hown : s.vm.findClass RL = some m.cls := findClass_of_methodNamed B.named
  have hlocks := B.notSynchronized
  subst hsz
  have hD := hD0.self (sz := s.heap.size)
  generalize hAe : va_A [(sl, .inr (5, [.ref sh, .int (zI lc), .ref ru, .ref tr, .ref se])), zQ cL sh 6 sf, (lv, .inr (1, [.int (zI w), .int (zI h), .ref ka, .ref ta, .int (zI sx), .int (zI sy), .int (zI fx), .int (zI fy), .int (zI lf), .int (zI un)])), zA cI ka 96 K] s.heap.size = A at hD hEx ⊢
  have hA : ∀ q : Nat, s.heap.size ≤ q → A q := fun q h => by rw [← hAe]; exact Or.inr h
  clear hAe hD0
  have hS : va_S A s.heap s.heap [] := va_S.rf
  have hP : va_P (dC, dI) vwCl [(sl, .inr (5, [.ref sh, .int (zI lc), .ref ru, .ref tr, .ref se])), zQ cL sh 6 sf, (lv, .inr (1, [.int (zI w), .int (zI h), .ref ka, .ref ta, .int (zI sx), .int (zI sy), .int (zI fx), .int (zI fy), .int (zI lf), .int (zI un)])), zA cI ka 96 K] s.heap := hP
  have hl := lv_entry ([.ref sl, .int (zI L), .int (zI cx), .int (zI cy)]) (n := 5) (Nat.le_of_ble_eq_true rfl)
  rw [lg_entry_eq]
  generalize (lg_sl ([.ref sl, .int (zI L), .int (zI cx), .int (zI cy)]) ++ List.replicate (5 - (lg_sl ([.ref sl, .int (zI L), .int (zI cx), .int (zI cy)])).length) Slot.unset).toArray = ls at hl ⊢
  have hl : lv_has ls 5 [(0, .ref sl), (1, .int (zI L)), (2, .int (zI cx)), (3, .int (zI cy))] := hl
  refine lv_aload_n hx hb dL_setFlag_0 rfl (lv_at hl 0 rfl) ?_
  refine lv_iload_n hx hb dL_setFlag_1 rfl (lv_at hl 1 rfl) ?_
  refine lv_iload_n hx hb dL_setFlag_2 rfl (lv_at hl 2 rfl) ?_
  refine lv_iload_n hx hb dL_setFlag_3 rfl (lv_at hl 3 rfl) ?_
  have hPc := hP.sub (ws' := [(sl, .inr (5, [.ref sh, .int (zI lc), .ref ru, .ref tr, .ref se])), zQ cL sh 6 sf, (lv, .inr (1, [.int (zI w), .int (zI h), .ref ka, .ref ta, .int (zI sx), .int (zI sy), .int (zI fx), .int (zI fy), .int (zI lf), .int (zI un)])), zA cI ka 96 K]) [0, 1, 2, 3] rfl
  have hDc := hD.sub (ws' := [(sl, .inr (5, [.ref sh, .int (zI lc), .ref ru, .ref tr, .ref se])), zQ cL sh 6 sf, (lv, .inr (1, [.int (zI w), .int (zI h), .ref ka, .ref ta, .int (zI sx), .int (zI sy), .int (zI fx), .int (zI fy), .int (zI lf), .int (zI un)])), zA cI ka 96 K]) [0, 1, 2, 3] (by decide) rfl
  have hFc := va_free (wc := [(sl, .inr (5, [.ref sh, .int (zI lc), .ref ru, .ref tr, .ref se])), zQ cL sh 6 sf, (lv, .inr (1, [.int (zI w), .int (zI h), .ref ka, .ref ta, .int (zI sx), .int (zI sy), .int (zI fx), .int (zI fy), .int (zI lf), .int (zI un)])), zA cI ka 96 K]) hD hS hA [0, 1, 2, 3] rfl
  refine vx_callv (vx_runV (As := [.int (zI L), .int (zI cx), .int (zI cy)]) (rest := []) ⟨hx, hb, hml, hown, hts⟩ (x_X5_setFlag_xc l hfl dC dI cI cZ cL cT cJ s.heap.size sl sh lc ru tr se sf L k lv w h ka ta sx sy fx fy lf un K cx cy (by first | assumption | omega) (by first | assumption | omega) (by first | assumption | omega) (by first | assumption | omega) (by first | assumption | omega) (by first | assumption | omega) (by first | assumption | omega) (by first | assumption | omega)) (cwV 3 hts gL_setFlag_X5_setFlag rfl rfl rfl (by decide +kernel) ⟨Nat.le_of_ble_eq_true rfl, Nat.le_of_ble_eq_true rfl⟩) ⟨zPx_blind, va_recv hK hPc (ci := 5) (q0 := 0) rfl rfl, zPx_pre hPc hDc hK hEx hS hFc⟩ rfl rfl hl.1 rfl (lv_room (Nat.le_of_ble_eq_true rfl)) dL_setFlag_4 ⟨Nat.le_of_ble_eq_true rfl, Nat.le_of_ble_eq_true rfl⟩) hS (fun q _ h => hFc q h) hFc (fun q _ h => hFc q h) (fun E9 ce9 q9 u t H1 locs ht hvm _ hB hz1 hk1 hS hc9 hv9 hf9 => ?_) (fun u t H1 locs ht hvm hw => hw.elim)
  obtain ⟨rfl, hP1, hK1, hD1⟩ := hB
  rw [ht] at hP1
  obtain ⟨hP, hD⟩ := va_join (wr := []) (w1 := [(sl, .inr (5, [.ref sh, .int (zI lc), .ref ru, .ref tr, .ref se])), zQ cL sh 6 sf, (lv, .inr (1, [.int (zI w), .int (zI h), .ref ka, .ref ta, .int (zI sx), .int (zI sy), .int (zI fx), .int (zI fy), .int (zI lf), .int (zI un)])), zA cI ka 96 K]) hP hD [0, 1, 2, 3] [] rfl rfl (by decide) (by decide) hk1 hFc hP1 hD1
  have hP : va_P (dC, dI) vwCl [(sl, .inr (5, [.ref sh, .int (zI lc), .ref ru, .ref tr, .ref se])), zQ cL sh 6 sf, (lv, .inr (1, [.int (zI w), .int (zI h), .ref ka, .ref ta, .int (zI sx), .int (zI sy), .int (zI fx), .int (zI fy), .int (zI lf), .int (zI un)])), zA cI ka 96 K] H1 := hP.sub [0, 1, 2, 3] rfl
  have hD : va_D A [(sl, .inr (5, [.ref sh, .int (zI lc), .ref ru, .ref tr, .ref se])), zQ cL sh 6 sf, (lv, .inr (1, [.int (zI w), .int (zI h), .ref ka, .ref ta, .int (zI sx), .int (zI sy), .int (zI fx), .int (zI fy), .int (zI lf), .int (zI un)])), zA cI ka 96 K] := hD.sub [0, 1, 2, 3] (by decide) rfl
  refine vx_catch (name := "java/lang/IllegalStateException") hown [({ startPc := 0, endPc := 7, handlerPc := 10, catchType := 21 } : ExceptionTableEntry)] ({ startPc := 0, endPc := 7, handlerPc := 14, catchType := 15 } : ExceptionTableEntry) [] ((vx_table (x := yL_setFlag) B (hts _ List.mem_cons_self)).trans rfl) (fun z hz => (List.mem_cons.mp hz).elim (fun e9 => by subst e9; exact Or.inr ⟨by decide, "java/lang/IndexOutOfBoundsException", hts (.classLink RL 21 "java/lang/IndexOutOfBoundsException") (by decide +kernel), hNc.2.2.2.1⟩) (fun hz => absurd hz List.not_mem_nil)) (by decide) (by decide) (hts (.classLink RL 15 "java/lang/IllegalStateException") (by decide +kernel)) (va_Nw.use rfl hEx.2.2.2.1) hc9 hv9 hf9 ?_
  generalize H1 = H at hP hS ⊢
  refine W.eq (g2 := F0 m 14 ls [.ref q9]) rfl ?_
  refine lv_astore (lv' := [(4, .ref q9), (0, .ref sl), (1, .int (zI L)), (2, .int (zI cx)), (3, .int (zI cy))]) hx hb dL_setFlag_14 hl (by decide) rfl (fun ls hl => ?_)
  refine lv_iconst (v := zI 2) hx hb dL_setFlag_16 (rfl) ?_
  have hP9 := hP.sub (ws' := [(sl, .inr (5, [.ref sh, .int (zI lc), .ref ru, .ref tr, .ref se])), zQ cL sh 6 sf, (lv, .inr (1, [.int (zI w), .int (zI h), .ref ka, .ref ta, .int (zI sx), .int (zI sy), .int (zI fx), .int (zI fy), .int (zI lf), .int (zI un)])), zA cI ka 96 K]) [0, 1, 2, 3] rfl
  have hD9 := hD.sub (ws' := [(sl, .inr (5, [.ref sh, .int (zI lc), .ref ru, .ref tr, .ref se])), zQ cL sh 6 sf, (lv, .inr (1, [.int (zI w), .int (zI h), .ref ka, .ref ta, .int (zI sx), .int (zI sy), .int (zI fx), .int (zI fy), .int (zI lf), .int (zI un)])), zA cI ka 96 K]) [0, 1, 2, 3] (by decide) rfl
  refine W.widen (k := 1) (n := 6) (Nat.le_of_ble_eq_true rfl) (Nat.le_of_ble_eq_true rfl) ?_
  have po : zI 2 = zI 2 ∧ (True) := by
    refine ⟨by first | rfl | (congr 1; omega) | (congr 1; simp [*]), ?_⟩
    trivial
  exact W.iret (v := zI 2) hx hb hr (fun t ht hW => ⟨⟨zI 2, (), rfl, po, by rw [ht]; exact hP9, va_K.moved hW.alike hK, hD9⟩, hS.F ht⟩) hS.2.2 dL_setFlag_17
set_option maxHeartbeats 4000000 in
set_option maxRecDepth 100000 in
theorem c_L_grow_xa (l : Launch) (hfl : l.stackTraces = false) (dC : Nat → ClassId) (dI : Nat → Nat → Nat) (cI cZ cL cT cJ : ClassId) (sz : Nat) (sl : Nat) (sh : Nat) (lc : Int) (ru : Nat) (tr : Nat) (se : Nat) (sf : Nat → Option Nat) (L : Int) (sd : Int) (ou : Nat) (gr9 : -2147483648 ≤ L ∧ L < 2147483648) (gb : L < 0 ∨ 6 ≤ L ∨ ∃ k : Nat, L = (k : Int) ∧ k < 6 ∧ sf k = none) : Met l yL_grow wsL_grow ({ frames := 8, cells := 1, slots := 6, locals := 135 }) (zPy (dC, dI) (zT cI cZ cL cT cJ) sz [.ref sl, .int (zI L), .int (zI sd), .ref ou] [(sl, .inr (5, [.ref sh, .int (zI lc), .ref ru, .ref tr, .ref se])), zQ cL sh 6 sf]) (va_Qi (fun (r9 : Int32) (u9 : Unit) => match u9 with | _ => r9 = zI 1 ∧ (True)) (zB (dC, dI) (zT cI cZ cL cT cJ) (va_A [(sl, .inr (5, [.ref sh, .int (zI lc), .ref ru, .ref tr, .ref se])), zQ cL sh 6 sf] sz) (fun (u9 : Unit) => match u9 with | _ => [(sl, .inr (5, [.ref sh, .int (zI lc), .ref ru, .ref tr, .ref se])), zQ cL sh 6 sf])) (va_A [(sl, .inr (5, [.ref sh, .int (zI lc), .ref ru, .ref tr, .ref se])), zQ cL sh 6 sf] sz)) 1 6 (va_A [(sl, .inr (5, [.ref sh, .int (zI lc), .ref ru, .ref tr, .ref se])), zQ cL sh 6 sf] sz) := by
  refine va_MetW (cc := cL_grow) (maxL := 5) (ret := (some .int)) (by decide) rfl ?_
  intro p e s m args below meth c s₁ B hml hv
  obtain ⟨rfl, hsz, hP, hK, hD0, hEx, hNc⟩ := hv
  have hx := B.exec
  have hb := B.bytes
  have hr := B.returns
  have hts := atoms_spec (ws := wsL_grow) B.pre
  have hown : s.vm.findClass RL = some m.cls := findClass_of_methodNamed B.named
  have hlocks := B.notSynchronized
  subst hsz
  have hD := hD0.self (sz := s.heap.size)
  generalize hAe : va_A [(sl, .inr (5, [.ref sh, .int (zI lc), .ref ru, .ref tr, .ref se])), zQ cL sh 6 sf] s.heap.size = A at hD hEx ⊢
  have hA : ∀ q : Nat, s.heap.size ≤ q → A q := fun q h => by rw [← hAe]; exact Or.inr h
  clear hAe hD0
  have hS : va_S A s.heap s.heap [] := va_S.rf
  have hP : va_P (dC, dI) vwCl [(sl, .inr (5, [.ref sh, .int (zI lc), .ref ru, .ref tr, .ref se])), zQ cL sh 6 sf] s.heap := hP
  have hl := lv_entry ([.ref sl, .int (zI L), .int (zI sd), .ref ou]) (n := 5) (Nat.le_of_ble_eq_true rfl)
  rw [lg_entry_eq]
  generalize (lg_sl ([.ref sl, .int (zI L), .int (zI sd), .ref ou]) ++ List.replicate (5 - (lg_sl ([.ref sl, .int (zI L), .int (zI sd), .ref ou])).length) Slot.unset).toArray = ls at hl ⊢
  have hl : lv_has ls 5 [(0, .ref sl), (1, .int (zI L)), (2, .int (zI sd)), (3, .ref ou)] := hl
  refine lv_aload_n hx hb dL_grow_0 rfl (lv_at hl 3 rfl) ?_
  refine lv_iconst (v := zI 0) hx hb dL_grow_1 (rfl) ?_
  refine lv_aload_n hx hb dL_grow_2 rfl (lv_at hl 0 rfl) ?_
  refine lv_iload_n hx hb dL_grow_3 rfl (lv_at hl 1 rfl) ?_
  refine lv_iload_n hx hb dL_grow_4 rfl (lv_at hl 2 rfl) ?_
  have hPc := hP.sub (ws' := [(sl, .inr (5, [.ref sh, .int (zI lc), .ref ru, .ref tr, .ref se])), zQ cL sh 6 sf]) [0, 1] rfl
  have hDc := hD.sub (ws' := [(sl, .inr (5, [.ref sh, .int (zI lc), .ref ru, .ref tr, .ref se])), zQ cL sh 6 sf]) [0, 1] (by decide) rfl
  have hFc := va_free (wc := [(sl, .inr (5, [.ref sh, .int (zI lc), .ref ru, .ref tr, .ref se])), zQ cL sh 6 sf]) hD hS hA [0, 1] rfl
  refine vx_calli (vx_runV (As := [.int (zI L), .int (zI sd)]) (rest := [.int (zI 0), .ref ou]) ⟨hx, hb, hml, hown, hts⟩ (x_X5_grow_xa l hfl dC dI cI cZ cL cT cJ s.heap.size sl sh lc ru tr se sf L sd (by first | assumption | omega) (by first | assumption | omega)) (cwV 2 hts gL_grow_X5_grow rfl rfl rfl (by decide +kernel) ⟨Nat.le_of_ble_eq_true rfl, Nat.le_of_ble_eq_true rfl⟩) ⟨zPx_blind, va_recv hK hPc (ci := 5) (q0 := 0) rfl rfl, zPx_pre hPc hDc hK hEx hS hFc⟩ rfl rfl hl.1 rfl (lv_room (Nat.le_of_ble_eq_true rfl)) dL_grow_5 ⟨Nat.le_of_ble_eq_true rfl, Nat.le_of_ble_eq_true rfl⟩) hS (fun q _ h => hFc q h) hFc (fun q _ h => hFc q h) (fun E9 ce9 q9 u t H1 locs ht hvm _ hB hz1 hk1 hS hc9 hv9 hf9 => ?_) (fun r u t H1 locs ht hvm hw => hw.elim)
  obtain ⟨rfl, hP1, hK1, hD1⟩ := hB
  rw [ht] at hP1
  obtain ⟨hP, hD⟩ := va_join (wr := []) (w1 := [(sl, .inr (5, [.ref sh, .int (zI lc), .ref ru, .ref tr, .ref se])), zQ cL sh 6 sf]) hP hD [0, 1] [] rfl rfl (by decide) (by decide) hk1 hFc hP1 hD1
  have hP : va_P (dC, dI) vwCl [(sl, .inr (5, [.ref sh, .int (zI lc), .ref ru, .ref tr, .ref se])), zQ cL sh 6 sf] H1 := hP.sub [0, 1] rfl
  have hD : va_D A [(sl, .inr (5, [.ref sh, .int (zI lc), .ref ru, .ref tr, .ref se])), zQ cL sh 6 sf] := hD.sub [0, 1] (by decide) rfl
  refine vx_catch (name := "java/lang/IndexOutOfBoundsException") hown [] ({ startPc := 0, endPc := 10, handlerPc := 13, catchType := 21 } : ExceptionTableEntry) [({ startPc := 0, endPc := 10, handlerPc := 17, catchType := 13 } : ExceptionTableEntry)] ((vx_table (x := yL_grow) B (hts _ List.mem_cons_self)).trans rfl) (fun z hz => by cases hz) (by decide) (by decide) (hts (.classLink RL 21 "java/lang/IndexOutOfBoundsException") (by decide +kernel)) (va_Nw.use rfl hEx.2.2.2.2.1) hc9 hv9 hf9 ?_
  generalize H1 = H at hP hS ⊢
  refine W.eq (g2 := F0 m 13 ls [.ref q9]) rfl ?_
  refine lv_astore (lv' := [(4, .ref q9), (0, .ref sl), (1, .int (zI L)), (2, .int (zI sd)), (3, .ref ou)]) hx hb dL_grow_13 hl (by decide) rfl (fun ls hl => ?_)
  refine lv_iconst (v := zI 1) hx hb dL_grow_15 (rfl) ?_
  have hP9 := hP.sub (ws' := [(sl, .inr (5, [.ref sh, .int (zI lc), .ref ru, .ref tr, .ref se])), zQ cL sh 6 sf]) [0, 1] rfl
  have hD9 := hD.sub (ws' := [(sl, .inr (5, [.ref sh, .int (zI lc), .ref ru, .ref tr, .ref se])), zQ cL sh 6 sf]) [0, 1] (by decide) rfl
  refine W.widen (k := 1) (n := 6) (Nat.le_of_ble_eq_true rfl) (Nat.le_of_ble_eq_true rfl) ?_
  have po : zI 1 = zI 1 ∧ (True) := by
    refine ⟨by first | rfl | (congr 1; omega) | (congr 1; simp [*]), ?_⟩
    trivial
  exact W.iret (v := zI 1) hx hb hr (fun t ht hW => ⟨⟨zI 1, (), rfl, po, by rw [ht]; exact hP9, va_K.moved hW.alike hK, hD9⟩, hS.F ht⟩) hS.2.2 dL_grow_16
set_option maxHeartbeats 4000000 in
set_option maxRecDepth 100000 in
theorem c_L_grow_xb (l : Launch) (hfl : l.stackTraces = false) (dC : Nat → ClassId) (dI : Nat → Nat → Nat) (cI cZ cL cT cJ : ClassId) (sz : Nat) (sl : Nat) (sh : Nat) (lc : Int) (ru : Nat) (tr : Nat) (se : Nat) (sf : Nat → Option Nat) (L : Int) (k : Nat) (lv : Nat) (sd : Int) (ou : Nat) (gk : L = (k : Int) ∧ k < 6) (gf : sf k = some lv) (r9s : -2147483648 ≤ sd ∧ sd < 2147483648) (gq : ¬ (0 ≤ sd ∧ sd ≤ 65535)) : Met l yL_grow wsL_grow ({ frames := 7, cells := 1, slots := 6, locals := 113 }) (zPy (dC, dI) (zT cI cZ cL cT cJ) sz [.ref sl, .int (zI L), .int (zI sd), .ref ou] [(sl, .inr (5, [.ref sh, .int (zI lc), .ref ru, .ref tr, .ref se])), zQ cL sh 6 sf]) (va_Qi (fun (r9 : Int32) (u9 : Unit) => match u9 with | _ => r9 = zI 2 ∧ (True)) (zB (dC, dI) (zT cI cZ cL cT cJ) (va_A [(sl, .inr (5, [.ref sh, .int (zI lc), .ref ru, .ref tr, .ref se])), zQ cL sh 6 sf] sz) (fun (u9 : Unit) => match u9 with | _ => [(sl, .inr (5, [.ref sh, .int (zI lc), .ref ru, .ref tr, .ref se])), zQ cL sh 6 sf])) (va_A [(sl, .inr (5, [.ref sh, .int (zI lc), .ref ru, .ref tr, .ref se])), zQ cL sh 6 sf] sz)) 1 6 (va_A [(sl, .inr (5, [.ref sh, .int (zI lc), .ref ru, .ref tr, .ref se])), zQ cL sh 6 sf] sz) := by
  refine va_MetW (cc := cL_grow) (maxL := 5) (ret := (some .int)) (by decide) rfl ?_
  intro p e s m args below meth c s₁ B hml hv
  obtain ⟨rfl, hsz, hP, hK, hD0, hEx, hNc⟩ := hv
  have hx := B.exec
  have hb := B.bytes
  have hr := B.returns
  have hts := atoms_spec (ws := wsL_grow) B.pre
  have hown : s.vm.findClass RL = some m.cls := findClass_of_methodNamed B.named
  have hlocks := B.notSynchronized
  subst hsz
  have hD := hD0.self (sz := s.heap.size)
  generalize hAe : va_A [(sl, .inr (5, [.ref sh, .int (zI lc), .ref ru, .ref tr, .ref se])), zQ cL sh 6 sf] s.heap.size = A at hD hEx ⊢
  have hA : ∀ q : Nat, s.heap.size ≤ q → A q := fun q h => by rw [← hAe]; exact Or.inr h
  clear hAe hD0
  have hS : va_S A s.heap s.heap [] := va_S.rf
  have hP : va_P (dC, dI) vwCl [(sl, .inr (5, [.ref sh, .int (zI lc), .ref ru, .ref tr, .ref se])), zQ cL sh 6 sf] s.heap := hP
  have hl := lv_entry ([.ref sl, .int (zI L), .int (zI sd), .ref ou]) (n := 5) (Nat.le_of_ble_eq_true rfl)
  rw [lg_entry_eq]
  generalize (lg_sl ([.ref sl, .int (zI L), .int (zI sd), .ref ou]) ++ List.replicate (5 - (lg_sl ([.ref sl, .int (zI L), .int (zI sd), .ref ou])).length) Slot.unset).toArray = ls at hl ⊢
  have hl : lv_has ls 5 [(0, .ref sl), (1, .int (zI L)), (2, .int (zI sd)), (3, .ref ou)] := hl
  refine lv_aload_n hx hb dL_grow_0 rfl (lv_at hl 3 rfl) ?_
  refine lv_iconst (v := zI 0) hx hb dL_grow_1 (rfl) ?_
  refine lv_aload_n hx hb dL_grow_2 rfl (lv_at hl 0 rfl) ?_
  refine lv_iload_n hx hb dL_grow_3 rfl (lv_at hl 1 rfl) ?_
  refine lv_iload_n hx hb dL_grow_4 rfl (lv_at hl 2 rfl) ?_
  have hPc := hP.sub (ws' := [(sl, .inr (5, [.ref sh, .int (zI lc), .ref ru, .ref tr, .ref se])), zQ cL sh 6 sf]) [0, 1] rfl
  have hDc := hD.sub (ws' := [(sl, .inr (5, [.ref sh, .int (zI lc), .ref ru, .ref tr, .ref se])), zQ cL sh 6 sf]) [0, 1] (by decide) rfl
  have hFc := va_free (wc := [(sl, .inr (5, [.ref sh, .int (zI lc), .ref ru, .ref tr, .ref se])), zQ cL sh 6 sf]) hD hS hA [0, 1] rfl
  refine vx_calli (vx_runV (As := [.int (zI L), .int (zI sd)]) (rest := [.int (zI 0), .ref ou]) ⟨hx, hb, hml, hown, hts⟩ (x_X5_grow_xb l hfl dC dI cI cZ cL cT cJ s.heap.size sl sh lc ru tr se sf L k lv sd (by first | assumption | omega) (by first | assumption | omega) (by first | assumption | omega) (by first | assumption | omega)) (cwV 2 hts gL_grow_X5_grow rfl rfl rfl (by decide +kernel) ⟨Nat.le_of_ble_eq_true rfl, Nat.le_of_ble_eq_true rfl⟩) ⟨zPx_blind, va_recv hK hPc (ci := 5) (q0 := 0) rfl rfl, zPx_pre hPc hDc hK hEx hS hFc⟩ rfl rfl hl.1 rfl (lv_room (Nat.le_of_ble_eq_true rfl)) dL_grow_5 ⟨Nat.le_of_ble_eq_true rfl, Nat.le_of_ble_eq_true rfl⟩) hS (fun q _ h => hFc q h) hFc (fun q _ h => hFc q h) (fun E9 ce9 q9 u t H1 locs ht hvm _ hB hz1 hk1 hS hc9 hv9 hf9 => ?_) (fun r u t H1 locs ht hvm hw => hw.elim)
  obtain ⟨rfl, hP1, hK1, hD1⟩ := hB
  rw [ht] at hP1
  obtain ⟨hP, hD⟩ := va_join (wr := []) (w1 := [(sl, .inr (5, [.ref sh, .int (zI lc), .ref ru, .ref tr, .ref se])), zQ cL sh 6 sf]) hP hD [0, 1] [] rfl rfl (by decide) (by decide) hk1 hFc hP1 hD1
  have hP : va_P (dC, dI) vwCl [(sl, .inr (5, [.ref sh, .int (zI lc), .ref ru, .ref tr, .ref se])), zQ cL sh 6 sf] H1 := hP.sub [0, 1] rfl
  have hD : va_D A [(sl, .inr (5, [.ref sh, .int (zI lc), .ref ru, .ref tr, .ref se])), zQ cL sh 6 sf] := hD.sub [0, 1] (by decide) rfl
  refine vx_catch (name := "java/lang/IllegalArgumentException") hown [({ startPc := 0, endPc := 10, handlerPc := 13, catchType := 21 } : ExceptionTableEntry)] ({ startPc := 0, endPc := 10, handlerPc := 17, catchType := 13 } : ExceptionTableEntry) [] ((vx_table (x := yL_grow) B (hts _ List.mem_cons_self)).trans rfl) (fun z hz => (List.mem_cons.mp hz).elim (fun e9 => by subst e9; exact Or.inr ⟨by decide, "java/lang/IndexOutOfBoundsException", hts (.classLink RL 21 "java/lang/IndexOutOfBoundsException") (by decide +kernel), hNc.2.1⟩) (fun hz => absurd hz List.not_mem_nil)) (by decide) (by decide) (hts (.classLink RL 13 "java/lang/IllegalArgumentException") (by decide +kernel)) (va_Nw.use rfl hEx.2.2.1) hc9 hv9 hf9 ?_
  generalize H1 = H at hP hS ⊢
  refine W.eq (g2 := F0 m 17 ls [.ref q9]) rfl ?_
  refine lv_astore (lv' := [(4, .ref q9), (0, .ref sl), (1, .int (zI L)), (2, .int (zI sd)), (3, .ref ou)]) hx hb dL_grow_17 hl (by decide) rfl (fun ls hl => ?_)
  refine lv_iconst (v := zI 2) hx hb dL_grow_19 (rfl) ?_
  have hP9 := hP.sub (ws' := [(sl, .inr (5, [.ref sh, .int (zI lc), .ref ru, .ref tr, .ref se])), zQ cL sh 6 sf]) [0, 1] rfl
  have hD9 := hD.sub (ws' := [(sl, .inr (5, [.ref sh, .int (zI lc), .ref ru, .ref tr, .ref se])), zQ cL sh 6 sf]) [0, 1] (by decide) rfl
  refine W.widen (k := 1) (n := 6) (Nat.le_of_ble_eq_true rfl) (Nat.le_of_ble_eq_true rfl) ?_
  have po : zI 2 = zI 2 ∧ (True) := by
    refine ⟨by first | rfl | (congr 1; omega) | (congr 1; simp [*]), ?_⟩
    trivial
  exact W.iret (v := zI 2) hx hb hr (fun t ht hW => ⟨⟨zI 2, (), rfl, po, by rw [ht]; exact hP9, va_K.moved hW.alike hK, hD9⟩, hS.F ht⟩) hS.2.2 dL_grow_20
set_option maxHeartbeats 4000000 in
set_option maxRecDepth 100000 in
theorem c_L_cell_xa (l : Launch) (hfl : l.stackTraces = false) (dC : Nat → ClassId) (dI : Nat → Nat → Nat) (cI cZ cL cT cJ : ClassId) (sz : Nat) (sl : Nat) (sh : Nat) (lc : Int) (ru : Nat) (tr : Nat) (se : Nat) (sf : Nat → Option Nat) (L : Int) (cx : Int) (cy : Int) (ou : Nat) (gr9 : -2147483648 ≤ L ∧ L < 2147483648) (gb : L < 0 ∨ 6 ≤ L ∨ ∃ k : Nat, L = (k : Int) ∧ k < 6 ∧ sf k = none) : Met l yL_cell wsL_cell ({ frames := 9, cells := 1, slots := 6, locals := 159 }) (zPy (dC, dI) (zT cI cZ cL cT cJ) sz [.ref sl, .int (zI L), .int (zI cx), .int (zI cy), .ref ou] [(sl, .inr (5, [.ref sh, .int (zI lc), .ref ru, .ref tr, .ref se])), zQ cL sh 6 sf]) (va_Qi (fun (r9 : Int32) (u9 : Unit) => match u9 with | _ => r9 = zI 1 ∧ (True)) (zB (dC, dI) (zT cI cZ cL cT cJ) (va_A [(sl, .inr (5, [.ref sh, .int (zI lc), .ref ru, .ref tr, .ref se])), zQ cL sh 6 sf] sz) (fun (u9 : Unit) => match u9 with | _ => [(sl, .inr (5, [.ref sh, .int (zI lc), .ref ru, .ref tr, .ref se])), zQ cL sh 6 sf])) (va_A [(sl, .inr (5, [.ref sh, .int (zI lc), .ref ru, .ref tr, .ref se])), zQ cL sh 6 sf] sz)) 1 6 (va_A [(sl, .inr (5, [.ref sh, .int (zI lc), .ref ru, .ref tr, .ref se])), zQ cL sh 6 sf] sz) := by
  refine va_MetW (cc := cL_cell) (maxL := 6) (ret := (some .int)) (by decide) rfl ?_
  intro p e s m args below meth c s₁ B hml hv
  obtain ⟨rfl, hsz, hP, hK, hD0, hEx, hNc⟩ := hv
  have hx := B.exec
  have hb := B.bytes
  have hr := B.returns
  have hts := atoms_spec (ws := wsL_cell) B.pre
  have hown : s.vm.findClass RL = some m.cls := findClass_of_methodNamed B.named
  have hlocks := B.notSynchronized
  subst hsz
  have hD := hD0.self (sz := s.heap.size)
  generalize hAe : va_A [(sl, .inr (5, [.ref sh, .int (zI lc), .ref ru, .ref tr, .ref se])), zQ cL sh 6 sf] s.heap.size = A at hD hEx ⊢
  have hA : ∀ q : Nat, s.heap.size ≤ q → A q := fun q h => by rw [← hAe]; exact Or.inr h
  clear hAe hD0
  have hS : va_S A s.heap s.heap [] := va_S.rf
  have hP : va_P (dC, dI) vwCl [(sl, .inr (5, [.ref sh, .int (zI lc), .ref ru, .ref tr, .ref se])), zQ cL sh 6 sf] s.heap := hP
  have hl := lv_entry ([.ref sl, .int (zI L), .int (zI cx), .int (zI cy), .ref ou]) (n := 6) (Nat.le_of_ble_eq_true rfl)
  rw [lg_entry_eq]
  generalize (lg_sl ([.ref sl, .int (zI L), .int (zI cx), .int (zI cy), .ref ou]) ++ List.replicate (6 - (lg_sl ([.ref sl, .int (zI L), .int (zI cx), .int (zI cy), .ref ou])).length) Slot.unset).toArray = ls at hl ⊢
  have hl : lv_has ls 6 [(0, .ref sl), (1, .int (zI L)), (2, .int (zI cx)), (3, .int (zI cy)), (4, .ref ou)] := hl
  refine lv_aload hx hb dL_cell_0 (lv_at hl 4 rfl) ?_
  refine lv_iconst (v := zI 0) hx hb dL_cell_2 (rfl) ?_
  refine lv_aload_n hx hb dL_cell_3 rfl (lv_at hl 0 rfl) ?_
  refine lv_iload_n hx hb dL_cell_4 rfl (lv_at hl 1 rfl) ?_
  refine lv_iload_n hx hb dL_cell_5 rfl (lv_at hl 2 rfl) ?_
  refine lv_iload_n hx hb dL_cell_6 rfl (lv_at hl 3 rfl) ?_
  have hPc := hP.sub (ws' := [(sl, .inr (5, [.ref sh, .int (zI lc), .ref ru, .ref tr, .ref se])), zQ cL sh 6 sf]) [0, 1] rfl
  have hDc := hD.sub (ws' := [(sl, .inr (5, [.ref sh, .int (zI lc), .ref ru, .ref tr, .ref se])), zQ cL sh 6 sf]) [0, 1] (by decide) rfl
  have hFc := va_free (wc := [(sl, .inr (5, [.ref sh, .int (zI lc), .ref ru, .ref tr, .ref se])), zQ cL sh 6 sf]) hD hS hA [0, 1] rfl
  refine vx_calli (vx_runV (As := [.int (zI L), .int (zI cx), .int (zI cy)]) (rest := [.int (zI 0), .ref ou]) ⟨hx, hb, hml, hown, hts⟩ (x_X5_cell_xa l hfl dC dI cI cZ cL cT cJ s.heap.size sl sh lc ru tr se sf L cx cy (by first | assumption | omega) (by first | assumption | omega)) (cwV 3 hts gL_cell_X5_cell rfl rfl rfl (by decide +kernel) ⟨Nat.le_of_ble_eq_true rfl, Nat.le_of_ble_eq_true rfl⟩) ⟨zPx_blind, va_recv hK hPc (ci := 5) (q0 := 0) rfl rfl, zPx_pre hPc hDc hK hEx hS hFc⟩ rfl rfl hl.1 rfl (lv_room (Nat.le_of_ble_eq_true rfl)) dL_cell_7 ⟨Nat.le_of_ble_eq_true rfl, Nat.le_of_ble_eq_true rfl⟩) hS (fun q _ h => hFc q h) hFc (fun q _ h => hFc q h) (fun E9 ce9 q9 u t H1 locs ht hvm _ hB hz1 hk1 hS hc9 hv9 hf9 => ?_) (fun r u t H1 locs ht hvm hw => hw.elim)
  obtain ⟨rfl, hP1, hK1, hD1⟩ := hB
  rw [ht] at hP1
  obtain ⟨hP, hD⟩ := va_join (wr := []) (w1 := [(sl, .inr (5, [.ref sh, .int (zI lc), .ref ru, .ref tr, .ref se])), zQ cL sh 6 sf]) hP hD [0, 1] [] rfl rfl (by decide) (by decide) hk1 hFc hP1 hD1
  have hP : va_P (dC, dI) vwCl [(sl, .inr (5, [.ref sh, .int (zI lc), .ref ru, .ref tr, .ref se])), zQ cL sh 6 sf] H1 := hP.sub [0, 1] rfl
  have hD : va_D A [(sl, .inr (5, [.ref sh, .int (zI lc), .ref ru, .ref tr, .ref se])), zQ cL sh 6 sf] := hD.sub [0, 1] (by decide) rfl
  refine vx_catch (name := "java/lang/IndexOutOfBoundsException") hown [] ({ startPc := 0, endPc := 12, handlerPc := 15, catchType := 21 } : ExceptionTableEntry) [] ((vx_table (x := yL_cell) B (hts _ List.mem_cons_self)).trans rfl) (fun z hz => by cases hz) (by decide) (by decide) (hts (.classLink RL 21 "java/lang/IndexOutOfBoundsException") (by decide +kernel)) (va_Nw.use rfl hEx.2.2.2.2.1) hc9 hv9 hf9 ?_
  generalize H1 = H at hP hS ⊢
  refine W.eq (g2 := F0 m 15 ls [.ref q9]) rfl ?_
  refine lv_astore (lv' := [(5, .ref q9), (0, .ref sl), (1, .int (zI L)), (2, .int (zI cx)), (3, .int (zI cy)), (4, .ref ou)]) hx hb dL_cell_15 hl (by decide) rfl (fun ls hl => ?_)
  refine lv_iconst (v := zI 1) hx hb dL_cell_17 (rfl) ?_
  have hP9 := hP.sub (ws' := [(sl, .inr (5, [.ref sh, .int (zI lc), .ref ru, .ref tr, .ref se])), zQ cL sh 6 sf]) [0, 1] rfl
  have hD9 := hD.sub (ws' := [(sl, .inr (5, [.ref sh, .int (zI lc), .ref ru, .ref tr, .ref se])), zQ cL sh 6 sf]) [0, 1] (by decide) rfl
  refine W.widen (k := 1) (n := 6) (Nat.le_of_ble_eq_true rfl) (Nat.le_of_ble_eq_true rfl) ?_
  have po : zI 1 = zI 1 ∧ (True) := by
    refine ⟨by first | rfl | (congr 1; omega) | (congr 1; simp [*]), ?_⟩
    trivial
  exact W.iret (v := zI 1) hx hb hr (fun t ht hW => ⟨⟨zI 1, (), rfl, po, by rw [ht]; exact hP9, va_K.moved hW.alike hK, hD9⟩, hS.F ht⟩) hS.2.2 dL_cell_18
set_option maxHeartbeats 4000000 in
set_option maxRecDepth 100000 in
theorem c_L_cell_xb (l : Launch) (hfl : l.stackTraces = false) (dC : Nat → ClassId) (dI : Nat → Nat → Nat) (cI cZ cL cT cJ : ClassId) (sz : Nat) (sl : Nat) (sh : Nat) (lc : Int) (ru : Nat) (tr : Nat) (se : Nat) (sf : Nat → Option Nat) (L : Int) (k : Nat) (lv : Nat) (w : Int) (h : Int) (ka : Nat) (ta : Nat) (sx : Int) (sy : Int) (fx : Int) (fy : Int) (lf : Int) (un : Int) (K : Int → Int) (cx : Int) (cy : Int) (ou : Nat) (gk : L = (k : Int) ∧ k < 6) (gf : sf k = some lv) (gw : 0 < w ∧ w ≤ 12) (gh : 0 < h ∧ h ≤ 8) (gK : Kin K) (r9x : -2147483648 ≤ cx ∧ cx < 2147483648) (r9y : -2147483648 ≤ cy ∧ cy < 2147483648) (gq : kd K w h cx cy = -1) : Met l yL_cell wsL_cell ({ frames := 8, cells := 1, slots := 6, locals := 137 }) (zPy (dC, dI) (zT cI cZ cL cT cJ) sz [.ref sl, .int (zI L), .int (zI cx), .int (zI cy), .ref ou] [(sl, .inr (5, [.ref sh, .int (zI lc), .ref ru, .ref tr, .ref se])), zQ cL sh 6 sf, (lv, .inr (1, [.int (zI w), .int (zI h), .ref ka, .ref ta, .int (zI sx), .int (zI sy), .int (zI fx), .int (zI fy), .int (zI lf), .int (zI un)])), zA cI ka 96 K]) (va_Qi (fun (r9 : Int32) (u9 : Unit) => match u9 with | _ => r9 = zI 1 ∧ (True)) (zB (dC, dI) (zT cI cZ cL cT cJ) (va_A [(sl, .inr (5, [.ref sh, .int (zI lc), .ref ru, .ref tr, .ref se])), zQ cL sh 6 sf, (lv, .inr (1, [.int (zI w), .int (zI h), .ref ka, .ref ta, .int (zI sx), .int (zI sy), .int (zI fx), .int (zI fy), .int (zI lf), .int (zI un)])), zA cI ka 96 K] sz) (fun (u9 : Unit) => match u9 with | _ => [(sl, .inr (5, [.ref sh, .int (zI lc), .ref ru, .ref tr, .ref se])), zQ cL sh 6 sf, (lv, .inr (1, [.int (zI w), .int (zI h), .ref ka, .ref ta, .int (zI sx), .int (zI sy), .int (zI fx), .int (zI fy), .int (zI lf), .int (zI un)])), zA cI ka 96 K])) (va_A [(sl, .inr (5, [.ref sh, .int (zI lc), .ref ru, .ref tr, .ref se])), zQ cL sh 6 sf, (lv, .inr (1, [.int (zI w), .int (zI h), .ref ka, .ref ta, .int (zI sx), .int (zI sy), .int (zI fx), .int (zI fy), .int (zI lf), .int (zI un)])), zA cI ka 96 K] sz)) 1 6 (va_A [(sl, .inr (5, [.ref sh, .int (zI lc), .ref ru, .ref tr, .ref se])), zQ cL sh 6 sf, (lv, .inr (1, [.int (zI w), .int (zI h), .ref ka, .ref ta, .int (zI sx), .int (zI sy), .int (zI fx), .int (zI fy), .int (zI lf), .int (zI un)])), zA cI ka 96 K] sz) := by
  refine va_MetW (cc := cL_cell) (maxL := 6) (ret := (some .int)) (by decide) rfl ?_
  intro p e s m args below meth c s₁ B hml hv
  obtain ⟨rfl, hsz, hP, hK, hD0, hEx, hNc⟩ := hv
  have hx := B.exec
  have hb := B.bytes
  have hr := B.returns
  have hts := atoms_spec (ws := wsL_cell) B.pre
  have hown : s.vm.findClass RL = some m.cls := findClass_of_methodNamed B.named
  have hlocks := B.notSynchronized
  subst hsz
  have hD := hD0.self (sz := s.heap.size)
  generalize hAe : va_A [(sl, .inr (5, [.ref sh, .int (zI lc), .ref ru, .ref tr, .ref se])), zQ cL sh 6 sf, (lv, .inr (1, [.int (zI w), .int (zI h), .ref ka, .ref ta, .int (zI sx), .int (zI sy), .int (zI fx), .int (zI fy), .int (zI lf), .int (zI un)])), zA cI ka 96 K] s.heap.size = A at hD hEx ⊢
  have hA : ∀ q : Nat, s.heap.size ≤ q → A q := fun q h => by rw [← hAe]; exact Or.inr h
  clear hAe hD0
  have hS : va_S A s.heap s.heap [] := va_S.rf
  have hP : va_P (dC, dI) vwCl [(sl, .inr (5, [.ref sh, .int (zI lc), .ref ru, .ref tr, .ref se])), zQ cL sh 6 sf, (lv, .inr (1, [.int (zI w), .int (zI h), .ref ka, .ref ta, .int (zI sx), .int (zI sy), .int (zI fx), .int (zI fy), .int (zI lf), .int (zI un)])), zA cI ka 96 K] s.heap := hP
  have hl := lv_entry ([.ref sl, .int (zI L), .int (zI cx), .int (zI cy), .ref ou]) (n := 6) (Nat.le_of_ble_eq_true rfl)
  rw [lg_entry_eq]
  generalize (lg_sl ([.ref sl, .int (zI L), .int (zI cx), .int (zI cy), .ref ou]) ++ List.replicate (6 - (lg_sl ([.ref sl, .int (zI L), .int (zI cx), .int (zI cy), .ref ou])).length) Slot.unset).toArray = ls at hl ⊢
  have hl : lv_has ls 6 [(0, .ref sl), (1, .int (zI L)), (2, .int (zI cx)), (3, .int (zI cy)), (4, .ref ou)] := hl
  refine lv_aload hx hb dL_cell_0 (lv_at hl 4 rfl) ?_
  refine lv_iconst (v := zI 0) hx hb dL_cell_2 (rfl) ?_
  refine lv_aload_n hx hb dL_cell_3 rfl (lv_at hl 0 rfl) ?_
  refine lv_iload_n hx hb dL_cell_4 rfl (lv_at hl 1 rfl) ?_
  refine lv_iload_n hx hb dL_cell_5 rfl (lv_at hl 2 rfl) ?_
  refine lv_iload_n hx hb dL_cell_6 rfl (lv_at hl 3 rfl) ?_
  have hPc := hP.sub (ws' := [(sl, .inr (5, [.ref sh, .int (zI lc), .ref ru, .ref tr, .ref se])), zQ cL sh 6 sf, (lv, .inr (1, [.int (zI w), .int (zI h), .ref ka, .ref ta, .int (zI sx), .int (zI sy), .int (zI fx), .int (zI fy), .int (zI lf), .int (zI un)])), zA cI ka 96 K]) [0, 1, 2, 3] rfl
  have hDc := hD.sub (ws' := [(sl, .inr (5, [.ref sh, .int (zI lc), .ref ru, .ref tr, .ref se])), zQ cL sh 6 sf, (lv, .inr (1, [.int (zI w), .int (zI h), .ref ka, .ref ta, .int (zI sx), .int (zI sy), .int (zI fx), .int (zI fy), .int (zI lf), .int (zI un)])), zA cI ka 96 K]) [0, 1, 2, 3] (by decide) rfl
  have hFc := va_free (wc := [(sl, .inr (5, [.ref sh, .int (zI lc), .ref ru, .ref tr, .ref se])), zQ cL sh 6 sf, (lv, .inr (1, [.int (zI w), .int (zI h), .ref ka, .ref ta, .int (zI sx), .int (zI sy), .int (zI fx), .int (zI fy), .int (zI lf), .int (zI un)])), zA cI ka 96 K]) hD hS hA [0, 1, 2, 3] rfl
  refine vx_calli (vx_runV (As := [.int (zI L), .int (zI cx), .int (zI cy)]) (rest := [.int (zI 0), .ref ou]) ⟨hx, hb, hml, hown, hts⟩ (x_X5_cell_xb l hfl dC dI cI cZ cL cT cJ s.heap.size sl sh lc ru tr se sf L k lv w h ka ta sx sy fx fy lf un K cx cy (by first | assumption | omega) (by first | assumption | omega) (by first | assumption | omega) (by first | assumption | omega) (by first | assumption | omega) (by first | assumption | omega) (by first | assumption | omega) (by first | assumption | omega)) (cwV 3 hts gL_cell_X5_cell rfl rfl rfl (by decide +kernel) ⟨Nat.le_of_ble_eq_true rfl, Nat.le_of_ble_eq_true rfl⟩) ⟨zPx_blind, va_recv hK hPc (ci := 5) (q0 := 0) rfl rfl, zPx_pre hPc hDc hK hEx hS hFc⟩ rfl rfl hl.1 rfl (lv_room (Nat.le_of_ble_eq_true rfl)) dL_cell_7 ⟨Nat.le_of_ble_eq_true rfl, Nat.le_of_ble_eq_true rfl⟩) hS (fun q _ h => hFc q h) hFc (fun q _ h => hFc q h) (fun E9 ce9 q9 u t H1 locs ht hvm _ hB hz1 hk1 hS hc9 hv9 hf9 => ?_) (fun r u t H1 locs ht hvm hw => hw.elim)
  obtain ⟨rfl, hP1, hK1, hD1⟩ := hB
  rw [ht] at hP1
  obtain ⟨hP, hD⟩ := va_join (wr := []) (w1 := [(sl, .inr (5, [.ref sh, .int (zI lc), .ref ru, .ref tr, .ref se])), zQ cL sh 6 sf, (lv, .inr (1, [.int (zI w), .int (zI h), .ref ka, .ref ta, .int (zI sx), .int (zI sy), .int (zI fx), .int (zI fy), .int (zI lf), .int (zI un)])), zA cI ka 96 K]) hP hD [0, 1, 2, 3] [] rfl rfl (by decide) (by decide) hk1 hFc hP1 hD1
  have hP : va_P (dC, dI) vwCl [(sl, .inr (5, [.ref sh, .int (zI lc), .ref ru, .ref tr, .ref se])), zQ cL sh 6 sf, (lv, .inr (1, [.int (zI w), .int (zI h), .ref ka, .ref ta, .int (zI sx), .int (zI sy), .int (zI fx), .int (zI fy), .int (zI lf), .int (zI un)])), zA cI ka 96 K] H1 := hP.sub [0, 1, 2, 3] rfl
  have hD : va_D A [(sl, .inr (5, [.ref sh, .int (zI lc), .ref ru, .ref tr, .ref se])), zQ cL sh 6 sf, (lv, .inr (1, [.int (zI w), .int (zI h), .ref ka, .ref ta, .int (zI sx), .int (zI sy), .int (zI fx), .int (zI fy), .int (zI lf), .int (zI un)])), zA cI ka 96 K] := hD.sub [0, 1, 2, 3] (by decide) rfl
  refine vx_catch (name := "java/lang/IndexOutOfBoundsException") hown [] ({ startPc := 0, endPc := 12, handlerPc := 15, catchType := 21 } : ExceptionTableEntry) [] ((vx_table (x := yL_cell) B (hts _ List.mem_cons_self)).trans rfl) (fun z hz => by cases hz) (by decide) (by decide) (hts (.classLink RL 21 "java/lang/IndexOutOfBoundsException") (by decide +kernel)) (va_Nw.use rfl hEx.2.2.2.2.1) hc9 hv9 hf9 ?_
  generalize H1 = H at hP hS ⊢
  refine W.eq (g2 := F0 m 15 ls [.ref q9]) rfl ?_
  refine lv_astore (lv' := [(5, .ref q9), (0, .ref sl), (1, .int (zI L)), (2, .int (zI cx)), (3, .int (zI cy)), (4, .ref ou)]) hx hb dL_cell_15 hl (by decide) rfl (fun ls hl => ?_)
  refine lv_iconst (v := zI 1) hx hb dL_cell_17 (rfl) ?_
  have hP9 := hP.sub (ws' := [(sl, .inr (5, [.ref sh, .int (zI lc), .ref ru, .ref tr, .ref se])), zQ cL sh 6 sf, (lv, .inr (1, [.int (zI w), .int (zI h), .ref ka, .ref ta, .int (zI sx), .int (zI sy), .int (zI fx), .int (zI fy), .int (zI lf), .int (zI un)])), zA cI ka 96 K]) [0, 1, 2, 3] rfl
  have hD9 := hD.sub (ws' := [(sl, .inr (5, [.ref sh, .int (zI lc), .ref ru, .ref tr, .ref se])), zQ cL sh 6 sf, (lv, .inr (1, [.int (zI w), .int (zI h), .ref ka, .ref ta, .int (zI sx), .int (zI sy), .int (zI fx), .int (zI fy), .int (zI lf), .int (zI un)])), zA cI ka 96 K]) [0, 1, 2, 3] (by decide) rfl
  refine W.widen (k := 1) (n := 6) (Nat.le_of_ble_eq_true rfl) (Nat.le_of_ble_eq_true rfl) ?_
  have po : zI 1 = zI 1 ∧ (True) := by
    refine ⟨by first | rfl | (congr 1; omega) | (congr 1; simp [*]), ?_⟩
    trivial
  exact W.iret (v := zI 1) hx hb hr (fun t ht hW => ⟨⟨zI 1, (), rfl, po, by rw [ht]; exact hP9, va_K.moved hW.alike hK, hD9⟩, hS.F ht⟩) hS.2.2 dL_cell_18
set_option maxHeartbeats 4000000 in
set_option maxRecDepth 100000 in
theorem c_L_solve_xa (l : Launch) (hfl : l.stackTraces = false) (dC : Nat → ClassId) (dI : Nat → Nat → Nat) (cI cZ cL cT cJ : ClassId) (sz : Nat) (sl : Nat) (sh : Nat) (lc : Int) (ru : Nat) (tr : Nat) (se : Nat) (sf : Nat → Option Nat) (L : Int) (ou : Nat) (gr9 : -2147483648 ≤ L ∧ L < 2147483648) (gb : L < 0 ∨ 6 ≤ L ∨ ∃ k : Nat, L = (k : Int) ∧ k < 6 ∧ sf k = none) : Met l yL_solve wsL_solve ({ frames := 8, cells := 1, slots := 6, locals := 144 }) (zPy (dC, dI) (zT cI cZ cL cT cJ) sz [.ref sl, .int (zI L), .ref ou] [(sl, .inr (5, [.ref sh, .int (zI lc), .ref ru, .ref tr, .ref se])), zQ cL sh 6 sf]) (va_Qi (fun (r9 : Int32) (u9 : Unit) => match u9 with | _ => r9 = zI 1 ∧ (True)) (zB (dC, dI) (zT cI cZ cL cT cJ) (va_A [(sl, .inr (5, [.ref sh, .int (zI lc), .ref ru, .ref tr, .ref se])), zQ cL sh 6 sf] sz) (fun (u9 : Unit) => match u9 with | _ => [(sl, .inr (5, [.ref sh, .int (zI lc), .ref ru, .ref tr, .ref se])), zQ cL sh 6 sf])) (va_A [(sl, .inr (5, [.ref sh, .int (zI lc), .ref ru, .ref tr, .ref se])), zQ cL sh 6 sf] sz)) 1 6 (va_A [(sl, .inr (5, [.ref sh, .int (zI lc), .ref ru, .ref tr, .ref se])), zQ cL sh 6 sf] sz) := by
  refine va_MetW (cc := cL_solve) (maxL := 4) (ret := (some .int)) (by decide) rfl ?_
  intro p e s m args below meth c s₁ B hml hv
  obtain ⟨rfl, hsz, hP, hK, hD0, hEx, hNc⟩ := hv
  have hx := B.exec
  have hb := B.bytes
  have hr := B.returns
  have hts := atoms_spec (ws := wsL_solve) B.pre
  have hown : s.vm.findClass RL = some m.cls := findClass_of_methodNamed B.named
  have hlocks := B.notSynchronized
  subst hsz
  have hD := hD0.self (sz := s.heap.size)
  generalize hAe : va_A [(sl, .inr (5, [.ref sh, .int (zI lc), .ref ru, .ref tr, .ref se])), zQ cL sh 6 sf] s.heap.size = A at hD hEx ⊢
  have hA : ∀ q : Nat, s.heap.size ≤ q → A q := fun q h => by rw [← hAe]; exact Or.inr h
  clear hAe hD0
  have hS : va_S A s.heap s.heap [] := va_S.rf
  have hP : va_P (dC, dI) vwCl [(sl, .inr (5, [.ref sh, .int (zI lc), .ref ru, .ref tr, .ref se])), zQ cL sh 6 sf] s.heap := hP
  have hl := lv_entry ([.ref sl, .int (zI L), .ref ou]) (n := 4) (Nat.le_of_ble_eq_true rfl)
  rw [lg_entry_eq]
  generalize (lg_sl ([.ref sl, .int (zI L), .ref ou]) ++ List.replicate (4 - (lg_sl ([.ref sl, .int (zI L), .ref ou])).length) Slot.unset).toArray = ls at hl ⊢
  have hl : lv_has ls 4 [(0, .ref sl), (1, .int (zI L)), (2, .ref ou)] := hl
  refine lv_aload_n hx hb dL_solve_0 rfl (lv_at hl 2 rfl) ?_
  refine lv_iconst (v := zI 0) hx hb dL_solve_1 (rfl) ?_
  refine lv_aload_n hx hb dL_solve_2 rfl (lv_at hl 0 rfl) ?_
  refine lv_iload_n hx hb dL_solve_3 rfl (lv_at hl 1 rfl) ?_
  have hPc := hP.sub (ws' := [(sl, .inr (5, [.ref sh, .int (zI lc), .ref ru, .ref tr, .ref se])), zQ cL sh 6 sf]) [0, 1] rfl
  have hDc := hD.sub (ws' := [(sl, .inr (5, [.ref sh, .int (zI lc), .ref ru, .ref tr, .ref se])), zQ cL sh 6 sf]) [0, 1] (by decide) rfl
  have hFc := va_free (wc := [(sl, .inr (5, [.ref sh, .int (zI lc), .ref ru, .ref tr, .ref se])), zQ cL sh 6 sf]) hD hS hA [0, 1] rfl
  refine vx_calli (vx_runV (As := [.int (zI L)]) (rest := [.int (zI 0), .ref ou]) ⟨hx, hb, hml, hown, hts⟩ (x_X5_solve_xa l hfl dC dI cI cZ cL cT cJ s.heap.size sl sh lc ru tr se sf L (by first | assumption | omega) (by first | assumption | omega)) (cwV 1 hts gL_solve_X5_solve rfl rfl rfl (by decide +kernel) ⟨Nat.le_of_ble_eq_true rfl, Nat.le_of_ble_eq_true rfl⟩) ⟨zPx_blind, va_recv hK hPc (ci := 5) (q0 := 0) rfl rfl, zPx_pre hPc hDc hK hEx hS hFc⟩ rfl rfl hl.1 rfl (lv_room (Nat.le_of_ble_eq_true rfl)) dL_solve_4 ⟨Nat.le_of_ble_eq_true rfl, Nat.le_of_ble_eq_true rfl⟩) hS (fun q _ h => hFc q h) hFc (fun q _ h => hFc q h) (fun E9 ce9 q9 u t H1 locs ht hvm _ hB hz1 hk1 hS hc9 hv9 hf9 => ?_) (fun r u t H1 locs ht hvm hw => hw.elim)
  obtain ⟨rfl, hP1, hK1, hD1⟩ := hB
  rw [ht] at hP1
  obtain ⟨hP, hD⟩ := va_join (wr := []) (w1 := [(sl, .inr (5, [.ref sh, .int (zI lc), .ref ru, .ref tr, .ref se])), zQ cL sh 6 sf]) hP hD [0, 1] [] rfl rfl (by decide) (by decide) hk1 hFc hP1 hD1
  have hP : va_P (dC, dI) vwCl [(sl, .inr (5, [.ref sh, .int (zI lc), .ref ru, .ref tr, .ref se])), zQ cL sh 6 sf] H1 := hP.sub [0, 1] rfl
  have hD : va_D A [(sl, .inr (5, [.ref sh, .int (zI lc), .ref ru, .ref tr, .ref se])), zQ cL sh 6 sf] := hD.sub [0, 1] (by decide) rfl
  refine vx_catch (name := "java/lang/IndexOutOfBoundsException") hown [] ({ startPc := 0, endPc := 9, handlerPc := 12, catchType := 21 } : ExceptionTableEntry) [] ((vx_table (x := yL_solve) B (hts _ List.mem_cons_self)).trans rfl) (fun z hz => by cases hz) (by decide) (by decide) (hts (.classLink RL 21 "java/lang/IndexOutOfBoundsException") (by decide +kernel)) (va_Nw.use rfl hEx.2.2.2.2.1) hc9 hv9 hf9 ?_
  generalize H1 = H at hP hS ⊢
  refine W.eq (g2 := F0 m 12 ls [.ref q9]) rfl ?_
  refine lv_astore_n (lv' := [(3, .ref q9), (0, .ref sl), (1, .int (zI L)), (2, .ref ou)]) hx hb dL_solve_12 rfl hl (by decide) rfl (fun ls hl => ?_)
  refine lv_iconst (v := zI 1) hx hb dL_solve_13 (rfl) ?_
  have hP9 := hP.sub (ws' := [(sl, .inr (5, [.ref sh, .int (zI lc), .ref ru, .ref tr, .ref se])), zQ cL sh 6 sf]) [0, 1] rfl
  have hD9 := hD.sub (ws' := [(sl, .inr (5, [.ref sh, .int (zI lc), .ref ru, .ref tr, .ref se])), zQ cL sh 6 sf]) [0, 1] (by decide) rfl
  refine W.widen (k := 1) (n := 6) (Nat.le_of_ble_eq_true rfl) (Nat.le_of_ble_eq_true rfl) ?_
  have po : zI 1 = zI 1 ∧ (True) := by
    refine ⟨by first | rfl | (congr 1; omega) | (congr 1; simp [*]), ?_⟩
    trivial
  exact W.iret (v := zI 1) hx hb hr (fun t ht hW => ⟨⟨zI 1, (), rfl, po, by rw [ht]; exact hP9, va_K.moved hW.alike hK, hD9⟩, hS.F ht⟩) hS.2.2 dL_solve_14
set_option maxHeartbeats 4000000 in
set_option maxRecDepth 100000 in
theorem c_L_way_xa (l : Launch) (hfl : l.stackTraces = false) (dC : Nat → ClassId) (dI : Nat → Nat → Nat) (cI cZ cL cT cJ : ClassId) (sz : Nat) (sl : Nat) (sh : Nat) (lc : Int) (ru : Nat) (tr : Nat) (se : Nat) (sf : Nat → Option Nat) (L : Int) (ou : Nat) (gr9 : -2147483648 ≤ L ∧ L < 2147483648) (gb : L < 0 ∨ 6 ≤ L ∨ ∃ k : Nat, L = (k : Int) ∧ k < 6 ∧ sf k = none) : Met l yL_way wsL_way ({ frames := 8, cells := 1, slots := 6, locals := 133 }) (zPy (dC, dI) (zT cI cZ cL cT cJ) sz [.ref sl, .int (zI L), .ref ou] [(sl, .inr (5, [.ref sh, .int (zI lc), .ref ru, .ref tr, .ref se])), zQ cL sh 6 sf]) (va_Qi (fun (r9 : Int32) (u9 : Unit) => match u9 with | _ => r9 = zI 1 ∧ (True)) (zB (dC, dI) (zT cI cZ cL cT cJ) (va_A [(sl, .inr (5, [.ref sh, .int (zI lc), .ref ru, .ref tr, .ref se])), zQ cL sh 6 sf] sz) (fun (u9 : Unit) => match u9 with | _ => [(sl, .inr (5, [.ref sh, .int (zI lc), .ref ru, .ref tr, .ref se])), zQ cL sh 6 sf])) (va_A [(sl, .inr (5, [.ref sh, .int (zI lc), .ref ru, .ref tr, .ref se])), zQ cL sh 6 sf] sz)) 1 6 (va_A [(sl, .inr (5, [.ref sh, .int (zI lc), .ref ru, .ref tr, .ref se])), zQ cL sh 6 sf] sz) := by
  refine va_MetW (cc := cL_way) (maxL := 4) (ret := (some .int)) (by decide) rfl ?_
  intro p e s m args below meth c s₁ B hml hv
  obtain ⟨rfl, hsz, hP, hK, hD0, hEx, hNc⟩ := hv
  have hx := B.exec
  have hb := B.bytes
  have hr := B.returns
  have hts := atoms_spec (ws := wsL_way) B.pre
  have hown : s.vm.findClass RL = some m.cls := findClass_of_methodNamed B.named
  have hlocks := B.notSynchronized
  subst hsz
  have hD := hD0.self (sz := s.heap.size)
  generalize hAe : va_A [(sl, .inr (5, [.ref sh, .int (zI lc), .ref ru, .ref tr, .ref se])), zQ cL sh 6 sf] s.heap.size = A at hD hEx ⊢
  have hA : ∀ q : Nat, s.heap.size ≤ q → A q := fun q h => by rw [← hAe]; exact Or.inr h
  clear hAe hD0
  have hS : va_S A s.heap s.heap [] := va_S.rf
  have hP : va_P (dC, dI) vwCl [(sl, .inr (5, [.ref sh, .int (zI lc), .ref ru, .ref tr, .ref se])), zQ cL sh 6 sf] s.heap := hP
  have hl := lv_entry ([.ref sl, .int (zI L), .ref ou]) (n := 4) (Nat.le_of_ble_eq_true rfl)
  rw [lg_entry_eq]
  generalize (lg_sl ([.ref sl, .int (zI L), .ref ou]) ++ List.replicate (4 - (lg_sl ([.ref sl, .int (zI L), .ref ou])).length) Slot.unset).toArray = ls at hl ⊢
  have hl : lv_has ls 4 [(0, .ref sl), (1, .int (zI L)), (2, .ref ou)] := hl
  refine lv_aload_n hx hb dL_way_0 rfl (lv_at hl 2 rfl) ?_
  refine lv_iconst (v := zI 0) hx hb dL_way_1 (rfl) ?_
  refine lv_aload_n hx hb dL_way_2 rfl (lv_at hl 0 rfl) ?_
  refine lv_iload_n hx hb dL_way_3 rfl (lv_at hl 1 rfl) ?_
  have hPc := hP.sub (ws' := [(sl, .inr (5, [.ref sh, .int (zI lc), .ref ru, .ref tr, .ref se])), zQ cL sh 6 sf]) [0, 1] rfl
  have hDc := hD.sub (ws' := [(sl, .inr (5, [.ref sh, .int (zI lc), .ref ru, .ref tr, .ref se])), zQ cL sh 6 sf]) [0, 1] (by decide) rfl
  have hFc := va_free (wc := [(sl, .inr (5, [.ref sh, .int (zI lc), .ref ru, .ref tr, .ref se])), zQ cL sh 6 sf]) hD hS hA [0, 1] rfl
  refine vx_calli (vx_runV (As := [.int (zI L)]) (rest := [.int (zI 0), .ref ou]) ⟨hx, hb, hml, hown, hts⟩ (x_X5_way_xa l hfl dC dI cI cZ cL cT cJ s.heap.size sl sh lc ru tr se sf L (by first | assumption | omega) (by first | assumption | omega)) (cwV 1 hts gL_way_X5_way rfl rfl rfl (by decide +kernel) ⟨Nat.le_of_ble_eq_true rfl, Nat.le_of_ble_eq_true rfl⟩) ⟨zPx_blind, va_recv hK hPc (ci := 5) (q0 := 0) rfl rfl, zPx_pre hPc hDc hK hEx hS hFc⟩ rfl rfl hl.1 rfl (lv_room (Nat.le_of_ble_eq_true rfl)) dL_way_4 ⟨Nat.le_of_ble_eq_true rfl, Nat.le_of_ble_eq_true rfl⟩) hS (fun q _ h => hFc q h) hFc (fun q _ h => hFc q h) (fun E9 ce9 q9 u t H1 locs ht hvm _ hB hz1 hk1 hS hc9 hv9 hf9 => ?_) (fun r u t H1 locs ht hvm hw => hw.elim)
  obtain ⟨rfl, hP1, hK1, hD1⟩ := hB
  rw [ht] at hP1
  obtain ⟨hP, hD⟩ := va_join (wr := []) (w1 := [(sl, .inr (5, [.ref sh, .int (zI lc), .ref ru, .ref tr, .ref se])), zQ cL sh 6 sf]) hP hD [0, 1] [] rfl rfl (by decide) (by decide) hk1 hFc hP1 hD1
  have hP : va_P (dC, dI) vwCl [(sl, .inr (5, [.ref sh, .int (zI lc), .ref ru, .ref tr, .ref se])), zQ cL sh 6 sf] H1 := hP.sub [0, 1] rfl
  have hD : va_D A [(sl, .inr (5, [.ref sh, .int (zI lc), .ref ru, .ref tr, .ref se])), zQ cL sh 6 sf] := hD.sub [0, 1] (by decide) rfl
  refine vx_catch (name := "java/lang/IndexOutOfBoundsException") hown [] ({ startPc := 0, endPc := 9, handlerPc := 12, catchType := 21 } : ExceptionTableEntry) [] ((vx_table (x := yL_way) B (hts _ List.mem_cons_self)).trans rfl) (fun z hz => by cases hz) (by decide) (by decide) (hts (.classLink RL 21 "java/lang/IndexOutOfBoundsException") (by decide +kernel)) (va_Nw.use rfl hEx.2.2.2.2.1) hc9 hv9 hf9 ?_
  generalize H1 = H at hP hS ⊢
  refine W.eq (g2 := F0 m 12 ls [.ref q9]) rfl ?_
  refine lv_astore_n (lv' := [(3, .ref q9), (0, .ref sl), (1, .int (zI L)), (2, .ref ou)]) hx hb dL_way_12 rfl hl (by decide) rfl (fun ls hl => ?_)
  refine lv_iconst (v := zI 1) hx hb dL_way_13 (rfl) ?_
  have hP9 := hP.sub (ws' := [(sl, .inr (5, [.ref sh, .int (zI lc), .ref ru, .ref tr, .ref se])), zQ cL sh 6 sf]) [0, 1] rfl
  have hD9 := hD.sub (ws' := [(sl, .inr (5, [.ref sh, .int (zI lc), .ref ru, .ref tr, .ref se])), zQ cL sh 6 sf]) [0, 1] (by decide) rfl
  refine W.widen (k := 1) (n := 6) (Nat.le_of_ble_eq_true rfl) (Nat.le_of_ble_eq_true rfl) ?_
  have po : zI 1 = zI 1 ∧ (True) := by
    refine ⟨by first | rfl | (congr 1; omega) | (congr 1; simp [*]), ?_⟩
    trivial
  exact W.iret (v := zI 1) hx hb hr (fun t ht hW => ⟨⟨zI 1, (), rfl, po, by rw [ht]; exact hP9, va_K.moved hW.alike hK, hD9⟩, hS.F ht⟩) hS.2.2 dL_way_14
set_option maxHeartbeats 4000000 in
set_option maxRecDepth 100000 in
theorem c_L_open_xa (l : Launch) (hfl : l.stackTraces = false) (dC : Nat → ClassId) (dI : Nat → Nat → Nat) (cI cZ cL cT cJ : ClassId) (sz : Nat) (sl : Nat) (sh : Nat) (lc : Int) (ru : Nat) (tr : Nat) (se : Nat) (sf : Nat → Option Nat) (L : Int) (ou : Nat) (gr9 : -2147483648 ≤ L ∧ L < 2147483648) (gb : L < 0 ∨ 6 ≤ L ∨ ∃ k : Nat, L = (k : Int) ∧ k < 6 ∧ sf k = none) : Met l yL_open wsL_open ({ frames := 8, cells := 1, slots := 6, locals := 135 }) (zPy (dC, dI) (zT cI cZ cL cT cJ) sz [.ref sl, .int (zI L), .ref ou] [(sl, .inr (5, [.ref sh, .int (zI lc), .ref ru, .ref tr, .ref se])), zQ cL sh 6 sf]) (va_Qi (fun (r9 : Int32) (u9 : Unit) => match u9 with | _ => r9 = zI 1 ∧ (True)) (zB (dC, dI) (zT cI cZ cL cT cJ) (va_A [(sl, .inr (5, [.ref sh, .int (zI lc), .ref ru, .ref tr, .ref se])), zQ cL sh 6 sf] sz) (fun (u9 : Unit) => match u9 with | _ => [(sl, .inr (5, [.ref sh, .int (zI lc), .ref ru, .ref tr, .ref se])), zQ cL sh 6 sf])) (va_A [(sl, .inr (5, [.ref sh, .int (zI lc), .ref ru, .ref tr, .ref se])), zQ cL sh 6 sf] sz)) 1 6 (va_A [(sl, .inr (5, [.ref sh, .int (zI lc), .ref ru, .ref tr, .ref se])), zQ cL sh 6 sf] sz) := by
  refine va_MetW (cc := cL_open) (maxL := 4) (ret := (some .int)) (by decide) rfl ?_
  intro p e s m args below meth c s₁ B hml hv
  obtain ⟨rfl, hsz, hP, hK, hD0, hEx, hNc⟩ := hv
  have hx := B.exec
  have hb := B.bytes
  have hr := B.returns
  have hts := atoms_spec (ws := wsL_open) B.pre
  have hown : s.vm.findClass RL = some m.cls := findClass_of_methodNamed B.named
  have hlocks := B.notSynchronized
  subst hsz
  have hD := hD0.self (sz := s.heap.size)
  generalize hAe : va_A [(sl, .inr (5, [.ref sh, .int (zI lc), .ref ru, .ref tr, .ref se])), zQ cL sh 6 sf] s.heap.size = A at hD hEx ⊢
  have hA : ∀ q : Nat, s.heap.size ≤ q → A q := fun q h => by rw [← hAe]; exact Or.inr h
  clear hAe hD0
  have hS : va_S A s.heap s.heap [] := va_S.rf
  have hP : va_P (dC, dI) vwCl [(sl, .inr (5, [.ref sh, .int (zI lc), .ref ru, .ref tr, .ref se])), zQ cL sh 6 sf] s.heap := hP
  have hl := lv_entry ([.ref sl, .int (zI L), .ref ou]) (n := 4) (Nat.le_of_ble_eq_true rfl)
  rw [lg_entry_eq]
  generalize (lg_sl ([.ref sl, .int (zI L), .ref ou]) ++ List.replicate (4 - (lg_sl ([.ref sl, .int (zI L), .ref ou])).length) Slot.unset).toArray = ls at hl ⊢
  have hl : lv_has ls 4 [(0, .ref sl), (1, .int (zI L)), (2, .ref ou)] := hl
  refine lv_aload_n hx hb dL_open_0 rfl (lv_at hl 2 rfl) ?_
  refine lv_iconst (v := zI 0) hx hb dL_open_1 (rfl) ?_
  refine lv_aload_n hx hb dL_open_2 rfl (lv_at hl 0 rfl) ?_
  refine lv_iload_n hx hb dL_open_3 rfl (lv_at hl 1 rfl) ?_
  have hPc := hP.sub (ws' := [(sl, .inr (5, [.ref sh, .int (zI lc), .ref ru, .ref tr, .ref se])), zQ cL sh 6 sf]) [0, 1] rfl
  have hDc := hD.sub (ws' := [(sl, .inr (5, [.ref sh, .int (zI lc), .ref ru, .ref tr, .ref se])), zQ cL sh 6 sf]) [0, 1] (by decide) rfl
  have hFc := va_free (wc := [(sl, .inr (5, [.ref sh, .int (zI lc), .ref ru, .ref tr, .ref se])), zQ cL sh 6 sf]) hD hS hA [0, 1] rfl
  refine vx_calli (vx_runV (As := [.int (zI L)]) (rest := [.int (zI 0), .ref ou]) ⟨hx, hb, hml, hown, hts⟩ (x_X5_open_xa l hfl dC dI cI cZ cL cT cJ s.heap.size sl sh lc ru tr se sf L (by first | assumption | omega) (by first | assumption | omega)) (cwV 1 hts gL_open_X5_open rfl rfl rfl (by decide +kernel) ⟨Nat.le_of_ble_eq_true rfl, Nat.le_of_ble_eq_true rfl⟩) ⟨zPx_blind, va_recv hK hPc (ci := 5) (q0 := 0) rfl rfl, zPx_pre hPc hDc hK hEx hS hFc⟩ rfl rfl hl.1 rfl (lv_room (Nat.le_of_ble_eq_true rfl)) dL_open_4 ⟨Nat.le_of_ble_eq_true rfl, Nat.le_of_ble_eq_true rfl⟩) hS (fun q _ h => hFc q h) hFc (fun q _ h => hFc q h) (fun E9 ce9 q9 u t H1 locs ht hvm _ hB hz1 hk1 hS hc9 hv9 hf9 => ?_) (fun r u t H1 locs ht hvm hw => hw.elim)
  obtain ⟨rfl, hP1, hK1, hD1⟩ := hB
  rw [ht] at hP1
  obtain ⟨hP, hD⟩ := va_join (wr := []) (w1 := [(sl, .inr (5, [.ref sh, .int (zI lc), .ref ru, .ref tr, .ref se])), zQ cL sh 6 sf]) hP hD [0, 1] [] rfl rfl (by decide) (by decide) hk1 hFc hP1 hD1
  have hP : va_P (dC, dI) vwCl [(sl, .inr (5, [.ref sh, .int (zI lc), .ref ru, .ref tr, .ref se])), zQ cL sh 6 sf] H1 := hP.sub [0, 1] rfl
  have hD : va_D A [(sl, .inr (5, [.ref sh, .int (zI lc), .ref ru, .ref tr, .ref se])), zQ cL sh 6 sf] := hD.sub [0, 1] (by decide) rfl
  refine vx_catch (name := "java/lang/IndexOutOfBoundsException") hown [] ({ startPc := 0, endPc := 16, handlerPc := 19, catchType := 21 } : ExceptionTableEntry) [({ startPc := 0, endPc := 16, handlerPc := 22, catchType := 15 } : ExceptionTableEntry)] ((vx_table (x := yL_open) B (hts _ List.mem_cons_self)).trans rfl) (fun z hz => by cases hz) (by decide) (by decide) (hts (.classLink RL 21 "java/lang/IndexOutOfBoundsException") (by decide +kernel)) (va_Nw.use rfl hEx.2.2.2.2.1) hc9 hv9 hf9 ?_
  generalize H1 = H at hP hS ⊢
  refine W.eq (g2 := F0 m 19 ls [.ref q9]) rfl ?_
  refine lv_astore_n (lv' := [(3, .ref q9), (0, .ref sl), (1, .int (zI L)), (2, .ref ou)]) hx hb dL_open_19 rfl hl (by decide) rfl (fun ls hl => ?_)
  refine lv_iconst (v := zI 1) hx hb dL_open_20 (rfl) ?_
  have hP9 := hP.sub (ws' := [(sl, .inr (5, [.ref sh, .int (zI lc), .ref ru, .ref tr, .ref se])), zQ cL sh 6 sf]) [0, 1] rfl
  have hD9 := hD.sub (ws' := [(sl, .inr (5, [.ref sh, .int (zI lc), .ref ru, .ref tr, .ref se])), zQ cL sh 6 sf]) [0, 1] (by decide) rfl
  refine W.widen (k := 1) (n := 6) (Nat.le_of_ble_eq_true rfl) (Nat.le_of_ble_eq_true rfl) ?_
  have po : zI 1 = zI 1 ∧ (True) := by
    refine ⟨by first | rfl | (congr 1; omega) | (congr 1; simp [*]), ?_⟩
    trivial
  exact W.iret (v := zI 1) hx hb hr (fun t ht hW => ⟨⟨zI 1, (), rfl, po, by rw [ht]; exact hP9, va_K.moved hW.alike hK, hD9⟩, hS.F ht⟩) hS.2.2 dL_open_21
set_option maxHeartbeats 4000000 in
set_option maxRecDepth 100000 in
theorem c_L_isOpen_xa (l : Launch) (hfl : l.stackTraces = false) (dC : Nat → ClassId) (dI : Nat → Nat → Nat) (cI cZ cL cT cJ : ClassId) (sz : Nat) (sl : Nat) (sh : Nat) (lc : Int) (ru : Nat) (tr : Nat) (se : Nat) (sf : Nat → Option Nat) (L : Int) (ou : Nat) (gr9 : -2147483648 ≤ L ∧ L < 2147483648) (gb : L < 0 ∨ 6 ≤ L ∨ ∃ k : Nat, L = (k : Int) ∧ k < 6 ∧ sf k = none) : Met l yL_isOpen wsL_isOpen ({ frames := 8, cells := 1, slots := 6, locals := 133 }) (zPy (dC, dI) (zT cI cZ cL cT cJ) sz [.ref sl, .int (zI L), .ref ou] [(sl, .inr (5, [.ref sh, .int (zI lc), .ref ru, .ref tr, .ref se])), zQ cL sh 6 sf]) (va_Qi (fun (r9 : Int32) (u9 : Unit) => match u9 with | _ => r9 = zI 1 ∧ (True)) (zB (dC, dI) (zT cI cZ cL cT cJ) (va_A [(sl, .inr (5, [.ref sh, .int (zI lc), .ref ru, .ref tr, .ref se])), zQ cL sh 6 sf] sz) (fun (u9 : Unit) => match u9 with | _ => [(sl, .inr (5, [.ref sh, .int (zI lc), .ref ru, .ref tr, .ref se])), zQ cL sh 6 sf])) (va_A [(sl, .inr (5, [.ref sh, .int (zI lc), .ref ru, .ref tr, .ref se])), zQ cL sh 6 sf] sz)) 1 6 (va_A [(sl, .inr (5, [.ref sh, .int (zI lc), .ref ru, .ref tr, .ref se])), zQ cL sh 6 sf] sz) := by
  refine va_MetW (cc := cL_isOpen) (maxL := 4) (ret := (some .int)) (by decide) rfl ?_
  intro p e s m args below meth c s₁ B hml hv
  obtain ⟨rfl, hsz, hP, hK, hD0, hEx, hNc⟩ := hv
  have hx := B.exec
  have hb := B.bytes
  have hr := B.returns
  have hts := atoms_spec (ws := wsL_isOpen) B.pre
  have hown : s.vm.findClass RL = some m.cls := findClass_of_methodNamed B.named
  have hlocks := B.notSynchronized
  subst hsz
  have hD := hD0.self (sz := s.heap.size)
  generalize hAe : va_A [(sl, .inr (5, [.ref sh, .int (zI lc), .ref ru, .ref tr, .ref se])), zQ cL sh 6 sf] s.heap.size = A at hD hEx ⊢
  have hA : ∀ q : Nat, s.heap.size ≤ q → A q := fun q h => by rw [← hAe]; exact Or.inr h
  clear hAe hD0
  have hS : va_S A s.heap s.heap [] := va_S.rf
  have hP : va_P (dC, dI) vwCl [(sl, .inr (5, [.ref sh, .int (zI lc), .ref ru, .ref tr, .ref se])), zQ cL sh 6 sf] s.heap := hP
  have hl := lv_entry ([.ref sl, .int (zI L), .ref ou]) (n := 4) (Nat.le_of_ble_eq_true rfl)
  rw [lg_entry_eq]
  generalize (lg_sl ([.ref sl, .int (zI L), .ref ou]) ++ List.replicate (4 - (lg_sl ([.ref sl, .int (zI L), .ref ou])).length) Slot.unset).toArray = ls at hl ⊢
  have hl : lv_has ls 4 [(0, .ref sl), (1, .int (zI L)), (2, .ref ou)] := hl
  refine lv_aload_n hx hb dL_isOpen_0 rfl (lv_at hl 2 rfl) ?_
  refine lv_iconst (v := zI 0) hx hb dL_isOpen_1 (rfl) ?_
  refine lv_aload_n hx hb dL_isOpen_2 rfl (lv_at hl 0 rfl) ?_
  refine lv_iload_n hx hb dL_isOpen_3 rfl (lv_at hl 1 rfl) ?_
  have hPc := hP.sub (ws' := [(sl, .inr (5, [.ref sh, .int (zI lc), .ref ru, .ref tr, .ref se])), zQ cL sh 6 sf]) [0, 1] rfl
  have hDc := hD.sub (ws' := [(sl, .inr (5, [.ref sh, .int (zI lc), .ref ru, .ref tr, .ref se])), zQ cL sh 6 sf]) [0, 1] (by decide) rfl
  have hFc := va_free (wc := [(sl, .inr (5, [.ref sh, .int (zI lc), .ref ru, .ref tr, .ref se])), zQ cL sh 6 sf]) hD hS hA [0, 1] rfl
  refine vx_calli (vx_runV (As := [.int (zI L)]) (rest := [.int (zI 0), .ref ou]) ⟨hx, hb, hml, hown, hts⟩ (x_X5_isOpen_xa l hfl dC dI cI cZ cL cT cJ s.heap.size sl sh lc ru tr se sf L (by first | assumption | omega) (by first | assumption | omega)) (cwV 1 hts gL_isOpen_X5_isOpen rfl rfl rfl (by decide +kernel) ⟨Nat.le_of_ble_eq_true rfl, Nat.le_of_ble_eq_true rfl⟩) ⟨zPx_blind, va_recv hK hPc (ci := 5) (q0 := 0) rfl rfl, zPx_pre hPc hDc hK hEx hS hFc⟩ rfl rfl hl.1 rfl (lv_room (Nat.le_of_ble_eq_true rfl)) dL_isOpen_4 ⟨Nat.le_of_ble_eq_true rfl, Nat.le_of_ble_eq_true rfl⟩) hS (fun q _ h => hFc q h) hFc (fun q _ h => hFc q h) (fun E9 ce9 q9 u t H1 locs ht hvm _ hB hz1 hk1 hS hc9 hv9 hf9 => ?_) (fun r u t H1 locs ht hvm hw => hw.elim)
  obtain ⟨rfl, hP1, hK1, hD1⟩ := hB
  rw [ht] at hP1
  obtain ⟨hP, hD⟩ := va_join (wr := []) (w1 := [(sl, .inr (5, [.ref sh, .int (zI lc), .ref ru, .ref tr, .ref se])), zQ cL sh 6 sf]) hP hD [0, 1] [] rfl rfl (by decide) (by decide) hk1 hFc hP1 hD1
  have hP : va_P (dC, dI) vwCl [(sl, .inr (5, [.ref sh, .int (zI lc), .ref ru, .ref tr, .ref se])), zQ cL sh 6 sf] H1 := hP.sub [0, 1] rfl
  have hD : va_D A [(sl, .inr (5, [.ref sh, .int (zI lc), .ref ru, .ref tr, .ref se])), zQ cL sh 6 sf] := hD.sub [0, 1] (by decide) rfl
  refine vx_catch (name := "java/lang/IndexOutOfBoundsException") hown [] ({ startPc := 0, endPc := 16, handlerPc := 19, catchType := 21 } : ExceptionTableEntry) [] ((vx_table (x := yL_isOpen) B (hts _ List.mem_cons_self)).trans rfl) (fun z hz => by cases hz) (by decide) (by decide) (hts (.classLink RL 21 "java/lang/IndexOutOfBoundsException") (by decide +kernel)) (va_Nw.use rfl hEx.2.2.2.2.1) hc9 hv9 hf9 ?_
  generalize H1 = H at hP hS ⊢
  refine W.eq (g2 := F0 m 19 ls [.ref q9]) rfl ?_
  refine lv_astore_n (lv' := [(3, .ref q9), (0, .ref sl), (1, .int (zI L)), (2, .ref ou)]) hx hb dL_isOpen_19 rfl hl (by decide) rfl (fun ls hl => ?_)
  refine lv_iconst (v := zI 1) hx hb dL_isOpen_20 (rfl) ?_
  have hP9 := hP.sub (ws' := [(sl, .inr (5, [.ref sh, .int (zI lc), .ref ru, .ref tr, .ref se])), zQ cL sh 6 sf]) [0, 1] rfl
  have hD9 := hD.sub (ws' := [(sl, .inr (5, [.ref sh, .int (zI lc), .ref ru, .ref tr, .ref se])), zQ cL sh 6 sf]) [0, 1] (by decide) rfl
  refine W.widen (k := 1) (n := 6) (Nat.le_of_ble_eq_true rfl) (Nat.le_of_ble_eq_true rfl) ?_
  have po : zI 1 = zI 1 ∧ (True) := by
    refine ⟨by first | rfl | (congr 1; omega) | (congr 1; simp [*]), ?_⟩
    trivial
  exact W.iret (v := zI 1) hx hb hr (fun t ht hW => ⟨⟨zI 1, (), rfl, po, by rw [ht]; exact hP9, va_K.moved hW.alike hK, hD9⟩, hS.F ht⟩) hS.2.2 dL_isOpen_21
set_option maxHeartbeats 4000000 in
set_option maxRecDepth 100000 in
theorem c_L_bestPlayer_xa (l : Launch) (hfl : l.stackTraces = false) (dC : Nat → ClassId) (dI : Nat → Nat → Nat) (cI cZ cL cT cJ : ClassId) (sz : Nat) (sl : Nat) (sh : Nat) (lc : Int) (ru : Nat) (tr : Nat) (se : Nat) (sf : Nat → Option Nat) (L : Int) (ou : Nat) (gr9 : -2147483648 ≤ L ∧ L < 2147483648) (gb : L < 0 ∨ 6 ≤ L ∨ ∃ k : Nat, L = (k : Int) ∧ k < 6 ∧ sf k = none) : Met l yL_bestPlayer wsL_bestPlayer ({ frames := 8, cells := 1, slots := 6, locals := 133 }) (zPy (dC, dI) (zT cI cZ cL cT cJ) sz [.ref sl, .int (zI L), .ref ou] [(sl, .inr (5, [.ref sh, .int (zI lc), .ref ru, .ref tr, .ref se])), zQ cL sh 6 sf]) (va_Qi (fun (r9 : Int32) (u9 : Unit) => match u9 with | _ => r9 = zI 1 ∧ (True)) (zB (dC, dI) (zT cI cZ cL cT cJ) (va_A [(sl, .inr (5, [.ref sh, .int (zI lc), .ref ru, .ref tr, .ref se])), zQ cL sh 6 sf] sz) (fun (u9 : Unit) => match u9 with | _ => [(sl, .inr (5, [.ref sh, .int (zI lc), .ref ru, .ref tr, .ref se])), zQ cL sh 6 sf])) (va_A [(sl, .inr (5, [.ref sh, .int (zI lc), .ref ru, .ref tr, .ref se])), zQ cL sh 6 sf] sz)) 1 6 (va_A [(sl, .inr (5, [.ref sh, .int (zI lc), .ref ru, .ref tr, .ref se])), zQ cL sh 6 sf] sz) := by
  refine va_MetW (cc := cL_bestPlayer) (maxL := 4) (ret := (some .int)) (by decide) rfl ?_
  intro p e s m args below meth c s₁ B hml hv
  obtain ⟨rfl, hsz, hP, hK, hD0, hEx, hNc⟩ := hv
  have hx := B.exec
  have hb := B.bytes
  have hr := B.returns
  have hts := atoms_spec (ws := wsL_bestPlayer) B.pre
  have hown : s.vm.findClass RL = some m.cls := findClass_of_methodNamed B.named
  have hlocks := B.notSynchronized
  subst hsz
  have hD := hD0.self (sz := s.heap.size)
  generalize hAe : va_A [(sl, .inr (5, [.ref sh, .int (zI lc), .ref ru, .ref tr, .ref se])), zQ cL sh 6 sf] s.heap.size = A at hD hEx ⊢
  have hA : ∀ q : Nat, s.heap.size ≤ q → A q := fun q h => by rw [← hAe]; exact Or.inr h
  clear hAe hD0
  have hS : va_S A s.heap s.heap [] := va_S.rf
  have hP : va_P (dC, dI) vwCl [(sl, .inr (5, [.ref sh, .int (zI lc), .ref ru, .ref tr, .ref se])), zQ cL sh 6 sf] s.heap := hP
  have hl := lv_entry ([.ref sl, .int (zI L), .ref ou]) (n := 4) (Nat.le_of_ble_eq_true rfl)
  rw [lg_entry_eq]
  generalize (lg_sl ([.ref sl, .int (zI L), .ref ou]) ++ List.replicate (4 - (lg_sl ([.ref sl, .int (zI L), .ref ou])).length) Slot.unset).toArray = ls at hl ⊢
  have hl : lv_has ls 4 [(0, .ref sl), (1, .int (zI L)), (2, .ref ou)] := hl
  refine lv_aload_n hx hb dL_bestPlayer_0 rfl (lv_at hl 2 rfl) ?_
  refine lv_iconst (v := zI 0) hx hb dL_bestPlayer_1 (rfl) ?_
  refine lv_aload_n hx hb dL_bestPlayer_2 rfl (lv_at hl 0 rfl) ?_
  refine lv_iload_n hx hb dL_bestPlayer_3 rfl (lv_at hl 1 rfl) ?_
  have hPc := hP.sub (ws' := [(sl, .inr (5, [.ref sh, .int (zI lc), .ref ru, .ref tr, .ref se])), zQ cL sh 6 sf]) [0, 1] rfl
  have hDc := hD.sub (ws' := [(sl, .inr (5, [.ref sh, .int (zI lc), .ref ru, .ref tr, .ref se])), zQ cL sh 6 sf]) [0, 1] (by decide) rfl
  have hFc := va_free (wc := [(sl, .inr (5, [.ref sh, .int (zI lc), .ref ru, .ref tr, .ref se])), zQ cL sh 6 sf]) hD hS hA [0, 1] rfl
  refine vx_calli (vx_runV (As := [.int (zI L)]) (rest := [.int (zI 0), .ref ou]) ⟨hx, hb, hml, hown, hts⟩ (x_X5_bestPlayer_xa l hfl dC dI cI cZ cL cT cJ s.heap.size sl sh lc ru tr se sf L (by first | assumption | omega) (by first | assumption | omega)) (cwV 1 hts gL_bestPlayer_X5_bestPlayer rfl rfl rfl (by decide +kernel) ⟨Nat.le_of_ble_eq_true rfl, Nat.le_of_ble_eq_true rfl⟩) ⟨zPx_blind, va_recv hK hPc (ci := 5) (q0 := 0) rfl rfl, zPx_pre hPc hDc hK hEx hS hFc⟩ rfl rfl hl.1 rfl (lv_room (Nat.le_of_ble_eq_true rfl)) dL_bestPlayer_4 ⟨Nat.le_of_ble_eq_true rfl, Nat.le_of_ble_eq_true rfl⟩) hS (fun q _ h => hFc q h) hFc (fun q _ h => hFc q h) (fun E9 ce9 q9 u t H1 locs ht hvm _ hB hz1 hk1 hS hc9 hv9 hf9 => ?_) (fun r u t H1 locs ht hvm hw => hw.elim)
  obtain ⟨rfl, hP1, hK1, hD1⟩ := hB
  rw [ht] at hP1
  obtain ⟨hP, hD⟩ := va_join (wr := []) (w1 := [(sl, .inr (5, [.ref sh, .int (zI lc), .ref ru, .ref tr, .ref se])), zQ cL sh 6 sf]) hP hD [0, 1] [] rfl rfl (by decide) (by decide) hk1 hFc hP1 hD1
  have hP : va_P (dC, dI) vwCl [(sl, .inr (5, [.ref sh, .int (zI lc), .ref ru, .ref tr, .ref se])), zQ cL sh 6 sf] H1 := hP.sub [0, 1] rfl
  have hD : va_D A [(sl, .inr (5, [.ref sh, .int (zI lc), .ref ru, .ref tr, .ref se])), zQ cL sh 6 sf] := hD.sub [0, 1] (by decide) rfl
  refine vx_catch (name := "java/lang/IndexOutOfBoundsException") hown [] ({ startPc := 0, endPc := 9, handlerPc := 12, catchType := 21 } : ExceptionTableEntry) [] ((vx_table (x := yL_bestPlayer) B (hts _ List.mem_cons_self)).trans rfl) (fun z hz => by cases hz) (by decide) (by decide) (hts (.classLink RL 21 "java/lang/IndexOutOfBoundsException") (by decide +kernel)) (va_Nw.use rfl hEx.2.2.2.2.1) hc9 hv9 hf9 ?_
  generalize H1 = H at hP hS ⊢
  refine W.eq (g2 := F0 m 12 ls [.ref q9]) rfl ?_
  refine lv_astore_n (lv' := [(3, .ref q9), (0, .ref sl), (1, .int (zI L)), (2, .ref ou)]) hx hb dL_bestPlayer_12 rfl hl (by decide) rfl (fun ls hl => ?_)
  refine lv_iconst (v := zI 1) hx hb dL_bestPlayer_13 (rfl) ?_
  have hP9 := hP.sub (ws' := [(sl, .inr (5, [.ref sh, .int (zI lc), .ref ru, .ref tr, .ref se])), zQ cL sh 6 sf]) [0, 1] rfl
  have hD9 := hD.sub (ws' := [(sl, .inr (5, [.ref sh, .int (zI lc), .ref ru, .ref tr, .ref se])), zQ cL sh 6 sf]) [0, 1] (by decide) rfl
  refine W.widen (k := 1) (n := 6) (Nat.le_of_ble_eq_true rfl) (Nat.le_of_ble_eq_true rfl) ?_
  have po : zI 1 = zI 1 ∧ (True) := by
    refine ⟨by first | rfl | (congr 1; omega) | (congr 1; simp [*]), ?_⟩
    trivial
  exact W.iret (v := zI 1) hx hb hr (fun t ht hW => ⟨⟨zI 1, (), rfl, po, by rw [ht]; exact hP9, va_K.moved hW.alike hK, hD9⟩, hS.F ht⟩) hS.2.2 dL_bestPlayer_14
set_option maxHeartbeats 4000000 in
set_option maxRecDepth 100000 in
theorem c_L_open_xb (l : Launch) (hfl : l.stackTraces = false) (dC : Nat → ClassId) (dI : Nat → Nat → Nat) (cI cZ cL cT cJ : ClassId) (sz : Nat) (sl : Nat) (sh : Nat) (lc : Int) (ru : Nat) (tr : Nat) (se : Nat) (sf : Nat → Option Nat) (L : Int) (k : Nat) (lv : Nat) (w : Int) (h : Int) (ka : Nat) (ta : Nat) (sx : Int) (sy : Int) (fx : Int) (fy : Int) (lf : Int) (un : Int) (ou : Nat) (gk : L = (k : Int) ∧ k < 6) (gf : sf k = some lv) (gy : lf = -1) : Met l yL_open wsL_open ({ frames := 7, cells := 1, slots := 6, locals := 113 }) (zPy (dC, dI) (zT cI cZ cL cT cJ) sz [.ref sl, .int (zI L), .ref ou] [(sl, .inr (5, [.ref sh, .int (zI lc), .ref ru, .ref tr, .ref se])), zQ cL sh 6 sf, (lv, .inr (1, [.int (zI w), .int (zI h), .ref ka, .ref ta, .int (zI sx), .int (zI sy), .int (zI fx), .int (zI fy), .int (zI lf), .int (zI un)]))]) (va_Qi (fun (r9 : Int32) (u9 : Unit) => match u9 with | _ => r9 = zI 2 ∧ (True)) (zB (dC, dI) (zT cI cZ cL cT cJ) (va_A [(sl, .inr (5, [.ref sh, .int (zI lc), .ref ru, .ref tr, .ref se])), zQ cL sh 6 sf, (lv, .inr (1, [.int (zI w), .int (zI h), .ref ka, .ref ta, .int (zI sx), .int (zI sy), .int (zI fx), .int (zI fy), .int (zI lf), .int (zI un)]))] sz) (fun (u9 : Unit) => match u9 with | _ => [(sl, .inr (5, [.ref sh, .int (zI lc), .ref ru, .ref tr, .ref se])), zQ cL sh 6 sf, (lv, .inr (1, [.int (zI w), .int (zI h), .ref ka, .ref ta, .int (zI sx), .int (zI sy), .int (zI fx), .int (zI fy), .int (zI lf), .int (zI un)]))])) (va_A [(sl, .inr (5, [.ref sh, .int (zI lc), .ref ru, .ref tr, .ref se])), zQ cL sh 6 sf, (lv, .inr (1, [.int (zI w), .int (zI h), .ref ka, .ref ta, .int (zI sx), .int (zI sy), .int (zI fx), .int (zI fy), .int (zI lf), .int (zI un)]))] sz)) 1 6 (va_A [(sl, .inr (5, [.ref sh, .int (zI lc), .ref ru, .ref tr, .ref se])), zQ cL sh 6 sf, (lv, .inr (1, [.int (zI w), .int (zI h), .ref ka, .ref ta, .int (zI sx), .int (zI sy), .int (zI fx), .int (zI fy), .int (zI lf), .int (zI un)]))] sz) := by
  refine va_MetW (cc := cL_open) (maxL := 4) (ret := (some .int)) (by decide) rfl ?_
  intro p e s m args below meth c s₁ B hml hv
  obtain ⟨rfl, hsz, hP, hK, hD0, hEx, hNc⟩ := hv
  have hx := B.exec
  have hb := B.bytes
  have hr := B.returns
  have hts := atoms_spec (ws := wsL_open) B.pre
  have hown : s.vm.findClass RL = some m.cls := findClass_of_methodNamed B.named
  have hlocks := B.notSynchronized
  subst hsz
  have hD := hD0.self (sz := s.heap.size)
  generalize hAe : va_A [(sl, .inr (5, [.ref sh, .int (zI lc), .ref ru, .ref tr, .ref se])), zQ cL sh 6 sf, (lv, .inr (1, [.int (zI w), .int (zI h), .ref ka, .ref ta, .int (zI sx), .int (zI sy), .int (zI fx), .int (zI fy), .int (zI lf), .int (zI un)]))] s.heap.size = A at hD hEx ⊢
  have hA : ∀ q : Nat, s.heap.size ≤ q → A q := fun q h => by rw [← hAe]; exact Or.inr h
  clear hAe hD0
  have hS : va_S A s.heap s.heap [] := va_S.rf
  have hP : va_P (dC, dI) vwCl [(sl, .inr (5, [.ref sh, .int (zI lc), .ref ru, .ref tr, .ref se])), zQ cL sh 6 sf, (lv, .inr (1, [.int (zI w), .int (zI h), .ref ka, .ref ta, .int (zI sx), .int (zI sy), .int (zI fx), .int (zI fy), .int (zI lf), .int (zI un)]))] s.heap := hP
  have hl := lv_entry ([.ref sl, .int (zI L), .ref ou]) (n := 4) (Nat.le_of_ble_eq_true rfl)
  rw [lg_entry_eq]
  generalize (lg_sl ([.ref sl, .int (zI L), .ref ou]) ++ List.replicate (4 - (lg_sl ([.ref sl, .int (zI L), .ref ou])).length) Slot.unset).toArray = ls at hl ⊢
  have hl : lv_has ls 4 [(0, .ref sl), (1, .int (zI L)), (2, .ref ou)] := hl
  refine lv_aload_n hx hb dL_open_0 rfl (lv_at hl 2 rfl) ?_
  refine lv_iconst (v := zI 0) hx hb dL_open_1 (rfl) ?_
  refine lv_aload_n hx hb dL_open_2 rfl (lv_at hl 0 rfl) ?_
  refine lv_iload_n hx hb dL_open_3 rfl (lv_at hl 1 rfl) ?_
  have hPc := hP.sub (ws' := [(sl, .inr (5, [.ref sh, .int (zI lc), .ref ru, .ref tr, .ref se])), zQ cL sh 6 sf, (lv, .inr (1, [.int (zI w), .int (zI h), .ref ka, .ref ta, .int (zI sx), .int (zI sy), .int (zI fx), .int (zI fy), .int (zI lf), .int (zI un)]))]) [0, 1, 2] rfl
  have hDc := hD.sub (ws' := [(sl, .inr (5, [.ref sh, .int (zI lc), .ref ru, .ref tr, .ref se])), zQ cL sh 6 sf, (lv, .inr (1, [.int (zI w), .int (zI h), .ref ka, .ref ta, .int (zI sx), .int (zI sy), .int (zI fx), .int (zI fy), .int (zI lf), .int (zI un)]))]) [0, 1, 2] (by decide) rfl
  have hFc := va_free (wc := [(sl, .inr (5, [.ref sh, .int (zI lc), .ref ru, .ref tr, .ref se])), zQ cL sh 6 sf, (lv, .inr (1, [.int (zI w), .int (zI h), .ref ka, .ref ta, .int (zI sx), .int (zI sy), .int (zI fx), .int (zI fy), .int (zI lf), .int (zI un)]))]) hD hS hA [0, 1, 2] rfl
  refine vx_calli (vx_runV (As := [.int (zI L)]) (rest := [.int (zI 0), .ref ou]) ⟨hx, hb, hml, hown, hts⟩ (x_X5_open_xb l hfl dC dI cI cZ cL cT cJ s.heap.size sl sh lc ru tr se sf L k lv w h ka ta sx sy fx fy lf un (by first | assumption | omega) (by first | assumption | omega) (by first | assumption | omega)) (cwV 1 hts gL_open_X5_open rfl rfl rfl (by decide +kernel) ⟨Nat.le_of_ble_eq_true rfl, Nat.le_of_ble_eq_true rfl⟩) ⟨zPx_blind, va_recv hK hPc (ci := 5) (q0 := 0) rfl rfl, zPx_pre hPc hDc hK hEx hS hFc⟩ rfl rfl hl.1 rfl (lv_room (Nat.le_of_ble_eq_true rfl)) dL_open_4 ⟨Nat.le_of_ble_eq_true rfl, Nat.le_of_ble_eq_true rfl⟩) hS (fun q _ h => hFc q h) hFc (fun q _ h => hFc q h) (fun E9 ce9 q9 u t H1 locs ht hvm _ hB hz1 hk1 hS hc9 hv9 hf9 => ?_) (fun r u t H1 locs ht hvm hw => hw.elim)
  obtain ⟨rfl, hP1, hK1, hD1⟩ := hB
  rw [ht] at hP1
  obtain ⟨hP, hD⟩ := va_join (wr := []) (w1 := [(sl, .inr (5, [.ref sh, .int (zI lc), .ref ru, .ref tr, .ref se])), zQ cL sh 6 sf, (lv, .inr (1, [.int (zI w), .int (zI h), .ref ka, .ref ta, .int (zI sx), .int (zI sy), .int (zI fx), .int (zI fy), .int (zI lf), .int (zI un)]))]) hP hD [0, 1, 2] [] rfl rfl (by decide) (by decide) hk1 hFc hP1 hD1
  have hP : va_P (dC, dI) vwCl [(sl, .inr (5, [.ref sh, .int (zI lc), .ref ru, .ref tr, .ref se])), zQ cL sh 6 sf, (lv, .inr (1, [.int (zI w), .int (zI h), .ref ka, .ref ta, .int (zI sx), .int (zI sy), .int (zI fx), .int (zI fy), .int (zI lf), .int (zI un)]))] H1 := hP.sub [0, 1, 2] rfl
  have hD : va_D A [(sl, .inr (5, [.ref sh, .int (zI lc), .ref ru, .ref tr, .ref se])), zQ cL sh 6 sf, (lv, .inr (1, [.int (zI w), .int (zI h), .ref ka, .ref ta, .int (zI sx), .int (zI sy), .int (zI fx), .int (zI fy), .int (zI lf), .int (zI un)]))] := hD.sub [0, 1, 2] (by decide) rfl
  refine vx_catch (name := "java/lang/IllegalStateException") hown [({ startPc := 0, endPc := 16, handlerPc := 19, catchType := 21 } : ExceptionTableEntry)] ({ startPc := 0, endPc := 16, handlerPc := 22, catchType := 15 } : ExceptionTableEntry) [] ((vx_table (x := yL_open) B (hts _ List.mem_cons_self)).trans rfl) (fun z hz => (List.mem_cons.mp hz).elim (fun e9 => by subst e9; exact Or.inr ⟨by decide, "java/lang/IndexOutOfBoundsException", hts (.classLink RL 21 "java/lang/IndexOutOfBoundsException") (by decide +kernel), hNc.2.2.2.1⟩) (fun hz => absurd hz List.not_mem_nil)) (by decide) (by decide) (hts (.classLink RL 15 "java/lang/IllegalStateException") (by decide +kernel)) (va_Nw.use rfl hEx.2.2.2.1) hc9 hv9 hf9 ?_
  generalize H1 = H at hP hS ⊢
  refine W.eq (g2 := F0 m 22 ls [.ref q9]) rfl ?_
  refine lv_astore_n (lv' := [(3, .ref q9), (0, .ref sl), (1, .int (zI L)), (2, .ref ou)]) hx hb dL_open_22 rfl hl (by decide) rfl (fun ls hl => ?_)
  refine lv_iconst (v := zI 2) hx hb dL_open_23 (rfl) ?_
  have hP9 := hP.sub (ws' := [(sl, .inr (5, [.ref sh, .int (zI lc), .ref ru, .ref tr, .ref se])), zQ cL sh 6 sf, (lv, .inr (1, [.int (zI w), .int (zI h), .ref ka, .ref ta, .int (zI sx), .int (zI sy), .int (zI fx), .int (zI fy), .int (zI lf), .int (zI un)]))]) [0, 1, 2] rfl
  have hD9 := hD.sub (ws' := [(sl, .inr (5, [.ref sh, .int (zI lc), .ref ru, .ref tr, .ref se])), zQ cL sh 6 sf, (lv, .inr (1, [.int (zI w), .int (zI h), .ref ka, .ref ta, .int (zI sx), .int (zI sy), .int (zI fx), .int (zI fy), .int (zI lf), .int (zI un)]))]) [0, 1, 2] (by decide) rfl
  refine W.widen (k := 1) (n := 6) (Nat.le_of_ble_eq_true rfl) (Nat.le_of_ble_eq_true rfl) ?_
  have po : zI 2 = zI 2 ∧ (True) := by
    refine ⟨by first | rfl | (congr 1; omega) | (congr 1; simp [*]), ?_⟩
    trivial
  exact W.iret (v := zI 2) hx hb hr (fun t ht hW => ⟨⟨zI 2, (), rfl, po, by rw [ht]; exact hP9, va_K.moved hW.alike hK, hD9⟩, hS.F ht⟩) hS.2.2 dL_open_24
set_option maxHeartbeats 4000000 in
set_option maxRecDepth 100000 in
theorem c_L_begin_xa (l : Launch) (hfl : l.stackTraces = false) (dC : Nat → ClassId) (dI : Nat → Nat → Nat) (cI cZ cL cT cJ : ClassId) (sz : Nat) (sl : Nat) (sh : Nat) (lc : Int) (ru : Nat) (tr : Nat) (se : Nat) (sf : Nat → Option Nat) (L : Int) (pl : Int) (ou : Nat) (gr : -2147483648 ≤ pl ∧ pl < 2147483648) (gkn : pl < 0 ∨ 4 ≤ pl) : Met l yL_begin wsL_begin ({ frames := 7, cells := 1, slots := 6, locals := 113 }) (zPy (dC, dI) (zT cI cZ cL cT cJ) sz [.ref sl, .int (zI pl), .int (zI L), .ref ou] [(sl, .inr (5, [.ref sh, .int (zI lc), .ref ru, .ref tr, .ref se])), zQ cL sh 6 sf]) (va_Qi (fun (r9 : Int32) (u9 : Unit) => match u9 with | _ => r9 = zI 1 ∧ (True)) (zB (dC, dI) (zT cI cZ cL cT cJ) (va_A [(sl, .inr (5, [.ref sh, .int (zI lc), .ref ru, .ref tr, .ref se])), zQ cL sh 6 sf] sz) (fun (u9 : Unit) => match u9 with | _ => [(sl, .inr (5, [.ref sh, .int (zI lc), .ref ru, .ref tr, .ref se])), zQ cL sh 6 sf])) (va_A [(sl, .inr (5, [.ref sh, .int (zI lc), .ref ru, .ref tr, .ref se])), zQ cL sh 6 sf] sz)) 1 6 (va_A [(sl, .inr (5, [.ref sh, .int (zI lc), .ref ru, .ref tr, .ref se])), zQ cL sh 6 sf] sz) := by
  refine va_MetW (cc := cL_begin) (maxL := 5) (ret := (some .int)) (by decide) rfl ?_
  intro p e s m args below meth c s₁ B hml hv
  obtain ⟨rfl, hsz, hP, hK, hD0, hEx, hNc⟩ := hv
  have hx := B.exec
  have hb := B.bytes
  have hr := B.returns
  have hts := atoms_spec (ws := wsL_begin) B.pre
  have hown : s.vm.findClass RL = some m.cls := findClass_of_methodNamed B.named
  have hlocks := B.notSynchronized
  subst hsz
  have hD := hD0.self (sz := s.heap.size)
  generalize hAe : va_A [(sl, .inr (5, [.ref sh, .int (zI lc), .ref ru, .ref tr, .ref se])), zQ cL sh 6 sf] s.heap.size = A at hD hEx ⊢
  have hA : ∀ q : Nat, s.heap.size ≤ q → A q := fun q h => by rw [← hAe]; exact Or.inr h
  clear hAe hD0
  have hS : va_S A s.heap s.heap [] := va_S.rf
  have hP : va_P (dC, dI) vwCl [(sl, .inr (5, [.ref sh, .int (zI lc), .ref ru, .ref tr, .ref se])), zQ cL sh 6 sf] s.heap := hP
  have hl := lv_entry ([.ref sl, .int (zI pl), .int (zI L), .ref ou]) (n := 5) (Nat.le_of_ble_eq_true rfl)
  rw [lg_entry_eq]
  generalize (lg_sl ([.ref sl, .int (zI pl), .int (zI L), .ref ou]) ++ List.replicate (5 - (lg_sl ([.ref sl, .int (zI pl), .int (zI L), .ref ou])).length) Slot.unset).toArray = ls at hl ⊢
  have hl : lv_has ls 5 [(0, .ref sl), (1, .int (zI pl)), (2, .int (zI L)), (3, .ref ou)] := hl
  refine lv_aload_n hx hb dL_begin_0 rfl (lv_at hl 3 rfl) ?_
  refine lv_iconst (v := zI 0) hx hb dL_begin_1 (rfl) ?_
  refine lv_aload_n hx hb dL_begin_2 rfl (lv_at hl 0 rfl) ?_
  refine lv_iload_n hx hb dL_begin_3 rfl (lv_at hl 1 rfl) ?_
  refine lv_iload_n hx hb dL_begin_4 rfl (lv_at hl 2 rfl) ?_
  have hPc := hP.sub (ws' := [(sl, .inr (5, [.ref sh, .int (zI lc), .ref ru, .ref tr, .ref se])), zQ cL sh 6 sf]) [0, 1] rfl
  have hDc := hD.sub (ws' := [(sl, .inr (5, [.ref sh, .int (zI lc), .ref ru, .ref tr, .ref se])), zQ cL sh 6 sf]) [0, 1] (by decide) rfl
  have hFc := va_free (wc := [(sl, .inr (5, [.ref sh, .int (zI lc), .ref ru, .ref tr, .ref se])), zQ cL sh 6 sf]) hD hS hA [0, 1] rfl
  refine vx_calli (vx_runV (As := [.int (zI pl), .int (zI L)]) (rest := [.int (zI 0), .ref ou]) ⟨hx, hb, hml, hown, hts⟩ (x_X5_begin_xa l hfl dC dI cI cZ cL cT cJ s.heap.size sl sh lc ru tr se sf L pl (by first | assumption | omega) (by first | assumption | omega)) (cwV 2 hts gL_begin_X5_begin rfl rfl rfl (by decide +kernel) ⟨Nat.le_of_ble_eq_true rfl, Nat.le_of_ble_eq_true rfl⟩) ⟨zPx_blind, va_recv hK hPc (ci := 5) (q0 := 0) rfl rfl, zPx_pre hPc hDc hK hEx hS hFc⟩ rfl rfl hl.1 rfl (lv_room (Nat.le_of_ble_eq_true rfl)) dL_begin_5 ⟨Nat.le_of_ble_eq_true rfl, Nat.le_of_ble_eq_true rfl⟩) hS (fun q _ h => hFc q h) hFc (fun q _ h => hFc q h) (fun E9 ce9 q9 u t H1 locs ht hvm _ hB hz1 hk1 hS hc9 hv9 hf9 => ?_) (fun r u t H1 locs ht hvm hw => hw.elim)
  obtain ⟨rfl, hP1, hK1, hD1⟩ := hB
  rw [ht] at hP1
  obtain ⟨hP, hD⟩ := va_join (wr := []) (w1 := [(sl, .inr (5, [.ref sh, .int (zI lc), .ref ru, .ref tr, .ref se])), zQ cL sh 6 sf]) hP hD [0, 1] [] rfl rfl (by decide) (by decide) hk1 hFc hP1 hD1
  have hP : va_P (dC, dI) vwCl [(sl, .inr (5, [.ref sh, .int (zI lc), .ref ru, .ref tr, .ref se])), zQ cL sh 6 sf] H1 := hP.sub [0, 1] rfl
  have hD : va_D A [(sl, .inr (5, [.ref sh, .int (zI lc), .ref ru, .ref tr, .ref se])), zQ cL sh 6 sf] := hD.sub [0, 1] (by decide) rfl
  refine vx_catch (name := "java/lang/IndexOutOfBoundsException") hown [] ({ startPc := 0, endPc := 10, handlerPc := 13, catchType := 21 } : ExceptionTableEntry) [({ startPc := 0, endPc := 10, handlerPc := 17, catchType := 15 } : ExceptionTableEntry)] ((vx_table (x := yL_begin) B (hts _ List.mem_cons_self)).trans rfl) (fun z hz => by cases hz) (by decide) (by decide) (hts (.classLink RL 21 "java/lang/IndexOutOfBoundsException") (by decide +kernel)) (va_Nw.use rfl hEx.2.2.2.2.1) hc9 hv9 hf9 ?_
  generalize H1 = H at hP hS ⊢
  refine W.eq (g2 := F0 m 13 ls [.ref q9]) rfl ?_
  refine lv_astore (lv' := [(4, .ref q9), (0, .ref sl), (1, .int (zI pl)), (2, .int (zI L)), (3, .ref ou)]) hx hb dL_begin_13 hl (by decide) rfl (fun ls hl => ?_)
  refine lv_iconst (v := zI 1) hx hb dL_begin_15 (rfl) ?_
  have hP9 := hP.sub (ws' := [(sl, .inr (5, [.ref sh, .int (zI lc), .ref ru, .ref tr, .ref se])), zQ cL sh 6 sf]) [0, 1] rfl
  have hD9 := hD.sub (ws' := [(sl, .inr (5, [.ref sh, .int (zI lc), .ref ru, .ref tr, .ref se])), zQ cL sh 6 sf]) [0, 1] (by decide) rfl
  refine W.widen (k := 1) (n := 6) (Nat.le_of_ble_eq_true rfl) (Nat.le_of_ble_eq_true rfl) ?_
  have po : zI 1 = zI 1 ∧ (True) := by
    refine ⟨by first | rfl | (congr 1; omega) | (congr 1; simp [*]), ?_⟩
    trivial
  exact W.iret (v := zI 1) hx hb hr (fun t ht hW => ⟨⟨zI 1, (), rfl, po, by rw [ht]; exact hP9, va_K.moved hW.alike hK, hD9⟩, hS.F ht⟩) hS.2.2 dL_begin_16
set_option maxHeartbeats 4000000 in
set_option maxRecDepth 100000 in
theorem c_L_begin_xb (l : Launch) (hfl : l.stackTraces = false) (dC : Nat → ClassId) (dI : Nat → Nat → Nat) (cI cZ cL cT cJ : ClassId) (sz : Nat) (sl : Nat) (sh : Nat) (lc : Int) (ru : Nat) (tr : Nat) (se : Nat) (sf : Nat → Option Nat) (L : Int) (pl : Int) (ou : Nat) (gr9 : -2147483648 ≤ L ∧ L < 2147483648) (gb : L < 0 ∨ 6 ≤ L ∨ ∃ k : Nat, L = (k : Int) ∧ k < 6 ∧ sf k = none) (gp : 0 ≤ pl ∧ pl ≤ 3) : Met l yL_begin wsL_begin ({ frames := 8, cells := 1, slots := 6, locals := 135 }) (zPy (dC, dI) (zT cI cZ cL cT cJ) sz [.ref sl, .int (zI pl), .int (zI L), .ref ou] [(sl, .inr (5, [.ref sh, .int (zI lc), .ref ru, .ref tr, .ref se])), zQ cL sh 6 sf]) (va_Qi (fun (r9 : Int32) (u9 : Unit) => match u9 with | _ => r9 = zI 1 ∧ (True)) (zB (dC, dI) (zT cI cZ cL cT cJ) (va_A [(sl, .inr (5, [.ref sh, .int (zI lc), .ref ru, .ref tr, .ref se])), zQ cL sh 6 sf] sz) (fun (u9 : Unit) => match u9 with | _ => [(sl, .inr (5, [.ref sh, .int (zI lc), .ref ru, .ref tr, .ref se])), zQ cL sh 6 sf])) (va_A [(sl, .inr (5, [.ref sh, .int (zI lc), .ref ru, .ref tr, .ref se])), zQ cL sh 6 sf] sz)) 1 6 (va_A [(sl, .inr (5, [.ref sh, .int (zI lc), .ref ru, .ref tr, .ref se])), zQ cL sh 6 sf] sz) := by
  refine va_MetW (cc := cL_begin) (maxL := 5) (ret := (some .int)) (by decide) rfl ?_
  intro p e s m args below meth c s₁ B hml hv
  obtain ⟨rfl, hsz, hP, hK, hD0, hEx, hNc⟩ := hv
  have hx := B.exec
  have hb := B.bytes
  have hr := B.returns
  have hts := atoms_spec (ws := wsL_begin) B.pre
  have hown : s.vm.findClass RL = some m.cls := findClass_of_methodNamed B.named
  have hlocks := B.notSynchronized
  subst hsz
  have hD := hD0.self (sz := s.heap.size)
  generalize hAe : va_A [(sl, .inr (5, [.ref sh, .int (zI lc), .ref ru, .ref tr, .ref se])), zQ cL sh 6 sf] s.heap.size = A at hD hEx ⊢
  have hA : ∀ q : Nat, s.heap.size ≤ q → A q := fun q h => by rw [← hAe]; exact Or.inr h
  clear hAe hD0
  have hS : va_S A s.heap s.heap [] := va_S.rf
  have hP : va_P (dC, dI) vwCl [(sl, .inr (5, [.ref sh, .int (zI lc), .ref ru, .ref tr, .ref se])), zQ cL sh 6 sf] s.heap := hP
  have hl := lv_entry ([.ref sl, .int (zI pl), .int (zI L), .ref ou]) (n := 5) (Nat.le_of_ble_eq_true rfl)
  rw [lg_entry_eq]
  generalize (lg_sl ([.ref sl, .int (zI pl), .int (zI L), .ref ou]) ++ List.replicate (5 - (lg_sl ([.ref sl, .int (zI pl), .int (zI L), .ref ou])).length) Slot.unset).toArray = ls at hl ⊢
  have hl : lv_has ls 5 [(0, .ref sl), (1, .int (zI pl)), (2, .int (zI L)), (3, .ref ou)] := hl
  refine lv_aload_n hx hb dL_begin_0 rfl (lv_at hl 3 rfl) ?_
  refine lv_iconst (v := zI 0) hx hb dL_begin_1 (rfl) ?_
  refine lv_aload_n hx hb dL_begin_2 rfl (lv_at hl 0 rfl) ?_
  refine lv_iload_n hx hb dL_begin_3 rfl (lv_at hl 1 rfl) ?_
  refine lv_iload_n hx hb dL_begin_4 rfl (lv_at hl 2 rfl) ?_
  have hPc := hP.sub (ws' := [(sl, .inr (5, [.ref sh, .int (zI lc), .ref ru, .ref tr, .ref se])), zQ cL sh 6 sf]) [0, 1] rfl
  have hDc := hD.sub (ws' := [(sl, .inr (5, [.ref sh, .int (zI lc), .ref ru, .ref tr, .ref se])), zQ cL sh 6 sf]) [0, 1] (by decide) rfl
  have hFc := va_free (wc := [(sl, .inr (5, [.ref sh, .int (zI lc), .ref ru, .ref tr, .ref se])), zQ cL sh 6 sf]) hD hS hA [0, 1] rfl
  refine vx_calli (vx_runV (As := [.int (zI pl), .int (zI L)]) (rest := [.int (zI 0), .ref ou]) ⟨hx, hb, hml, hown, hts⟩ (x_X5_begin_xb l hfl dC dI cI cZ cL cT cJ s.heap.size sl sh lc ru tr se sf L pl (by first | assumption | omega) (by first | assumption | omega) (by first | assumption | omega)) (cwV 2 hts gL_begin_X5_begin rfl rfl rfl (by decide +kernel) ⟨Nat.le_of_ble_eq_true rfl, Nat.le_of_ble_eq_true rfl⟩) ⟨zPx_blind, va_recv hK hPc (ci := 5) (q0 := 0) rfl rfl, zPx_pre hPc hDc hK hEx hS hFc⟩ rfl rfl hl.1 rfl (lv_room (Nat.le_of_ble_eq_true rfl)) dL_begin_5 ⟨Nat.le_of_ble_eq_true rfl, Nat.le_of_ble_eq_true rfl⟩) hS (fun q _ h => hFc q h) hFc (fun q _ h => hFc q h) (fun E9 ce9 q9 u t H1 locs ht hvm _ hB hz1 hk1 hS hc9 hv9 hf9 => ?_) (fun r u t H1 locs ht hvm hw => hw.elim)
  obtain ⟨rfl, hP1, hK1, hD1⟩ := hB
  rw [ht] at hP1
  obtain ⟨hP, hD⟩ := va_join (wr := []) (w1 := [(sl, .inr (5, [.ref sh, .int (zI lc), .ref ru, .ref tr, .ref se])), zQ cL sh 6 sf]) hP hD [0, 1] [] rfl rfl (by decide) (by decide) hk1 hFc hP1 hD1
  have hP : va_P (dC, dI) vwCl [(sl, .inr (5, [.ref sh, .int (zI lc), .ref ru, .ref tr, .ref se])), zQ cL sh 6 sf] H1 := hP.sub [0, 1] rfl
  have hD : va_D A [(sl, .inr (5, [.ref sh, .int (zI lc), .ref ru, .ref tr, .ref se])), zQ cL sh 6 sf] := hD.sub [0, 1] (by decide) rfl
  refine vx_catch (name := "java/lang/IndexOutOfBoundsException") hown [] ({ startPc := 0, endPc := 10, handlerPc := 13, catchType := 21 } : ExceptionTableEntry) [({ startPc := 0, endPc := 10, handlerPc := 17, catchType := 15 } : ExceptionTableEntry)] ((vx_table (x := yL_begin) B (hts _ List.mem_cons_self)).trans rfl) (fun z hz => by cases hz) (by decide) (by decide) (hts (.classLink RL 21 "java/lang/IndexOutOfBoundsException") (by decide +kernel)) (va_Nw.use rfl hEx.2.2.2.2.1) hc9 hv9 hf9 ?_
  generalize H1 = H at hP hS ⊢
  refine W.eq (g2 := F0 m 13 ls [.ref q9]) rfl ?_
  refine lv_astore (lv' := [(4, .ref q9), (0, .ref sl), (1, .int (zI pl)), (2, .int (zI L)), (3, .ref ou)]) hx hb dL_begin_13 hl (by decide) rfl (fun ls hl => ?_)
  refine lv_iconst (v := zI 1) hx hb dL_begin_15 (rfl) ?_
  have hP9 := hP.sub (ws' := [(sl, .inr (5, [.ref sh, .int (zI lc), .ref ru, .ref tr, .ref se])), zQ cL sh 6 sf]) [0, 1] rfl
  have hD9 := hD.sub (ws' := [(sl, .inr (5, [.ref sh, .int (zI lc), .ref ru, .ref tr, .ref se])), zQ cL sh 6 sf]) [0, 1] (by decide) rfl
  refine W.widen (k := 1) (n := 6) (Nat.le_of_ble_eq_true rfl) (Nat.le_of_ble_eq_true rfl) ?_
  have po : zI 1 = zI 1 ∧ (True) := by
    refine ⟨by first | rfl | (congr 1; omega) | (congr 1; simp [*]), ?_⟩
    trivial
  exact W.iret (v := zI 1) hx hb hr (fun t ht hW => ⟨⟨zI 1, (), rfl, po, by rw [ht]; exact hP9, va_K.moved hW.alike hK, hD9⟩, hS.F ht⟩) hS.2.2 dL_begin_16
set_option maxHeartbeats 4000000 in
set_option maxRecDepth 100000 in
theorem c_L_begin_xc (l : Launch) (hfl : l.stackTraces = false) (dC : Nat → ClassId) (dI : Nat → Nat → Nat) (cI cZ cL cT cJ : ClassId) (sz : Nat) (sl : Nat) (sh : Nat) (lc : Int) (ru : Nat) (tr : Nat) (se : Nat) (sf : Nat → Option Nat) (L : Int) (k : Nat) (lv : Nat) (w : Int) (h : Int) (ka : Nat) (ta : Nat) (sx : Int) (sy : Int) (fx : Int) (fy : Int) (lf : Int) (un : Int) (pl : Int) (ou : Nat) (gk : L = (k : Int) ∧ k < 6) (gf : sf k = some lv) (gp : 0 ≤ pl ∧ pl ≤ 3) (gu : un = 0) : Met l yL_begin wsL_begin ({ frames := 7, cells := 1, slots := 6, locals := 113 }) (zPy (dC, dI) (zT cI cZ cL cT cJ) sz [.ref sl, .int (zI pl), .int (zI L), .ref ou] [(sl, .inr (5, [.ref sh, .int (zI lc), .ref ru, .ref tr, .ref se])), zQ cL sh 6 sf, (lv, .inr (1, [.int (zI w), .int (zI h), .ref ka, .ref ta, .int (zI sx), .int (zI sy), .int (zI fx), .int (zI fy), .int (zI lf), .int (zI un)]))]) (va_Qi (fun (r9 : Int32) (u9 : Unit) => match u9 with | _ => r9 = zI 2 ∧ (True)) (zB (dC, dI) (zT cI cZ cL cT cJ) (va_A [(sl, .inr (5, [.ref sh, .int (zI lc), .ref ru, .ref tr, .ref se])), zQ cL sh 6 sf, (lv, .inr (1, [.int (zI w), .int (zI h), .ref ka, .ref ta, .int (zI sx), .int (zI sy), .int (zI fx), .int (zI fy), .int (zI lf), .int (zI un)]))] sz) (fun (u9 : Unit) => match u9 with | _ => [(sl, .inr (5, [.ref sh, .int (zI lc), .ref ru, .ref tr, .ref se])), zQ cL sh 6 sf, (lv, .inr (1, [.int (zI w), .int (zI h), .ref ka, .ref ta, .int (zI sx), .int (zI sy), .int (zI fx), .int (zI fy), .int (zI lf), .int (zI un)]))])) (va_A [(sl, .inr (5, [.ref sh, .int (zI lc), .ref ru, .ref tr, .ref se])), zQ cL sh 6 sf, (lv, .inr (1, [.int (zI w), .int (zI h), .ref ka, .ref ta, .int (zI sx), .int (zI sy), .int (zI fx), .int (zI fy), .int (zI lf), .int (zI un)]))] sz)) 1 6 (va_A [(sl, .inr (5, [.ref sh, .int (zI lc), .ref ru, .ref tr, .ref se])), zQ cL sh 6 sf, (lv, .inr (1, [.int (zI w), .int (zI h), .ref ka, .ref ta, .int (zI sx), .int (zI sy), .int (zI fx), .int (zI fy), .int (zI lf), .int (zI un)]))] sz) := by
  refine va_MetW (cc := cL_begin) (maxL := 5) (ret := (some .int)) (by decide) rfl ?_
  intro p e s m args below meth c s₁ B hml hv
  obtain ⟨rfl, hsz, hP, hK, hD0, hEx, hNc⟩ := hv
  have hx := B.exec
  have hb := B.bytes
  have hr := B.returns
  have hts := atoms_spec (ws := wsL_begin) B.pre
  have hown : s.vm.findClass RL = some m.cls := findClass_of_methodNamed B.named
  have hlocks := B.notSynchronized
  subst hsz
  have hD := hD0.self (sz := s.heap.size)
  generalize hAe : va_A [(sl, .inr (5, [.ref sh, .int (zI lc), .ref ru, .ref tr, .ref se])), zQ cL sh 6 sf, (lv, .inr (1, [.int (zI w), .int (zI h), .ref ka, .ref ta, .int (zI sx), .int (zI sy), .int (zI fx), .int (zI fy), .int (zI lf), .int (zI un)]))] s.heap.size = A at hD hEx ⊢
  have hA : ∀ q : Nat, s.heap.size ≤ q → A q := fun q h => by rw [← hAe]; exact Or.inr h
  clear hAe hD0
  have hS : va_S A s.heap s.heap [] := va_S.rf
  have hP : va_P (dC, dI) vwCl [(sl, .inr (5, [.ref sh, .int (zI lc), .ref ru, .ref tr, .ref se])), zQ cL sh 6 sf, (lv, .inr (1, [.int (zI w), .int (zI h), .ref ka, .ref ta, .int (zI sx), .int (zI sy), .int (zI fx), .int (zI fy), .int (zI lf), .int (zI un)]))] s.heap := hP
  have hl := lv_entry ([.ref sl, .int (zI pl), .int (zI L), .ref ou]) (n := 5) (Nat.le_of_ble_eq_true rfl)
  rw [lg_entry_eq]
  generalize (lg_sl ([.ref sl, .int (zI pl), .int (zI L), .ref ou]) ++ List.replicate (5 - (lg_sl ([.ref sl, .int (zI pl), .int (zI L), .ref ou])).length) Slot.unset).toArray = ls at hl ⊢
  have hl : lv_has ls 5 [(0, .ref sl), (1, .int (zI pl)), (2, .int (zI L)), (3, .ref ou)] := hl
  refine lv_aload_n hx hb dL_begin_0 rfl (lv_at hl 3 rfl) ?_
  refine lv_iconst (v := zI 0) hx hb dL_begin_1 (rfl) ?_
  refine lv_aload_n hx hb dL_begin_2 rfl (lv_at hl 0 rfl) ?_
  refine lv_iload_n hx hb dL_begin_3 rfl (lv_at hl 1 rfl) ?_
  refine lv_iload_n hx hb dL_begin_4 rfl (lv_at hl 2 rfl) ?_
  have hPc := hP.sub (ws' := [(sl, .inr (5, [.ref sh, .int (zI lc), .ref ru, .ref tr, .ref se])), zQ cL sh 6 sf, (lv, .inr (1, [.int (zI w), .int (zI h), .ref ka, .ref ta, .int (zI sx), .int (zI sy), .int (zI fx), .int (zI fy), .int (zI lf), .int (zI un)]))]) [0, 1, 2] rfl
  have hDc := hD.sub (ws' := [(sl, .inr (5, [.ref sh, .int (zI lc), .ref ru, .ref tr, .ref se])), zQ cL sh 6 sf, (lv, .inr (1, [.int (zI w), .int (zI h), .ref ka, .ref ta, .int (zI sx), .int (zI sy), .int (zI fx), .int (zI fy), .int (zI lf), .int (zI un)]))]) [0, 1, 2] (by decide) rfl
  have hFc := va_free (wc := [(sl, .inr (5, [.ref sh, .int (zI lc), .ref ru, .ref tr, .ref se])), zQ cL sh 6 sf, (lv, .inr (1, [.int (zI w), .int (zI h), .ref ka, .ref ta, .int (zI sx), .int (zI sy), .int (zI fx), .int (zI fy), .int (zI lf), .int (zI un)]))]) hD hS hA [0, 1, 2] rfl
  refine vx_calli (vx_runV (As := [.int (zI pl), .int (zI L)]) (rest := [.int (zI 0), .ref ou]) ⟨hx, hb, hml, hown, hts⟩ (x_X5_begin_xc l hfl dC dI cI cZ cL cT cJ s.heap.size sl sh lc ru tr se sf L k lv w h ka ta sx sy fx fy lf un pl (by first | assumption | omega) (by first | assumption | omega) (by first | assumption | omega) (by first | assumption | omega)) (cwV 2 hts gL_begin_X5_begin rfl rfl rfl (by decide +kernel) ⟨Nat.le_of_ble_eq_true rfl, Nat.le_of_ble_eq_true rfl⟩) ⟨zPx_blind, va_recv hK hPc (ci := 5) (q0 := 0) rfl rfl, zPx_pre hPc hDc hK hEx hS hFc⟩ rfl rfl hl.1 rfl (lv_room (Nat.le_of_ble_eq_true rfl)) dL_begin_5 ⟨Nat.le_of_ble_eq_true rfl, Nat.le_of_ble_eq_true rfl⟩) hS (fun q _ h => hFc q h) hFc (fun q _ h => hFc q h) (fun E9 ce9 q9 u t H1 locs ht hvm _ hB hz1 hk1 hS hc9 hv9 hf9 => ?_) (fun r u t H1 locs ht hvm hw => hw.elim)
  obtain ⟨rfl, hP1, hK1, hD1⟩ := hB
  rw [ht] at hP1
  obtain ⟨hP, hD⟩ := va_join (wr := []) (w1 := [(sl, .inr (5, [.ref sh, .int (zI lc), .ref ru, .ref tr, .ref se])), zQ cL sh 6 sf, (lv, .inr (1, [.int (zI w), .int (zI h), .ref ka, .ref ta, .int (zI sx), .int (zI sy), .int (zI fx), .int (zI fy), .int (zI lf), .int (zI un)]))]) hP hD [0, 1, 2] [] rfl rfl (by decide) (by decide) hk1 hFc hP1 hD1
  have hP : va_P (dC, dI) vwCl [(sl, .inr (5, [.ref sh, .int (zI lc), .ref ru, .ref tr, .ref se])), zQ cL sh 6 sf, (lv, .inr (1, [.int (zI w), .int (zI h), .ref ka, .ref ta, .int (zI sx), .int (zI sy), .int (zI fx), .int (zI fy), .int (zI lf), .int (zI un)]))] H1 := hP.sub [0, 1, 2] rfl
  have hD : va_D A [(sl, .inr (5, [.ref sh, .int (zI lc), .ref ru, .ref tr, .ref se])), zQ cL sh 6 sf, (lv, .inr (1, [.int (zI w), .int (zI h), .ref ka, .ref ta, .int (zI sx), .int (zI sy), .int (zI fx), .int (zI fy), .int (zI lf), .int (zI un)]))] := hD.sub [0, 1, 2] (by decide) rfl
  refine vx_catch (name := "java/lang/IllegalStateException") hown [({ startPc := 0, endPc := 10, handlerPc := 13, catchType := 21 } : ExceptionTableEntry)] ({ startPc := 0, endPc := 10, handlerPc := 17, catchType := 15 } : ExceptionTableEntry) [] ((vx_table (x := yL_begin) B (hts _ List.mem_cons_self)).trans rfl) (fun z hz => (List.mem_cons.mp hz).elim (fun e9 => by subst e9; exact Or.inr ⟨by decide, "java/lang/IndexOutOfBoundsException", hts (.classLink RL 21 "java/lang/IndexOutOfBoundsException") (by decide +kernel), hNc.2.2.2.1⟩) (fun hz => absurd hz List.not_mem_nil)) (by decide) (by decide) (hts (.classLink RL 15 "java/lang/IllegalStateException") (by decide +kernel)) (va_Nw.use rfl hEx.2.2.2.1) hc9 hv9 hf9 ?_
  generalize H1 = H at hP hS ⊢
  refine W.eq (g2 := F0 m 17 ls [.ref q9]) rfl ?_
  refine lv_astore (lv' := [(4, .ref q9), (0, .ref sl), (1, .int (zI pl)), (2, .int (zI L)), (3, .ref ou)]) hx hb dL_begin_17 hl (by decide) rfl (fun ls hl => ?_)
  refine lv_iconst (v := zI 2) hx hb dL_begin_19 (rfl) ?_
  have hP9 := hP.sub (ws' := [(sl, .inr (5, [.ref sh, .int (zI lc), .ref ru, .ref tr, .ref se])), zQ cL sh 6 sf, (lv, .inr (1, [.int (zI w), .int (zI h), .ref ka, .ref ta, .int (zI sx), .int (zI sy), .int (zI fx), .int (zI fy), .int (zI lf), .int (zI un)]))]) [0, 1, 2] rfl
  have hD9 := hD.sub (ws' := [(sl, .inr (5, [.ref sh, .int (zI lc), .ref ru, .ref tr, .ref se])), zQ cL sh 6 sf, (lv, .inr (1, [.int (zI w), .int (zI h), .ref ka, .ref ta, .int (zI sx), .int (zI sy), .int (zI fx), .int (zI fy), .int (zI lf), .int (zI un)]))]) [0, 1, 2] (by decide) rfl
  refine W.widen (k := 1) (n := 6) (Nat.le_of_ble_eq_true rfl) (Nat.le_of_ble_eq_true rfl) ?_
  have po : zI 2 = zI 2 ∧ (True) := by
    refine ⟨by first | rfl | (congr 1; omega) | (congr 1; simp [*]), ?_⟩
    trivial
  exact W.iret (v := zI 2) hx hb hr (fun t ht hW => ⟨⟨zI 2, (), rfl, po, by rw [ht]; exact hP9, va_K.moved hW.alike hK, hD9⟩, hS.F ht⟩) hS.2.2 dL_begin_20
set_option maxHeartbeats 4000000 in
set_option maxRecDepth 100000 in
theorem c_L_play_xa (l : Launch) (hfl : l.stackTraces = false) (dC : Nat → ClassId) (dI : Nat → Nat → Nat) (cI cZ cL cT cJ : ClassId) (sz : Nat) (sl : Nat) (sh : Nat) (lc : Int) (ru : Nat) (tr : Nat) (se : Nat) (i : Int) (ou : Nat) (r9i : -2147483648 ≤ i ∧ i < 2147483648) (gq : ¬ (0 ≤ i ∧ i ≤ 5)) : Met l yL_play wsL_play ({ frames := 7, cells := 1, slots := 6, locals := 113 }) (zPy (dC, dI) (zT cI cZ cL cT cJ) sz [.ref sl, .int (zI i), .ref ou] [(sl, .inr (5, [.ref sh, .int (zI lc), .ref ru, .ref tr, .ref se]))]) (va_Qi (fun (r9 : Int32) (u9 : Unit) => match u9 with | _ => r9 = zI 1 ∧ (True)) (zB (dC, dI) (zT cI cZ cL cT cJ) (va_A [(sl, .inr (5, [.ref sh, .int (zI lc), .ref ru, .ref tr, .ref se]))] sz) (fun (u9 : Unit) => match u9 with | _ => [(sl, .inr (5, [.ref sh, .int (zI lc), .ref ru, .ref tr, .ref se]))])) (va_A [(sl, .inr (5, [.ref sh, .int (zI lc), .ref ru, .ref tr, .ref se]))] sz)) 1 6 (va_A [(sl, .inr (5, [.ref sh, .int (zI lc), .ref ru, .ref tr, .ref se]))] sz) := by
  refine va_MetW (cc := cL_play) (maxL := 4) (ret := (some .int)) (by decide) rfl ?_
  intro p e s m args below meth c s₁ B hml hv
  obtain ⟨rfl, hsz, hP, hK, hD0, hEx, hNc⟩ := hv
  have hx := B.exec
  have hb := B.bytes
  have hr := B.returns
  have hts := atoms_spec (ws := wsL_play) B.pre
  have hown : s.vm.findClass RL = some m.cls := findClass_of_methodNamed B.named
  have hlocks := B.notSynchronized
  subst hsz
  have hD := hD0.self (sz := s.heap.size)
  generalize hAe : va_A [(sl, .inr (5, [.ref sh, .int (zI lc), .ref ru, .ref tr, .ref se]))] s.heap.size = A at hD hEx ⊢
  have hA : ∀ q : Nat, s.heap.size ≤ q → A q := fun q h => by rw [← hAe]; exact Or.inr h
  clear hAe hD0
  have hS : va_S A s.heap s.heap [] := va_S.rf
  have hP : va_P (dC, dI) vwCl [(sl, .inr (5, [.ref sh, .int (zI lc), .ref ru, .ref tr, .ref se]))] s.heap := hP
  have hl := lv_entry ([.ref sl, .int (zI i), .ref ou]) (n := 4) (Nat.le_of_ble_eq_true rfl)
  rw [lg_entry_eq]
  generalize (lg_sl ([.ref sl, .int (zI i), .ref ou]) ++ List.replicate (4 - (lg_sl ([.ref sl, .int (zI i), .ref ou])).length) Slot.unset).toArray = ls at hl ⊢
  have hl : lv_has ls 4 [(0, .ref sl), (1, .int (zI i)), (2, .ref ou)] := hl
  refine lv_aload_n hx hb dL_play_0 rfl (lv_at hl 2 rfl) ?_
  refine lv_iconst (v := zI 0) hx hb dL_play_1 (rfl) ?_
  refine lv_aload_n hx hb dL_play_2 rfl (lv_at hl 0 rfl) ?_
  refine lv_iload_n hx hb dL_play_3 rfl (lv_at hl 1 rfl) ?_
  have hPc := hP.sub (ws' := [(sl, .inr (5, [.ref sh, .int (zI lc), .ref ru, .ref tr, .ref se]))]) [0] rfl
  have hDc := hD.sub (ws' := [(sl, .inr (5, [.ref sh, .int (zI lc), .ref ru, .ref tr, .ref se]))]) [0] (by decide) rfl
  have hFc := va_free (wc := [(sl, .inr (5, [.ref sh, .int (zI lc), .ref ru, .ref tr, .ref se]))]) hD hS hA [0] rfl
  refine vx_calli (vx_runV (As := [.int (zI i)]) (rest := [.int (zI 0), .ref ou]) ⟨hx, hb, hml, hown, hts⟩ (x_X5_play_xa l hfl dC dI cI cZ cL cT cJ s.heap.size sl sh lc ru tr se i (by first | assumption | omega) (by first | assumption | omega)) (cwV 1 hts gL_play_X5_play rfl rfl rfl (by decide +kernel) ⟨Nat.le_of_ble_eq_true rfl, Nat.le_of_ble_eq_true rfl⟩) ⟨zPx_blind, va_recv hK hPc (ci := 5) (q0 := 0) rfl rfl, zPx_pre hPc hDc hK hEx hS hFc⟩ rfl rfl hl.1 rfl (lv_room (Nat.le_of_ble_eq_true rfl)) dL_play_4 ⟨Nat.le_of_ble_eq_true rfl, Nat.le_of_ble_eq_true rfl⟩) hS (fun q _ h => hFc q h) hFc (fun q _ h => hFc q h) (fun E9 ce9 q9 u t H1 locs ht hvm _ hB hz1 hk1 hS hc9 hv9 hf9 => ?_) (fun r u t H1 locs ht hvm hw => hw.elim)
  obtain ⟨rfl, hP1, hK1, hD1⟩ := hB
  rw [ht] at hP1
  obtain ⟨hP, hD⟩ := va_join (wr := []) (w1 := [(sl, .inr (5, [.ref sh, .int (zI lc), .ref ru, .ref tr, .ref se]))]) hP hD [0] [] rfl rfl (by decide) (by decide) hk1 hFc hP1 hD1
  have hP : va_P (dC, dI) vwCl [(sl, .inr (5, [.ref sh, .int (zI lc), .ref ru, .ref tr, .ref se]))] H1 := hP.sub [0] rfl
  have hD : va_D A [(sl, .inr (5, [.ref sh, .int (zI lc), .ref ru, .ref tr, .ref se]))] := hD.sub [0] (by decide) rfl
  refine vx_catch (name := "java/lang/IllegalArgumentException") hown [] ({ startPc := 0, endPc := 9, handlerPc := 12, catchType := 13 } : ExceptionTableEntry) [({ startPc := 0, endPc := 9, handlerPc := 15, catchType := 15 } : ExceptionTableEntry)] ((vx_table (x := yL_play) B (hts _ List.mem_cons_self)).trans rfl) (fun z hz => by cases hz) (by decide) (by decide) (hts (.classLink RL 13 "java/lang/IllegalArgumentException") (by decide +kernel)) (va_Nw.use rfl hEx.2.2.1) hc9 hv9 hf9 ?_
  generalize H1 = H at hP hS ⊢
  refine W.eq (g2 := F0 m 12 ls [.ref q9]) rfl ?_
  refine lv_astore_n (lv' := [(3, .ref q9), (0, .ref sl), (1, .int (zI i)), (2, .ref ou)]) hx hb dL_play_12 rfl hl (by decide) rfl (fun ls hl => ?_)
  refine lv_iconst (v := zI 1) hx hb dL_play_13 (rfl) ?_
  have hP9 := hP.sub (ws' := [(sl, .inr (5, [.ref sh, .int (zI lc), .ref ru, .ref tr, .ref se]))]) [0] rfl
  have hD9 := hD.sub (ws' := [(sl, .inr (5, [.ref sh, .int (zI lc), .ref ru, .ref tr, .ref se]))]) [0] (by decide) rfl
  refine W.widen (k := 1) (n := 6) (Nat.le_of_ble_eq_true rfl) (Nat.le_of_ble_eq_true rfl) ?_
  have po : zI 1 = zI 1 ∧ (True) := by
    refine ⟨by first | rfl | (congr 1; omega) | (congr 1; simp [*]), ?_⟩
    trivial
  exact W.iret (v := zI 1) hx hb hr (fun t ht hW => ⟨⟨zI 1, (), rfl, po, by rw [ht]; exact hP9, va_K.moved hW.alike hK, hD9⟩, hS.F ht⟩) hS.2.2 dL_play_14
set_option maxHeartbeats 4000000 in
set_option maxRecDepth 100000 in
theorem c_L_play_xb (l : Launch) (hfl : l.stackTraces = false) (dC : Nat → ClassId) (dI : Nat → Nat → Nat) (cI cZ cL cT cJ : ClassId) (sz : Nat) (sl : Nat) (sh : Nat) (lc : Int) (ru : Nat) (tr : Nat) (se : Nat) (rh : Nat) (rt : Nat) (rp : Int) (oc : Int) (i : Int) (ou : Nat) (gi : 0 ≤ i ∧ i ≤ 5) : Met l yL_play wsL_play ({ frames := 7, cells := 1, slots := 6, locals := 113 }) (zPy (dC, dI) (zT cI cZ cL cT cJ) sz [.ref sl, .int (zI i), .ref ou] [(sl, .inr (5, [.ref sh, .int (zI lc), .ref ru, .ref tr, .ref se])), (ru, .inr (2, [.ref rh, .ref rt, .null, .int (zI rp), .int (zI oc)]))]) (va_Qi (fun (r9 : Int32) (u9 : Unit) => match u9 with | _ => r9 = zI 2 ∧ (True)) (zB (dC, dI) (zT cI cZ cL cT cJ) (va_A [(sl, .inr (5, [.ref sh, .int (zI lc), .ref ru, .ref tr, .ref se])), (ru, .inr (2, [.ref rh, .ref rt, .null, .int (zI rp), .int (zI oc)]))] sz) (fun (u9 : Unit) => match u9 with | _ => [(sl, .inr (5, [.ref sh, .int (zI lc), .ref ru, .ref tr, .ref se])), (ru, .inr (2, [.ref rh, .ref rt, .null, .int (zI rp), .int (zI oc)]))])) (va_A [(sl, .inr (5, [.ref sh, .int (zI lc), .ref ru, .ref tr, .ref se])), (ru, .inr (2, [.ref rh, .ref rt, .null, .int (zI rp), .int (zI oc)]))] sz)) 1 6 (va_A [(sl, .inr (5, [.ref sh, .int (zI lc), .ref ru, .ref tr, .ref se])), (ru, .inr (2, [.ref rh, .ref rt, .null, .int (zI rp), .int (zI oc)]))] sz) := by
  refine va_MetW (cc := cL_play) (maxL := 4) (ret := (some .int)) (by decide) rfl ?_
  intro p e s m args below meth c s₁ B hml hv
  obtain ⟨rfl, hsz, hP, hK, hD0, hEx, hNc⟩ := hv
  have hx := B.exec
  have hb := B.bytes
  have hr := B.returns
  have hts := atoms_spec (ws := wsL_play) B.pre
  have hown : s.vm.findClass RL = some m.cls := findClass_of_methodNamed B.named
  have hlocks := B.notSynchronized
  subst hsz
  have hD := hD0.self (sz := s.heap.size)
  generalize hAe : va_A [(sl, .inr (5, [.ref sh, .int (zI lc), .ref ru, .ref tr, .ref se])), (ru, .inr (2, [.ref rh, .ref rt, .null, .int (zI rp), .int (zI oc)]))] s.heap.size = A at hD hEx ⊢
  have hA : ∀ q : Nat, s.heap.size ≤ q → A q := fun q h => by rw [← hAe]; exact Or.inr h
  clear hAe hD0
  have hS : va_S A s.heap s.heap [] := va_S.rf
  have hP : va_P (dC, dI) vwCl [(sl, .inr (5, [.ref sh, .int (zI lc), .ref ru, .ref tr, .ref se])), (ru, .inr (2, [.ref rh, .ref rt, .null, .int (zI rp), .int (zI oc)]))] s.heap := hP
  have hl := lv_entry ([.ref sl, .int (zI i), .ref ou]) (n := 4) (Nat.le_of_ble_eq_true rfl)
  rw [lg_entry_eq]
  generalize (lg_sl ([.ref sl, .int (zI i), .ref ou]) ++ List.replicate (4 - (lg_sl ([.ref sl, .int (zI i), .ref ou])).length) Slot.unset).toArray = ls at hl ⊢
  have hl : lv_has ls 4 [(0, .ref sl), (1, .int (zI i)), (2, .ref ou)] := hl
  refine lv_aload_n hx hb dL_play_0 rfl (lv_at hl 2 rfl) ?_
  refine lv_iconst (v := zI 0) hx hb dL_play_1 (rfl) ?_
  refine lv_aload_n hx hb dL_play_2 rfl (lv_at hl 0 rfl) ?_
  refine lv_iload_n hx hb dL_play_3 rfl (lv_at hl 1 rfl) ?_
  have hPc := hP.sub (ws' := [(sl, .inr (5, [.ref sh, .int (zI lc), .ref ru, .ref tr, .ref se])), (ru, .inr (2, [.ref rh, .ref rt, .null, .int (zI rp), .int (zI oc)]))]) [0, 1] rfl
  have hDc := hD.sub (ws' := [(sl, .inr (5, [.ref sh, .int (zI lc), .ref ru, .ref tr, .ref se])), (ru, .inr (2, [.ref rh, .ref rt, .null, .int (zI rp), .int (zI oc)]))]) [0, 1] (by decide) rfl
  have hFc := va_free (wc := [(sl, .inr (5, [.ref sh, .int (zI lc), .ref ru, .ref tr, .ref se])), (ru, .inr (2, [.ref rh, .ref rt, .null, .int (zI rp), .int (zI oc)]))]) hD hS hA [0, 1] rfl
  refine vx_calli (vx_runV (As := [.int (zI i)]) (rest := [.int (zI 0), .ref ou]) ⟨hx, hb, hml, hown, hts⟩ (x_X5_play_xb l hfl dC dI cI cZ cL cT cJ s.heap.size sl sh lc ru tr se rh rt rp oc i (by first | assumption | omega)) (cwV 1 hts gL_play_X5_play rfl rfl rfl (by decide +kernel) ⟨Nat.le_of_ble_eq_true rfl, Nat.le_of_ble_eq_true rfl⟩) ⟨zPx_blind, va_recv hK hPc (ci := 5) (q0 := 0) rfl rfl, zPx_pre hPc hDc hK hEx hS hFc⟩ rfl rfl hl.1 rfl (lv_room (Nat.le_of_ble_eq_true rfl)) dL_play_4 ⟨Nat.le_of_ble_eq_true rfl, Nat.le_of_ble_eq_true rfl⟩) hS (fun q _ h => hFc q h) hFc (fun q _ h => hFc q h) (fun E9 ce9 q9 u t H1 locs ht hvm _ hB hz1 hk1 hS hc9 hv9 hf9 => ?_) (fun r u t H1 locs ht hvm hw => hw.elim)
  obtain ⟨rfl, hP1, hK1, hD1⟩ := hB
  rw [ht] at hP1
  obtain ⟨hP, hD⟩ := va_join (wr := []) (w1 := [(sl, .inr (5, [.ref sh, .int (zI lc), .ref ru, .ref tr, .ref se])), (ru, .inr (2, [.ref rh, .ref rt, .null, .int (zI rp), .int (zI oc)]))]) hP hD [0, 1] [] rfl rfl (by decide) (by decide) hk1 hFc hP1 hD1
  have hP : va_P (dC, dI) vwCl [(sl, .inr (5, [.ref sh, .int (zI lc), .ref ru, .ref tr, .ref se])), (ru, .inr (2, [.ref rh, .ref rt, .null, .int (zI rp), .int (zI oc)]))] H1 := hP.sub [0, 1] rfl
  have hD : va_D A [(sl, .inr (5, [.ref sh, .int (zI lc), .ref ru, .ref tr, .ref se])), (ru, .inr (2, [.ref rh, .ref rt, .null, .int (zI rp), .int (zI oc)]))] := hD.sub [0, 1] (by decide) rfl
  refine vx_catch (name := "java/lang/IllegalStateException") hown [({ startPc := 0, endPc := 9, handlerPc := 12, catchType := 13 } : ExceptionTableEntry)] ({ startPc := 0, endPc := 9, handlerPc := 15, catchType := 15 } : ExceptionTableEntry) [] ((vx_table (x := yL_play) B (hts _ List.mem_cons_self)).trans rfl) (fun z hz => (List.mem_cons.mp hz).elim (fun e9 => by subst e9; exact Or.inr ⟨by decide, "java/lang/IllegalArgumentException", hts (.classLink RL 13 "java/lang/IllegalArgumentException") (by decide +kernel), hNc.2.2.1⟩) (fun hz => absurd hz List.not_mem_nil)) (by decide) (by decide) (hts (.classLink RL 15 "java/lang/IllegalStateException") (by decide +kernel)) (va_Nw.use rfl hEx.2.2.2.1) hc9 hv9 hf9 ?_
  generalize H1 = H at hP hS ⊢
  refine W.eq (g2 := F0 m 15 ls [.ref q9]) rfl ?_
  refine lv_astore_n (lv' := [(3, .ref q9), (0, .ref sl), (1, .int (zI i)), (2, .ref ou)]) hx hb dL_play_15 rfl hl (by decide) rfl (fun ls hl => ?_)
  refine lv_iconst (v := zI 2) hx hb dL_play_16 (rfl) ?_
  have hP9 := hP.sub (ws' := [(sl, .inr (5, [.ref sh, .int (zI lc), .ref ru, .ref tr, .ref se])), (ru, .inr (2, [.ref rh, .ref rt, .null, .int (zI rp), .int (zI oc)]))]) [0, 1] rfl
  have hD9 := hD.sub (ws' := [(sl, .inr (5, [.ref sh, .int (zI lc), .ref ru, .ref tr, .ref se])), (ru, .inr (2, [.ref rh, .ref rt, .null, .int (zI rp), .int (zI oc)]))]) [0, 1] (by decide) rfl
  refine W.widen (k := 1) (n := 6) (Nat.le_of_ble_eq_true rfl) (Nat.le_of_ble_eq_true rfl) ?_
  have po : zI 2 = zI 2 ∧ (True) := by
    refine ⟨by first | rfl | (congr 1; omega) | (congr 1; simp [*]), ?_⟩
    trivial
  exact W.iret (v := zI 2) hx hb hr (fun t ht hW => ⟨⟨zI 2, (), rfl, po, by rw [ht]; exact hP9, va_K.moved hW.alike hK, hD9⟩, hS.F ht⟩) hS.2.2 dL_play_17
set_option maxHeartbeats 4000000 in
set_option maxRecDepth 100000 in
theorem c_L_play_xc (l : Launch) (hfl : l.stackTraces = false) (dC : Nat → ClassId) (dI : Nat → Nat → Nat) (cI cZ cL cT cJ : ClassId) (sz : Nat) (sl : Nat) (sh : Nat) (lc : Int) (ru : Nat) (tr : Nat) (se : Nat) (rh : Nat) (rt : Nat) (rp : Int) (oc : Int) (lv : Nat) (i : Int) (ou : Nat) (gi : 0 ≤ i ∧ i ≤ 5) (goc : ¬ oc = 0) (goc2 : 0 ≤ oc ∧ oc ≤ 2) : Met l yL_play wsL_play ({ frames := 7, cells := 1, slots := 6, locals := 113 }) (zPy (dC, dI) (zT cI cZ cL cT cJ) sz [.ref sl, .int (zI i), .ref ou] [(sl, .inr (5, [.ref sh, .int (zI lc), .ref ru, .ref tr, .ref se])), (ru, .inr (2, [.ref rh, .ref rt, .ref lv, .int (zI rp), .int (zI oc)]))]) (va_Qi (fun (r9 : Int32) (u9 : Unit) => match u9 with | _ => r9 = zI 2 ∧ (True)) (zB (dC, dI) (zT cI cZ cL cT cJ) (va_A [(sl, .inr (5, [.ref sh, .int (zI lc), .ref ru, .ref tr, .ref se])), (ru, .inr (2, [.ref rh, .ref rt, .ref lv, .int (zI rp), .int (zI oc)]))] sz) (fun (u9 : Unit) => match u9 with | _ => [(sl, .inr (5, [.ref sh, .int (zI lc), .ref ru, .ref tr, .ref se])), (ru, .inr (2, [.ref rh, .ref rt, .ref lv, .int (zI rp), .int (zI oc)]))])) (va_A [(sl, .inr (5, [.ref sh, .int (zI lc), .ref ru, .ref tr, .ref se])), (ru, .inr (2, [.ref rh, .ref rt, .ref lv, .int (zI rp), .int (zI oc)]))] sz)) 1 6 (va_A [(sl, .inr (5, [.ref sh, .int (zI lc), .ref ru, .ref tr, .ref se])), (ru, .inr (2, [.ref rh, .ref rt, .ref lv, .int (zI rp), .int (zI oc)]))] sz) := by
  refine va_MetW (cc := cL_play) (maxL := 4) (ret := (some .int)) (by decide) rfl ?_
  intro p e s m args below meth c s₁ B hml hv
  obtain ⟨rfl, hsz, hP, hK, hD0, hEx, hNc⟩ := hv
  have hx := B.exec
  have hb := B.bytes
  have hr := B.returns
  have hts := atoms_spec (ws := wsL_play) B.pre
  have hown : s.vm.findClass RL = some m.cls := findClass_of_methodNamed B.named
  have hlocks := B.notSynchronized
  subst hsz
  have hD := hD0.self (sz := s.heap.size)
  generalize hAe : va_A [(sl, .inr (5, [.ref sh, .int (zI lc), .ref ru, .ref tr, .ref se])), (ru, .inr (2, [.ref rh, .ref rt, .ref lv, .int (zI rp), .int (zI oc)]))] s.heap.size = A at hD hEx ⊢
  have hA : ∀ q : Nat, s.heap.size ≤ q → A q := fun q h => by rw [← hAe]; exact Or.inr h
  clear hAe hD0
  have hS : va_S A s.heap s.heap [] := va_S.rf
  have hP : va_P (dC, dI) vwCl [(sl, .inr (5, [.ref sh, .int (zI lc), .ref ru, .ref tr, .ref se])), (ru, .inr (2, [.ref rh, .ref rt, .ref lv, .int (zI rp), .int (zI oc)]))] s.heap := hP
  have hl := lv_entry ([.ref sl, .int (zI i), .ref ou]) (n := 4) (Nat.le_of_ble_eq_true rfl)
  rw [lg_entry_eq]
  generalize (lg_sl ([.ref sl, .int (zI i), .ref ou]) ++ List.replicate (4 - (lg_sl ([.ref sl, .int (zI i), .ref ou])).length) Slot.unset).toArray = ls at hl ⊢
  have hl : lv_has ls 4 [(0, .ref sl), (1, .int (zI i)), (2, .ref ou)] := hl
  refine lv_aload_n hx hb dL_play_0 rfl (lv_at hl 2 rfl) ?_
  refine lv_iconst (v := zI 0) hx hb dL_play_1 (rfl) ?_
  refine lv_aload_n hx hb dL_play_2 rfl (lv_at hl 0 rfl) ?_
  refine lv_iload_n hx hb dL_play_3 rfl (lv_at hl 1 rfl) ?_
  have hPc := hP.sub (ws' := [(sl, .inr (5, [.ref sh, .int (zI lc), .ref ru, .ref tr, .ref se])), (ru, .inr (2, [.ref rh, .ref rt, .ref lv, .int (zI rp), .int (zI oc)]))]) [0, 1] rfl
  have hDc := hD.sub (ws' := [(sl, .inr (5, [.ref sh, .int (zI lc), .ref ru, .ref tr, .ref se])), (ru, .inr (2, [.ref rh, .ref rt, .ref lv, .int (zI rp), .int (zI oc)]))]) [0, 1] (by decide) rfl
  have hFc := va_free (wc := [(sl, .inr (5, [.ref sh, .int (zI lc), .ref ru, .ref tr, .ref se])), (ru, .inr (2, [.ref rh, .ref rt, .ref lv, .int (zI rp), .int (zI oc)]))]) hD hS hA [0, 1] rfl
  refine vx_calli (vx_runV (As := [.int (zI i)]) (rest := [.int (zI 0), .ref ou]) ⟨hx, hb, hml, hown, hts⟩ (x_X5_play_xc l hfl dC dI cI cZ cL cT cJ s.heap.size sl sh lc ru tr se rh rt rp oc lv i (by first | assumption | omega) (by first | assumption | omega) (by first | assumption | omega)) (cwV 1 hts gL_play_X5_play rfl rfl rfl (by decide +kernel) ⟨Nat.le_of_ble_eq_true rfl, Nat.le_of_ble_eq_true rfl⟩) ⟨zPx_blind, va_recv hK hPc (ci := 5) (q0 := 0) rfl rfl, zPx_pre hPc hDc hK hEx hS hFc⟩ rfl rfl hl.1 rfl (lv_room (Nat.le_of_ble_eq_true rfl)) dL_play_4 ⟨Nat.le_of_ble_eq_true rfl, Nat.le_of_ble_eq_true rfl⟩) hS (fun q _ h => hFc q h) hFc (fun q _ h => hFc q h) (fun E9 ce9 q9 u t H1 locs ht hvm _ hB hz1 hk1 hS hc9 hv9 hf9 => ?_) (fun r u t H1 locs ht hvm hw => hw.elim)
  obtain ⟨rfl, hP1, hK1, hD1⟩ := hB
  rw [ht] at hP1
  obtain ⟨hP, hD⟩ := va_join (wr := []) (w1 := [(sl, .inr (5, [.ref sh, .int (zI lc), .ref ru, .ref tr, .ref se])), (ru, .inr (2, [.ref rh, .ref rt, .ref lv, .int (zI rp), .int (zI oc)]))]) hP hD [0, 1] [] rfl rfl (by decide) (by decide) hk1 hFc hP1 hD1
  have hP : va_P (dC, dI) vwCl [(sl, .inr (5, [.ref sh, .int (zI lc), .ref ru, .ref tr, .ref se])), (ru, .inr (2, [.ref rh, .ref rt, .ref lv, .int (zI rp), .int (zI oc)]))] H1 := hP.sub [0, 1] rfl
  have hD : va_D A [(sl, .inr (5, [.ref sh, .int (zI lc), .ref ru, .ref tr, .ref se])), (ru, .inr (2, [.ref rh, .ref rt, .ref lv, .int (zI rp), .int (zI oc)]))] := hD.sub [0, 1] (by decide) rfl
  refine vx_catch (name := "java/lang/IllegalStateException") hown [({ startPc := 0, endPc := 9, handlerPc := 12, catchType := 13 } : ExceptionTableEntry)] ({ startPc := 0, endPc := 9, handlerPc := 15, catchType := 15 } : ExceptionTableEntry) [] ((vx_table (x := yL_play) B (hts _ List.mem_cons_self)).trans rfl) (fun z hz => (List.mem_cons.mp hz).elim (fun e9 => by subst e9; exact Or.inr ⟨by decide, "java/lang/IllegalArgumentException", hts (.classLink RL 13 "java/lang/IllegalArgumentException") (by decide +kernel), hNc.2.2.1⟩) (fun hz => absurd hz List.not_mem_nil)) (by decide) (by decide) (hts (.classLink RL 15 "java/lang/IllegalStateException") (by decide +kernel)) (va_Nw.use rfl hEx.2.2.2.1) hc9 hv9 hf9 ?_
  generalize H1 = H at hP hS ⊢
  refine W.eq (g2 := F0 m 15 ls [.ref q9]) rfl ?_
  refine lv_astore_n (lv' := [(3, .ref q9), (0, .ref sl), (1, .int (zI i)), (2, .ref ou)]) hx hb dL_play_15 rfl hl (by decide) rfl (fun ls hl => ?_)
  refine lv_iconst (v := zI 2) hx hb dL_play_16 (rfl) ?_
  have hP9 := hP.sub (ws' := [(sl, .inr (5, [.ref sh, .int (zI lc), .ref ru, .ref tr, .ref se])), (ru, .inr (2, [.ref rh, .ref rt, .ref lv, .int (zI rp), .int (zI oc)]))]) [0, 1] rfl
  have hD9 := hD.sub (ws' := [(sl, .inr (5, [.ref sh, .int (zI lc), .ref ru, .ref tr, .ref se])), (ru, .inr (2, [.ref rh, .ref rt, .ref lv, .int (zI rp), .int (zI oc)]))]) [0, 1] (by decide) rfl
  refine W.widen (k := 1) (n := 6) (Nat.le_of_ble_eq_true rfl) (Nat.le_of_ble_eq_true rfl) ?_
  have po : zI 2 = zI 2 ∧ (True) := by
    refine ⟨by first | rfl | (congr 1; omega) | (congr 1; simp [*]), ?_⟩
    trivial
  exact W.iret (v := zI 2) hx hb hr (fun t ht hW => ⟨⟨zI 2, (), rfl, po, by rw [ht]; exact hP9, va_K.moved hW.alike hK, hD9⟩, hS.F ht⟩) hS.2.2 dL_play_17
set_option maxHeartbeats 4000000 in
set_option maxRecDepth 100000 in
theorem c_L_record_xa (l : Launch) (hfl : l.stackTraces = false) (dC : Nat → ClassId) (dI : Nat → Nat → Nat) (cI cZ cL cT cJ : ClassId) (sz : Nat) (sl : Nat) (sh : Nat) (lc : Int) (ru : Nat) (tr : Nat) (se : Nat) (sf : Nat → Option Nat) (L : Int) (pl : Int) (ou : Nat) (gr9 : -2147483648 ≤ L ∧ L < 2147483648) (gb : L < 0 ∨ 6 ≤ L ∨ ∃ k : Nat, L = (k : Int) ∧ k < 6 ∧ sf k = none) : Met l yL_record wsL_record ({ frames := 9, cells := 1, slots := 6, locals := 157 }) (zPy (dC, dI) (zT cI cZ cL cT cJ) sz [.ref sl, .int (zI L), .int (zI pl), .ref ou] [(sl, .inr (5, [.ref sh, .int (zI lc), .ref ru, .ref tr, .ref se])), zQ cL sh 6 sf]) (va_Qi (fun (r9 : Int32) (u9 : Unit) => match u9 with | _ => r9 = zI 1 ∧ (True)) (zB (dC, dI) (zT cI cZ cL cT cJ) (va_A [(sl, .inr (5, [.ref sh, .int (zI lc), .ref ru, .ref tr, .ref se])), zQ cL sh 6 sf] sz) (fun (u9 : Unit) => match u9 with | _ => [(sl, .inr (5, [.ref sh, .int (zI lc), .ref ru, .ref tr, .ref se])), zQ cL sh 6 sf])) (va_A [(sl, .inr (5, [.ref sh, .int (zI lc), .ref ru, .ref tr, .ref se])), zQ cL sh 6 sf] sz)) 1 6 (va_A [(sl, .inr (5, [.ref sh, .int (zI lc), .ref ru, .ref tr, .ref se])), zQ cL sh 6 sf] sz) := by
  refine va_MetW (cc := cL_record) (maxL := 5) (ret := (some .int)) (by decide) rfl ?_
  intro p e s m args below meth c s₁ B hml hv
  obtain ⟨rfl, hsz, hP, hK, hD0, hEx, hNc⟩ := hv
  have hx := B.exec
  have hb := B.bytes
  have hr := B.returns
  have hts := atoms_spec (ws := wsL_record) B.pre
  have hown : s.vm.findClass RL = some m.cls := findClass_of_methodNamed B.named
  have hlocks := B.notSynchronized
  subst hsz
  have hD := hD0.self (sz := s.heap.size)
  generalize hAe : va_A [(sl, .inr (5, [.ref sh, .int (zI lc), .ref ru, .ref tr, .ref se])), zQ cL sh 6 sf] s.heap.size = A at hD hEx ⊢
  have hA : ∀ q : Nat, s.heap.size ≤ q → A q := fun q h => by rw [← hAe]; exact Or.inr h
  clear hAe hD0
  have hS : va_S A s.heap s.heap [] := va_S.rf
  have hP : va_P (dC, dI) vwCl [(sl, .inr (5, [.ref sh, .int (zI lc), .ref ru, .ref tr, .ref se])), zQ cL sh 6 sf] s.heap := hP
  have hl := lv_entry ([.ref sl, .int (zI L), .int (zI pl), .ref ou]) (n := 5) (Nat.le_of_ble_eq_true rfl)
  rw [lg_entry_eq]
  generalize (lg_sl ([.ref sl, .int (zI L), .int (zI pl), .ref ou]) ++ List.replicate (5 - (lg_sl ([.ref sl, .int (zI L), .int (zI pl), .ref ou])).length) Slot.unset).toArray = ls at hl ⊢
  have hl : lv_has ls 5 [(0, .ref sl), (1, .int (zI L)), (2, .int (zI pl)), (3, .ref ou)] := hl
  refine lv_aload_n hx hb dL_record_0 rfl (lv_at hl 3 rfl) ?_
  refine lv_iconst (v := zI 0) hx hb dL_record_1 (rfl) ?_
  refine lv_aload_n hx hb dL_record_2 rfl (lv_at hl 0 rfl) ?_
  refine lv_iload_n hx hb dL_record_3 rfl (lv_at hl 1 rfl) ?_
  refine lv_iload_n hx hb dL_record_4 rfl (lv_at hl 2 rfl) ?_
  have hPc := hP.sub (ws' := [(sl, .inr (5, [.ref sh, .int (zI lc), .ref ru, .ref tr, .ref se])), zQ cL sh 6 sf]) [0, 1] rfl
  have hDc := hD.sub (ws' := [(sl, .inr (5, [.ref sh, .int (zI lc), .ref ru, .ref tr, .ref se])), zQ cL sh 6 sf]) [0, 1] (by decide) rfl
  have hFc := va_free (wc := [(sl, .inr (5, [.ref sh, .int (zI lc), .ref ru, .ref tr, .ref se])), zQ cL sh 6 sf]) hD hS hA [0, 1] rfl
  refine vx_calli (vx_runV (As := [.int (zI L), .int (zI pl)]) (rest := [.int (zI 0), .ref ou]) ⟨hx, hb, hml, hown, hts⟩ (x_X5_record_xa l hfl dC dI cI cZ cL cT cJ s.heap.size sl sh lc ru tr se sf L pl (by first | assumption | omega) (by first | assumption | omega)) (cwV 2 hts gL_record_X5_record rfl rfl rfl (by decide +kernel) ⟨Nat.le_of_ble_eq_true rfl, Nat.le_of_ble_eq_true rfl⟩) ⟨zPx_blind, va_recv hK hPc (ci := 5) (q0 := 0) rfl rfl, zPx_pre hPc hDc hK hEx hS hFc⟩ rfl rfl hl.1 rfl (lv_room (Nat.le_of_ble_eq_true rfl)) dL_record_5 ⟨Nat.le_of_ble_eq_true rfl, Nat.le_of_ble_eq_true rfl⟩) hS (fun q _ h => hFc q h) hFc (fun q _ h => hFc q h) (fun E9 ce9 q9 u t H1 locs ht hvm _ hB hz1 hk1 hS hc9 hv9 hf9 => ?_) (fun r u t H1 locs ht hvm hw => hw.elim)
  obtain ⟨rfl, hP1, hK1, hD1⟩ := hB
  rw [ht] at hP1
  obtain ⟨hP, hD⟩ := va_join (wr := []) (w1 := [(sl, .inr (5, [.ref sh, .int (zI lc), .ref ru, .ref tr, .ref se])), zQ cL sh 6 sf]) hP hD [0, 1] [] rfl rfl (by decide) (by decide) hk1 hFc hP1 hD1
  have hP : va_P (dC, dI) vwCl [(sl, .inr (5, [.ref sh, .int (zI lc), .ref ru, .ref tr, .ref se])), zQ cL sh 6 sf] H1 := hP.sub [0, 1] rfl
  have hD : va_D A [(sl, .inr (5, [.ref sh, .int (zI lc), .ref ru, .ref tr, .ref se])), zQ cL sh 6 sf] := hD.sub [0, 1] (by decide) rfl
  refine vx_catch (name := "java/lang/IndexOutOfBoundsException") hown [] ({ startPc := 0, endPc := 10, handlerPc := 13, catchType := 21 } : ExceptionTableEntry) [] ((vx_table (x := yL_record) B (hts _ List.mem_cons_self)).trans rfl) (fun z hz => by cases hz) (by decide) (by decide) (hts (.classLink RL 21 "java/lang/IndexOutOfBoundsException") (by decide +kernel)) (va_Nw.use rfl hEx.2.2.2.2.1) hc9 hv9 hf9 ?_
  generalize H1 = H at hP hS ⊢
  refine W.eq (g2 := F0 m 13 ls [.ref q9]) rfl ?_
  refine lv_astore (lv' := [(4, .ref q9), (0, .ref sl), (1, .int (zI L)), (2, .int (zI pl)), (3, .ref ou)]) hx hb dL_record_13 hl (by decide) rfl (fun ls hl => ?_)
  refine lv_iconst (v := zI 1) hx hb dL_record_15 (rfl) ?_
  have hP9 := hP.sub (ws' := [(sl, .inr (5, [.ref sh, .int (zI lc), .ref ru, .ref tr, .ref se])), zQ cL sh 6 sf]) [0, 1] rfl
  have hD9 := hD.sub (ws' := [(sl, .inr (5, [.ref sh, .int (zI lc), .ref ru, .ref tr, .ref se])), zQ cL sh 6 sf]) [0, 1] (by decide) rfl
  refine W.widen (k := 1) (n := 6) (Nat.le_of_ble_eq_true rfl) (Nat.le_of_ble_eq_true rfl) ?_
  have po : zI 1 = zI 1 ∧ (True) := by
    refine ⟨by first | rfl | (congr 1; omega) | (congr 1; simp [*]), ?_⟩
    trivial
  exact W.iret (v := zI 1) hx hb hr (fun t ht hW => ⟨⟨zI 1, (), rfl, po, by rw [ht]; exact hP9, va_K.moved hW.alike hK, hD9⟩, hS.F ht⟩) hS.2.2 dL_record_16
set_option maxHeartbeats 4000000 in
set_option maxRecDepth 100000 in
theorem c_L_record_xb (l : Launch) (hfl : l.stackTraces = false) (dC : Nat → ClassId) (dI : Nat → Nat → Nat) (cI cZ cL cT cJ : ClassId) (sz : Nat) (sl : Nat) (sh : Nat) (lc : Int) (ru : Nat) (tr : Nat) (se : Nat) (sf : Nat → Option Nat) (L : Int) (k : Nat) (lv : Nat) (w : Int) (h : Int) (ka : Nat) (ta : Nat) (sx : Int) (sy : Int) (fx : Int) (fy : Int) (lf : Int) (un : Int) (tq : Nat → Option Nat) (tp : Nat → Nat) (pl : Int) (ou : Nat) (gk : L = (k : Int) ∧ k < 6) (gf : sf k = some lv) (gr : -2147483648 ≤ pl ∧ pl < 2147483648) (gkn : pl < 0 ∨ 4 ≤ pl) : Met l yL_record wsL_record ({ frames := 8, cells := 1, slots := 6, locals := 135 }) (zPy (dC, dI) (zT cI cZ cL cT cJ) sz [.ref sl, .int (zI L), .int (zI pl), .ref ou] [(sl, .inr (5, [.ref sh, .int (zI lc), .ref ru, .ref tr, .ref se])), zQ cL sh 6 sf, (lv, .inr (1, [.int (zI w), .int (zI h), .ref ka, .ref ta, .int (zI sx), .int (zI sy), .int (zI fx), .int (zI fy), .int (zI lf), .int (zI un)])), zQ cT ta 4 tq]) (va_Qi (fun (r9 : Int32) (u9 : Unit) => match u9 with | _ => r9 = zI 1 ∧ (True)) (zB (dC, dI) (zT cI cZ cL cT cJ) (va_A [(sl, .inr (5, [.ref sh, .int (zI lc), .ref ru, .ref tr, .ref se])), zQ cL sh 6 sf, (lv, .inr (1, [.int (zI w), .int (zI h), .ref ka, .ref ta, .int (zI sx), .int (zI sy), .int (zI fx), .int (zI fy), .int (zI lf), .int (zI un)])), zQ cT ta 4 tq] sz) (fun (u9 : Unit) => match u9 with | _ => [(sl, .inr (5, [.ref sh, .int (zI lc), .ref ru, .ref tr, .ref se])), zQ cL sh 6 sf, (lv, .inr (1, [.int (zI w), .int (zI h), .ref ka, .ref ta, .int (zI sx), .int (zI sy), .int (zI fx), .int (zI fy), .int (zI lf), .int (zI un)])), zQ cT ta 4 tq])) (va_A [(sl, .inr (5, [.ref sh, .int (zI lc), .ref ru, .ref tr, .ref se])), zQ cL sh 6 sf, (lv, .inr (1, [.int (zI w), .int (zI h), .ref ka, .ref ta, .int (zI sx), .int (zI sy), .int (zI fx), .int (zI fy), .int (zI lf), .int (zI un)])), zQ cT ta 4 tq] sz)) 1 6 (va_A [(sl, .inr (5, [.ref sh, .int (zI lc), .ref ru, .ref tr, .ref se])), zQ cL sh 6 sf, (lv, .inr (1, [.int (zI w), .int (zI h), .ref ka, .ref ta, .int (zI sx), .int (zI sy), .int (zI fx), .int (zI fy), .int (zI lf), .int (zI un)])), zQ cT ta 4 tq] sz) := by
  refine va_MetW (cc := cL_record) (maxL := 5) (ret := (some .int)) (by decide) rfl ?_
  intro p e s m args below meth c s₁ B hml hv
  obtain ⟨rfl, hsz, hP, hK, hD0, hEx, hNc⟩ := hv
  have hx := B.exec
  have hb := B.bytes
  have hr := B.returns
  have hts := atoms_spec (ws := wsL_record) B.pre
  have hown : s.vm.findClass RL = some m.cls := findClass_of_methodNamed B.named
  have hlocks := B.notSynchronized
  subst hsz
  have hD := hD0.self (sz := s.heap.size)
  generalize hAe : va_A [(sl, .inr (5, [.ref sh, .int (zI lc), .ref ru, .ref tr, .ref se])), zQ cL sh 6 sf, (lv, .inr (1, [.int (zI w), .int (zI h), .ref ka, .ref ta, .int (zI sx), .int (zI sy), .int (zI fx), .int (zI fy), .int (zI lf), .int (zI un)])), zQ cT ta 4 tq] s.heap.size = A at hD hEx ⊢
  have hA : ∀ q : Nat, s.heap.size ≤ q → A q := fun q h => by rw [← hAe]; exact Or.inr h
  clear hAe hD0
  have hS : va_S A s.heap s.heap [] := va_S.rf
  have hP : va_P (dC, dI) vwCl [(sl, .inr (5, [.ref sh, .int (zI lc), .ref ru, .ref tr, .ref se])), zQ cL sh 6 sf, (lv, .inr (1, [.int (zI w), .int (zI h), .ref ka, .ref ta, .int (zI sx), .int (zI sy), .int (zI fx), .int (zI fy), .int (zI lf), .int (zI un)])), zQ cT ta 4 tq] s.heap := hP
  have hl := lv_entry ([.ref sl, .int (zI L), .int (zI pl), .ref ou]) (n := 5) (Nat.le_of_ble_eq_true rfl)
  rw [lg_entry_eq]
  generalize (lg_sl ([.ref sl, .int (zI L), .int (zI pl), .ref ou]) ++ List.replicate (5 - (lg_sl ([.ref sl, .int (zI L), .int (zI pl), .ref ou])).length) Slot.unset).toArray = ls at hl ⊢
  have hl : lv_has ls 5 [(0, .ref sl), (1, .int (zI L)), (2, .int (zI pl)), (3, .ref ou)] := hl
  refine lv_aload_n hx hb dL_record_0 rfl (lv_at hl 3 rfl) ?_
  refine lv_iconst (v := zI 0) hx hb dL_record_1 (rfl) ?_
  refine lv_aload_n hx hb dL_record_2 rfl (lv_at hl 0 rfl) ?_
  refine lv_iload_n hx hb dL_record_3 rfl (lv_at hl 1 rfl) ?_
  refine lv_iload_n hx hb dL_record_4 rfl (lv_at hl 2 rfl) ?_
  have hPc := hP.sub (ws' := [(sl, .inr (5, [.ref sh, .int (zI lc), .ref ru, .ref tr, .ref se])), zQ cL sh 6 sf, (lv, .inr (1, [.int (zI w), .int (zI h), .ref ka, .ref ta, .int (zI sx), .int (zI sy), .int (zI fx), .int (zI fy), .int (zI lf), .int (zI un)])), zQ cT ta 4 tq]) [0, 1, 2, 3] rfl
  have hDc := hD.sub (ws' := [(sl, .inr (5, [.ref sh, .int (zI lc), .ref ru, .ref tr, .ref se])), zQ cL sh 6 sf, (lv, .inr (1, [.int (zI w), .int (zI h), .ref ka, .ref ta, .int (zI sx), .int (zI sy), .int (zI fx), .int (zI fy), .int (zI lf), .int (zI un)])), zQ cT ta 4 tq]) [0, 1, 2, 3] (by decide) rfl
  have hFc := va_free (wc := [(sl, .inr (5, [.ref sh, .int (zI lc), .ref ru, .ref tr, .ref se])), zQ cL sh 6 sf, (lv, .inr (1, [.int (zI w), .int (zI h), .ref ka, .ref ta, .int (zI sx), .int (zI sy), .int (zI fx), .int (zI fy), .int (zI lf), .int (zI un)])), zQ cT ta 4 tq]) hD hS hA [0, 1, 2, 3] rfl
  refine vx_calli (vx_runV (As := [.int (zI L), .int (zI pl)]) (rest := [.int (zI 0), .ref ou]) ⟨hx, hb, hml, hown, hts⟩ (x_X5_record_xb l hfl dC dI cI cZ cL cT cJ s.heap.size sl sh lc ru tr se sf L k lv w h ka ta sx sy fx fy lf un tq tp pl (by first | assumption | omega) (by first | assumption | omega) (by first | assumption | omega) (by first | assumption | omega)) (cwV 2 hts gL_record_X5_record rfl rfl rfl (by decide +kernel) ⟨Nat.le_of_ble_eq_true rfl, Nat.le_of_ble_eq_true rfl⟩) ⟨zPx_blind, va_recv hK hPc (ci := 5) (q0 := 0) rfl rfl, zPx_pre hPc hDc hK hEx hS hFc⟩ rfl rfl hl.1 rfl (lv_room (Nat.le_of_ble_eq_true rfl)) dL_record_5 ⟨Nat.le_of_ble_eq_true rfl, Nat.le_of_ble_eq_true rfl⟩) hS (fun q _ h => hFc q h) hFc (fun q _ h => hFc q h) (fun E9 ce9 q9 u t H1 locs ht hvm _ hB hz1 hk1 hS hc9 hv9 hf9 => ?_) (fun r u t H1 locs ht hvm hw => hw.elim)
  obtain ⟨rfl, hP1, hK1, hD1⟩ := hB
  rw [ht] at hP1
  obtain ⟨hP, hD⟩ := va_join (wr := []) (w1 := [(sl, .inr (5, [.ref sh, .int (zI lc), .ref ru, .ref tr, .ref se])), zQ cL sh 6 sf, (lv, .inr (1, [.int (zI w), .int (zI h), .ref ka, .ref ta, .int (zI sx), .int (zI sy), .int (zI fx), .int (zI fy), .int (zI lf), .int (zI un)])), zQ cT ta 4 tq]) hP hD [0, 1, 2, 3] [] rfl rfl (by decide) (by decide) hk1 hFc hP1 hD1
  have hP : va_P (dC, dI) vwCl [(sl, .inr (5, [.ref sh, .int (zI lc), .ref ru, .ref tr, .ref se])), zQ cL sh 6 sf, (lv, .inr (1, [.int (zI w), .int (zI h), .ref ka, .ref ta, .int (zI sx), .int (zI sy), .int (zI fx), .int (zI fy), .int (zI lf), .int (zI un)])), zQ cT ta 4 tq] H1 := hP.sub [0, 1, 2, 3] rfl
  have hD : va_D A [(sl, .inr (5, [.ref sh, .int (zI lc), .ref ru, .ref tr, .ref se])), zQ cL sh 6 sf, (lv, .inr (1, [.int (zI w), .int (zI h), .ref ka, .ref ta, .int (zI sx), .int (zI sy), .int (zI fx), .int (zI fy), .int (zI lf), .int (zI un)])), zQ cT ta 4 tq] := hD.sub [0, 1, 2, 3] (by decide) rfl
  refine vx_catch (name := "java/lang/IndexOutOfBoundsException") hown [] ({ startPc := 0, endPc := 10, handlerPc := 13, catchType := 21 } : ExceptionTableEntry) [] ((vx_table (x := yL_record) B (hts _ List.mem_cons_self)).trans rfl) (fun z hz => by cases hz) (by decide) (by decide) (hts (.classLink RL 21 "java/lang/IndexOutOfBoundsException") (by decide +kernel)) (va_Nw.use rfl hEx.2.2.2.2.1) hc9 hv9 hf9 ?_
  generalize H1 = H at hP hS ⊢
  refine W.eq (g2 := F0 m 13 ls [.ref q9]) rfl ?_
  refine lv_astore (lv' := [(4, .ref q9), (0, .ref sl), (1, .int (zI L)), (2, .int (zI pl)), (3, .ref ou)]) hx hb dL_record_13 hl (by decide) rfl (fun ls hl => ?_)
  refine lv_iconst (v := zI 1) hx hb dL_record_15 (rfl) ?_
  have hP9 := hP.sub (ws' := [(sl, .inr (5, [.ref sh, .int (zI lc), .ref ru, .ref tr, .ref se])), zQ cL sh 6 sf, (lv, .inr (1, [.int (zI w), .int (zI h), .ref ka, .ref ta, .int (zI sx), .int (zI sy), .int (zI fx), .int (zI fy), .int (zI lf), .int (zI un)])), zQ cT ta 4 tq]) [0, 1, 2, 3] rfl
  have hD9 := hD.sub (ws' := [(sl, .inr (5, [.ref sh, .int (zI lc), .ref ru, .ref tr, .ref se])), zQ cL sh 6 sf, (lv, .inr (1, [.int (zI w), .int (zI h), .ref ka, .ref ta, .int (zI sx), .int (zI sy), .int (zI fx), .int (zI fy), .int (zI lf), .int (zI un)])), zQ cT ta 4 tq]) [0, 1, 2, 3] (by decide) rfl
  refine W.widen (k := 1) (n := 6) (Nat.le_of_ble_eq_true rfl) (Nat.le_of_ble_eq_true rfl) ?_
  have po : zI 1 = zI 1 ∧ (True) := by
    refine ⟨by first | rfl | (congr 1; omega) | (congr 1; simp [*]), ?_⟩
    trivial
  exact W.iret (v := zI 1) hx hb hr (fun t ht hW => ⟨⟨zI 1, (), rfl, po, by rw [ht]; exact hP9, va_K.moved hW.alike hK, hD9⟩, hS.F ht⟩) hS.2.2 dL_record_16
set_option maxHeartbeats 4000000 in
set_option maxRecDepth 100000 in
theorem c_L_half_xa (l : Launch) (hfl : l.stackTraces = false) (dC : Nat → ClassId) (dI : Nat → Nat → Nat) (cI cZ cL cT cJ : ClassId) (sz : Nat) (sl : Nat) (sh : Nat) (lc : Int) (ru : Nat) (tr : Nat) (se : Nat) (sf : Nat → Option Nat) (L : Int) (pl : Int) (ou : Nat) (gr9 : -2147483648 ≤ L ∧ L < 2147483648) (gb : L < 0 ∨ 6 ≤ L ∨ ∃ k : Nat, L = (k : Int) ∧ k < 6 ∧ sf k = none) : Met l yL_half wsL_half ({ frames := 9, cells := 1, slots := 6, locals := 157 }) (zPy (dC, dI) (zT cI cZ cL cT cJ) sz [.ref sl, .int (zI L), .int (zI pl), .ref ou] [(sl, .inr (5, [.ref sh, .int (zI lc), .ref ru, .ref tr, .ref se])), zQ cL sh 6 sf]) (va_Qi (fun (r9 : Int32) (u9 : Unit) => match u9 with | _ => r9 = zI 1 ∧ (True)) (zB (dC, dI) (zT cI cZ cL cT cJ) (va_A [(sl, .inr (5, [.ref sh, .int (zI lc), .ref ru, .ref tr, .ref se])), zQ cL sh 6 sf] sz) (fun (u9 : Unit) => match u9 with | _ => [(sl, .inr (5, [.ref sh, .int (zI lc), .ref ru, .ref tr, .ref se])), zQ cL sh 6 sf])) (va_A [(sl, .inr (5, [.ref sh, .int (zI lc), .ref ru, .ref tr, .ref se])), zQ cL sh 6 sf] sz)) 1 6 (va_A [(sl, .inr (5, [.ref sh, .int (zI lc), .ref ru, .ref tr, .ref se])), zQ cL sh 6 sf] sz) := by
  refine va_MetW (cc := cL_half) (maxL := 5) (ret := (some .int)) (by decide) rfl ?_
  intro p e s m args below meth c s₁ B hml hv
  obtain ⟨rfl, hsz, hP, hK, hD0, hEx, hNc⟩ := hv
  have hx := B.exec
  have hb := B.bytes
  have hr := B.returns
  have hts := atoms_spec (ws := wsL_half) B.pre
  have hown : s.vm.findClass RL = some m.cls := findClass_of_methodNamed B.named
  have hlocks := B.notSynchronized
  subst hsz
  have hD := hD0.self (sz := s.heap.size)
  generalize hAe : va_A [(sl, .inr (5, [.ref sh, .int (zI lc), .ref ru, .ref tr, .ref se])), zQ cL sh 6 sf] s.heap.size = A at hD hEx ⊢
  have hA : ∀ q : Nat, s.heap.size ≤ q → A q := fun q h => by rw [← hAe]; exact Or.inr h
  clear hAe hD0
  have hS : va_S A s.heap s.heap [] := va_S.rf
  have hP : va_P (dC, dI) vwCl [(sl, .inr (5, [.ref sh, .int (zI lc), .ref ru, .ref tr, .ref se])), zQ cL sh 6 sf] s.heap := hP
  have hl := lv_entry ([.ref sl, .int (zI L), .int (zI pl), .ref ou]) (n := 5) (Nat.le_of_ble_eq_true rfl)
  rw [lg_entry_eq]
  generalize (lg_sl ([.ref sl, .int (zI L), .int (zI pl), .ref ou]) ++ List.replicate (5 - (lg_sl ([.ref sl, .int (zI L), .int (zI pl), .ref ou])).length) Slot.unset).toArray = ls at hl ⊢
  have hl : lv_has ls 5 [(0, .ref sl), (1, .int (zI L)), (2, .int (zI pl)), (3, .ref ou)] := hl
  refine lv_aload_n hx hb dL_half_0 rfl (lv_at hl 3 rfl) ?_
  refine lv_iconst (v := zI 0) hx hb dL_half_1 (rfl) ?_
  refine lv_aload_n hx hb dL_half_2 rfl (lv_at hl 0 rfl) ?_
  refine lv_iload_n hx hb dL_half_3 rfl (lv_at hl 1 rfl) ?_
  refine lv_iload_n hx hb dL_half_4 rfl (lv_at hl 2 rfl) ?_
  have hPc := hP.sub (ws' := [(sl, .inr (5, [.ref sh, .int (zI lc), .ref ru, .ref tr, .ref se])), zQ cL sh 6 sf]) [0, 1] rfl
  have hDc := hD.sub (ws' := [(sl, .inr (5, [.ref sh, .int (zI lc), .ref ru, .ref tr, .ref se])), zQ cL sh 6 sf]) [0, 1] (by decide) rfl
  have hFc := va_free (wc := [(sl, .inr (5, [.ref sh, .int (zI lc), .ref ru, .ref tr, .ref se])), zQ cL sh 6 sf]) hD hS hA [0, 1] rfl
  refine vx_calli (vx_runV (As := [.int (zI L), .int (zI pl)]) (rest := [.int (zI 0), .ref ou]) ⟨hx, hb, hml, hown, hts⟩ (x_X5_half_xa l hfl dC dI cI cZ cL cT cJ s.heap.size sl sh lc ru tr se sf L pl (by first | assumption | omega) (by first | assumption | omega)) (cwV 2 hts gL_half_X5_half rfl rfl rfl (by decide +kernel) ⟨Nat.le_of_ble_eq_true rfl, Nat.le_of_ble_eq_true rfl⟩) ⟨zPx_blind, va_recv hK hPc (ci := 5) (q0 := 0) rfl rfl, zPx_pre hPc hDc hK hEx hS hFc⟩ rfl rfl hl.1 rfl (lv_room (Nat.le_of_ble_eq_true rfl)) dL_half_5 ⟨Nat.le_of_ble_eq_true rfl, Nat.le_of_ble_eq_true rfl⟩) hS (fun q _ h => hFc q h) hFc (fun q _ h => hFc q h) (fun E9 ce9 q9 u t H1 locs ht hvm _ hB hz1 hk1 hS hc9 hv9 hf9 => ?_) (fun r u t H1 locs ht hvm hw => hw.elim)
  obtain ⟨rfl, hP1, hK1, hD1⟩ := hB
  rw [ht] at hP1
  obtain ⟨hP, hD⟩ := va_join (wr := []) (w1 := [(sl, .inr (5, [.ref sh, .int (zI lc), .ref ru, .ref tr, .ref se])), zQ cL sh 6 sf]) hP hD [0, 1] [] rfl rfl (by decide) (by decide) hk1 hFc hP1 hD1
  have hP : va_P (dC, dI) vwCl [(sl, .inr (5, [.ref sh, .int (zI lc), .ref ru, .ref tr, .ref se])), zQ cL sh 6 sf] H1 := hP.sub [0, 1] rfl
  have hD : va_D A [(sl, .inr (5, [.ref sh, .int (zI lc), .ref ru, .ref tr, .ref se])), zQ cL sh 6 sf] := hD.sub [0, 1] (by decide) rfl
  refine vx_catch (name := "java/lang/IndexOutOfBoundsException") hown [] ({ startPc := 0, endPc := 10, handlerPc := 13, catchType := 21 } : ExceptionTableEntry) [] ((vx_table (x := yL_half) B (hts _ List.mem_cons_self)).trans rfl) (fun z hz => by cases hz) (by decide) (by decide) (hts (.classLink RL 21 "java/lang/IndexOutOfBoundsException") (by decide +kernel)) (va_Nw.use rfl hEx.2.2.2.2.1) hc9 hv9 hf9 ?_
  generalize H1 = H at hP hS ⊢
  refine W.eq (g2 := F0 m 13 ls [.ref q9]) rfl ?_
  refine lv_astore (lv' := [(4, .ref q9), (0, .ref sl), (1, .int (zI L)), (2, .int (zI pl)), (3, .ref ou)]) hx hb dL_half_13 hl (by decide) rfl (fun ls hl => ?_)
  refine lv_iconst (v := zI 1) hx hb dL_half_15 (rfl) ?_
  have hP9 := hP.sub (ws' := [(sl, .inr (5, [.ref sh, .int (zI lc), .ref ru, .ref tr, .ref se])), zQ cL sh 6 sf]) [0, 1] rfl
  have hD9 := hD.sub (ws' := [(sl, .inr (5, [.ref sh, .int (zI lc), .ref ru, .ref tr, .ref se])), zQ cL sh 6 sf]) [0, 1] (by decide) rfl
  refine W.widen (k := 1) (n := 6) (Nat.le_of_ble_eq_true rfl) (Nat.le_of_ble_eq_true rfl) ?_
  have po : zI 1 = zI 1 ∧ (True) := by
    refine ⟨by first | rfl | (congr 1; omega) | (congr 1; simp [*]), ?_⟩
    trivial
  exact W.iret (v := zI 1) hx hb hr (fun t ht hW => ⟨⟨zI 1, (), rfl, po, by rw [ht]; exact hP9, va_K.moved hW.alike hK, hD9⟩, hS.F ht⟩) hS.2.2 dL_half_16
set_option maxHeartbeats 4000000 in
set_option maxRecDepth 100000 in
theorem c_L_half_xb (l : Launch) (hfl : l.stackTraces = false) (dC : Nat → ClassId) (dI : Nat → Nat → Nat) (cI cZ cL cT cJ : ClassId) (sz : Nat) (sl : Nat) (sh : Nat) (lc : Int) (ru : Nat) (tr : Nat) (se : Nat) (sf : Nat → Option Nat) (L : Int) (k : Nat) (lv : Nat) (w : Int) (h : Int) (ka : Nat) (ta : Nat) (sx : Int) (sy : Int) (fx : Int) (fy : Int) (lf : Int) (un : Int) (tq : Nat → Option Nat) (tp : Nat → Nat) (pl : Int) (ou : Nat) (gk : L = (k : Int) ∧ k < 6) (gf : sf k = some lv) (gr : -2147483648 ≤ pl ∧ pl < 2147483648) (gkn : pl < 0 ∨ 4 ≤ pl) : Met l yL_half wsL_half ({ frames := 8, cells := 1, slots := 6, locals := 135 }) (zPy (dC, dI) (zT cI cZ cL cT cJ) sz [.ref sl, .int (zI L), .int (zI pl), .ref ou] [(sl, .inr (5, [.ref sh, .int (zI lc), .ref ru, .ref tr, .ref se])), zQ cL sh 6 sf, (lv, .inr (1, [.int (zI w), .int (zI h), .ref ka, .ref ta, .int (zI sx), .int (zI sy), .int (zI fx), .int (zI fy), .int (zI lf), .int (zI un)])), zQ cT ta 4 tq]) (va_Qi (fun (r9 : Int32) (u9 : Unit) => match u9 with | _ => r9 = zI 1 ∧ (True)) (zB (dC, dI) (zT cI cZ cL cT cJ) (va_A [(sl, .inr (5, [.ref sh, .int (zI lc), .ref ru, .ref tr, .ref se])), zQ cL sh 6 sf, (lv, .inr (1, [.int (zI w), .int (zI h), .ref ka, .ref ta, .int (zI sx), .int (zI sy), .int (zI fx), .int (zI fy), .int (zI lf), .int (zI un)])), zQ cT ta 4 tq] sz) (fun (u9 : Unit) => match u9 with | _ => [(sl, .inr (5, [.ref sh, .int (zI lc), .ref ru, .ref tr, .ref se])), zQ cL sh 6 sf, (lv, .inr (1, [.int (zI w), .int (zI h), .ref ka, .ref ta, .int (zI sx), .int (zI sy), .int (zI fx), .int (zI fy), .int (zI lf), .int (zI un)])), zQ cT ta 4 tq])) (va_A [(sl, .inr (5, [.ref sh, .int (zI lc), .ref ru, .ref tr, .ref se])), zQ cL sh 6 sf, (lv, .inr (1, [.int (zI w), .int (zI h), .ref ka, .ref ta, .int (zI sx), .int (zI sy), .int (zI fx), .int (zI fy), .int (zI lf), .int (zI un)])), zQ cT ta 4 tq] sz)) 1 6 (va_A [(sl, .inr (5, [.ref sh, .int (zI lc), .ref ru, .ref tr, .ref se])), zQ cL sh 6 sf, (lv, .inr (1, [.int (zI w), .int (zI h), .ref ka, .ref ta, .int (zI sx), .int (zI sy), .int (zI fx), .int (zI fy), .int (zI lf), .int (zI un)])), zQ cT ta 4 tq] sz) := by
  refine va_MetW (cc := cL_half) (maxL := 5) (ret := (some .int)) (by decide) rfl ?_
  intro p e s m args below meth c s₁ B hml hv
  obtain ⟨rfl, hsz, hP, hK, hD0, hEx, hNc⟩ := hv
  have hx := B.exec
  have hb := B.bytes
  have hr := B.returns
  have hts := atoms_spec (ws := wsL_half) B.pre
  have hown : s.vm.findClass RL = some m.cls := findClass_of_methodNamed B.named
  have hlocks := B.notSynchronized
  subst hsz
  have hD := hD0.self (sz := s.heap.size)
  generalize hAe : va_A [(sl, .inr (5, [.ref sh, .int (zI lc), .ref ru, .ref tr, .ref se])), zQ cL sh 6 sf, (lv, .inr (1, [.int (zI w), .int (zI h), .ref ka, .ref ta, .int (zI sx), .int (zI sy), .int (zI fx), .int (zI fy), .int (zI lf), .int (zI un)])), zQ cT ta 4 tq] s.heap.size = A at hD hEx ⊢
  have hA : ∀ q : Nat, s.heap.size ≤ q → A q := fun q h => by rw [← hAe]; exact Or.inr h
  clear hAe hD0
  have hS : va_S A s.heap s.heap [] := va_S.rf
  have hP : va_P (dC, dI) vwCl [(sl, .inr (5, [.ref sh, .int (zI lc), .ref ru, .ref tr, .ref se])), zQ cL sh 6 sf, (lv, .inr (1, [.int (zI w), .int (zI h), .ref ka, .ref ta, .int (zI sx), .int (zI sy), .int (zI fx), .int (zI fy), .int (zI lf), .int (zI un)])), zQ cT ta 4 tq] s.heap := hP
  have hl := lv_entry ([.ref sl, .int (zI L), .int (zI pl), .ref ou]) (n := 5) (Nat.le_of_ble_eq_true rfl)
  rw [lg_entry_eq]
  generalize (lg_sl ([.ref sl, .int (zI L), .int (zI pl), .ref ou]) ++ List.replicate (5 - (lg_sl ([.ref sl, .int (zI L), .int (zI pl), .ref ou])).length) Slot.unset).toArray = ls at hl ⊢
  have hl : lv_has ls 5 [(0, .ref sl), (1, .int (zI L)), (2, .int (zI pl)), (3, .ref ou)] := hl
  refine lv_aload_n hx hb dL_half_0 rfl (lv_at hl 3 rfl) ?_
  refine lv_iconst (v := zI 0) hx hb dL_half_1 (rfl) ?_
  refine lv_aload_n hx hb dL_half_2 rfl (lv_at hl 0 rfl) ?_
  refine lv_iload_n hx hb dL_half_3 rfl (lv_at hl 1 rfl) ?_
  refine lv_iload_n hx hb dL_half_4 rfl (lv_at hl 2 rfl) ?_
  have hPc := hP.sub (ws' := [(sl, .inr (5, [.ref sh, .int (zI lc), .ref ru, .ref tr, .ref se])), zQ cL sh 6 sf, (lv, .inr (1, [.int (zI w), .int (zI h), .ref ka, .ref ta, .int (zI sx), .int (zI sy), .int (zI fx), .int (zI fy), .int (zI lf), .int (zI un)])), zQ cT ta 4 tq]) [0, 1, 2, 3] rfl
  have hDc := hD.sub (ws' := [(sl, .inr (5, [.ref sh, .int (zI lc), .ref ru, .ref tr, .ref se])), zQ cL sh 6 sf, (lv, .inr (1, [.int (zI w), .int (zI h), .ref ka, .ref ta, .int (zI sx), .int (zI sy), .int (zI fx), .int (zI fy), .int (zI lf), .int (zI un)])), zQ cT ta 4 tq]) [0, 1, 2, 3] (by decide) rfl
  have hFc := va_free (wc := [(sl, .inr (5, [.ref sh, .int (zI lc), .ref ru, .ref tr, .ref se])), zQ cL sh 6 sf, (lv, .inr (1, [.int (zI w), .int (zI h), .ref ka, .ref ta, .int (zI sx), .int (zI sy), .int (zI fx), .int (zI fy), .int (zI lf), .int (zI un)])), zQ cT ta 4 tq]) hD hS hA [0, 1, 2, 3] rfl
  refine vx_calli (vx_runV (As := [.int (zI L), .int (zI pl)]) (rest := [.int (zI 0), .ref ou]) ⟨hx, hb, hml, hown, hts⟩ (x_X5_half_xb l hfl dC dI cI cZ cL cT cJ s.heap.size sl sh lc ru tr se sf L k lv w h ka ta sx sy fx fy lf un tq tp pl (by first | assumption | omega) (by first | assumption | omega) (by first | assumption | omega) (by first | assumption | omega)) (cwV 2 hts gL_half_X5_half rfl rfl rfl (by decide +kernel) ⟨Nat.le_of_ble_eq_true rfl, Nat.le_of_ble_eq_true rfl⟩) ⟨zPx_blind, va_recv hK hPc (ci := 5) (q0 := 0) rfl rfl, zPx_pre hPc hDc hK hEx hS hFc⟩ rfl rfl hl.1 rfl (lv_room (Nat.le_of_ble_eq_true rfl)) dL_half_5 ⟨Nat.le_of_ble_eq_true rfl, Nat.le_of_ble_eq_true rfl⟩) hS (fun q _ h => hFc q h) hFc (fun q _ h => hFc q h) (fun E9 ce9 q9 u t H1 locs ht hvm _ hB hz1 hk1 hS hc9 hv9 hf9 => ?_) (fun r u t H1 locs ht hvm hw => hw.elim)
  obtain ⟨rfl, hP1, hK1, hD1⟩ := hB
  rw [ht] at hP1
  obtain ⟨hP, hD⟩ := va_join (wr := []) (w1 := [(sl, .inr (5, [.ref sh, .int (zI lc), .ref ru, .ref tr, .ref se])), zQ cL sh 6 sf, (lv, .inr (1, [.int (zI w), .int (zI h), .ref ka, .ref ta, .int (zI sx), .int (zI sy), .int (zI fx), .int (zI fy), .int (zI lf), .int (zI un)])), zQ cT ta 4 tq]) hP hD [0, 1, 2, 3] [] rfl rfl (by decide) (by decide) hk1 hFc hP1 hD1
  have hP : va_P (dC, dI) vwCl [(sl, .inr (5, [.ref sh, .int (zI lc), .ref ru, .ref tr, .ref se])), zQ cL sh 6 sf, (lv, .inr (1, [.int (zI w), .int (zI h), .ref ka, .ref ta, .int (zI sx), .int (zI sy), .int (zI fx), .int (zI fy), .int (zI lf), .int (zI un)])), zQ cT ta 4 tq] H1 := hP.sub [0, 1, 2, 3] rfl
  have hD : va_D A [(sl, .inr (5, [.ref sh, .int (zI lc), .ref ru, .ref tr, .ref se])), zQ cL sh 6 sf, (lv, .inr (1, [.int (zI w), .int (zI h), .ref ka, .ref ta, .int (zI sx), .int (zI sy), .int (zI fx), .int (zI fy), .int (zI lf), .int (zI un)])), zQ cT ta 4 tq] := hD.sub [0, 1, 2, 3] (by decide) rfl
  refine vx_catch (name := "java/lang/IndexOutOfBoundsException") hown [] ({ startPc := 0, endPc := 10, handlerPc := 13, catchType := 21 } : ExceptionTableEntry) [] ((vx_table (x := yL_half) B (hts _ List.mem_cons_self)).trans rfl) (fun z hz => by cases hz) (by decide) (by decide) (hts (.classLink RL 21 "java/lang/IndexOutOfBoundsException") (by decide +kernel)) (va_Nw.use rfl hEx.2.2.2.2.1) hc9 hv9 hf9 ?_
  generalize H1 = H at hP hS ⊢
  refine W.eq (g2 := F0 m 13 ls [.ref q9]) rfl ?_
  refine lv_astore (lv' := [(4, .ref q9), (0, .ref sl), (1, .int (zI L)), (2, .int (zI pl)), (3, .ref ou)]) hx hb dL_half_13 hl (by decide) rfl (fun ls hl => ?_)
  refine lv_iconst (v := zI 1) hx hb dL_half_15 (rfl) ?_
  have hP9 := hP.sub (ws' := [(sl, .inr (5, [.ref sh, .int (zI lc), .ref ru, .ref tr, .ref se])), zQ cL sh 6 sf, (lv, .inr (1, [.int (zI w), .int (zI h), .ref ka, .ref ta, .int (zI sx), .int (zI sy), .int (zI fx), .int (zI fy), .int (zI lf), .int (zI un)])), zQ cT ta 4 tq]) [0, 1, 2, 3] rfl
  have hD9 := hD.sub (ws' := [(sl, .inr (5, [.ref sh, .int (zI lc), .ref ru, .ref tr, .ref se])), zQ cL sh 6 sf, (lv, .inr (1, [.int (zI w), .int (zI h), .ref ka, .ref ta, .int (zI sx), .int (zI sy), .int (zI fx), .int (zI fy), .int (zI lf), .int (zI un)])), zQ cT ta 4 tq]) [0, 1, 2, 3] (by decide) rfl
  refine W.widen (k := 1) (n := 6) (Nat.le_of_ble_eq_true rfl) (Nat.le_of_ble_eq_true rfl) ?_
  have po : zI 1 = zI 1 ∧ (True) := by
    refine ⟨by first | rfl | (congr 1; omega) | (congr 1; simp [*]), ?_⟩
    trivial
  exact W.iret (v := zI 1) hx hb hr (fun t ht hW => ⟨⟨zI 1, (), rfl, po, by rw [ht]; exact hP9, va_K.moved hW.alike hK, hD9⟩, hS.F ht⟩) hS.2.2 dL_half_16
set_option maxHeartbeats 4000000 in
set_option maxRecDepth 100000 in
theorem c_L_replay_xa (l : Launch) (hfl : l.stackTraces = false) (dC : Nat → ClassId) (dI : Nat → Nat → Nat) (cI cZ cL cT cJ : ClassId) (sz : Nat) (sl : Nat) (sh : Nat) (lc : Int) (ru : Nat) (tr : Nat) (se : Nat) (sf : Nat → Option Nat) (L : Int) (pl : Int) (ou : Nat) (gr9 : -2147483648 ≤ L ∧ L < 2147483648) (gb : L < 0 ∨ 6 ≤ L ∨ ∃ k : Nat, L = (k : Int) ∧ k < 6 ∧ sf k = none) : Met l yL_replay wsL_replay ({ frames := 9, cells := 1, slots := 6, locals := 158 }) (zPy (dC, dI) (zT cI cZ cL cT cJ) sz [.ref sl, .int (zI L), .int (zI pl), .ref ou] [(sl, .inr (5, [.ref sh, .int (zI lc), .ref ru, .ref tr, .ref se])), zQ cL sh 6 sf]) (va_Qi (fun (r9 : Int32) (u9 : Unit) => match u9 with | _ => r9 = zI 1 ∧ (True)) (zB (dC, dI) (zT cI cZ cL cT cJ) (va_A [(sl, .inr (5, [.ref sh, .int (zI lc), .ref ru, .ref tr, .ref se])), zQ cL sh 6 sf] sz) (fun (u9 : Unit) => match u9 with | _ => [(sl, .inr (5, [.ref sh, .int (zI lc), .ref ru, .ref tr, .ref se])), zQ cL sh 6 sf])) (va_A [(sl, .inr (5, [.ref sh, .int (zI lc), .ref ru, .ref tr, .ref se])), zQ cL sh 6 sf] sz)) 1 6 (va_A [(sl, .inr (5, [.ref sh, .int (zI lc), .ref ru, .ref tr, .ref se])), zQ cL sh 6 sf] sz) := by
  refine va_MetW (cc := cL_replay) (maxL := 5) (ret := (some .int)) (by decide) rfl ?_
  intro p e s m args below meth c s₁ B hml hv
  obtain ⟨rfl, hsz, hP, hK, hD0, hEx, hNc⟩ := hv
  have hx := B.exec
  have hb := B.bytes
  have hr := B.returns
  have hts := atoms_spec (ws := wsL_replay) B.pre
  have hown : s.vm.findClass RL = some m.cls := findClass_of_methodNamed B.named
  have hlocks := B.notSynchronized
  subst hsz
  have hD := hD0.self (sz := s.heap.size)
  generalize hAe : va_A [(sl, .inr (5, [.ref sh, .int (zI lc), .ref ru, .ref tr, .ref se])), zQ cL sh 6 sf] s.heap.size = A at hD hEx ⊢
  have hA : ∀ q : Nat, s.heap.size ≤ q → A q := fun q h => by rw [← hAe]; exact Or.inr h
  clear hAe hD0
  have hS : va_S A s.heap s.heap [] := va_S.rf
  have hP : va_P (dC, dI) vwCl [(sl, .inr (5, [.ref sh, .int (zI lc), .ref ru, .ref tr, .ref se])), zQ cL sh 6 sf] s.heap := hP
  have hl := lv_entry ([.ref sl, .int (zI L), .int (zI pl), .ref ou]) (n := 5) (Nat.le_of_ble_eq_true rfl)
  rw [lg_entry_eq]
  generalize (lg_sl ([.ref sl, .int (zI L), .int (zI pl), .ref ou]) ++ List.replicate (5 - (lg_sl ([.ref sl, .int (zI L), .int (zI pl), .ref ou])).length) Slot.unset).toArray = ls at hl ⊢
  have hl : lv_has ls 5 [(0, .ref sl), (1, .int (zI L)), (2, .int (zI pl)), (3, .ref ou)] := hl
  refine lv_aload_n hx hb dL_replay_0 rfl (lv_at hl 3 rfl) ?_
  refine lv_iconst (v := zI 0) hx hb dL_replay_1 (rfl) ?_
  refine lv_aload_n hx hb dL_replay_2 rfl (lv_at hl 0 rfl) ?_
  refine lv_iload_n hx hb dL_replay_3 rfl (lv_at hl 1 rfl) ?_
  refine lv_iload_n hx hb dL_replay_4 rfl (lv_at hl 2 rfl) ?_
  have hPc := hP.sub (ws' := [(sl, .inr (5, [.ref sh, .int (zI lc), .ref ru, .ref tr, .ref se])), zQ cL sh 6 sf]) [0, 1] rfl
  have hDc := hD.sub (ws' := [(sl, .inr (5, [.ref sh, .int (zI lc), .ref ru, .ref tr, .ref se])), zQ cL sh 6 sf]) [0, 1] (by decide) rfl
  have hFc := va_free (wc := [(sl, .inr (5, [.ref sh, .int (zI lc), .ref ru, .ref tr, .ref se])), zQ cL sh 6 sf]) hD hS hA [0, 1] rfl
  refine vx_calli (vx_runV (As := [.int (zI L), .int (zI pl)]) (rest := [.int (zI 0), .ref ou]) ⟨hx, hb, hml, hown, hts⟩ (x_X5_replay_xa l hfl dC dI cI cZ cL cT cJ s.heap.size sl sh lc ru tr se sf L pl (by first | assumption | omega) (by first | assumption | omega)) (cwV 2 hts gL_replay_X5_replay rfl rfl rfl (by decide +kernel) ⟨Nat.le_of_ble_eq_true rfl, Nat.le_of_ble_eq_true rfl⟩) ⟨zPx_blind, va_recv hK hPc (ci := 5) (q0 := 0) rfl rfl, zPx_pre hPc hDc hK hEx hS hFc⟩ rfl rfl hl.1 rfl (lv_room (Nat.le_of_ble_eq_true rfl)) dL_replay_5 ⟨Nat.le_of_ble_eq_true rfl, Nat.le_of_ble_eq_true rfl⟩) hS (fun q _ h => hFc q h) hFc (fun q _ h => hFc q h) (fun E9 ce9 q9 u t H1 locs ht hvm _ hB hz1 hk1 hS hc9 hv9 hf9 => ?_) (fun r u t H1 locs ht hvm hw => hw.elim)
  obtain ⟨rfl, hP1, hK1, hD1⟩ := hB
  rw [ht] at hP1
  obtain ⟨hP, hD⟩ := va_join (wr := []) (w1 := [(sl, .inr (5, [.ref sh, .int (zI lc), .ref ru, .ref tr, .ref se])), zQ cL sh 6 sf]) hP hD [0, 1] [] rfl rfl (by decide) (by decide) hk1 hFc hP1 hD1
  have hP : va_P (dC, dI) vwCl [(sl, .inr (5, [.ref sh, .int (zI lc), .ref ru, .ref tr, .ref se])), zQ cL sh 6 sf] H1 := hP.sub [0, 1] rfl
  have hD : va_D A [(sl, .inr (5, [.ref sh, .int (zI lc), .ref ru, .ref tr, .ref se])), zQ cL sh 6 sf] := hD.sub [0, 1] (by decide) rfl
  refine vx_catch (name := "java/lang/IndexOutOfBoundsException") hown [] ({ startPc := 0, endPc := 10, handlerPc := 13, catchType := 21 } : ExceptionTableEntry) [] ((vx_table (x := yL_replay) B (hts _ List.mem_cons_self)).trans rfl) (fun z hz => by cases hz) (by decide) (by decide) (hts (.classLink RL 21 "java/lang/IndexOutOfBoundsException") (by decide +kernel)) (va_Nw.use rfl hEx.2.2.2.2.1) hc9 hv9 hf9 ?_
  generalize H1 = H at hP hS ⊢
  refine W.eq (g2 := F0 m 13 ls [.ref q9]) rfl ?_
  refine lv_astore (lv' := [(4, .ref q9), (0, .ref sl), (1, .int (zI L)), (2, .int (zI pl)), (3, .ref ou)]) hx hb dL_replay_13 hl (by decide) rfl (fun ls hl => ?_)
  refine lv_iconst (v := zI 1) hx hb dL_replay_15 (rfl) ?_
  have hP9 := hP.sub (ws' := [(sl, .inr (5, [.ref sh, .int (zI lc), .ref ru, .ref tr, .ref se])), zQ cL sh 6 sf]) [0, 1] rfl
  have hD9 := hD.sub (ws' := [(sl, .inr (5, [.ref sh, .int (zI lc), .ref ru, .ref tr, .ref se])), zQ cL sh 6 sf]) [0, 1] (by decide) rfl
  refine W.widen (k := 1) (n := 6) (Nat.le_of_ble_eq_true rfl) (Nat.le_of_ble_eq_true rfl) ?_
  have po : zI 1 = zI 1 ∧ (True) := by
    refine ⟨by first | rfl | (congr 1; omega) | (congr 1; simp [*]), ?_⟩
    trivial
  exact W.iret (v := zI 1) hx hb hr (fun t ht hW => ⟨⟨zI 1, (), rfl, po, by rw [ht]; exact hP9, va_K.moved hW.alike hK, hD9⟩, hS.F ht⟩) hS.2.2 dL_replay_16
set_option maxHeartbeats 4000000 in
set_option maxRecDepth 100000 in
theorem c_L_replay_xb (l : Launch) (hfl : l.stackTraces = false) (dC : Nat → ClassId) (dI : Nat → Nat → Nat) (cI cZ cL cT cJ : ClassId) (sz : Nat) (sl : Nat) (sh : Nat) (lc : Int) (ru : Nat) (tr : Nat) (se : Nat) (sf : Nat → Option Nat) (L : Int) (k : Nat) (lv : Nat) (w : Int) (h : Int) (ka : Nat) (ta : Nat) (sx : Int) (sy : Int) (fx : Int) (fy : Int) (lf : Int) (un : Int) (tq : Nat → Option Nat) (tp : Nat → Nat) (pl : Int) (ou : Nat) (gk : L = (k : Int) ∧ k < 6) (gf : sf k = some lv) (gr : -2147483648 ≤ pl ∧ pl < 2147483648) (gkn : pl < 0 ∨ 4 ≤ pl) : Met l yL_replay wsL_replay ({ frames := 8, cells := 1, slots := 6, locals := 136 }) (zPy (dC, dI) (zT cI cZ cL cT cJ) sz [.ref sl, .int (zI L), .int (zI pl), .ref ou] [(sl, .inr (5, [.ref sh, .int (zI lc), .ref ru, .ref tr, .ref se])), zQ cL sh 6 sf, (lv, .inr (1, [.int (zI w), .int (zI h), .ref ka, .ref ta, .int (zI sx), .int (zI sy), .int (zI fx), .int (zI fy), .int (zI lf), .int (zI un)])), zQ cT ta 4 tq]) (va_Qi (fun (r9 : Int32) (u9 : Unit) => match u9 with | _ => r9 = zI 1 ∧ (True)) (zB (dC, dI) (zT cI cZ cL cT cJ) (va_A [(sl, .inr (5, [.ref sh, .int (zI lc), .ref ru, .ref tr, .ref se])), zQ cL sh 6 sf, (lv, .inr (1, [.int (zI w), .int (zI h), .ref ka, .ref ta, .int (zI sx), .int (zI sy), .int (zI fx), .int (zI fy), .int (zI lf), .int (zI un)])), zQ cT ta 4 tq] sz) (fun (u9 : Unit) => match u9 with | _ => [(sl, .inr (5, [.ref sh, .int (zI lc), .ref ru, .ref tr, .ref se])), zQ cL sh 6 sf, (lv, .inr (1, [.int (zI w), .int (zI h), .ref ka, .ref ta, .int (zI sx), .int (zI sy), .int (zI fx), .int (zI fy), .int (zI lf), .int (zI un)])), zQ cT ta 4 tq])) (va_A [(sl, .inr (5, [.ref sh, .int (zI lc), .ref ru, .ref tr, .ref se])), zQ cL sh 6 sf, (lv, .inr (1, [.int (zI w), .int (zI h), .ref ka, .ref ta, .int (zI sx), .int (zI sy), .int (zI fx), .int (zI fy), .int (zI lf), .int (zI un)])), zQ cT ta 4 tq] sz)) 1 6 (va_A [(sl, .inr (5, [.ref sh, .int (zI lc), .ref ru, .ref tr, .ref se])), zQ cL sh 6 sf, (lv, .inr (1, [.int (zI w), .int (zI h), .ref ka, .ref ta, .int (zI sx), .int (zI sy), .int (zI fx), .int (zI fy), .int (zI lf), .int (zI un)])), zQ cT ta 4 tq] sz) := by
  refine va_MetW (cc := cL_replay) (maxL := 5) (ret := (some .int)) (by decide) rfl ?_
  intro p e s m args below meth c s₁ B hml hv
  obtain ⟨rfl, hsz, hP, hK, hD0, hEx, hNc⟩ := hv
  have hx := B.exec
  have hb := B.bytes
  have hr := B.returns
  have hts := atoms_spec (ws := wsL_replay) B.pre
  have hown : s.vm.findClass RL = some m.cls := findClass_of_methodNamed B.named
  have hlocks := B.notSynchronized
  subst hsz
  have hD := hD0.self (sz := s.heap.size)
  generalize hAe : va_A [(sl, .inr (5, [.ref sh, .int (zI lc), .ref ru, .ref tr, .ref se])), zQ cL sh 6 sf, (lv, .inr (1, [.int (zI w), .int (zI h), .ref ka, .ref ta, .int (zI sx), .int (zI sy), .int (zI fx), .int (zI fy), .int (zI lf), .int (zI un)])), zQ cT ta 4 tq] s.heap.size = A at hD hEx ⊢
  have hA : ∀ q : Nat, s.heap.size ≤ q → A q := fun q h => by rw [← hAe]; exact Or.inr h
  clear hAe hD0
  have hS : va_S A s.heap s.heap [] := va_S.rf
  have hP : va_P (dC, dI) vwCl [(sl, .inr (5, [.ref sh, .int (zI lc), .ref ru, .ref tr, .ref se])), zQ cL sh 6 sf, (lv, .inr (1, [.int (zI w), .int (zI h), .ref ka, .ref ta, .int (zI sx), .int (zI sy), .int (zI fx), .int (zI fy), .int (zI lf), .int (zI un)])), zQ cT ta 4 tq] s.heap := hP
  have hl := lv_entry ([.ref sl, .int (zI L), .int (zI pl), .ref ou]) (n := 5) (Nat.le_of_ble_eq_true rfl)
  rw [lg_entry_eq]
  generalize (lg_sl ([.ref sl, .int (zI L), .int (zI pl), .ref ou]) ++ List.replicate (5 - (lg_sl ([.ref sl, .int (zI L), .int (zI pl), .ref ou])).length) Slot.unset).toArray = ls at hl ⊢
  have hl : lv_has ls 5 [(0, .ref sl), (1, .int (zI L)), (2, .int (zI pl)), (3, .ref ou)] := hl
  refine lv_aload_n hx hb dL_replay_0 rfl (lv_at hl 3 rfl) ?_
  refine lv_iconst (v := zI 0) hx hb dL_replay_1 (rfl) ?_
  refine lv_aload_n hx hb dL_replay_2 rfl (lv_at hl 0 rfl) ?_
  refine lv_iload_n hx hb dL_replay_3 rfl (lv_at hl 1 rfl) ?_
  refine lv_iload_n hx hb dL_replay_4 rfl (lv_at hl 2 rfl) ?_
  have hPc := hP.sub (ws' := [(sl, .inr (5, [.ref sh, .int (zI lc), .ref ru, .ref tr, .ref se])), zQ cL sh 6 sf, (lv, .inr (1, [.int (zI w), .int (zI h), .ref ka, .ref ta, .int (zI sx), .int (zI sy), .int (zI fx), .int (zI fy), .int (zI lf), .int (zI un)])), zQ cT ta 4 tq]) [0, 1, 2, 3] rfl
  have hDc := hD.sub (ws' := [(sl, .inr (5, [.ref sh, .int (zI lc), .ref ru, .ref tr, .ref se])), zQ cL sh 6 sf, (lv, .inr (1, [.int (zI w), .int (zI h), .ref ka, .ref ta, .int (zI sx), .int (zI sy), .int (zI fx), .int (zI fy), .int (zI lf), .int (zI un)])), zQ cT ta 4 tq]) [0, 1, 2, 3] (by decide) rfl
  have hFc := va_free (wc := [(sl, .inr (5, [.ref sh, .int (zI lc), .ref ru, .ref tr, .ref se])), zQ cL sh 6 sf, (lv, .inr (1, [.int (zI w), .int (zI h), .ref ka, .ref ta, .int (zI sx), .int (zI sy), .int (zI fx), .int (zI fy), .int (zI lf), .int (zI un)])), zQ cT ta 4 tq]) hD hS hA [0, 1, 2, 3] rfl
  refine vx_calli (vx_runV (As := [.int (zI L), .int (zI pl)]) (rest := [.int (zI 0), .ref ou]) ⟨hx, hb, hml, hown, hts⟩ (x_X5_replay_xb l hfl dC dI cI cZ cL cT cJ s.heap.size sl sh lc ru tr se sf L k lv w h ka ta sx sy fx fy lf un tq tp pl (by first | assumption | omega) (by first | assumption | omega) (by first | assumption | omega) (by first | assumption | omega)) (cwV 2 hts gL_replay_X5_replay rfl rfl rfl (by decide +kernel) ⟨Nat.le_of_ble_eq_true rfl, Nat.le_of_ble_eq_true rfl⟩) ⟨zPx_blind, va_recv hK hPc (ci := 5) (q0 := 0) rfl rfl, zPx_pre hPc hDc hK hEx hS hFc⟩ rfl rfl hl.1 rfl (lv_room (Nat.le_of_ble_eq_true rfl)) dL_replay_5 ⟨Nat.le_of_ble_eq_true rfl, Nat.le_of_ble_eq_true rfl⟩) hS (fun q _ h => hFc q h) hFc (fun q _ h => hFc q h) (fun E9 ce9 q9 u t H1 locs ht hvm _ hB hz1 hk1 hS hc9 hv9 hf9 => ?_) (fun r u t H1 locs ht hvm hw => hw.elim)
  obtain ⟨rfl, hP1, hK1, hD1⟩ := hB
  rw [ht] at hP1
  obtain ⟨hP, hD⟩ := va_join (wr := []) (w1 := [(sl, .inr (5, [.ref sh, .int (zI lc), .ref ru, .ref tr, .ref se])), zQ cL sh 6 sf, (lv, .inr (1, [.int (zI w), .int (zI h), .ref ka, .ref ta, .int (zI sx), .int (zI sy), .int (zI fx), .int (zI fy), .int (zI lf), .int (zI un)])), zQ cT ta 4 tq]) hP hD [0, 1, 2, 3] [] rfl rfl (by decide) (by decide) hk1 hFc hP1 hD1
  have hP : va_P (dC, dI) vwCl [(sl, .inr (5, [.ref sh, .int (zI lc), .ref ru, .ref tr, .ref se])), zQ cL sh 6 sf, (lv, .inr (1, [.int (zI w), .int (zI h), .ref ka, .ref ta, .int (zI sx), .int (zI sy), .int (zI fx), .int (zI fy), .int (zI lf), .int (zI un)])), zQ cT ta 4 tq] H1 := hP.sub [0, 1, 2, 3] rfl
  have hD : va_D A [(sl, .inr (5, [.ref sh, .int (zI lc), .ref ru, .ref tr, .ref se])), zQ cL sh 6 sf, (lv, .inr (1, [.int (zI w), .int (zI h), .ref ka, .ref ta, .int (zI sx), .int (zI sy), .int (zI fx), .int (zI fy), .int (zI lf), .int (zI un)])), zQ cT ta 4 tq] := hD.sub [0, 1, 2, 3] (by decide) rfl
  refine vx_catch (name := "java/lang/IndexOutOfBoundsException") hown [] ({ startPc := 0, endPc := 10, handlerPc := 13, catchType := 21 } : ExceptionTableEntry) [] ((vx_table (x := yL_replay) B (hts _ List.mem_cons_self)).trans rfl) (fun z hz => by cases hz) (by decide) (by decide) (hts (.classLink RL 21 "java/lang/IndexOutOfBoundsException") (by decide +kernel)) (va_Nw.use rfl hEx.2.2.2.2.1) hc9 hv9 hf9 ?_
  generalize H1 = H at hP hS ⊢
  refine W.eq (g2 := F0 m 13 ls [.ref q9]) rfl ?_
  refine lv_astore (lv' := [(4, .ref q9), (0, .ref sl), (1, .int (zI L)), (2, .int (zI pl)), (3, .ref ou)]) hx hb dL_replay_13 hl (by decide) rfl (fun ls hl => ?_)
  refine lv_iconst (v := zI 1) hx hb dL_replay_15 (rfl) ?_
  have hP9 := hP.sub (ws' := [(sl, .inr (5, [.ref sh, .int (zI lc), .ref ru, .ref tr, .ref se])), zQ cL sh 6 sf, (lv, .inr (1, [.int (zI w), .int (zI h), .ref ka, .ref ta, .int (zI sx), .int (zI sy), .int (zI fx), .int (zI fy), .int (zI lf), .int (zI un)])), zQ cT ta 4 tq]) [0, 1, 2, 3] rfl
  have hD9 := hD.sub (ws' := [(sl, .inr (5, [.ref sh, .int (zI lc), .ref ru, .ref tr, .ref se])), zQ cL sh 6 sf, (lv, .inr (1, [.int (zI w), .int (zI h), .ref ka, .ref ta, .int (zI sx), .int (zI sy), .int (zI fx), .int (zI fy), .int (zI lf), .int (zI un)])), zQ cT ta 4 tq]) [0, 1, 2, 3] (by decide) rfl
  refine W.widen (k := 1) (n := 6) (Nat.le_of_ble_eq_true rfl) (Nat.le_of_ble_eq_true rfl) ?_
  have po : zI 1 = zI 1 ∧ (True) := by
    refine ⟨by first | rfl | (congr 1; omega) | (congr 1; simp [*]), ?_⟩
    trivial
  exact W.iret (v := zI 1) hx hb hr (fun t ht hW => ⟨⟨zI 1, (), rfl, po, by rw [ht]; exact hP9, va_K.moved hW.alike hK, hD9⟩, hS.F ht⟩) hS.2.2 dL_replay_16
