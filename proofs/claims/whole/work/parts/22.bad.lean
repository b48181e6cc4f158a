set_option maxHeartbeats 4000000 in
set_option maxRecDepth 100000 in
theorem x_X5_levelNumbered_x (l : Launch) (hfl : l.stackTraces = false) (dC : Nat → ClassId) (dI : Nat → Nat → Nat) (cI cZ cL cT cJ : ClassId) (sz : Nat) (sl : Nat) (sh : Nat) (lc : Int) (ru : Nat) (tr : Nat) (se : Nat) (sf : Nat → Option Nat) (L : Int) (gr9 : -2147483648 ≤ L ∧ L < 2147483648) (gb : L < 0 ∨ 6 ≤ L ∨ ∃ k : Nat, L = (k : Int) ∧ k < 6 ∧ sf k = none) : vx_Met l yX5_levelNumbered wsX5_levelNumbered ({ frames := 6, cells := 1, slots := 6, locals := 90 }) (zPx (dC, dI) (zT cI cZ cL cT cJ) sz [.ref sl, .int (zI L)] [(sl, .inr (5, [.ref sh, .int (zI lc), .ref ru, .ref tr, .ref se])), zQ cL sh 6 sf]) (va_Qq (S := Unit) (fun _ _ => False) (fun _ _ => True) (va_A [(sl, .inr (5, [.ref sh, .int (zI lc), .ref ru, .ref tr, .ref se])), zQ cL sh 6 sf] sz)) (vx_X (S := Unit) (fun _ => True) (zBX (dC, dI) (zT cI cZ cL cT cJ) (va_A [(sl, .inr (5, [.ref sh, .int (zI lc), .ref ru, .ref tr, .ref se])), zQ cL sh 6 sf] sz) "java/lang/IndexOutOfBoundsException" [(sl, .inr (5, [.ref sh, .int (zI lc), .ref ru, .ref tr, .ref se])), zQ cL sh 6 sf]) (va_A [(sl, .inr (5, [.ref sh, .int (zI lc), .ref ru, .ref tr, .ref se])), zQ cL sh 6 sf] sz)) 1 6 (va_A [(sl, .inr (5, [.ref sh, .int (zI lc), .ref ru, .ref tr, .ref se])), zQ cL sh 6 sf] sz) := by
  refine vx_ofW (cc := cX5_levelNumbered) (maxL := 3) (ret := (some (.object "SpringLevels$Level"))) (by decide) rfl ?_
  intro p e s m args below meth c s₁ B hml hnt hv
  obtain ⟨rfl, hsz, hP, hK, hD0, hEx⟩ := hv
  have hx := B.exec
  have hb := B.bytes
  have hr := B.returns
  have hts := atoms_spec (ws := wsX5_levelNumbered) B.pre
  have hown : s.vm.findClass RX5 = some m.cls := findClass_of_methodNamed B.named
  have hlocks := B.notSynchronized
  subst hsz
  have hD := hD0.self (sz := s.heap.size)
  generalize hAe : va_A [(sl, .inr (5, [.ref sh, .int (zI lc), .ref ru, .ref tr, .ref se])), zQ cL sh 6 sf] s.heap.size = A at hD hEx ⊢
  have hA : ∀ q : Nat, s.heap.size ≤ q → A q := fun q h => by rw [← hAe]; exact Or.inr h
  clear hAe hD0
  have hS : va_S A s.heap s.heap [] := va_S.rf
  have hP : va_P (dC, dI) vwCl [(sl, .inr (5, [.ref sh, .int (zI lc), .ref ru, .ref tr, .ref se])), zQ cL sh 6 sf] s.heap := hP
  have f_11 := hts (.fieldLink RX5 11 "SpringLevels" "shelf" "[LSpringLevels$Level;") (by decide +kernel)
  have i_5 : ∀ w ∈ wsX50, w ∈ wsX5_levelNumbered := by decide +kernel
  have hl := lv_entry ([.ref sl, .int (zI L)]) (n := 3) (Nat.le_of_ble_eq_true rfl)
  rw [lg_entry_eq]
  generalize (lg_sl ([.ref sl, .int (zI L)]) ++ List.replicate (3 - (lg_sl ([.ref sl, .int (zI L)])).length) Slot.unset).toArray = ls at hl ⊢
  have hl : lv_has ls 3 [(0, .ref sl), (1, .int (zI L))] := hl
  refine lv_iload_n hx hb dX5_levelNumbered_0 rfl (lv_at hl 1 rfl) ?_
  refine lz_if_lt (tgt := 13) hx hb dX5_levelNumbered_1 (by decide) (by omega) (fun c_1 => ?_) (fun c_1 => ?_)
  ·
    obtain ⟨sa, hsa⟩ := zEx_s206 hEx
    exact vx_throwS (A := A) hx hb hfl (own := RX5) (cls := "java/lang/IndexOutOfBoundsException") (text := "no such level") (names := ["java/lang/RuntimeException", "java/lang/Exception"]) (ik := 129) (is := 206) (ic := 133) hown (by decide) (by decide) (hts (.classLink RX5 129 "java/lang/IndexOutOfBoundsException") (by decide +kernel)) (hts (.initialized "java/lang/IndexOutOfBoundsException") (by decide +kernel)) hsa (vx_hat (fun w h => hts w (List.mem_cons_of_mem _ (List.mem_append_right _ h))) zg_133 (vx_c (va_Nw.use rfl hEx.2.2.2.2.1) (vx_c (va_Nw.use rfl hEx.2.2.2.2.2.1) (vx_c (va_Nw.use rfl hEx.2.2.2.2.2.2.1) (vx_c (va_Nw.use rfl hEx.2.2.2.2.2.2.2.1) vx_n))))) zo_133_129 hEx.1 hEx.2.1 hS (by rw [hml]; exact hl.1) dX5_levelNumbered_13 dX5_levelNumbered_16 dX5_levelNumbered_17 dX5_levelNumbered_19 dX5_levelNumbered_22 (fun x h => (hnt x h).elim) (Nat.le_of_ble_eq_true rfl) (Nat.le_of_ble_eq_true rfl) (Nat.le_of_ble_eq_true rfl) (Nat.le_of_ble_eq_true rfl) hlocks (fun t hvm hz hq => ⟨(), trivial, ⟨rfl, va_P.kept hP (fun k q hk => hq q.1 (hP k q hk).lt), va_K.moved hvm hK, hD⟩, Nat.le_trans hS.1 hz, fun q h1 h2 => (hq q (Nat.lt_of_lt_of_le h1 hS.1)).trans (hS.2.1 q h1 h2)⟩) hS.2.2 (Nat.le_of_ble_eq_true rfl) (Nat.le_of_ble_eq_true rfl)
  ·
    refine lv_iload_n hx hb dX5_levelNumbered_4 rfl (lv_at hl 1 rfl) ?_
    refine lv_aload_n hx hb dX5_levelNumbered_5 rfl (lv_at hl 0 rfl) ?_
    refine va_get (D := (dC, dI)) (ci := 5) (v := .ref sh) (C := RX5) (T := TX5) (N := 5) hx hb hts i_5 hown hK hP 0 rfl rfl 0 (by decide) f_11 (fun _ h9 => h9) rfl dX5_levelNumbered_6 ?_
    refine va_alen (v := zI 6) hx hb hK hP 1 2 rfl rfl rfl dX5_levelNumbered_9 ?_
    refine lz_icmp_lt (tgt := 23) hx hb dX5_levelNumbered_10 (by decide) (by omega) ⟨by decide, by decide⟩ (fun c_2 => ?_) (fun c_2 => ?_)
    ·
      obtain ⟨k, k1, k2, k3⟩ : ∃ k : Nat, L = (k : Int) ∧ k < 6 ∧ sf k = none := by
        rcases gb with h | h | h
        · omega
        · omega
        · exact h
      refine lv_aload_n hx hb dX5_levelNumbered_23 rfl (lv_at hl 0 rfl) ?_
      refine va_get (D := (dC, dI)) (ci := 5) (v := .ref sh) (C := RX5) (T := TX5) (N := 5) hx hb hts i_5 hown hK hP 0 rfl rfl 0 (by decide) f_11 (fun _ h9 => h9) rfl dX5_levelNumbered_24 ?_
      refine lv_iload_n hx hb dX5_levelNumbered_27 rfl (lv_at hl 1 rfl) ?_
      refine lz_aldq (k := k) (f := sf) (v := .null) hx hb hK hP 1 2 rfl rfl (by omega) (by omega) (by decide) (by rw [k3]; rfl) dX5_levelNumbered_28 ?_
      refine lv_astore_nN (lv' := [(2, .null), (0, .ref sl), (1, .int (zI L))]) hx hb dX5_levelNumbered_29 rfl hl (by decide) rfl (fun ls hl => ?_)
      refine lv_aload_nN hx hb dX5_levelNumbered_30 rfl (lv_at hl 0 rfl) ?_
      refine lv_ifnonnullN hx hb dX5_levelNumbered_31 ?_
      obtain ⟨sa, hsa⟩ := zEx_s206 hEx
      exact vx_throwS (A := A) hx hb hfl (own := RX5) (cls := "java/lang/IndexOutOfBoundsException") (text := "no such level") (names := ["java/lang/RuntimeException", "java/lang/Exception"]) (ik := 129) (is := 206) (ic := 133) hown (by decide) (by decide) (hts (.classLink RX5 129 "java/lang/IndexOutOfBoundsException") (by decide +kernel)) (hts (.initialized "java/lang/IndexOutOfBoundsException") (by decide +kernel)) hsa (vx_hat (fun w h => hts w (List.mem_cons_of_mem _ (List.mem_append_right _ h))) zg_133 (vx_c (va_Nw.use rfl hEx.2.2.2.2.1) (vx_c (va_Nw.use rfl hEx.2.2.2.2.2.1) (vx_c (va_Nw.use rfl hEx.2.2.2.2.2.2.1) (vx_c (va_Nw.use rfl hEx.2.2.2.2.2.2.2.1) vx_n))))) zo_133_129 hEx.1 hEx.2.1 hS (by rw [hml]; exact hl.1) dX5_levelNumbered_34 dX5_levelNumbered_37 dX5_levelNumbered_38 dX5_levelNumbered_40 dX5_levelNumbered_43 (fun x h => (hnt x h).elim) (Nat.le_of_ble_eq_true rfl) (Nat.le_of_ble_eq_true rfl) (Nat.le_of_ble_eq_true rfl) (Nat.le_of_ble_eq_true rfl) hlocks (fun t hvm hz hq => ⟨(), trivial, ⟨rfl, va_P.kept hP (fun k q hk => hq q.1 (hP k q hk).lt), va_K.moved hvm hK, hD⟩, Nat.le_trans hS.1 hz, fun q h1 h2 => (hq q (Nat.lt_of_lt_of_le h1 hS.1)).trans (hS.2.1 q h1 h2)⟩) hS.2.2 (Nat.le_of_ble_eq_true rfl) (Nat.le_of_ble_eq_true rfl)
    ·
      obtain ⟨sa, hsa⟩ := zEx_s206 hEx
      exact vx_throwS (A := A) hx hb hfl (own := RX5) (cls := "java/lang/IndexOutOfBoundsException") (text := "no such level") (names := ["java/lang/RuntimeException", "java/lang/Exception"]) (ik := 129) (is := 206) (ic := 133) hown (by decide) (by decide) (hts (.classLink RX5 129 "java/lang/IndexOutOfBoundsException") (by decide +kernel)) (hts (.initialized "java/lang/IndexOutOfBoundsException") (by decide +kernel)) hsa (vx_hat (fun w h => hts w (List.mem_cons_of_mem _ (List.mem_append_right _ h))) zg_133 (vx_c (va_Nw.use rfl hEx.2.2.2.2.1) (vx_c (va_Nw.use rfl hEx.2.2.2.2.2.1) (vx_c (va_Nw.use rfl hEx.2.2.2.2.2.2.1) (vx_c (va_Nw.use rfl hEx.2.2.2.2.2.2.2.1) vx_n))))) zo_133_129 hEx.1 hEx.2.1 hS (by rw [hml]; exact hl.1) dX5_levelNumbered_13 dX5_levelNumbered_16 dX5_levelNumbered_17 dX5_levelNumbered_19 dX5_levelNumbered_22 (fun x h => (hnt x h).elim) (Nat.le_of_ble_eq_true rfl) (Nat.le_of_ble_eq_true rfl) (Nat.le_of_ble_eq_true rfl) (Nat.le_of_ble_eq_true rfl) hlocks (fun t hvm hz hq => ⟨(), trivial, ⟨rfl, va_P.kept hP (fun k q hk => hq q.1 (hP k q hk).lt), va_K.moved hvm hK, hD⟩, Nat.le_trans hS.1 hz, fun q h1 h2 => (hq q (Nat.lt_of_lt_of_le h1 hS.1)).trans (hS.2.1 q h1 h2)⟩) hS.2.2 (Nat.le_of_ble_eq_true rfl) (Nat.le_of_ble_eq_true rfl)
set_option maxHeartbeats 4000000 in
set_option maxRecDepth 100000 in
theorem x_X5_levelWithCell_xa (l : Launch) (hfl : l.stackTraces = false) (dC : Nat → ClassId) (dI : Nat → Nat → Nat) (cI cZ cL cT cJ : ClassId) (sz : Nat) (sl : Nat) (sh : Nat) (lc : Int) (ru : Nat) (tr : Nat) (se : Nat) (sf : Nat → Option Nat) (L : Int) (cx : Int) (cy : Int) (gr9 : -2147483648 ≤ L ∧ L < 2147483648) (gb : L < 0 ∨ 6 ≤ L ∨ ∃ k : Nat, L = (k : Int) ∧ k < 6 ∧ sf k = none) : vx_Met l yX5_levelWithCell wsX5_levelWithCell ({ frames := 7, cells := 1, slots := 6, locals := 112 }) (zPx (dC, dI) (zT cI cZ cL cT cJ) sz [.ref sl, .int (zI L), .int (zI cx), .int (zI cy)] [(sl, .inr (5, [.ref sh, .int (zI lc), .ref ru, .ref tr, .ref se])), zQ cL sh 6 sf]) (va_Qq (S := Unit) (fun _ _ => False) (fun _ _ => True) (va_A [(sl, .inr (5, [.ref sh, .int (zI lc), .ref ru, .ref tr, .ref se])), zQ cL sh 6 sf] sz)) (vx_X (S := Unit) (fun _ => True) (zBX (dC, dI) (zT cI cZ cL cT cJ) (va_A [(sl, .inr (5, [.ref sh, .int (zI lc), .ref ru, .ref tr, .ref se])), zQ cL sh 6 sf] sz) "java/lang/IndexOutOfBoundsException" [(sl, .inr (5, [.ref sh, .int (zI lc), .ref ru, .ref tr, .ref se])), zQ cL sh 6 sf]) (va_A [(sl, .inr (5, [.ref sh, .int (zI lc), .ref ru, .ref tr, .ref se])), zQ cL sh 6 sf] sz)) 1 6 (va_A [(sl, .inr (5, [.ref sh, .int (zI lc), .ref ru, .ref tr, .ref se])), zQ cL sh 6 sf] sz) := by
  refine vx_ofW (cc := cX5_levelWithCell) (maxL := 5) (ret := (some (.object "SpringLevels$Level"))) (by decide) rfl ?_
  intro p e s m args below meth c s₁ B hml hnt hv
  obtain ⟨rfl, hsz, hP, hK, hD0, hEx⟩ := hv
  have hx := B.exec
  have hb := B.bytes
  have hr := B.returns
  have hts := atoms_spec (ws := wsX5_levelWithCell) B.pre
  have hown : s.vm.findClass RX5 = some m.cls := findClass_of_methodNamed B.named
  have hlocks := B.notSynchronized
  subst hsz
  have hD := hD0.self (sz := s.heap.size)
  generalize hAe : va_A [(sl, .inr (5, [.ref sh, .int (zI lc), .ref ru, .ref tr, .ref se])), zQ cL sh 6 sf] s.heap.size = A at hD hEx ⊢
  have hA : ∀ q : Nat, s.heap.size ≤ q → A q := fun q h => by rw [← hAe]; exact Or.inr h
  clear hAe hD0
  have hS : va_S A s.heap s.heap [] := va_S.rf
  have hP : va_P (dC, dI) vwCl [(sl, .inr (5, [.ref sh, .int (zI lc), .ref ru, .ref tr, .ref se])), zQ cL sh 6 sf] s.heap := hP
  have hl := lv_entry ([.ref sl, .int (zI L), .int (zI cx), .int (zI cy)]) (n := 5) (Nat.le_of_ble_eq_true rfl)
  rw [lg_entry_eq]
  generalize (lg_sl ([.ref sl, .int (zI L), .int (zI cx), .int (zI cy)]) ++ List.replicate (5 - (lg_sl ([.ref sl, .int (zI L), .int (zI cx), .int (zI cy)])).length) Slot.unset).toArray = ls at hl ⊢
  have hl : lv_has ls 5 [(0, .ref sl), (1, .int (zI L)), (2, .int (zI cx)), (3, .int (zI cy))] := hl
  refine lv_aload_n hx hb dX5_levelWithCell_0 rfl (lv_at hl 0 rfl) ?_
  refine lv_iload_n hx hb dX5_levelWithCell_1 rfl (lv_at hl 1 rfl) ?_
  have hPc := hP.sub (ws' := [(sl, .inr (5, [.ref sh, .int (zI lc), .ref ru, .ref tr, .ref se])), zQ cL sh 6 sf]) [0, 1] rfl
  have hDc := hD.sub (ws' := [(sl, .inr (5, [.ref sh, .int (zI lc), .ref ru, .ref tr, .ref se])), zQ cL sh 6 sf]) [0, 1] (by decide) rfl
  have hFc := va_free (wc := [(sl, .inr (5, [.ref sh, .int (zI lc), .ref ru, .ref tr, .ref se])), zQ cL sh 6 sf]) hD hS hA [0, 1] rfl
  refine vx_callq (vx_runV (As := [.int (zI L)]) (rest := []) ⟨hx, hb, hml, hown, hts⟩ (x_X5_levelNumbered_x l hfl dC dI cI cZ cL cT cJ s.heap.size sl sh lc ru tr se sf L (by first | assumption | omega) (by first | assumption | omega)) (cwV 1 hts gX5_levelWithCell_X5_levelNumbered rfl rfl rfl (by decide +kernel) ⟨Nat.le_of_ble_eq_true rfl, Nat.le_of_ble_eq_true rfl⟩) ⟨zPx_blind, va_recv hK hPc (ci := 5) (q0 := 0) rfl rfl, zPx_pre hPc hDc hK hEx hS hFc⟩ rfl rfl hl.1 rfl (lv_room (Nat.le_of_ble_eq_true rfl)) dX5_levelWithCell_2 ⟨Nat.le_of_ble_eq_true rfl, Nat.le_of_ble_eq_true rfl⟩) hS (fun q _ h => hFc q h) hFc (fun q _ h => hFc q h) (fun E9 ce9 q9 u t H1 locs ht hvm _ hB hz1 hk1 hS hc9 hv9 hf9 => ?_) (fun r u t H1 locs ht hvm hw => hw.elim)
  obtain ⟨rfl, hP1, hK1, hD1⟩ := hB
  rw [ht] at hP1
  obtain ⟨hP, hD⟩ := va_join (wr := []) (w1 := [(sl, .inr (5, [.ref sh, .int (zI lc), .ref ru, .ref tr, .ref se])), zQ cL sh 6 sf]) hP hD [0, 1] [] rfl rfl (by decide) (by decide) hk1 hFc hP1 hD1
  have hP : va_P (dC, dI) vwCl [(sl, .inr (5, [.ref sh, .int (zI lc), .ref ru, .ref tr, .ref se])), zQ cL sh 6 sf] H1 := hP.sub [0, 1] rfl
  have hD : va_D A [(sl, .inr (5, [.ref sh, .int (zI lc), .ref ru, .ref tr, .ref se])), zQ cL sh 6 sf] := hD.sub [0, 1] (by decide) rfl
  exact vx_out (fun x h => (hnt x h).elim) hlocks hc9 hv9 hf9 (fun t9 ht9 hvm9 => ⟨(), trivial, ⟨rfl, by rw [ht9]; exact hP, va_K.moved hvm9 hK, hD⟩, hS.F ht9⟩) hS.2.2 (Nat.le_of_ble_eq_true rfl) (Nat.le_of_ble_eq_true rfl)
set_option maxHeartbeats 4000000 in
set_option maxRecDepth 100000 in
theorem x_X5_levelWithCell_xb (l : Launch) (hfl : l.stackTraces = false) (dC : Nat → ClassId) (dI : Nat → Nat → Nat) (cI cZ cL cT cJ : ClassId) (sz : Nat) (sl : Nat) (sh : Nat) (lc : Int) (ru : Nat) (tr : Nat) (se : Nat) (sf : Nat → Option Nat) (L : Int) (k : Nat) (lv : Nat) (w : Int) (h : Int) (ka : Nat) (ta : Nat) (sx : Int) (sy : Int) (fx : Int) (fy : Int) (lf : Int) (un : Int) (K : Int → Int) (cx : Int) (cy : Int) (gk : L = (k : Int) ∧ k < 6) (gf : sf k = some lv) (gw : 0 < w ∧ w ≤ 12) (gh : 0 < h ∧ h ≤ 8) (gK : Kin K) (r9x : -2147483648 ≤ cx ∧ cx < 2147483648) (r9y : -2147483648 ≤ cy ∧ cy < 2147483648) (gq : kd K w h cx cy = -1) : vx_Met l yX5_levelWithCell wsX5_levelWithCell ({ frames := 6, cells := 1, slots := 6, locals := 90 }) (zPx (dC, dI) (zT cI cZ cL cT cJ) sz [.ref sl, .int (zI L), .int (zI cx), .int (zI cy)] [(sl, .inr (5, [.ref sh, .int (zI lc), .ref ru, .ref tr, .ref se])), zQ cL sh 6 sf, (lv, .inr (1, [.int (zI w), .int (zI h), .ref ka, .ref ta, .int (zI sx), .int (zI sy), .int (zI fx), .int (zI fy), .int (zI lf), .int (zI un)])), zA cI ka 96 K]) (va_Qq (S := Unit) (fun _ _ => False) (fun _ _ => True) (va_A [(sl, .inr (5, [.ref sh, .int (zI lc), .ref ru, .ref tr, .ref se])), zQ cL sh 6 sf, (lv, .inr (1, [.int (zI w), .int (zI h), .ref ka, .ref ta, .int (zI sx), .int (zI sy), .int (zI fx), .int (zI fy), .int (zI lf), .int (zI un)])), zA cI ka 96 K] sz)) (vx_X (S := Unit) (fun _ => True) (zBX (dC, dI) (zT cI cZ cL cT cJ) (va_A [(sl, .inr (5, [.ref sh, .int (zI lc), .ref ru, .ref tr, .ref se])), zQ cL sh 6 sf, (lv, .inr (1, [.int (zI w), .int (zI h), .ref ka, .ref ta, .int (zI sx), .int (zI sy), .int (zI fx), .int (zI fy), .int (zI lf), .int (zI un)])), zA cI ka 96 K] sz) "java/lang/IndexOutOfBoundsException" [(sl, .inr (5, [.ref sh, .int (zI lc), .ref ru, .ref tr, .ref se])), zQ cL sh 6 sf, (lv, .inr (1, [.int (zI w), .int (zI h), .ref ka, .ref ta, .int (zI sx), .int (zI sy), .int (zI fx), .int (zI fy), .int (zI lf), .int (zI un)])), zA cI ka 96 K]) (va_A [(sl, .inr (5, [.ref sh, .int (zI lc), .ref ru, .ref tr, .ref se])), zQ cL sh 6 sf, (lv, .inr (1, [.int (zI w), .int (zI h), .ref ka, .ref ta, .int (zI sx), .int (zI sy), .int (zI fx), .int (zI fy), .int (zI lf), .int (zI un)])), zA cI ka 96 K] sz)) 1 6 (va_A [(sl, .inr (5, [.ref sh, .int (zI lc), .ref ru, .ref tr, .ref se])), zQ cL sh 6 sf, (lv, .inr (1, [.int (zI w), .int (zI h), .ref ka, .ref ta, .int (zI sx), .int (zI sy), .int (zI fx), .int (zI fy), .int (zI lf), .int (zI un)])), zA cI ka 96 K] sz) := by
  refine vx_ofW (cc := cX5_levelWithCell) (maxL := 5) (ret := (some (.object "SpringLevels$Level"))) (by decide) rfl ?_
  intro p e s m args below meth c s₁ B hml hnt hv
  obtain ⟨rfl, hsz, hP, hK, hD0, hEx⟩ := hv
  have hx := B.exec
  have hb := B.bytes
  have hr := B.returns
  have hts := atoms_spec (ws := wsX5_levelWithCell) B.pre
  have hown : s.vm.findClass RX5 = some m.cls := findClass_of_methodNamed B.named
  have hlocks := B.notSynchronized
  subst hsz
  have hD := hD0.self (sz := s.heap.size)
  generalize hAe : va_A [(sl, .inr (5, [.ref sh, .int (zI lc), .ref ru, .ref tr, .ref se])), zQ cL sh 6 sf, (lv, .inr (1, [.int (zI w), .int (zI h), .ref ka, .ref ta, .int (zI sx), .int (zI sy), .int (zI fx), .int (zI fy), .int (zI lf), .int (zI un)])), zA cI ka 96 K] s.heap.size = A at hD hEx ⊢
  have hA : ∀ q : Nat, s.heap.size ≤ q → A q := fun q h => by rw [← hAe]; exact Or.inr h
  clear hAe hD0
  have hS : va_S A s.heap s.heap [] := va_S.rf
  have hP : va_P (dC, dI) vwCl [(sl, .inr (5, [.ref sh, .int (zI lc), .ref ru, .ref tr, .ref se])), zQ cL sh 6 sf, (lv, .inr (1, [.int (zI w), .int (zI h), .ref ka, .ref ta, .int (zI sx), .int (zI sy), .int (zI fx), .int (zI fy), .int (zI lf), .int (zI un)])), zA cI ka 96 K] s.heap := hP
  have hl := lv_entry ([.ref sl, .int (zI L), .int (zI cx), .int (zI cy)]) (n := 5) (Nat.le_of_ble_eq_true rfl)
  rw [lg_entry_eq]
  generalize (lg_sl ([.ref sl, .int (zI L), .int (zI cx), .int (zI cy)]) ++ List.replicate (5 - (lg_sl ([.ref sl, .int (zI L), .int (zI cx), .int (zI cy)])).length) Slot.unset).toArray = ls at hl ⊢
  have hl : lv_has ls 5 [(0, .ref sl), (1, .int (zI L)), (2, .int (zI cx)), (3, .int (zI cy))] := hl
  refine lv_aload_n hx hb dX5_levelWithCell_0 rfl (lv_at hl 0 rfl) ?_
  refine lv_iload_n hx hb dX5_levelWithCell_1 rfl (lv_at hl 1 rfl) ?_
  have hPc := hP.sub (ws' := [(sl, .inr (5, [.ref sh, .int (zI lc), .ref ru, .ref tr, .ref se])), zQ cL sh 6 sf]) [0, 1] rfl
  have hDc := hD.sub (ws' := [(sl, .inr (5, [.ref sh, .int (zI lc), .ref ru, .ref tr, .ref se])), zQ cL sh 6 sf]) [0, 1] (by decide) rfl
  have hFc := va_free (wc := [(sl, .inr (5, [.ref sh, .int (zI lc), .ref ru, .ref tr, .ref se])), zQ cL sh 6 sf]) hD hS hA [0, 1] rfl
  refine va_callq (va_runV (As := [.int (zI L)]) (rest := []) ⟨hx, hb, hml, hown, hts⟩ (c_X5_levelNumbered l dC dI cI cZ cL cT cJ s.heap.size sl sh lc ru tr se sf L k lv (by first | assumption | omega) (by first | assumption | omega)) (cwV 1 hts gX5_levelWithCell_X5_levelNumbered rfl rfl rfl (by decide +kernel) ⟨Nat.le_of_ble_eq_true rfl, Nat.le_of_ble_eq_true rfl⟩) ⟨zP_blind, va_recv hK hPc (ci := 5) (q0 := 0) rfl rfl, zP_pre hPc hDc hK⟩ rfl rfl hl.1 rfl (lv_room (Nat.le_of_ble_eq_true rfl)) dX5_levelWithCell_2 ⟨Nat.le_of_ble_eq_true rfl, Nat.le_of_ble_eq_true rfl⟩) hS (fun q _ h => hFc q h) hFc (fun r_1 u_1 t H1 locs ht hvm hw hB hz1 hk1 hS => ?_)
  obtain ⟨hP1, hK1, hD1⟩ := hB
  rw [ht] at hP1
  have hP1 : va_P (dC, dI) vwCl [(sl, .inr (5, [.ref sh, .int (zI lc), .ref ru, .ref tr, .ref se])), zQ cL sh 6 sf] H1 := hP1
  obtain ⟨hP, hD⟩ := va_join (wr := [(lv, .inr (1, [.int (zI w), .int (zI h), .ref ka, .ref ta, .int (zI sx), .int (zI sy), .int (zI fx), .int (zI fy), .int (zI lf), .int (zI un)])), zA cI ka 96 K]) (w1 := [(sl, .inr (5, [.ref sh, .int (zI lc), .ref ru, .ref tr, .ref se])), zQ cL sh 6 sf]) hP hD [0, 1] [2, 3] rfl rfl (by decide) (by decide) hk1 hFc hP1 hD1
  clear hP1 hD1 hk1 hFc hPc hDc hz1
  generalize H1 = H at hP hS ⊢
  have hP : va_P (dC, dI) vwCl [(sl, .inr (5, [.ref sh, .int (zI lc), .ref ru, .ref tr, .ref se])), zQ cL sh 6 sf, (lv, .inr (1, [.int (zI w), .int (zI h), .ref ka, .ref ta, .int (zI sx), .int (zI sy), .int (zI fx), .int (zI fy), .int (zI lf), .int (zI un)])), zA cI ka 96 K] H := hP.sub [2, 3, 0, 1] rfl
  have hD : va_D A [(sl, .inr (5, [.ref sh, .int (zI lc), .ref ru, .ref tr, .ref se])), zQ cL sh 6 sf, (lv, .inr (1, [.int (zI w), .int (zI h), .ref ka, .ref ta, .int (zI sx), .int (zI sy), .int (zI fx), .int (zI fy), .int (zI lf), .int (zI un)])), zA cI ka 96 K] := hD.sub [2, 3, 0, 1] (by decide) rfl
  clear hK1 hvm
  obtain ⟨rfl, po_2⟩ := hw
  refine W.eq (g2 := F0 m 5 ls [.ref lv]) rfl ?_
  refine lv_astore (lv' := [(4, .ref lv), (0, .ref sl), (1, .int (zI L)), (2, .int (zI cx)), (3, .int (zI cy))]) hx hb dX5_levelWithCell_5 hl (by decide) rfl (fun ls hl => ?_)
  refine lv_aload hx hb dX5_levelWithCell_7 (lv_at hl 0 rfl) ?_
  refine lv_iload_n hx hb dX5_levelWithCell_9 rfl (lv_at hl 3 rfl) ?_
  refine lv_iload_n hx hb dX5_levelWithCell_10 rfl (lv_at hl 4 rfl) ?_
  have hPc := hP.sub (ws' := [(lv, .inr (1, [.int (zI w), .int (zI h), .ref ka, .ref ta, .int (zI sx), .int (zI sy), .int (zI fx), .int (zI fy), .int (zI lf), .int (zI un)])), zA cI ka 96 K]) [2, 3] rfl
  have hDc := hD.sub (ws' := [(lv, .inr (1, [.int (zI w), .int (zI h), .ref ka, .ref ta, .int (zI sx), .int (zI sy), .int (zI fx), .int (zI fy), .int (zI lf), .int (zI un)])), zA cI ka 96 K]) [2, 3] (by decide) rfl
  have hFc := va_free (wc := [(lv, .inr (1, [.int (zI w), .int (zI h), .ref ka, .ref ta, .int (zI sx), .int (zI sy), .int (zI fx), .int (zI fy), .int (zI lf), .int (zI un)])), zA cI ka 96 K]) hD hS hA [2, 3] rfl
  refine va_calli (va_runV (As := [.int (zI cx), .int (zI cy)]) (rest := []) ⟨hx, hb, hml, hown, hts⟩ (c_X1_kindAt l dC dI cI cZ cL cT cJ H.size lv w h ka (.ref ta) sx sy fx fy lf un K cx cy (by first | assumption | omega) (by first | assumption | omega) (by first | assumption | omega) (by first | assumption | omega) (by first | assumption | omega)) (cwV 2 hts gX5_levelWithCell_X1_kindAt rfl rfl rfl (by decide +kernel) ⟨Nat.le_of_ble_eq_true rfl, Nat.le_of_ble_eq_true rfl⟩) ⟨zP_blind, va_recv hK hPc (ci := 1) (q0 := 0) rfl rfl, zP_pre hPc hDc hK⟩ rfl rfl hl.1 rfl (lv_room (Nat.le_of_ble_eq_true rfl)) dX5_levelWithCell_11 ⟨Nat.le_of_ble_eq_true rfl, Nat.le_of_ble_eq_true rfl⟩) hS (fun q _ h => hFc q h) hFc (fun r_3 u_3 t H1 locs ht hvm hw hB hz1 hk1 hS => ?_)
  obtain ⟨r_4, rfl⟩ : ∃ z, z = u_3 := ⟨_, rfl⟩
  obtain ⟨hP1, hK1, hD1⟩ := hB
  rw [ht] at hP1
  have hP1 : va_P (dC, dI) vwCl [(lv, .inr (1, [.int (zI w), .int (zI h), .ref ka, .ref ta, .int (zI sx), .int (zI sy), .int (zI fx), .int (zI fy), .int (zI lf), .int (zI un)])), zA cI ka 96 K] H1 := hP1
  obtain ⟨hP, hD⟩ := va_join (wr := [(sl, .inr (5, [.ref sh, .int (zI lc), .ref ru, .ref tr, .ref se])), zQ cL sh 6 sf]) (w1 := [(lv, .inr (1, [.int (zI w), .int (zI h), .ref ka, .ref ta, .int (zI sx), .int (zI sy), .int (zI fx), .int (zI fy), .int (zI lf), .int (zI un)])), zA cI ka 96 K]) hP hD [2, 3] [0, 1] rfl rfl (by decide) (by decide) hk1 hFc hP1 hD1
  clear hP1 hD1 hk1 hFc hPc hDc hz1
  generalize H1 = H at hP hS ⊢
  have hP : va_P (dC, dI) vwCl [(sl, .inr (5, [.ref sh, .int (zI lc), .ref ru, .ref tr, .ref se])), zQ cL sh 6 sf, (lv, .inr (1, [.int (zI w), .int (zI h), .ref ka, .ref ta, .int (zI sx), .int (zI sy), .int (zI fx), .int (zI fy), .int (zI lf), .int (zI un)])), zA cI ka 96 K] H := hP.sub [0, 1, 2, 3] rfl
  have hD : va_D A [(sl, .inr (5, [.ref sh, .int (zI lc), .ref ru, .ref tr, .ref se])), zQ cL sh 6 sf, (lv, .inr (1, [.int (zI w), .int (zI h), .ref ka, .ref ta, .int (zI sx), .int (zI sy), .int (zI fx), .int (zI fy), .int (zI lf), .int (zI un)])), zA cI ka 96 K] := hD.sub [0, 1, 2, 3] (by decide) rfl
  clear hK1 hvm
  obtain ⟨rfl, po_5⟩ := hw
  have po_5 : r_4 = kd K w h cx cy ∧ -1 ≤ r_4 ∧ r_4 ≤ 3 := po_5
  refine W.eq (g2 := F0 m 14 ls [.int (zI r_4)]) rfl ?_
  refine lv_iconst (v := zI (-1)) hx hb dX5_levelWithCell_14 (rfl) ?_
  refine lz_icmp_ne (tgt := 28) hx hb dX5_levelWithCell_15 (by decide) (by omega) ⟨by decide, by decide⟩ (fun c_6 => ?_) (fun c_6 => ?_)
  · exfalso; omega
  ·
    obtain ⟨sa, hsa⟩ := zEx_s208 hEx
    exact vx_throwS (A := A) hx hb hfl (own := RX5) (cls := "java/lang/IndexOutOfBoundsException") (text := "no such cell") (names := ["java/lang/RuntimeException", "java/lang/Exception"]) (ik := 129) (is := 208) (ic := 133) hown (by decide) (by decide) (hts (.classLink RX5 129 "java/lang/IndexOutOfBoundsException") (by decide +kernel)) (hts (.initialized "java/lang/IndexOutOfBoundsException") (by decide +kernel)) hsa (vx_hat (fun w h => hts w (List.mem_cons_of_mem _ (List.mem_append_right _ h))) zg_133 (vx_c (va_Nw.use rfl hEx.2.2.2.2.1) (vx_c (va_Nw.use rfl hEx.2.2.2.2.2.1) (vx_c (va_Nw.use rfl hEx.2.2.2.2.2.2.1) (vx_c (va_Nw.use rfl hEx.2.2.2.2.2.2.2.1) vx_n))))) zo_133_129 hEx.1 hEx.2.1 hS (by rw [hml]; exact hl.1) dX5_levelWithCell_18 dX5_levelWithCell_21 dX5_levelWithCell_22 dX5_levelWithCell_24 dX5_levelWithCell_27 (fun x h => (hnt x h).elim) (Nat.le_of_ble_eq_true rfl) (Nat.le_of_ble_eq_true rfl) (Nat.le_of_ble_eq_true rfl) (Nat.le_of_ble_eq_true rfl) hlocks (fun t hvm hz hq => ⟨(), trivial, ⟨rfl, va_P.kept hP (fun k q hk => hq q.1 (hP k q hk).lt), va_K.moved hvm hK, hD⟩, Nat.le_trans hS.1 hz, fun q h1 h2 => (hq q (Nat.lt_of_lt_of_le h1 hS.1)).trans (hS.2.1 q h1 h2)⟩) hS.2.2 (Nat.le_of_ble_eq_true rfl) (Nat.le_of_ble_eq_true rfl)
set_option maxHeartbeats 4000000 in
set_option maxRecDepth 100000 in
theorem x_X5_levelWithoutBlockAt_xa (l : Launch) (hfl : l.stackTraces = false) (dC : Nat → ClassId) (dI : Nat → Nat → Nat) (cI cZ cL cT cJ : ClassId) (sz : Nat) (sl : Nat) (sh : Nat) (lc : Int) (ru : Nat) (tr : Nat) (se : Nat) (sf : Nat → Option Nat) (L : Int) (cx : Int) (cy : Int) (gr9 : -2147483648 ≤ L ∧ L < 2147483648) (gb : L < 0 ∨ 6 ≤ L ∨ ∃ k : Nat, L = (k : Int) ∧ k < 6 ∧ sf k = none) : vx_Met l yX5_levelWithoutBlockAt wsX5_levelWithoutBlockAt ({ frames := 8, cells := 1, slots := 6, locals := 136 }) (zPx (dC, dI) (zT cI cZ cL cT cJ) sz [.ref sl, .int (zI L), .int (zI cx), .int (zI cy)] [(sl, .inr (5, [.ref sh, .int (zI lc), .ref ru, .ref tr, .ref se])), zQ cL sh 6 sf]) (va_Qq (S := Unit) (fun _ _ => False) (fun _ _ => True) (va_A [(sl, .inr (5, [.ref sh, .int (zI lc), .ref ru, .ref tr, .ref se])), zQ cL sh 6 sf] sz)) (vx_X (S := Unit) (fun _ => True) (zBX (dC, dI) (zT cI cZ cL cT cJ) (va_A [(sl, .inr (5, [.ref sh, .int (zI lc), .ref ru, .ref tr, .ref se])), zQ cL sh 6 sf] sz) "java/lang/IndexOutOfBoundsException" [(sl, .inr (5, [.ref sh, .int (zI lc), .ref ru, .ref tr, .ref se])), zQ cL sh 6 sf]) (va_A [(sl, .inr (5, [.ref sh, .int (zI lc), .ref ru, .ref tr, .ref se])), zQ cL sh 6 sf] sz)) 1 6 (va_A [(sl, .inr (5, [.ref sh, .int (zI lc), .ref ru, .ref tr, .ref se])), zQ cL sh 6 sf] sz) := by
  refine vx_ofW (cc := cX5_levelWithoutBlockAt) (maxL := 5) (ret := (some (.object "SpringLevels$Level"))) (by decide) rfl ?_
  intro p e s m args below meth c s₁ B hml hnt hv
  obtain ⟨rfl, hsz, hP, hK, hD0, hEx⟩ := hv
  have hx := B.exec
  have hb := B.bytes
  have hr := B.returns
  have hts := atoms_spec (ws := wsX5_levelWithoutBlockAt) B.pre
  have hown : s.vm.findClass RX5 = some m.cls := findClass_of_methodNamed B.named
  have hlocks := B.notSynchronized
  subst hsz
  have hD := hD0.self (sz := s.heap.size)
  generalize hAe : va_A [(sl, .inr (5, [.ref sh, .int (zI lc), .ref ru, .ref tr, .ref se])), zQ cL sh 6 sf] s.heap.size = A at hD hEx ⊢
  have hA : ∀ q : Nat, s.heap.size ≤ q → A q := fun q h => by rw [← hAe]; exact Or.inr h
  clear hAe hD0
  have hS : va_S A s.heap s.heap [] := va_S.rf
  have hP : va_P (dC, dI) vwCl [(sl, .inr (5, [.ref sh, .int (zI lc), .ref ru, .ref tr, .ref se])), zQ cL sh 6 sf] s.heap := hP
  have hl := lv_entry ([.ref sl, .int (zI L), .int (zI cx), .int (zI cy)]) (n := 5) (Nat.le_of_ble_eq_true rfl)
  rw [lg_entry_eq]
  generalize (lg_sl ([.ref sl, .int (zI L), .int (zI cx), .int (zI cy)]) ++ List.replicate (5 - (lg_sl ([.ref sl, .int (zI L), .int (zI cx), .int (zI cy)])).length) Slot.unset).toArray = ls at hl ⊢
  have hl : lv_has ls 5 [(0, .ref sl), (1, .int (zI L)), (2, .int (zI cx)), (3, .int (zI cy))] := hl
  refine lv_aload_n hx hb dX5_levelWithoutBlockAt_0 rfl (lv_at hl 0 rfl) ?_
  refine lv_iload_n hx hb dX5_levelWithoutBlockAt_1 rfl (lv_at hl 1 rfl) ?_
  refine lv_iload_n hx hb dX5_levelWithoutBlockAt_2 rfl (lv_at hl 2 rfl) ?_
  refine lv_iload_n hx hb dX5_levelWithoutBlockAt_3 rfl (lv_at hl 3 rfl) ?_
  have hPc := hP.sub (ws' := [(sl, .inr (5, [.ref sh, .int (zI lc), .ref ru, .ref tr, .ref se])), zQ cL sh 6 sf]) [0, 1] rfl
  have hDc := hD.sub (ws' := [(sl, .inr (5, [.ref sh, .int (zI lc), .ref ru, .ref tr, .ref se])), zQ cL sh 6 sf]) [0, 1] (by decide) rfl
  have hFc := va_free (wc := [(sl, .inr (5, [.ref sh, .int (zI lc), .ref ru, .ref tr, .ref se])), zQ cL sh 6 sf]) hD hS hA [0, 1] rfl
  refine vx_callq (vx_runV (As := [.int (zI L), .int (zI cx), .int (zI cy)]) (rest := []) ⟨hx, hb, hml, hown, hts⟩ (x_X5_levelWithCell_xa l hfl dC dI cI cZ cL cT cJ s.heap.size sl sh lc ru tr se sf L cx cy (by first | assumption | omega) (by first | assumption | omega)) (cwV 3 hts gX5_levelWithoutBlockAt_X5_levelWithCell rfl rfl rfl (by decide +kernel) ⟨Nat.le_of_ble_eq_true rfl, Nat.le_of_ble_eq_true rfl⟩) ⟨zPx_blind, va_recv hK hPc (ci := 5) (q0 := 0) rfl rfl, zPx_pre hPc hDc hK hEx hS hFc⟩ rfl rfl hl.1 rfl (lv_room (Nat.le_of_ble_eq_true rfl)) dX5_levelWithoutBlockAt_4 ⟨Nat.le_of_ble_eq_true rfl, Nat.le_of_ble_eq_true rfl⟩) hS (fun q _ h => hFc q h) hFc (fun q _ h => hFc q h) (fun E9 ce9 q9 u t H1 locs ht hvm _ hB hz1 hk1 hS hc9 hv9 hf9 => ?_) (fun r u t H1 locs ht hvm hw => hw.elim)
  obtain ⟨rfl, hP1, hK1, hD1⟩ := hB
  rw [ht] at hP1
  obtain ⟨hP, hD⟩ := va_join (wr := []) (w1 := [(sl, .inr (5, [.ref sh, .int (zI lc), .ref ru, .ref tr, .ref se])), zQ cL sh 6 sf]) hP hD [0, 1] [] rfl rfl (by decide) (by decide) hk1 hFc hP1 hD1
  have hP : va_P (dC, dI) vwCl [(sl, .inr (5, [.ref sh, .int (zI lc), .ref ru, .ref tr, .ref se])), zQ cL sh 6 sf] H1 := hP.sub [0, 1] rfl
  have hD : va_D A [(sl, .inr (5, [.ref sh, .int (zI lc), .ref ru, .ref tr, .ref se])), zQ cL sh 6 sf] := hD.sub [0, 1] (by decide) rfl
  exact vx_out (fun x h => (hnt x h).elim) hlocks hc9 hv9 hf9 (fun t9 ht9 hvm9 => ⟨(), trivial, ⟨rfl, by rw [ht9]; exact hP, va_K.moved hvm9 hK, hD⟩, hS.F ht9⟩) hS.2.2 (Nat.le_of_ble_eq_true rfl) (Nat.le_of_ble_eq_true rfl)
set_option maxHeartbeats 4000000 in
set_option maxRecDepth 100000 in
theorem x_X5_levelWithoutBlockAt_xb (l : Launch) (hfl : l.stackTraces = false) (dC : Nat → ClassId) (dI : Nat → Nat → Nat) (cI cZ cL cT cJ : ClassId) (sz : Nat) (sl : Nat) (sh : Nat) (lc : Int) (ru : Nat) (tr : Nat) (se : Nat) (sf : Nat → Option Nat) (L : Int) (k : Nat) (lv : Nat) (w : Int) (h : Int) (ka : Nat) (ta : Nat) (sx : Int) (sy : Int) (fx : Int) (fy : Int) (lf : Int) (un : Int) (K : Int → Int) (cx : Int) (cy : Int) (gk : L = (k : Int) ∧ k < 6) (gf : sf k = some lv) (gw : 0 < w ∧ w ≤ 12) (gh : 0 < h ∧ h ≤ 8) (gK : Kin K) (r9x : -2147483648 ≤ cx ∧ cx < 2147483648) (r9y : -2147483648 ≤ cy ∧ cy < 2147483648) (gq : kd K w h cx cy = -1) : vx_Met l yX5_levelWithoutBlockAt wsX5_levelWithoutBlockAt ({ frames := 7, cells := 1, slots := 6, locals := 114 }) (zPx (dC, dI) (zT cI cZ cL cT cJ) sz [.ref sl, .int (zI L), .int (zI cx), .int (zI cy)] [(sl, .inr (5, [.ref sh, .int (zI lc), .ref ru, .ref tr, .ref se])), zQ cL sh 6 sf, (lv, .inr (1, [.int (zI w), .int (zI h), .ref ka, .ref ta, .int (zI sx), .int (zI sy), .int (zI fx), .int (zI fy), .int (zI lf), .int (zI un)])), zA cI ka 96 K]) (va_Qq (S := Unit) (fun _ _ => False) (fun _ _ => True) (va_A [(sl, .inr (5, [.ref sh, .int (zI lc), .ref ru, .ref tr, .ref se])), zQ cL sh 6 sf, (lv, .inr (1, [.int (zI w), .int (zI h), .ref ka, .ref ta, .int (zI sx), .int (zI sy), .int (zI fx), .int (zI fy), .int (zI lf), .int (zI un)])), zA cI ka 96 K] sz)) (vx_X (S := Unit) (fun _ => True) (zBX (dC, dI) (zT cI cZ cL cT cJ) (va_A [(sl, .inr (5, [.ref sh, .int (zI lc), .ref ru, .ref tr, .ref se])), zQ cL sh 6 sf, (lv, .inr (1, [.int (zI w), .int (zI h), .ref ka, .ref ta, .int (zI sx), .int (zI sy), .int (zI fx), .int (zI fy), .int (zI lf), .int (zI un)])), zA cI ka 96 K] sz) "java/lang/IndexOutOfBoundsException" [(sl, .inr (5, [.ref sh, .int (zI lc), .ref ru, .ref tr, .ref se])), zQ cL sh 6 sf, (lv, .inr (1, [.int (zI w), .int (zI h), .ref ka, .ref ta, .int (zI sx), .int (zI sy), .int (zI fx), .int (zI fy), .int (zI lf), .int (zI un)])), zA cI ka 96 K]) (va_A [(sl, .inr (5, [.ref sh, .int (zI lc), .ref ru, .ref tr, .ref se])), zQ cL sh 6 sf, (lv, .inr (1, [.int (zI w), .int (zI h), .ref ka, .ref ta, .int (zI sx), .int (zI sy), .int (zI fx), .int (zI fy), .int (zI lf), .int (zI un)])), zA cI ka 96 K] sz)) 1 6 (va_A [(sl, .inr (5, [.ref sh, .int (zI lc), .ref ru, .ref tr, .ref se])), zQ cL sh 6 sf, (lv, .inr (1, [.int (zI w), .int (zI h), .ref ka, .ref ta, .int (zI sx), .int (zI sy), .int (zI fx), .int (zI fy), .int (zI lf), .int (zI un)])), zA cI ka 96 K] sz) := by
  refine vx_ofW (cc := cX5_levelWithoutBlockAt) (maxL := 5) (ret := (some (.object "SpringLevels$Level"))) (by decide) rfl ?_
  intro p e s m args below meth c s₁ B hml hnt hv
  obtain ⟨rfl, hsz, hP, hK, hD0, hEx⟩ := hv
  have hx := B.exec
  have hb := B.bytes
  have hr := B.returns
  have hts := atoms_spec (ws := wsX5_levelWithoutBlockAt) B.pre
  have hown : s.vm.findClass RX5 = some m.cls := findClass_of_methodNamed B.named
  have hlocks := B.notSynchronized
  subst hsz
  have hD := hD0.self (sz := s.heap.size)
  generalize hAe : va_A [(sl, .inr (5, [.ref sh, .int (zI lc), .ref ru, .ref tr, .ref se])), zQ cL sh 6 sf, (lv, .inr (1, [.int (zI w), .int (zI h), .ref ka, .ref ta, .int (zI sx), .int (zI sy), .int (zI fx), .int (zI fy), .int (zI lf), .int (zI un)])), zA cI ka 96 K] s.heap.size = A at hD hEx ⊢
  have hA : ∀ q : Nat, s.heap.size ≤ q → A q := fun q h => by rw [← hAe]; exact Or.inr h
  clear hAe hD0
  have hS : va_S A s.heap s.heap [] := va_S.rf
  have hP : va_P (dC, dI) vwCl [(sl, .inr (5, [.ref sh, .int (zI lc), .ref ru, .ref tr, .ref se])), zQ cL sh 6 sf, (lv, .inr (1, [.int (zI w), .int (zI h), .ref ka, .ref ta, .int (zI sx), .int (zI sy), .int (zI fx), .int (zI fy), .int (zI lf), .int (zI un)])), zA cI ka 96 K] s.heap := hP
  have hl := lv_entry ([.ref sl, .int (zI L), .int (zI cx), .int (zI cy)]) (n := 5) (Nat.le_of_ble_eq_true rfl)
  rw [lg_entry_eq]
  generalize (lg_sl ([.ref sl, .int (zI L), .int (zI cx), .int (zI cy)]) ++ List.replicate (5 - (lg_sl ([.ref sl, .int (zI L), .int (zI cx), .int (zI cy)])).length) Slot.unset).toArray = ls at hl ⊢
  have hl : lv_has ls 5 [(0, .ref sl), (1, .int (zI L)), (2, .int (zI cx)), (3, .int (zI cy))] := hl
  refine lv_aload_n hx hb dX5_levelWithoutBlockAt_0 rfl (lv_at hl 0 rfl) ?_
  refine lv_iload_n hx hb dX5_levelWithoutBlockAt_1 rfl (lv_at hl 1 rfl) ?_
  refine lv_iload_n hx hb dX5_levelWithoutBlockAt_2 rfl (lv_at hl 2 rfl) ?_
  refine lv_iload_n hx hb dX5_levelWithoutBlockAt_3 rfl (lv_at hl 3 rfl) ?_
  have hPc := hP.sub (ws' := [(sl, .inr (5, [.ref sh, .int (zI lc), .ref ru, .ref tr, .ref se])), zQ cL sh 6 sf, (lv, .inr (1, [.int (zI w), .int (zI h), .ref ka, .ref ta, .int (zI sx), .int (zI sy), .int (zI fx), .int (zI fy), .int (zI lf), .int (zI un)])), zA cI ka 96 K]) [0, 1, 2, 3] rfl
  have hDc := hD.sub (ws' := [(sl, .inr (5, [.ref sh, .int (zI lc), .ref ru, .ref tr, .ref se])), zQ cL sh 6 sf, (lv, .inr (1, [.int (zI w), .int (zI h), .ref ka, .ref ta, .int (zI sx), .int (zI sy), .int (zI fx), .int (zI fy), .int (zI lf), .int (zI un)])), zA cI ka 96 K]) [0, 1, 2, 3] (by decide) rfl
  have hFc := va_free (wc := [(sl, .inr (5, [.ref sh, .int (zI lc), .ref ru, .ref tr, .ref se])), zQ cL sh 6 sf, (lv, .inr (1, [.int (zI w), .int (zI h), .ref ka, .ref ta, .int (zI sx), .int (zI sy), .int (zI fx), .int (zI fy), .int (zI lf), .int (zI un)])), zA cI ka 96 K]) hD hS hA [0, 1, 2, 3] rfl
  refine vx_callq (vx_runV (As := [.int (zI L), .int (zI cx), .int (zI cy)]) (rest := []) ⟨hx, hb, hml, hown, hts⟩ (x_X5_levelWithCell_xb l hfl dC dI cI cZ cL cT cJ s.heap.size sl sh lc ru tr se sf L k lv w h ka ta sx sy fx fy lf un K cx cy (by first | assumption | omega) (by first | assumption | omega) (by first | assumption | omega) (by first | assumption | omega) (by first | assumption | omega) (by first | assumption | omega) (by first | assumption | omega) (by first | assumption | omega)) (cwV 3 hts gX5_levelWithoutBlockAt_X5_levelWithCell rfl rfl rfl (by decide +kernel) ⟨Nat.le_of_ble_eq_true rfl, Nat.le_of_ble_eq_true rfl⟩) ⟨zPx_blind, va_recv hK hPc (ci := 5) (q0 := 0) rfl rfl, zPx_pre hPc hDc hK hEx hS hFc⟩ rfl rfl hl.1 rfl (lv_room (Nat.le_of_ble_eq_true rfl)) dX5_levelWithoutBlockAt_4 ⟨Nat.le_of_ble_eq_true rfl, Nat.le_of_ble_eq_true rfl⟩) hS (fun q _ h => hFc q h) hFc (fun q _ h => hFc q h) (fun E9 ce9 q9 u t H1 locs ht hvm _ hB hz1 hk1 hS hc9 hv9 hf9 => ?_) (fun r u t H1 locs ht hvm hw => hw.elim)
  obtain ⟨rfl, hP1, hK1, hD1⟩ := hB
  rw [ht] at hP1
  obtain ⟨hP, hD⟩ := va_join (wr := []) (w1 := [(sl, .inr (5, [.ref sh, .int (zI lc), .ref ru, .ref tr, .ref se])), zQ cL sh 6 sf, (lv, .inr (1, [.int (zI w), .int (zI h), .ref ka, .ref ta, .int (zI sx), .int (zI sy), .int (zI fx), .int (zI fy), .int (zI lf), .int (zI un)])), zA cI ka 96 K]) hP hD [0, 1, 2, 3] [] rfl rfl (by decide) (by decide) hk1 hFc hP1 hD1
  have hP : va_P (dC, dI) vwCl [(sl, .inr (5, [.ref sh, .int (zI lc), .ref ru, .ref tr, .ref se])), zQ cL sh 6 sf, (lv, .inr (1, [.int (zI w), .int (zI h), .ref ka, .ref ta, .int (zI sx), .int (zI sy), .int (zI fx), .int (zI fy), .int (zI lf), .int (zI un)])), zA cI ka 96 K] H1 := hP.sub [0, 1, 2, 3] rfl
  have hD : va_D A [(sl, .inr (5, [.ref sh, .int (zI lc), .ref ru, .ref tr, .ref se])), zQ cL sh 6 sf, (lv, .inr (1, [.int (zI w), .int (zI h), .ref ka, .ref ta, .int (zI sx), .int (zI sy), .int (zI fx), .int (zI fy), .int (zI lf), .int (zI un)])), zA cI ka 96 K] := hD.sub [0, 1, 2, 3] (by decide) rfl
  exact vx_out (fun x h => (hnt x h).elim) hlocks hc9 hv9 hf9 (fun t9 ht9 hvm9 => ⟨(), trivial, ⟨rfl, by rw [ht9]; exact hP, va_K.moved hvm9 hK, hD⟩, hS.F ht9⟩) hS.2.2 (Nat.le_of_ble_eq_true rfl) (Nat.le_of_ble_eq_true rfl)
set_option maxHeartbeats 4000000 in
set_option maxRecDepth 100000 in
theorem x_X5_levelWithoutBlockAt_xc (l : Launch) (hfl : l.stackTraces = false) (dC : Nat → ClassId) (dI : Nat → Nat → Nat) (cI cZ cL cT cJ : ClassId) (sz : Nat) (sl : Nat) (sh : Nat) (lc : Int) (ru : Nat) (tr : Nat) (se : Nat) (sf : Nat → Option Nat) (L : Int) (k : Nat) (lv : Nat) (w : Int) (h : Int) (ka : Nat) (ta : Nat) (sx : Int) (sy : Int) (fx : Int) (fy : Int) (lf : Int) (un : Int) (K : Int → Int) (cx : Int) (cy : Int) (gk : L = (k : Int) ∧ k < 6) (gf : sf k = some lv) (gw : 0 < w ∧ w ≤ 12) (gh : 0 < h ∧ h ≤ 8) (gK : Kin K) (gx : 0 ≤ cx ∧ cx < w) (gy : 0 ≤ cy ∧ cy < h) (gq : kd K w h cx cy = 1) : vx_Met l yX5_levelWithoutBlockAt wsX5_levelWithoutBlockAt ({ frames := 6, cells := 1, slots := 6, locals := 90 }) (zPx (dC, dI) (zT cI cZ cL cT cJ) sz [.ref sl, .int (zI L), .int (zI cx), .int (zI cy)] [(sl, .inr (5, [.ref sh, .int (zI lc), .ref ru, .ref tr, .ref se])), zQ cL sh 6 sf, (lv, .inr (1, [.int (zI w), .int (zI h), .ref ka, .ref ta, .int (zI sx), .int (zI sy), .int (zI fx), .int (zI fy), .int (zI lf), .int (zI un)])), zA cI ka 96 K]) (va_Qq (S := Unit) (fun _ _ => False) (fun _ _ => True) (va_A [(sl, .inr (5, [.ref sh, .int (zI lc), .ref ru, .ref tr, .ref se])), zQ cL sh 6 sf, (lv, .inr (1, [.int (zI w), .int (zI h), .ref ka, .ref ta, .int (zI sx), .int (zI sy), .int (zI fx), .int (zI fy), .int (zI lf), .int (zI un)])), zA cI ka 96 K] sz)) (vx_X (S := Unit) (fun _ => True) (zBX (dC, dI) (zT cI cZ cL cT cJ) (va_A [(sl, .inr (5, [.ref sh, .int (zI lc), .ref ru, .ref tr, .ref se])), zQ cL sh 6 sf, (lv, .inr (1, [.int (zI w), .int (zI h), .ref ka, .ref ta, .int (zI sx), .int (zI sy), .int (zI fx), .int (zI fy), .int (zI lf), .int (zI un)])), zA cI ka 96 K] sz) "java/lang/IllegalStateException" [(sl, .inr (5, [.ref sh, .int (zI lc), .ref ru, .ref tr, .ref se])), zQ cL sh 6 sf, (lv, .inr (1, [.int (zI w), .int (zI h), .ref ka, .ref ta, .int (zI sx), .int (zI sy), .int (zI fx), .int (zI fy), .int (zI lf), .int (zI un)])), zA cI ka 96 K]) (va_A [(sl, .inr (5, [.ref sh, .int (zI lc), .ref ru, .ref tr, .ref se])), zQ cL sh 6 sf, (lv, .inr (1, [.int (zI w), .int (zI h), .ref ka, .ref ta, .int (zI sx), .int (zI sy), .int (zI fx), .int (zI fy), .int (zI lf), .int (zI un)])), zA cI ka 96 K] sz)) 1 6 (va_A [(sl, .inr (5, [.ref sh, .int (zI lc), .ref ru, .ref tr, .ref se])), zQ cL sh 6 sf, (lv, .inr (1, [.int (zI w), .int (zI h), .ref ka, .ref ta, .int (zI sx), .int (zI sy), .int (zI fx), .int (zI fy), .int (zI lf), .int (zI un)])), zA cI ka 96 K] sz) := by
  refine vx_ofW (cc := cX5_levelWithoutBlockAt) (maxL := 5) (ret := (some (.object "SpringLevels$Level"))) (by decide) rfl ?_
  intro p e s m args below meth c s₁ B hml hnt hv
  obtain ⟨rfl, hsz, hP, hK, hD0, hEx⟩ := hv
  have hx := B.exec
  have hb := B.bytes
  have hr := B.returns
  have hts := atoms_spec (ws := wsX5_levelWithoutBlockAt) B.pre
  have hown : s.vm.findClass RX5 = some m.cls := findClass_of_methodNamed B.named
  have hlocks := B.notSynchronized
  subst hsz
  have hD := hD0.self (sz := s.heap.size)
  generalize hAe : va_A [(sl, .inr (5, [.ref sh, .int (zI lc), .ref ru, .ref tr, .ref se])), zQ cL sh 6 sf, (lv, .inr (1, [.int (zI w), .int (zI h), .ref ka, .ref ta, .int (zI sx), .int (zI sy), .int (zI fx), .int (zI fy), .int (zI lf), .int (zI un)])), zA cI ka 96 K] s.heap.size = A at hD hEx ⊢
  have hA : ∀ q : Nat, s.heap.size ≤ q → A q := fun q h => by rw [← hAe]; exact Or.inr h
  clear hAe hD0
  have hS : va_S A s.heap s.heap [] := va_S.rf
  have hP : va_P (dC, dI) vwCl [(sl, .inr (5, [.ref sh, .int (zI lc), .ref ru, .ref tr, .ref se])), zQ cL sh 6 sf, (lv, .inr (1, [.int (zI w), .int (zI h), .ref ka, .ref ta, .int (zI sx), .int (zI sy), .int (zI fx), .int (zI fy), .int (zI lf), .int (zI un)])), zA cI ka 96 K] s.heap := hP
  have hl := lv_entry ([.ref sl, .int (zI L), .int (zI cx), .int (zI cy)]) (n := 5) (Nat.le_of_ble_eq_true rfl)
  rw [lg_entry_eq]
  generalize (lg_sl ([.ref sl, .int (zI L), .int (zI cx), .int (zI cy)]) ++ List.replicate (5 - (lg_sl ([.ref sl, .int (zI L), .int (zI cx), .int (zI cy)])).length) Slot.unset).toArray = ls at hl ⊢
  have hl : lv_has ls 5 [(0, .ref sl), (1, .int (zI L)), (2, .int (zI cx)), (3, .int (zI cy))] := hl
  refine lv_aload_n hx hb dX5_levelWithoutBlockAt_0 rfl (lv_at hl 0 rfl) ?_
  refine lv_iload_n hx hb dX5_levelWithoutBlockAt_1 rfl (lv_at hl 1 rfl) ?_
  refine lv_iload_n hx hb dX5_levelWithoutBlockAt_2 rfl (lv_at hl 2 rfl) ?_
  refine lv_iload_n hx hb dX5_levelWithoutBlockAt_3 rfl (lv_at hl 3 rfl) ?_
  have hPc := hP.sub (ws' := [(sl, .inr (5, [.ref sh, .int (zI lc), .ref ru, .ref tr, .ref se])), zQ cL sh 6 sf, (lv, .inr (1, [.int (zI w), .int (zI h), .ref ka, .ref ta, .int (zI sx), .int (zI sy), .int (zI fx), .int (zI fy), .int (zI lf), .int (zI un)])), zA cI ka 96 K]) [0, 1, 2, 3] rfl
  have hDc := hD.sub (ws' := [(sl, .inr (5, [.ref sh, .int (zI lc), .ref ru, .ref tr, .ref se])), zQ cL sh 6 sf, (lv, .inr (1, [.int (zI w), .int (zI h), .ref ka, .ref ta, .int (zI sx), .int (zI sy), .int (zI fx), .int (zI fy), .int (zI lf), .int (zI un)])), zA cI ka 96 K]) [0, 1, 2, 3] (by decide) rfl
  have hFc := va_free (wc := [(sl, .inr (5, [.ref sh, .int (zI lc), .ref ru, .ref tr, .ref se])), zQ cL sh 6 sf, (lv, .inr (1, [.int (zI w), .int (zI h), .ref ka, .ref ta, .int (zI sx), .int (zI sy), .int (zI fx), .int (zI fy), .int (zI lf), .int (zI un)])), zA cI ka 96 K]) hD hS hA [0, 1, 2, 3] rfl
  refine va_callq (va_runV (As := [.int (zI L), .int (zI cx), .int (zI cy)]) (rest := []) ⟨hx, hb, hml, hown, hts⟩ (c_X5_levelWithCell l dC dI cI cZ cL cT cJ s.heap.size sl sh lc ru tr se sf L k lv w h ka ta sx sy fx fy lf un K cx cy (by first | assumption | omega) (by first | assumption | omega) (by first | assumption | omega) (by first | assumption | omega) (by first | assumption | omega) (by first | assumption | omega) (by first | assumption | omega)) (cwV 3 hts gX5_levelWithoutBlockAt_X5_levelWithCell rfl rfl rfl (by decide +kernel) ⟨Nat.le_of_ble_eq_true rfl, Nat.le_of_ble_eq_true rfl⟩) ⟨zP_blind, va_recv hK hPc (ci := 5) (q0 := 0) rfl rfl, zP_pre hPc hDc hK⟩ rfl rfl hl.1 rfl (lv_room (Nat.le_of_ble_eq_true rfl)) dX5_levelWithoutBlockAt_4 ⟨Nat.le_of_ble_eq_true rfl, Nat.le_of_ble_eq_true rfl⟩) hS (fun q _ h => hFc q h) hFc (fun r_1 u_1 t H1 locs ht hvm hw hB hz1 hk1 hS => ?_)
  obtain ⟨hP1, hK1, hD1⟩ := hB
  rw [ht] at hP1
  have hP1 : va_P (dC, dI) vwCl [(sl, .inr (5, [.ref sh, .int (zI lc), .ref ru, .ref tr, .ref se])), zQ cL sh 6 sf, (lv, .inr (1, [.int (zI w), .int (zI h), .ref ka, .ref ta, .int (zI sx), .int (zI sy), .int (zI fx), .int (zI fy), .int (zI lf), .int (zI un)])), zA cI ka 96 K] H1 := hP1
  obtain ⟨hP, hD⟩ := va_join (wr := []) (w1 := [(sl, .inr (5, [.ref sh, .int (zI lc), .ref ru, .ref tr, .ref se])), zQ cL sh 6 sf, (lv, .inr (1, [.int (zI w), .int (zI h), .ref ka, .ref ta, .int (zI sx), .int (zI sy), .int (zI fx), .int (zI fy), .int (zI lf), .int (zI un)])), zA cI ka 96 K]) hP hD [0, 1, 2, 3] [] rfl rfl (by decide) (by decide) hk1 hFc hP1 hD1
  clear hP1 hD1 hk1 hFc hPc hDc hz1
  generalize H1 = H at hP hS ⊢
  have hP : va_P (dC, dI) vwCl [(sl, .inr (5, [.ref sh, .int (zI lc), .ref ru, .ref tr, .ref se])), zQ cL sh 6 sf, (lv, .inr (1, [.int (zI w), .int (zI h), .ref ka, .ref ta, .int (zI sx), .int (zI sy), .int (zI fx), .int (zI fy), .int (zI lf), .int (zI un)])), zA cI ka 96 K] H := hP.sub [0, 1, 2, 3] rfl
  have hD : va_D A [(sl, .inr (5, [.ref sh, .int (zI lc), .ref ru, .ref tr, .ref se])), zQ cL sh 6 sf, (lv, .inr (1, [.int (zI w), .int (zI h), .ref ka, .ref ta, .int (zI sx), .int (zI sy), .int (zI fx), .int (zI fy), .int (zI lf), .int (zI un)])), zA cI ka 96 K] := hD.sub [0, 1, 2, 3] (by decide) rfl
  clear hK1 hvm
  obtain ⟨rfl, po_2⟩ := hw
  refine W.eq (g2 := F0 m 7 ls [.ref lv]) rfl ?_
  refine lv_astore (lv' := [(4, .ref lv), (0, .ref sl), (1, .int (zI L)), (2, .int (zI cx)), (3, .int (zI cy))]) hx hb dX5_levelWithoutBlockAt_7 hl (by decide) rfl (fun ls hl => ?_)
  refine lv_aload hx hb dX5_levelWithoutBlockAt_9 (lv_at hl 0 rfl) ?_
  refine lv_iload_n hx hb dX5_levelWithoutBlockAt_11 rfl (lv_at hl 3 rfl) ?_
  refine lv_iload_n hx hb dX5_levelWithoutBlockAt_12 rfl (lv_at hl 4 rfl) ?_
  have hPc := hP.sub (ws' := [(lv, .inr (1, [.int (zI w), .int (zI h), .ref ka, .ref ta, .int (zI sx), .int (zI sy), .int (zI fx), .int (zI fy), .int (zI lf), .int (zI un)])), zA cI ka 96 K]) [2, 3] rfl
  have hDc := hD.sub (ws' := [(lv, .inr (1, [.int (zI w), .int (zI h), .ref ka, .ref ta, .int (zI sx), .int (zI sy), .int (zI fx), .int (zI fy), .int (zI lf), .int (zI un)])), zA cI ka 96 K]) [2, 3] (by decide) rfl
  have hFc := va_free (wc := [(lv, .inr (1, [.int (zI w), .int (zI h), .ref ka, .ref ta, .int (zI sx), .int (zI sy), .int (zI fx), .int (zI fy), .int (zI lf), .int (zI un)])), zA cI ka 96 K]) hD hS hA [2, 3] rfl
  refine va_calli (va_runV (As := [.int (zI cx), .int (zI cy)]) (rest := []) ⟨hx, hb, hml, hown, hts⟩ (c_X1_kindAt l dC dI cI cZ cL cT cJ H.size lv w h ka (.ref ta) sx sy fx fy lf un K cx cy (by first | assumption | omega) (by first | assumption | omega) (by first | assumption | omega) (by first | assumption | omega) (by first | assumption | omega)) (cwV 2 hts gX5_levelWithoutBlockAt_X1_kindAt rfl rfl rfl (by decide +kernel) ⟨Nat.le_of_ble_eq_true rfl, Nat.le_of_ble_eq_true rfl⟩) ⟨zP_blind, va_recv hK hPc (ci := 1) (q0 := 0) rfl rfl, zP_pre hPc hDc hK⟩ rfl rfl hl.1 rfl (lv_room (Nat.le_of_ble_eq_true rfl)) dX5_levelWithoutBlockAt_13 ⟨Nat.le_of_ble_eq_true rfl, Nat.le_of_ble_eq_true rfl⟩) hS (fun q _ h => hFc q h) hFc (fun r_3 u_3 t H1 locs ht hvm hw hB hz1 hk1 hS => ?_)
  obtain ⟨r_4, rfl⟩ : ∃ z, z = u_3 := ⟨_, rfl⟩
  obtain ⟨hP1, hK1, hD1⟩ := hB
  rw [ht] at hP1
  have hP1 : va_P (dC, dI) vwCl [(lv, .inr (1, [.int (zI w), .int (zI h), .ref ka, .ref ta, .int (zI sx), .int (zI sy), .int (zI fx), .int (zI fy), .int (zI lf), .int (zI un)])), zA cI ka 96 K] H1 := hP1
  obtain ⟨hP, hD⟩ := va_join (wr := [(sl, .inr (5, [.ref sh, .int (zI lc), .ref ru, .ref tr, .ref se])), zQ cL sh 6 sf]) (w1 := [(lv, .inr (1, [.int (zI w), .int (zI h), .ref ka, .ref ta, .int (zI sx), .int (zI sy), .int (zI fx), .int (zI fy), .int (zI lf), .int (zI un)])), zA cI ka 96 K]) hP hD [2, 3] [0, 1] rfl rfl (by decide) (by decide) hk1 hFc hP1 hD1
  clear hP1 hD1 hk1 hFc hPc hDc hz1
  generalize H1 = H at hP hS ⊢
  have hP : va_P (dC, dI) vwCl [(sl, .inr (5, [.ref sh, .int (zI lc), .ref ru, .ref tr, .ref se])), zQ cL sh 6 sf, (lv, .inr (1, [.int (zI w), .int (zI h), .ref ka, .ref ta, .int (zI sx), .int (zI sy), .int (zI fx), .int (zI fy), .int (zI lf), .int (zI un)])), zA cI ka 96 K] H := hP.sub [0, 1, 2, 3] rfl
  have hD : va_D A [(sl, .inr (5, [.ref sh, .int (zI lc), .ref ru, .ref tr, .ref se])), zQ cL sh 6 sf, (lv, .inr (1, [.int (zI w), .int (zI h), .ref ka, .ref ta, .int (zI sx), .int (zI sy), .int (zI fx), .int (zI fy), .int (zI lf), .int (zI un)])), zA cI ka 96 K] := hD.sub [0, 1, 2, 3] (by decide) rfl
  clear hK1 hvm
  obtain ⟨rfl, po_5⟩ := hw
  have po_5 : r_4 = kd K w h cx cy ∧ -1 ≤ r_4 ∧ r_4 ≤ 3 := po_5
  refine W.eq (g2 := F0 m 16 ls [.int (zI r_4)]) rfl ?_
  refine lv_iconst (v := zI 1) hx hb dX5_levelWithoutBlockAt_16 (rfl) ?_
  refine lz_icmp_ne (tgt := 30) hx hb dX5_levelWithoutBlockAt_17 (by decide) (by omega) ⟨by decide, by decide⟩ (fun c_6 => ?_) (fun c_6 => ?_)
  · exfalso; omega
  ·
    obtain ⟨sa, hsa⟩ := zEx_s210 hEx
    exact vx_throwS (A := A) hx hb hfl (own := RX5) (cls := "java/lang/IllegalStateException") (text := "the cell is BLOCK") (names := ["java/lang/RuntimeException", "java/lang/Exception"]) (ik := 47) (is := 210) (ic := 51) hown (by decide) (by decide) (hts (.classLink RX5 47 "java/lang/IllegalStateException") (by decide +kernel)) (hts (.initialized "java/lang/IllegalStateException") (by decide +kernel)) hsa (vx_hat (fun w h => hts w (List.mem_cons_of_mem _ (List.mem_append_left _ (List.mem_append_right _ h)))) zg_51 (vx_c (va_Nw.use rfl hEx.2.2.2.1) (vx_c (va_Nw.use rfl hEx.2.2.2.2.2.1) (vx_c (va_Nw.use rfl hEx.2.2.2.2.2.2.1) (vx_c (va_Nw.use rfl hEx.2.2.2.2.2.2.2.1) vx_n))))) zo_51_47 hEx.1 hEx.2.1 hS (by rw [hml]; exact hl.1) dX5_levelWithoutBlockAt_20 dX5_levelWithoutBlockAt_23 dX5_levelWithoutBlockAt_24 dX5_levelWithoutBlockAt_26 dX5_levelWithoutBlockAt_29 (fun x h => (hnt x h).elim) (Nat.le_of_ble_eq_true rfl) (Nat.le_of_ble_eq_true rfl) (Nat.le_of_ble_eq_true rfl) (Nat.le_of_ble_eq_true rfl) hlocks (fun t hvm hz hq => ⟨(), trivial, ⟨rfl, va_P.kept hP (fun k q hk => hq q.1 (hP k q hk).lt), va_K.moved hvm hK, hD⟩, Nat.le_trans hS.1 hz, fun q h1 h2 => (hq q (Nat.lt_of_lt_of_le h1 hS.1)).trans (hS.2.1 q h1 h2)⟩) hS.2.2 (Nat.le_of_ble_eq_true rfl) (Nat.le_of_ble_eq_true rfl)
set_option maxHeartbeats 4000000 in
set_option maxRecDepth 100000 in
theorem x_X5_tapeOf_xa (l : Launch) (hfl : l.stackTraces = false) (dC : Nat → ClassId) (dI : Nat → Nat → Nat) (cI cZ cL cT cJ : ClassId) (sz : Nat) (sl : Nat) (sh : Nat) (lc : Int) (ru : Nat) (tr : Nat) (se : Nat) (sf : Nat → Option Nat) (L : Int) (pl : Int) (gr9 : -2147483648 ≤ L ∧ L < 2147483648) (gb : L < 0 ∨ 6 ≤ L ∨ ∃ k : Nat, L = (k : Int) ∧ k < 6 ∧ sf k = none) : vx_Met l yX5_tapeOf wsX5_tapeOf ({ frames := 7, cells := 1, slots := 6, locals := 112 }) (zPx (dC, dI) (zT cI cZ cL cT cJ) sz [.ref sl, .int (zI L), .int (zI pl)] [(sl, .inr (5, [.ref sh, .int (zI lc), .ref ru, .ref tr, .ref se])), zQ cL sh 6 sf]) (va_Qq (S := Unit) (fun _ _ => False) (fun _ _ => True) (va_A [(sl, .inr (5, [.ref sh, .int (zI lc), .ref ru, .ref tr, .ref se])), zQ cL sh 6 sf] sz)) (vx_X (S := Unit) (fun _ => True) (zBX (dC, dI) (zT cI cZ cL cT cJ) (va_A [(sl, .inr (5, [.ref sh, .int (zI lc), .ref ru, .ref tr, .ref se])), zQ cL sh 6 sf] sz) "java/lang/IndexOutOfBoundsException" [(sl, .inr (5, [.ref sh, .int (zI lc), .ref ru, .ref tr, .ref se])), zQ cL sh 6 sf]) (va_A [(sl, .inr (5, [.ref sh, .int (zI lc), .ref ru, .ref tr, .ref se])), zQ cL sh 6 sf] sz)) 1 6 (va_A [(sl, .inr (5, [.ref sh, .int (zI lc), .ref ru, .ref tr, .ref se])), zQ cL sh 6 sf] sz) := by
  refine vx_ofW (cc := cX5_tapeOf) (maxL := 4) (ret := (some (.object "SpringLevels$Tape"))) (by decide) rfl ?_
  intro p e s m args below meth c s₁ B hml hnt hv
  obtain ⟨rfl, hsz, hP, hK, hD0, hEx⟩ := hv
  have hx := B.exec
  have hb := B.bytes
  have hr := B.returns
  have hts := atoms_spec (ws := wsX5_tapeOf) B.pre
  have hown : s.vm.findClass RX5 = some m.cls := findClass_of_methodNamed B.named
  have hlocks := B.notSynchronized
  subst hsz
  have hD := hD0.self (sz := s.heap.size)
  generalize hAe : va_A [(sl, .inr (5, [.ref sh, .int (zI lc), .ref ru, .ref tr, .ref se])), zQ cL sh 6 sf] s.heap.size = A at hD hEx ⊢
  have hA : ∀ q : Nat, s.heap.size ≤ q → A q := fun q h => by rw [← hAe]; exact Or.inr h
  clear hAe hD0
  have hS : va_S A s.heap s.heap [] := va_S.rf
  have hP : va_P (dC, dI) vwCl [(sl, .inr (5, [.ref sh, .int (zI lc), .ref ru, .ref tr, .ref se])), zQ cL sh 6 sf] s.heap := hP
  have hl := lv_entry ([.ref sl, .int (zI L), .int (zI pl)]) (n := 4) (Nat.le_of_ble_eq_true rfl)
  rw [lg_entry_eq]
  generalize (lg_sl ([.ref sl, .int (zI L), .int (zI pl)]) ++ List.replicate (4 - (lg_sl ([.ref sl, .int (zI L), .int (zI pl)])).length) Slot.unset).toArray = ls at hl ⊢
  have hl : lv_has ls 4 [(0, .ref sl), (1, .int (zI L)), (2, .int (zI pl))] := hl
  refine lv_aload_n hx hb dX5_tapeOf_0 rfl (lv_at hl 0 rfl) ?_
  refine lv_iload_n hx hb dX5_tapeOf_1 rfl (lv_at hl 1 rfl) ?_
  have hPc := hP.sub (ws' := [(sl, .inr (5, [.ref sh, .int (zI lc), .ref ru, .ref tr, .ref se])), zQ cL sh 6 sf]) [0, 1] rfl
  have hDc := hD.sub (ws' := [(sl, .inr (5, [.ref sh, .int (zI lc), .ref ru, .ref tr, .ref se])), zQ cL sh 6 sf]) [0, 1] (by decide) rfl
  have hFc := va_free (wc := [(sl, .inr (5, [.ref sh, .int (zI lc), .ref ru, .ref tr, .ref se])), zQ cL sh 6 sf]) hD hS hA [0, 1] rfl
  refine vx_callq (vx_runV (As := [.int (zI L)]) (rest := []) ⟨hx, hb, hml, hown, hts⟩ (x_X5_levelNumbered_x l hfl dC dI cI cZ cL cT cJ s.heap.size sl sh lc ru tr se sf L (by first | assumption | omega) (by first | assumption | omega)) (cwV 1 hts gX5_tapeOf_X5_levelNumbered rfl rfl rfl (by decide +kernel) ⟨Nat.le_of_ble_eq_true rfl, Nat.le_of_ble_eq_true rfl⟩) ⟨zPx_blind, va_recv hK hPc (ci := 5) (q0 := 0) rfl rfl, zPx_pre hPc hDc hK hEx hS hFc⟩ rfl rfl hl.1 rfl (lv_room (Nat.le_of_ble_eq_true rfl)) dX5_tapeOf_2 ⟨Nat.le_of_ble_eq_true rfl, Nat.le_of_ble_eq_true rfl⟩) hS (fun q _ h => hFc q h) hFc (fun q _ h => hFc q h) (fun E9 ce9 q9 u t H1 locs ht hvm _ hB hz1 hk1 hS hc9 hv9 hf9 => ?_) (fun r u t H1 locs ht hvm hw => hw.elim)
  obtain ⟨rfl, hP1, hK1, hD1⟩ := hB
  rw [ht] at hP1
  obtain ⟨hP, hD⟩ := va_join (wr := []) (w1 := [(sl, .inr (5, [.ref sh, .int (zI lc), .ref ru, .ref tr, .ref se])), zQ cL sh 6 sf]) hP hD [0, 1] [] rfl rfl (by decide) (by decide) hk1 hFc hP1 hD1
  have hP : va_P (dC, dI) vwCl [(sl, .inr (5, [.ref sh, .int (zI lc), .ref ru, .ref tr, .ref se])), zQ cL sh 6 sf] H1 := hP.sub [0, 1] rfl
  have hD : va_D A [(sl, .inr (5, [.ref sh, .int (zI lc), .ref ru, .ref tr, .ref se])), zQ cL sh 6 sf] := hD.sub [0, 1] (by decide) rfl
  exact vx_out (fun x h => (hnt x h).elim) hlocks hc9 hv9 hf9 (fun t9 ht9 hvm9 => ⟨(), trivial, ⟨rfl, by rw [ht9]; exact hP, va_K.moved hvm9 hK, hD⟩, hS.F ht9⟩) hS.2.2 (Nat.le_of_ble_eq_true rfl) (Nat.le_of_ble_eq_true rfl)
set_option maxHeartbeats 4000000 in
set_option maxRecDepth 100000 in
theorem x_X5_tapeOf_xb (l : Launch) (hfl : l.stackTraces = false) (dC : Nat → ClassId) (dI : Nat → Nat → Nat) (cI cZ cL cT cJ : ClassId) (sz : Nat) (sl : Nat) (sh : Nat) (lc : Int) (ru : Nat) (tr : Nat) (se : Nat) (sf : Nat → Option Nat) (L : Int) (k : Nat) (lv : Nat) (w : Int) (h : Int) (ka : Nat) (ta : Nat) (sx : Int) (sy : Int) (fx : Int) (fy : Int) (lf : Int) (un : Int) (tq : Nat → Option Nat) (tp : Nat → Nat) (pl : Int) (gk : L = (k : Int) ∧ k < 6) (gf : sf k = some lv) (gr : -2147483648 ≤ pl ∧ pl < 2147483648) (gkn : pl < 0 ∨ 4 ≤ pl) : vx_Met l yX5_tapeOf wsX5_tapeOf ({ frames := 6, cells := 1, slots := 6, locals := 90 }) (zPx (dC, dI) (zT cI cZ cL cT cJ) sz [.ref sl, .int (zI L), .int (zI pl)] [(sl, .inr (5, [.ref sh, .int (zI lc), .ref ru, .ref tr, .ref se])), zQ cL sh 6 sf, (lv, .inr (1, [.int (zI w), .int (zI h), .ref ka, .ref ta, .int (zI sx), .int (zI sy), .int (zI fx), .int (zI fy), .int (zI lf), .int (zI un)])), zQ cT ta 4 tq]) (va_Qq (S := Unit) (fun _ _ => False) (fun _ _ => True) (va_A [(sl, .inr (5, [.ref sh, .int (zI lc), .ref ru, .ref tr, .ref se])), zQ cL sh 6 sf, (lv, .inr (1, [.int (zI w), .int (zI h), .ref ka, .ref ta, .int (zI sx), .int (zI sy), .int (zI fx), .int (zI fy), .int (zI lf), .int (zI un)])), zQ cT ta 4 tq] sz)) (vx_X (S := Unit) (fun _ => True) (zBX (dC, dI) (zT cI cZ cL cT cJ) (va_A [(sl, .inr (5, [.ref sh, .int (zI lc), .ref ru, .ref tr, .ref se])), zQ cL sh 6 sf, (lv, .inr (1, [.int (zI w), .int (zI h), .ref ka, .ref ta, .int (zI sx), .int (zI sy), .int (zI fx), .int (zI fy), .int (zI lf), .int (zI un)])), zQ cT ta 4 tq] sz) "java/lang/IndexOutOfBoundsException" [(sl, .inr (5, [.ref sh, .int (zI lc), .ref ru, .ref tr, .ref se])), zQ cL sh 6 sf, (lv, .inr (1, [.int (zI w), .int (zI h), .ref ka, .ref ta, .int (zI sx), .int (zI sy), .int (zI fx), .int (zI fy), .int (zI lf), .int (zI un)])), zQ cT ta 4 tq]) (va_A [(sl, .inr (5, [.ref sh, .int (zI lc), .ref ru, .ref tr, .ref se])), zQ cL sh 6 sf, (lv, .inr (1, [.int (zI w), .int (zI h), .ref ka, .ref ta, .int (zI sx), .int (zI sy), .int (zI fx), .int (zI fy), .int (zI lf), .int (zI un)])), zQ cT ta 4 tq] sz)) 1 6 (va_A [(sl, .inr (5, [.ref sh, .int (zI lc), .ref ru, .ref tr, .ref se])), zQ cL sh 6 sf, (lv, .inr (1, [.int (zI w), .int (zI h), .ref ka, .ref ta, .int (zI sx), .int (zI sy), .int (zI fx), .int (zI fy), .int (zI lf), .int (zI un)])), zQ cT ta 4 tq] sz) := by
  refine vx_ofW (cc := cX5_tapeOf) (maxL := 4) (ret := (some (.object "SpringLevels$Tape"))) (by decide) rfl ?_
  intro p e s m args below meth c s₁ B hml hnt hv
  obtain ⟨rfl, hsz, hP, hK, hD0, hEx⟩ := hv
  have hx := B.exec
  have hb := B.bytes
  have hr := B.returns
  have hts := atoms_spec (ws := wsX5_tapeOf) B.pre
  have hown : s.vm.findClass RX5 = some m.cls := findClass_of_methodNamed B.named
  have hlocks := B.notSynchronized
  subst hsz
  have hD := hD0.self (sz := s.heap.size)
  generalize hAe : va_A [(sl, .inr (5, [.ref sh, .int (zI lc), .ref ru, .ref tr, .ref se])), zQ cL sh 6 sf, (lv, .inr (1, [.int (zI w), .int (zI h), .ref ka, .ref ta, .int (zI sx), .int (zI sy), .int (zI fx), .int (zI fy), .int (zI lf), .int (zI un)])), zQ cT ta 4 tq] s.heap.size = A at hD hEx ⊢
  have hA : ∀ q : Nat, s.heap.size ≤ q → A q := fun q h => by rw [← hAe]; exact Or.inr h
  clear hAe hD0
  have hS : va_S A s.heap s.heap [] := va_S.rf
  have hP : va_P (dC, dI) vwCl [(sl, .inr (5, [.ref sh, .int (zI lc), .ref ru, .ref tr, .ref se])), zQ cL sh 6 sf, (lv, .inr (1, [.int (zI w), .int (zI h), .ref ka, .ref ta, .int (zI sx), .int (zI sy), .int (zI fx), .int (zI fy), .int (zI lf), .int (zI un)])), zQ cT ta 4 tq] s.heap := hP
  have hl := lv_entry ([.ref sl, .int (zI L), .int (zI pl)]) (n := 4) (Nat.le_of_ble_eq_true rfl)
  rw [lg_entry_eq]
  generalize (lg_sl ([.ref sl, .int (zI L), .int (zI pl)]) ++ List.replicate (4 - (lg_sl ([.ref sl, .int (zI L), .int (zI pl)])).length) Slot.unset).toArray = ls at hl ⊢
  have hl : lv_has ls 4 [(0, .ref sl), (1, .int (zI L)), (2, .int (zI pl))] := hl
  refine lv_aload_n hx hb dX5_tapeOf_0 rfl (lv_at hl 0 rfl) ?_
  refine lv_iload_n hx hb dX5_tapeOf_1 rfl (lv_at hl 1 rfl) ?_
  have hPc := hP.sub (ws' := [(sl, .inr (5, [.ref sh, .int (zI lc), .ref ru, .ref tr, .ref se])), zQ cL sh 6 sf]) [0, 1] rfl
  have hDc := hD.sub (ws' := [(sl, .inr (5, [.ref sh, .int (zI lc), .ref ru, .ref tr, .ref se])), zQ cL sh 6 sf]) [0, 1] (by decide) rfl
  have hFc := va_free (wc := [(sl, .inr (5, [.ref sh, .int (zI lc), .ref ru, .ref tr, .ref se])), zQ cL sh 6 sf]) hD hS hA [0, 1] rfl
  refine va_callq (va_runV (As := [.int (zI L)]) (rest := []) ⟨hx, hb, hml, hown, hts⟩ (c_X5_levelNumbered l dC dI cI cZ cL cT cJ s.heap.size sl sh lc ru tr se sf L k lv (by first | assumption | omega) (by first | assumption | omega)) (cwV 1 hts gX5_tapeOf_X5_levelNumbered rfl rfl rfl (by decide +kernel) ⟨Nat.le_of_ble_eq_true rfl, Nat.le_of_ble_eq_true rfl⟩) ⟨zP_blind, va_recv hK hPc (ci := 5) (q0 := 0) rfl rfl, zP_pre hPc hDc hK⟩ rfl rfl hl.1 rfl (lv_room (Nat.le_of_ble_eq_true rfl)) dX5_tapeOf_2 ⟨Nat.le_of_ble_eq_true rfl, Nat.le_of_ble_eq_true rfl⟩) hS (fun q _ h => hFc q h) hFc (fun r_1 u_1 t H1 locs ht hvm hw hB hz1 hk1 hS => ?_)
  obtain ⟨hP1, hK1, hD1⟩ := hB
  rw [ht] at hP1
  have hP1 : va_P (dC, dI) vwCl [(sl, .inr (5, [.ref sh, .int (zI lc), .ref ru, .ref tr, .ref se])), zQ cL sh 6 sf] H1 := hP1
  obtain ⟨hP, hD⟩ := va_join (wr := [(lv, .inr (1, [.int (zI w), .int (zI h), .ref ka, .ref ta, .int (zI sx), .int (zI sy), .int (zI fx), .int (zI fy), .int (zI lf), .int (zI un)])), zQ cT ta 4 tq]) (w1 := [(sl, .inr (5, [.ref sh, .int (zI lc), .ref ru, .ref tr, .ref se])), zQ cL sh 6 sf]) hP hD [0, 1] [2, 3] rfl rfl (by decide) (by decide) hk1 hFc hP1 hD1
  clear hP1 hD1 hk1 hFc hPc hDc hz1
  generalize H1 = H at hP hS ⊢
  have hP : va_P (dC, dI) vwCl [(sl, .inr (5, [.ref sh, .int (zI lc), .ref ru, .ref tr, .ref se])), zQ cL sh 6 sf, (lv, .inr (1, [.int (zI w), .int (zI h), .ref ka, .ref ta, .int (zI sx), .int (zI sy), .int (zI fx), .int (zI fy), .int (zI lf), .int (zI un)])), zQ cT ta 4 tq] H := hP.sub [2, 3, 0, 1] rfl
  have hD : va_D A [(sl, .inr (5, [.ref sh, .int (zI lc), .ref ru, .ref tr, .ref se])), zQ cL sh 6 sf, (lv, .inr (1, [.int (zI w), .int (zI h), .ref ka, .ref ta, .int (zI sx), .int (zI sy), .int (zI fx), .int (zI fy), .int (zI lf), .int (zI un)])), zQ cT ta 4 tq] := hD.sub [2, 3, 0, 1] (by decide) rfl
  clear hK1 hvm
  obtain ⟨rfl, po_2⟩ := hw
  refine W.eq (g2 := F0 m 5 ls [.ref lv]) rfl ?_
  refine lv_iload_n hx hb dX5_tapeOf_5 rfl (lv_at hl 2 rfl) ?_
  have hPc := hP.sub (ws' := [(lv, .inr (1, [.int (zI w), .int (zI h), .ref ka, .ref ta, .int (zI sx), .int (zI sy), .int (zI fx), .int (zI fy), .int (zI lf), .int (zI un)])), zQ cT ta 4 tq]) [2, 3] rfl
  have hDc := hD.sub (ws' := [(lv, .inr (1, [.int (zI w), .int (zI h), .ref ka, .ref ta, .int (zI sx), .int (zI sy), .int (zI fx), .int (zI fy), .int (zI lf), .int (zI un)])), zQ cT ta 4 tq]) [2, 3] (by decide) rfl
  have hFc := va_free (wc := [(lv, .inr (1, [.int (zI w), .int (zI h), .ref ka, .ref ta, .int (zI sx), .int (zI sy), .int (zI fx), .int (zI fy), .int (zI lf), .int (zI un)])), zQ cT ta 4 tq]) hD hS hA [2, 3] rfl
  refine va_callq (va_runV (As := [.int (zI pl)]) (rest := []) ⟨hx, hb, hml, hown, hts⟩ (c_X1_tapeOf_no l dC dI cI cZ cL cT cJ H.size lv w h ka ta sx sy fx fy lf un tq tp pl (by first | assumption | omega) (by first | assumption | omega)) (cwV 1 hts gX5_tapeOf_X1_tapeOf rfl rfl rfl (by decide +kernel) ⟨Nat.le_of_ble_eq_true rfl, Nat.le_of_ble_eq_true rfl⟩) ⟨zP_blind, va_recv hK hPc (ci := 1) (q0 := 0) rfl rfl, zP_pre hPc hDc hK⟩ rfl rfl hl.1 rfl (lv_room (Nat.le_of_ble_eq_true rfl)) dX5_tapeOf_6 ⟨Nat.le_of_ble_eq_true rfl, Nat.le_of_ble_eq_true rfl⟩) hS (fun q _ h => hFc q h) hFc (fun r_3 u_3 t H1 locs ht hvm hw hB hz1 hk1 hS => ?_)
  obtain ⟨hP1, hK1, hD1⟩ := hB
  rw [ht] at hP1
  have hP1 : va_P (dC, dI) vwCl [(lv, .inr (1, [.int (zI w), .int (zI h), .ref ka, .ref ta, .int (zI sx), .int (zI sy), .int (zI fx), .int (zI fy), .int (zI lf), .int (zI un)])), zQ cT ta 4 tq] H1 := hP1
  obtain ⟨hP, hD⟩ := va_join (wr := [(sl, .inr (5, [.ref sh, .int (zI lc), .ref ru, .ref tr, .ref se])), zQ cL sh 6 sf]) (w1 := [(lv, .inr (1, [.int (zI w), .int (zI h), .ref ka, .ref ta, .int (zI sx), .int (zI sy), .int (zI fx), .int (zI fy), .int (zI lf), .int (zI un)])), zQ cT ta 4 tq]) hP hD [2, 3] [0, 1] rfl rfl (by decide) (by decide) hk1 hFc hP1 hD1
  clear hP1 hD1 hk1 hFc hPc hDc hz1
  generalize H1 = H at hP hS ⊢
  have hP : va_P (dC, dI) vwCl [(sl, .inr (5, [.ref sh, .int (zI lc), .ref ru, .ref tr, .ref se])), zQ cL sh 6 sf, (lv, .inr (1, [.int (zI w), .int (zI h), .ref ka, .ref ta, .int (zI sx), .int (zI sy), .int (zI fx), .int (zI fy), .int (zI lf), .int (zI un)])), zQ cT ta 4 tq] H := hP.sub [0, 1, 2, 3] rfl
  have hD : va_D A [(sl, .inr (5, [.ref sh, .int (zI lc), .ref ru, .ref tr, .ref se])), zQ cL sh 6 sf, (lv, .inr (1, [.int (zI w), .int (zI h), .ref ka, .ref ta, .int (zI sx), .int (zI sy), .int (zI fx), .int (zI fy), .int (zI lf), .int (zI un)])), zQ cT ta 4 tq] := hD.sub [0, 1, 2, 3] (by decide) rfl
  clear hK1 hvm
  obtain ⟨rfl, po_4⟩ := hw
  refine W.eq (g2 := F0 m 9 ls [.null]) rfl ?_
  refine lv_astore_nN (lv' := [(3, .null), (0, .ref sl), (1, .int (zI L)), (2, .int (zI pl))]) hx hb dX5_tapeOf_9 rfl hl (by decide) rfl (fun ls hl => ?_)
  refine lv_aload_nN hx hb dX5_tapeOf_10 rfl (lv_at hl 0 rfl) ?_
  refine lv_ifnonnullN hx hb dX5_tapeOf_11 ?_
  obtain ⟨sa, hsa⟩ := zEx_s131 hEx
  exact vx_throwS (A := A) hx hb hfl (own := RX5) (cls := "java/lang/IndexOutOfBoundsException") (text := "no such player") (names := ["java/lang/RuntimeException", "java/lang/Exception"]) (ik := 129) (is := 131) (ic := 133) hown (by decide) (by decide) (hts (.classLink RX5 129 "java/lang/IndexOutOfBoundsException") (by decide +kernel)) (hts (.initialized "java/lang/IndexOutOfBoundsException") (by decide +kernel)) hsa (vx_hat (fun w h => hts w (List.mem_cons_of_mem _ (List.mem_append_right _ h))) zg_133 (vx_c (va_Nw.use rfl hEx.2.2.2.2.1) (vx_c (va_Nw.use rfl hEx.2.2.2.2.2.1) (vx_c (va_Nw.use rfl hEx.2.2.2.2.2.2.1) (vx_c (va_Nw.use rfl hEx.2.2.2.2.2.2.2.1) vx_n))))) zo_133_129 hEx.1 hEx.2.1 hS (by rw [hml]; exact hl.1) dX5_tapeOf_14 dX5_tapeOf_17 dX5_tapeOf_18 dX5_tapeOf_20 dX5_tapeOf_23 (fun x h => (hnt x h).elim) (Nat.le_of_ble_eq_true rfl) (Nat.le_of_ble_eq_true rfl) (Nat.le_of_ble_eq_true rfl) (Nat.le_of_ble_eq_true rfl) hlocks (fun t hvm hz hq => ⟨(), trivial, ⟨rfl, va_P.kept hP (fun k q hk => hq q.1 (hP k q hk).lt), va_K.moved hvm hK, hD⟩, Nat.le_trans hS.1 hz, fun q h1 h2 => (hq q (Nat.lt_of_lt_of_le h1 hS.1)).trans (hS.2.1 q h1 h2)⟩) hS.2.2 (Nat.le_of_ble_eq_true rfl) (Nat.le_of_ble_eq_true rfl)
set_option maxHeartbeats 4000000 in
set_option maxRecDepth 100000 in
theorem x_X5_addLevel_xa (l : Launch) (hfl : l.stackTraces = false) (dC : Nat → ClassId) (dI : Nat → Nat → Nat) (cI cZ cL cT cJ : ClassId) (sz : Nat) (sl : Nat) (sh : Nat) (lc : Int) (ru : Nat) (tr : Nat) (se : Nat) (sf : Nat → Option Nat) (a : Int) (b : Int) (gra : -2147483648 ≤ a ∧ a < 2147483648) (grb : -2147483648 ≤ b ∧ b < 2147483648) (gq : ¬ (2 ≤ a ∧ a ≤ 12 ∧ 2 ≤ b ∧ b ≤ 8)) : vx_Met l yX5_addLevel wsX5_addLevel ({ frames := 6, cells := 1, slots := 6, locals := 90 }) (zPx (dC, dI) (zT cI cZ cL cT cJ) sz [.ref sl, .int (zI a), .int (zI b)] [(sl, .inr (5, [.ref sh, .int (zI lc), .ref ru, .ref tr, .ref se])), zQ cL sh 6 sf]) (va_Qi (S := Unit) (fun _ _ => False) (fun _ _ => True) (va_A [(sl, .inr (5, [.ref sh, .int (zI lc), .ref ru, .ref tr, .ref se])), zQ cL sh 6 sf] sz)) (vx_X (S := Unit) (fun _ => True) (zBX (dC, dI) (zT cI cZ cL cT cJ) (va_A [(sl, .inr (5, [.ref sh, .int (zI lc), .ref ru, .ref tr, .ref se])), zQ cL sh 6 sf] sz) "java/lang/IllegalArgumentException" [(sl, .inr (5, [.ref sh, .int (zI lc), .ref ru, .ref tr, .ref se])), zQ cL sh 6 sf]) (va_A [(sl, .inr (5, [.ref sh, .int (zI lc), .ref ru, .ref tr, .ref se])), zQ cL sh 6 sf] sz)) 1 6 (va_A [(sl, .inr (5, [.ref sh, .int (zI lc), .ref ru, .ref tr, .ref se])), zQ cL sh 6 sf] sz) := by
  refine vx_ofW (cc := cX5_addLevel) (maxL := 4) (ret := (some .int)) (by decide) rfl ?_
  intro p e s m args below meth c s₁ B hml hnt hv
  obtain ⟨rfl, hsz, hP, hK, hD0, hEx⟩ := hv
  have hx := B.exec
  have hb := B.bytes
  have hr := B.returns
  have hts := atoms_spec (ws := wsX5_addLevel) B.pre
  have hown : s.vm.findClass RX5 = some m.cls := findClass_of_methodNamed B.named
  have hlocks := B.notSynchronized
  subst hsz
  have hD := hD0.self (sz := s.heap.size)
  generalize hAe : va_A [(sl, .inr (5, [.ref sh, .int (zI lc), .ref ru, .ref tr, .ref se])), zQ cL sh 6 sf] s.heap.size = A at hD hEx ⊢
  have hA : ∀ q : Nat, s.heap.size ≤ q → A q := fun q h => by rw [← hAe]; exact Or.inr h
  clear hAe hD0
  have hS : va_S A s.heap s.heap [] := va_S.rf
  have hP : va_P (dC, dI) vwCl [(sl, .inr (5, [.ref sh, .int (zI lc), .ref ru, .ref tr, .ref se])), zQ cL sh 6 sf] s.heap := hP
  have f_11 := hts (.fieldLink RX5 11 "SpringLevels" "shelf" "[LSpringLevels$Level;") (by decide +kernel)
  have f_15 := hts (.fieldLink RX5 15 "SpringLevels" "levelCount" "I") (by decide +kernel)
  have i_5 : ∀ w ∈ wsX50, w ∈ wsX5_addLevel := by decide +kernel
  have hl := lv_entry ([.ref sl, .int (zI a), .int (zI b)]) (n := 4) (Nat.le_of_ble_eq_true rfl)
  rw [lg_entry_eq]
  generalize (lg_sl ([.ref sl, .int (zI a), .int (zI b)]) ++ List.replicate (4 - (lg_sl ([.ref sl, .int (zI a), .int (zI b)])).length) Slot.unset).toArray = ls at hl ⊢
  have hl : lv_has ls 4 [(0, .ref sl), (1, .int (zI a)), (2, .int (zI b))] := hl
  refine lv_iload_n hx hb dX5_addLevel_0 rfl (lv_at hl 1 rfl) ?_
  refine lv_iconst (v := zI 2) hx hb dX5_addLevel_1 (rfl) ?_
  refine lz_icmp_lt (tgt := 22) hx hb dX5_addLevel_2 (by decide) (by omega) ⟨by decide, by decide⟩ (fun c_1 => ?_) (fun c_1 => ?_)
  ·
    obtain ⟨sa, hsa⟩ := zEx_s42 hEx
    exact vx_throwS (A := A) hx hb hfl (own := RX5) (cls := "java/lang/IllegalArgumentException") (text := "width or height is out of range") (names := ["java/lang/RuntimeException", "java/lang/Exception"]) (ik := 40) (is := 42) (ic := 44) hown (by decide) (by decide) (hts (.classLink RX5 40 "java/lang/IllegalArgumentException") (by decide +kernel)) (hts (.initialized "java/lang/IllegalArgumentException") (by decide +kernel)) hsa (vx_hat (fun w h => hts w (List.mem_cons_of_mem _ (List.mem_append_left _ (List.mem_append_right _ h)))) zg_44 (vx_c (va_Nw.use rfl hEx.2.2.1) (vx_c (va_Nw.use rfl hEx.2.2.2.2.2.1) (vx_c (va_Nw.use rfl hEx.2.2.2.2.2.2.1) (vx_c (va_Nw.use rfl hEx.2.2.2.2.2.2.2.1) vx_n))))) zo_44_40 hEx.1 hEx.2.1 hS (by rw [hml]; exact hl.1) dX5_addLevel_22 dX5_addLevel_25 dX5_addLevel_26 dX5_addLevel_28 dX5_addLevel_31 (fun x h => (hnt x h).elim) (Nat.le_of_ble_eq_true rfl) (Nat.le_of_ble_eq_true rfl) (Nat.le_of_ble_eq_true rfl) (Nat.le_of_ble_eq_true rfl) hlocks (fun t hvm hz hq => ⟨(), trivial, ⟨rfl, va_P.kept hP (fun k q hk => hq q.1 (hP k q hk).lt), va_K.moved hvm hK, hD⟩, Nat.le_trans hS.1 hz, fun q h1 h2 => (hq q (Nat.lt_of_lt_of_le h1 hS.1)).trans (hS.2.1 q h1 h2)⟩) hS.2.2 (Nat.le_of_ble_eq_true rfl) (Nat.le_of_ble_eq_true rfl)
  ·
    refine lv_iload_n hx hb dX5_addLevel_5 rfl (lv_at hl 1 rfl) ?_
    refine lv_bipush (v := zI 12) hx hb dX5_addLevel_6 (by decide) ?_
    refine lz_icmp_gt (tgt := 22) hx hb dX5_addLevel_8 (by decide) (by omega) ⟨by decide, by decide⟩ (fun c_2 => ?_) (fun c_2 => ?_)
    ·
      obtain ⟨sa, hsa⟩ := zEx_s42 hEx
      exact vx_throwS (A := A) hx hb hfl (own := RX5) (cls := "java/lang/IllegalArgumentException") (text := "width or height is out of range") (names := ["java/lang/RuntimeException", "java/lang/Exception"]) (ik := 40) (is := 42) (ic := 44) hown (by decide) (by decide) (hts (.classLink RX5 40 "java/lang/IllegalArgumentException") (by decide +kernel)) (hts (.initialized "java/lang/IllegalArgumentException") (by decide +kernel)) hsa (vx_hat (fun w h => hts w (List.mem_cons_of_mem _ (List.mem_append_left _ (List.mem_append_right _ h)))) zg_44 (vx_c (va_Nw.use rfl hEx.2.2.1) (vx_c (va_Nw.use rfl hEx.2.2.2.2.2.1) (vx_c (va_Nw.use rfl hEx.2.2.2.2.2.2.1) (vx_c (va_Nw.use rfl hEx.2.2.2.2.2.2.2.1) vx_n))))) zo_44_40 hEx.1 hEx.2.1 hS (by rw [hml]; exact hl.1) dX5_addLevel_22 dX5_addLevel_25 dX5_addLevel_26 dX5_addLevel_28 dX5_addLevel_31 (fun x h => (hnt x h).elim) (Nat.le_of_ble_eq_true rfl) (Nat.le_of_ble_eq_true rfl) (Nat.le_of_ble_eq_true rfl) (Nat.le_of_ble_eq_true rfl) hlocks (fun t hvm hz hq => ⟨(), trivial, ⟨rfl, va_P.kept hP (fun k q hk => hq q.1 (hP k q hk).lt), va_K.moved hvm hK, hD⟩, Nat.le_trans hS.1 hz, fun q h1 h2 => (hq q (Nat.lt_of_lt_of_le h1 hS.1)).trans (hS.2.1 q h1 h2)⟩) hS.2.2 (Nat.le_of_ble_eq_true rfl) (Nat.le_of_ble_eq_true rfl)
    ·
      refine lv_iload_n hx hb dX5_addLevel_11 rfl (lv_at hl 2 rfl) ?_
      refine lv_iconst (v := zI 2) hx hb dX5_addLevel_12 (rfl) ?_
      refine lz_icmp_lt (tgt := 22) hx hb dX5_addLevel_13 (by decide) (by omega) ⟨by decide, by decide⟩ (fun c_3 => ?_) (fun c_3 => ?_)
      ·
        obtain ⟨sa, hsa⟩ := zEx_s42 hEx
        exact vx_throwS (A := A) hx hb hfl (own := RX5) (cls := "java/lang/IllegalArgumentException") (text := "width or height is out of range") (names := ["java/lang/RuntimeException", "java/lang/Exception"]) (ik := 40) (is := 42) (ic := 44) hown (by decide) (by decide) (hts (.classLink RX5 40 "java/lang/IllegalArgumentException") (by decide +kernel)) (hts (.initialized "java/lang/IllegalArgumentException") (by decide +kernel)) hsa (vx_hat (fun w h => hts w (List.mem_cons_of_mem _ (List.mem_append_left _ (List.mem_append_right _ h)))) zg_44 (vx_c (va_Nw.use rfl hEx.2.2.1) (vx_c (va_Nw.use rfl hEx.2.2.2.2.2.1) (vx_c (va_Nw.use rfl hEx.2.2.2.2.2.2.1) (vx_c (va_Nw.use rfl hEx.2.2.2.2.2.2.2.1) vx_n))))) zo_44_40 hEx.1 hEx.2.1 hS (by rw [hml]; exact hl.1) dX5_addLevel_22 dX5_addLevel_25 dX5_addLevel_26 dX5_addLevel_28 dX5_addLevel_31 (fun x h => (hnt x h).elim) (Nat.le_of_ble_eq_true rfl) (Nat.le_of_ble_eq_true rfl) (Nat.le_of_ble_eq_true rfl) (Nat.le_of_ble_eq_true rfl) hlocks (fun t hvm hz hq => ⟨(), trivial, ⟨rfl, va_P.kept hP (fun k q hk => hq q.1 (hP k q hk).lt), va_K.moved hvm hK, hD⟩, Nat.le_trans hS.1 hz, fun q h1 h2 => (hq q (Nat.lt_of_lt_of_le h1 hS.1)).trans (hS.2.1 q h1 h2)⟩) hS.2.2 (Nat.le_of_ble_eq_true rfl) (Nat.le_of_ble_eq_true rfl)
      ·
        refine lv_iload_n hx hb dX5_addLevel_16 rfl (lv_at hl 2 rfl) ?_
        refine lv_bipush (v := zI 8) hx hb dX5_addLevel_17 (by decide) ?_
        refine lz_icmp_le (tgt := 32) hx hb dX5_addLevel_19 (by decide) (by omega) ⟨by decide, by decide⟩ (fun c_4 => ?_) (fun c_4 => ?_)
        · exfalso; omega
        ·
          obtain ⟨sa, hsa⟩ := zEx_s42 hEx
          exact vx_throwS (A := A) hx hb hfl (own := RX5) (cls := "java/lang/IllegalArgumentException") (text := "width or height is out of range") (names := ["java/lang/RuntimeException", "java/lang/Exception"]) (ik := 40) (is := 42) (ic := 44) hown (by decide) (by decide) (hts (.classLink RX5 40 "java/lang/IllegalArgumentException") (by decide +kernel)) (hts (.initialized "java/lang/IllegalArgumentException") (by decide +kernel)) hsa (vx_hat (fun w h => hts w (List.mem_cons_of_mem _ (List.mem_append_left _ (List.mem_append_right _ h)))) zg_44 (vx_c (va_Nw.use rfl hEx.2.2.1) (vx_c (va_Nw.use rfl hEx.2.2.2.2.2.1) (vx_c (va_Nw.use rfl hEx.2.2.2.2.2.2.1) (vx_c (va_Nw.use rfl hEx.2.2.2.2.2.2.2.1) vx_n))))) zo_44_40 hEx.1 hEx.2.1 hS (by rw [hml]; exact hl.1) dX5_addLevel_22 dX5_addLevel_25 dX5_addLevel_26 dX5_addLevel_28 dX5_addLevel_31 (fun x h => (hnt x h).elim) (Nat.le_of_ble_eq_true rfl) (Nat.le_of_ble_eq_true rfl) (Nat.le_of_ble_eq_true rfl) (Nat.le_of_ble_eq_true rfl) hlocks (fun t hvm hz hq => ⟨(), trivial, ⟨rfl, va_P.kept hP (fun k q hk => hq q.1 (hP k q hk).lt), va_K.moved hvm hK, hD⟩, Nat.le_trans hS.1 hz, fun q h1 h2 => (hq q (Nat.lt_of_lt_of_le h1 hS.1)).trans (hS.2.1 q h1 h2)⟩) hS.2.2 (Nat.le_of_ble_eq_true rfl) (Nat.le_of_ble_eq_true rfl)
set_option maxHeartbeats 4000000 in
set_option maxRecDepth 100000 in
theorem x_X5_addLevel_xb (l : Launch) (hfl : l.stackTraces = false) (dC : Nat → ClassId) (dI : Nat → Nat → Nat) (cI cZ cL cT cJ : ClassId) (sz : Nat) (sl : Nat) (sh : Nat) (lc : Int) (ru : Nat) (tr : Nat) (se : Nat) (sf : Nat → Option Nat) (a : Int) (b : Int) (ga : 2 ≤ a ∧ a ≤ 12) (gb : 2 ≤ b ∧ b ≤ 8) (gq : lc = 6) : vx_Met l yX5_addLevel wsX5_addLevel ({ frames := 6, cells := 1, slots := 6, locals := 90 }) (zPx (dC, dI) (zT cI cZ cL cT cJ) sz [.ref sl, .int (zI a), .int (zI b)] [(sl, .inr (5, [.ref sh, .int (zI lc), .ref ru, .ref tr, .ref se])), zQ cL sh 6 sf]) (va_Qi (S := Unit) (fun _ _ => False) (fun _ _ => True) (va_A [(sl, .inr (5, [.ref sh, .int (zI lc), .ref ru, .ref tr, .ref se])), zQ cL sh 6 sf] sz)) (vx_X (S := Unit) (fun _ => True) (zBX (dC, dI) (zT cI cZ cL cT cJ) (va_A [(sl, .inr (5, [.ref sh, .int (zI lc), .ref ru, .ref tr, .ref se])), zQ cL sh 6 sf] sz) "java/lang/IllegalStateException" [(sl, .inr (5, [.ref sh, .int (zI lc), .ref ru, .ref tr, .ref se])), zQ cL sh 6 sf]) (va_A [(sl, .inr (5, [.ref sh, .int (zI lc), .ref ru, .ref tr, .ref se])), zQ cL sh 6 sf] sz)) 1 6 (va_A [(sl, .inr (5, [.ref sh, .int (zI lc), .ref ru, .ref tr, .ref se])), zQ cL sh 6 sf] sz) := by
  refine vx_ofW (cc := cX5_addLevel) (maxL := 4) (ret := (some .int)) (by decide) rfl ?_
  intro p e s m args below meth c s₁ B hml hnt hv
  obtain ⟨rfl, hsz, hP, hK, hD0, hEx⟩ := hv
  have hx := B.exec
  have hb := B.bytes
  have hr := B.returns
  have hts := atoms_spec (ws := wsX5_addLevel) B.pre
  have hown : s.vm.findClass RX5 = some m.cls := findClass_of_methodNamed B.named
  have hlocks := B.notSynchronized
  subst hsz
  have hD := hD0.self (sz := s.heap.size)
  generalize hAe : va_A [(sl, .inr (5, [.ref sh, .int (zI lc), .ref ru, .ref tr, .ref se])), zQ cL sh 6 sf] s.heap.size = A at hD hEx ⊢
  have hA : ∀ q : Nat, s.heap.size ≤ q → A q := fun q h => by rw [← hAe]; exact Or.inr h
  clear hAe hD0
  have hS : va_S A s.heap s.heap [] := va_S.rf
  have hP : va_P (dC, dI) vwCl [(sl, .inr (5, [.ref sh, .int (zI lc), .ref ru, .ref tr, .ref se])), zQ cL sh 6 sf] s.heap := hP
  have f_11 := hts (.fieldLink RX5 11 "SpringLevels" "shelf" "[LSpringLevels$Level;") (by decide +kernel)
  have f_15 := hts (.fieldLink RX5 15 "SpringLevels" "levelCount" "I") (by decide +kernel)
  have i_5 : ∀ w ∈ wsX50, w ∈ wsX5_addLevel := by decide +kernel
  have hl := lv_entry ([.ref sl, .int (zI a), .int (zI b)]) (n := 4) (Nat.le_of_ble_eq_true rfl)
  rw [lg_entry_eq]
  generalize (lg_sl ([.ref sl, .int (zI a), .int (zI b)]) ++ List.replicate (4 - (lg_sl ([.ref sl, .int (zI a), .int (zI b)])).length) Slot.unset).toArray = ls at hl ⊢
  have hl : lv_has ls 4 [(0, .ref sl), (1, .int (zI a)), (2, .int (zI b))] := hl
  refine lv_iload_n hx hb dX5_addLevel_0 rfl (lv_at hl 1 rfl) ?_
  refine lv_iconst (v := zI 2) hx hb dX5_addLevel_1 (rfl) ?_
  refine lz_icmp_lt (tgt := 22) hx hb dX5_addLevel_2 (by decide) (by omega) ⟨by decide, by decide⟩ (fun c_1 => ?_) (fun c_1 => ?_)
  · exfalso; omega
  ·
    refine lv_iload_n hx hb dX5_addLevel_5 rfl (lv_at hl 1 rfl) ?_
    refine lv_bipush (v := zI 12) hx hb dX5_addLevel_6 (by decide) ?_
    refine lz_icmp_gt (tgt := 22) hx hb dX5_addLevel_8 (by decide) (by omega) ⟨by decide, by decide⟩ (fun c_2 => ?_) (fun c_2 => ?_)
    · exfalso; omega
    ·
      refine lv_iload_n hx hb dX5_addLevel_11 rfl (lv_at hl 2 rfl) ?_
      refine lv_iconst (v := zI 2) hx hb dX5_addLevel_12 (rfl) ?_
      refine lz_icmp_lt (tgt := 22) hx hb dX5_addLevel_13 (by decide) (by omega) ⟨by decide, by decide⟩ (fun c_3 => ?_) (fun c_3 => ?_)
      · exfalso; omega
      ·
        refine lv_iload_n hx hb dX5_addLevel_16 rfl (lv_at hl 2 rfl) ?_
        refine lv_bipush (v := zI 8) hx hb dX5_addLevel_17 (by decide) ?_
        refine lz_icmp_le (tgt := 32) hx hb dX5_addLevel_19 (by decide) (by omega) ⟨by decide, by decide⟩ (fun c_4 => ?_) (fun c_4 => ?_)
        ·
          refine lv_aload_n hx hb dX5_addLevel_32 rfl (lv_at hl 0 rfl) ?_
          refine va_get (D := (dC, dI)) (ci := 5) (v := .int (zI lc)) (C := RX5) (T := TX5) (N := 5) hx hb hts i_5 hown hK hP 0 rfl rfl 1 (by decide) f_15 (fun _ h9 => h9) rfl dX5_addLevel_33 ?_
          refine lz_if_lt (tgt := 51) hx hb dX5_addLevel_36 (by decide) (by omega) (fun c_5 => ?_) (fun c_5 => ?_)
          ·
            obtain ⟨sa, hsa⟩ := zEx_s49 hEx
            exact vx_throwS (A := A) hx hb hfl (own := RX5) (cls := "java/lang/IllegalStateException") (text := "there are 6 levels") (names := ["java/lang/RuntimeException", "java/lang/Exception"]) (ik := 47) (is := 49) (ic := 51) hown (by decide) (by decide) (hts (.classLink RX5 47 "java/lang/IllegalStateException") (by decide +kernel)) (hts (.initialized "java/lang/IllegalStateException") (by decide +kernel)) hsa (vx_hat (fun w h => hts w (List.mem_cons_of_mem _ (List.mem_append_right _ h))) zg_51 (vx_c (va_Nw.use rfl hEx.2.2.2.1) (vx_c (va_Nw.use rfl hEx.2.2.2.2.2.1) (vx_c (va_Nw.use rfl hEx.2.2.2.2.2.2.1) (vx_c (va_Nw.use rfl hEx.2.2.2.2.2.2.2.1) vx_n))))) zo_51_47 hEx.1 hEx.2.1 hS (by rw [hml]; exact hl.1) dX5_addLevel_51 dX5_addLevel_54 dX5_addLevel_55 dX5_addLevel_57 dX5_addLevel_60 (fun x h => (hnt x h).elim) (Nat.le_of_ble_eq_true rfl) (Nat.le_of_ble_eq_true rfl) (Nat.le_of_ble_eq_true rfl) (Nat.le_of_ble_eq_true rfl) hlocks (fun t hvm hz hq => ⟨(), trivial, ⟨rfl, va_P.kept hP (fun k q hk => hq q.1 (hP k q hk).lt), va_K.moved hvm hK, hD⟩, Nat.le_trans hS.1 hz, fun q h1 h2 => (hq q (Nat.lt_of_lt_of_le h1 hS.1)).trans (hS.2.1 q h1 h2)⟩) hS.2.2 (Nat.le_of_ble_eq_true rfl) (Nat.le_of_ble_eq_true rfl)
          ·
            refine lv_aload_n hx hb dX5_addLevel_39 rfl (lv_at hl 0 rfl) ?_
            refine va_get (D := (dC, dI)) (ci := 5) (v := .int (zI lc)) (C := RX5) (T := TX5) (N := 5) hx hb hts i_5 hown hK hP 0 rfl rfl 1 (by decide) f_15 (fun _ h9 => h9) rfl dX5_addLevel_40 ?_
            refine lv_aload_n hx hb dX5_addLevel_43 rfl (lv_at hl 0 rfl) ?_
            refine va_get (D := (dC, dI)) (ci := 5) (v := .ref sh) (C := RX5) (T := TX5) (N := 5) hx hb hts i_5 hown hK hP 0 rfl rfl 0 (by decide) f_11 (fun _ h9 => h9) rfl dX5_addLevel_44 ?_
            refine va_alen (v := zI 6) hx hb hK hP 1 2 rfl rfl rfl dX5_addLevel_47 ?_
            refine lz_icmp_lt (tgt := 61) hx hb dX5_addLevel_48 (by decide) (by omega) ⟨by decide, by decide⟩ (fun c_6 => ?_) (fun c_6 => ?_)
            · exfalso; omega
            ·
              obtain ⟨sa, hsa⟩ := zEx_s49 hEx
              exact vx_throwS (A := A) hx hb hfl (own := RX5) (cls := "java/lang/IllegalStateException") (text := "there are 6 levels") (names := ["java/lang/RuntimeException", "java/lang/Exception"]) (ik := 47) (is := 49) (ic := 51) hown (by decide) (by decide) (hts (.classLink RX5 47 "java/lang/IllegalStateException") (by decide +kernel)) (hts (.initialized "java/lang/IllegalStateException") (by decide +kernel)) hsa (vx_hat (fun w h => hts w (List.mem_cons_of_mem _ (List.mem_append_right _ h))) zg_51 (vx_c (va_Nw.use rfl hEx.2.2.2.1) (vx_c (va_Nw.use rfl hEx.2.2.2.2.2.1) (vx_c (va_Nw.use rfl hEx.2.2.2.2.2.2.1) (vx_c (va_Nw.use rfl hEx.2.2.2.2.2.2.2.1) vx_n))))) zo_51_47 hEx.1 hEx.2.1 hS (by rw [hml]; exact hl.1) dX5_addLevel_51 dX5_addLevel_54 dX5_addLevel_55 dX5_addLevel_57 dX5_addLevel_60 (fun x h => (hnt x h).elim) (Nat.le_of_ble_eq_true rfl) (Nat.le_of_ble_eq_true rfl) (Nat.le_of_ble_eq_true rfl) (Nat.le_of_ble_eq_true rfl) hlocks (fun t hvm hz hq => ⟨(), trivial, ⟨rfl, va_P.kept hP (fun k q hk => hq q.1 (hP k q hk).lt), va_K.moved hvm hK, hD⟩, Nat.le_trans hS.1 hz, fun q h1 h2 => (hq q (Nat.lt_of_lt_of_le h1 hS.1)).trans (hS.2.1 q h1 h2)⟩) hS.2.2 (Nat.le_of_ble_eq_true rfl) (Nat.le_of_ble_eq_true rfl)
        · exfalso; omega
set_option maxHeartbeats 4000000 in
set_option maxRecDepth 100000 in
theorem x_X5_setCell_xa (l : Launch) (hfl : l.stackTraces = false) (dC : Nat → ClassId) (dI : Nat → Nat → Nat) (cI cZ cL cT cJ : ClassId) (sz : Nat) (sl : Nat) (sh : Nat) (lc : Int) (ru : Nat) (tr : Nat) (se : Nat) (sf : Nat → Option Nat) (L : Int) (cx : Int) (cy : Int) (v : Int) (gr9 : -2147483648 ≤ L ∧ L < 2147483648) (gb : L < 0 ∨ 6 ≤ L ∨ ∃ k : Nat, L = (k : Int) ∧ k < 6 ∧ sf k = none) : vx_Met l yX5_setCell wsX5_setCell ({ frames := 8, cells := 1, slots := 6, locals := 136 }) (zPx (dC, dI) (zT cI cZ cL cT cJ) sz [.ref sl, .int (zI L), .int (zI cx), .int (zI cy), .int (zI v)] [(sl, .inr (5, [.ref sh, .int (zI lc), .ref ru, .ref tr, .ref se])), zQ cL sh 6 sf]) (va_Qi (S := Unit) (fun _ _ => False) (fun _ _ => True) (va_A [(sl, .inr (5, [.ref sh, .int (zI lc), .ref ru, .ref tr, .ref se])), zQ cL sh 6 sf] sz)) (vx_X (S := Unit) (fun _ => True) (zBX (dC, dI) (zT cI cZ cL cT cJ) (va_A [(sl, .inr (5, [.ref sh, .int (zI lc), .ref ru, .ref tr, .ref se])), zQ cL sh 6 sf] sz) "java/lang/IndexOutOfBoundsException" [(sl, .inr (5, [.ref sh, .int (zI lc), .ref ru, .ref tr, .ref se])), zQ cL sh 6 sf]) (va_A [(sl, .inr (5, [.ref sh, .int (zI lc), .ref ru, .ref tr, .ref se])), zQ cL sh 6 sf] sz)) 1 6 (va_A [(sl, .inr (5, [.ref sh, .int (zI lc), .ref ru, .ref tr, .ref se])), zQ cL sh 6 sf] sz) := by
  refine vx_ofW (cc := cX5_setCell) (maxL := 7) (ret := (some .int)) (by decide) rfl ?_
  intro p e s m args below meth c s₁ B hml hnt hv
  obtain ⟨rfl, hsz, hP, hK, hD0, hEx⟩ := hv
  have hx := B.exec
  have hb := B.bytes
  have hr := B.returns
  have hts := atoms_spec (ws := wsX5_setCell) B.pre
  have hown : s.vm.findClass RX5 = some m.cls := findClass_of_methodNamed B.named
  have hlocks := B.notSynchronized
  subst hsz
  have hD := hD0.self (sz := s.heap.size)
  generalize hAe : va_A [(sl, .inr (5, [.ref sh, .int (zI lc), .ref ru, .ref tr, .ref se])), zQ cL sh 6 sf] s.heap.size = A at hD hEx ⊢
  have hA : ∀ q : Nat, s.heap.size ≤ q → A q := fun q h => by rw [← hAe]; exact Or.inr h
  clear hAe hD0
  have hS : va_S A s.heap s.heap [] := va_S.rf
  have hP : va_P (dC, dI) vwCl [(sl, .inr (5, [.ref sh, .int (zI lc), .ref ru, .ref tr, .ref se])), zQ cL sh 6 sf] s.heap := hP
  have hl := lv_entry ([.ref sl, .int (zI L), .int (zI cx), .int (zI cy), .int (zI v)]) (n := 7) (Nat.le_of_ble_eq_true rfl)
  rw [lg_entry_eq]
  generalize (lg_sl ([.ref sl, .int (zI L), .int (zI cx), .int (zI cy), .int (zI v)]) ++ List.replicate (7 - (lg_sl ([.ref sl, .int (zI L), .int (zI cx), .int (zI cy), .int (zI v)])).length) Slot.unset).toArray = ls at hl ⊢
  have hl : lv_has ls 7 [(0, .ref sl), (1, .int (zI L)), (2, .int (zI cx)), (3, .int (zI cy)), (4, .int (zI v))] := hl
  refine lv_aload_n hx hb dX5_setCell_0 rfl (lv_at hl 0 rfl) ?_
  refine lv_iload_n hx hb dX5_setCell_1 rfl (lv_at hl 1 rfl) ?_
  refine lv_iload_n hx hb dX5_setCell_2 rfl (lv_at hl 2 rfl) ?_
  refine lv_iload_n hx hb dX5_setCell_3 rfl (lv_at hl 3 rfl) ?_
  have hPc := hP.sub (ws' := [(sl, .inr (5, [.ref sh, .int (zI lc), .ref ru, .ref tr, .ref se])), zQ cL sh 6 sf]) [0, 1] rfl
  have hDc := hD.sub (ws' := [(sl, .inr (5, [.ref sh, .int (zI lc), .ref ru, .ref tr, .ref se])), zQ cL sh 6 sf]) [0, 1] (by decide) rfl
  have hFc := va_free (wc := [(sl, .inr (5, [.ref sh, .int (zI lc), .ref ru, .ref tr, .ref se])), zQ cL sh 6 sf]) hD hS hA [0, 1] rfl
  refine vx_callq (vx_runV (As := [.int (zI L), .int (zI cx), .int (zI cy)]) (rest := []) ⟨hx, hb, hml, hown, hts⟩ (x_X5_levelWithCell_xa l hfl dC dI cI cZ cL cT cJ s.heap.size sl sh lc ru tr se sf L cx cy (by first | assumption | omega) (by first | assumption | omega)) (cwV 3 hts gX5_setCell_X5_levelWithCell rfl rfl rfl (by decide +kernel) ⟨Nat.le_of_ble_eq_true rfl, Nat.le_of_ble_eq_true rfl⟩) ⟨zPx_blind, va_recv hK hPc (ci := 5) (q0 := 0) rfl rfl, zPx_pre hPc hDc hK hEx hS hFc⟩ rfl rfl hl.1 rfl (lv_room (Nat.le_of_ble_eq_true rfl)) dX5_setCell_4 ⟨Nat.le_of_ble_eq_true rfl, Nat.le_of_ble_eq_true rfl⟩) hS (fun q _ h => hFc q h) hFc (fun q _ h => hFc q h) (fun E9 ce9 q9 u t H1 locs ht hvm _ hB hz1 hk1 hS hc9 hv9 hf9 => ?_) (fun r u t H1 locs ht hvm hw => hw.elim)
  obtain ⟨rfl, hP1, hK1, hD1⟩ := hB
  rw [ht] at hP1
  obtain ⟨hP, hD⟩ := va_join (wr := []) (w1 := [(sl, .inr (5, [.ref sh, .int (zI lc), .ref ru, .ref tr, .ref se])), zQ cL sh 6 sf]) hP hD [0, 1] [] rfl rfl (by decide) (by decide) hk1 hFc hP1 hD1
  have hP : va_P (dC, dI) vwCl [(sl, .inr (5, [.ref sh, .int (zI lc), .ref ru, .ref tr, .ref se])), zQ cL sh 6 sf] H1 := hP.sub [0, 1] rfl
  have hD : va_D A [(sl, .inr (5, [.ref sh, .int (zI lc), .ref ru, .ref tr, .ref se])), zQ cL sh 6 sf] := hD.sub [0, 1] (by decide) rfl
  exact vx_out (fun x h => (hnt x h).elim) hlocks hc9 hv9 hf9 (fun t9 ht9 hvm9 => ⟨(), trivial, ⟨rfl, by rw [ht9]; exact hP, va_K.moved hvm9 hK, hD⟩, hS.F ht9⟩) hS.2.2 (Nat.le_of_ble_eq_true rfl) (Nat.le_of_ble_eq_true rfl)
set_option maxHeartbeats 4000000 in
set_option maxRecDepth 100000 in
theorem x_X5_setCell_xb (l : Launch) (hfl : l.stackTraces = false) (dC : Nat → ClassId) (dI : Nat → Nat → Nat) (cI cZ cL cT cJ : ClassId) (sz : Nat) (sl : Nat) (sh : Nat) (lc : Int) (ru : Nat) (tr : Nat) (se : Nat) (sf : Nat → Option Nat) (L : Int) (k : Nat) (lv : Nat) (w : Int) (h : Int) (ka : Nat) (ta : Nat) (sx : Int) (sy : Int) (fx : Int) (fy : Int) (lf : Int) (un : Int) (K : Int → Int) (cx : Int) (cy : Int) (v : Int) (gk : L = (k : Int) ∧ k < 6) (gf : sf k = some lv) (gw : 0 < w ∧ w ≤ 12) (gh : 0 < h ∧ h ≤ 8) (gK : Kin K) (r9x : -2147483648 ≤ cx ∧ cx < 2147483648) (r9y : -2147483648 ≤ cy ∧ cy < 2147483648) (gq : kd K w h cx cy = -1) : vx_Met l yX5_setCell wsX5_setCell ({ frames := 7, cells := 1, slots := 6, locals := 114 }) (zPx (dC, dI) (zT cI cZ cL cT cJ) sz [.ref sl, .int (zI L), .int (zI cx), .int (zI cy), .int (zI v)] [(sl, .inr (5, [.ref sh, .int (zI lc), .ref ru, .ref tr, .ref se])), zQ cL sh 6 sf, (lv, .inr (1, [.int (zI w), .int (zI h), .ref ka, .ref ta, .int (zI sx), .int (zI sy), .int (zI fx), .int (zI fy), .int (zI lf), .int (zI un)])), zA cI ka 96 K]) (va_Qi (S := Unit) (fun _ _ => False) (fun _ _ => True) (va_A [(sl, .inr (5, [.ref sh, .int (zI lc), .ref ru, .ref tr, .ref se])), zQ cL sh 6 sf, (lv, .inr (1, [.int (zI w), .int (zI h), .ref ka, .ref ta, .int (zI sx), .int (zI sy), .int (zI fx), .int (zI fy), .int (zI lf), .int (zI un)])), zA cI ka 96 K] sz)) (vx_X (S := Unit) (fun _ => True) (zBX (dC, dI) (zT cI cZ cL cT cJ) (va_A [(sl, .inr (5, [.ref sh, .int (zI lc), .ref ru, .ref tr, .ref se])), zQ cL sh 6 sf, (lv, .inr (1, [.int (zI w), .int (zI h), .ref ka, .ref ta, .int (zI sx), .int (zI sy), .int (zI fx), .int (zI fy), .int (zI lf), .int (zI un)])), zA cI ka 96 K] sz) "java/lang/IndexOutOfBoundsException" [(sl, .inr (5, [.ref sh, .int (zI lc), .ref ru, .ref tr, .ref se])), zQ cL sh 6 sf, (lv, .inr (1, [.int (zI w), .int (zI h), .ref ka, .ref ta, .int (zI sx), .int (zI sy), .int (zI fx), .int (zI fy), .int (zI lf), .int (zI un)])), zA cI ka 96 K]) (va_A [(sl, .inr (5, [.ref sh, .int (zI lc), .ref ru, .ref tr, .ref se])), zQ cL sh 6 sf, (lv, .inr (1, [.int (zI w), .int (zI h), .ref ka, .ref ta, .int (zI sx), .int (zI sy), .int (zI fx), .int (zI fy), .int (zI lf), .int (zI un)])), zA cI ka 96 K] sz)) 1 6 (va_A [(sl, .inr (5, [.ref sh, .int (zI lc), .ref ru, .ref tr, .ref se])), zQ cL sh 6 sf, (lv, .inr (1, [.int (zI w), .int (zI h), .ref ka, .ref ta, .int (zI sx), .int (zI sy), .int (zI fx), .int (zI fy), .int (zI lf), .int (zI un)])), zA cI ka 96 K] sz) := by
  refine vx_ofW (cc := cX5_setCell) (maxL := 7) (ret := (some .int)) (by decide) rfl ?_
  intro p e s m args below meth c s₁ B hml hnt hv
  obtain ⟨rfl, hsz, hP, hK, hD0, hEx⟩ := hv
  have hx := B.exec
  have hb := B.bytes
  have hr := B.returns
  have hts := atoms_spec (ws := wsX5_setCell) B.pre
  have hown : s.vm.findClass RX5 = some m.cls := findClass_of_methodNamed B.named
  have hlocks := B.notSynchronized
  subst hsz
  have hD := hD0.self (sz := s.heap.size)
  generalize hAe : va_A [(sl, .inr (5, [.ref sh, .int (zI lc), .ref ru, .ref tr, .ref se])), zQ cL sh 6 sf, (lv, .inr (1, [.int (zI w), .int (zI h), .ref ka, .ref ta, .int (zI sx), .int (zI sy), .int (zI fx), .int (zI fy), .int (zI lf), .int (zI un)])), zA cI ka 96 K] s.heap.size = A at hD hEx ⊢
  have hA : ∀ q : Nat, s.heap.size ≤ q → A q := fun q h => by rw [← hAe]; exact Or.inr h
  clear hAe hD0
  have hS : va_S A s.heap s.heap [] := va_S.rf
  have hP : va_P (dC, dI) vwCl [(sl, .inr (5, [.ref sh, .int (zI lc), .ref ru, .ref tr, .ref se])), zQ cL sh 6 sf, (lv, .inr (1, [.int (zI w), .int (zI h), .ref ka, .ref ta, .int (zI sx), .int (zI sy), .int (zI fx), .int (zI fy), .int (zI lf), .int (zI un)])), zA cI ka 96 K] s.heap := hP
  have hl := lv_entry ([.ref sl, .int (zI L), .int (zI cx), .int (zI cy), .int (zI v)]) (n := 7) (Nat.le_of_ble_eq_true rfl)
  rw [lg_entry_eq]
  generalize (lg_sl ([.ref sl, .int (zI L), .int (zI cx), .int (zI cy), .int (zI v)]) ++ List.replicate (7 - (lg_sl ([.ref sl, .int (zI L), .int (zI cx), .int (zI cy), .int (zI v)])).length) Slot.unset).toArray = ls at hl ⊢
  have hl : lv_has ls 7 [(0, .ref sl), (1, .int (zI L)), (2, .int (zI cx)), (3, .int (zI cy)), (4, .int (zI v))] := hl
  refine lv_aload_n hx hb dX5_setCell_0 rfl (lv_at hl 0 rfl) ?_
  refine lv_iload_n hx hb dX5_setCell_1 rfl (lv_at hl 1 rfl) ?_
  refine lv_iload_n hx hb dX5_setCell_2 rfl (lv_at hl 2 rfl) ?_
  refine lv_iload_n hx hb dX5_setCell_3 rfl (lv_at hl 3 rfl) ?_
  have hPc := hP.sub (ws' := [(sl, .inr (5, [.ref sh, .int (zI lc), .ref ru, .ref tr, .ref se])), zQ cL sh 6 sf, (lv, .inr (1, [.int (zI w), .int (zI h), .ref ka, .ref ta, .int (zI sx), .int (zI sy), .int (zI fx), .int (zI fy), .int (zI lf), .int (zI un)])), zA cI ka 96 K]) [0, 1, 2, 3] rfl
  have hDc := hD.sub (ws' := [(sl, .inr (5, [.ref sh, .int (zI lc), .ref ru, .ref tr, .ref se])), zQ cL sh 6 sf, (lv, .inr (1, [.int (zI w), .int (zI h), .ref ka, .ref ta, .int (zI sx), .int (zI sy), .int (zI fx), .int (zI fy), .int (zI lf), .int (zI un)])), zA cI ka 96 K]) [0, 1, 2, 3] (by decide) rfl
  have hFc := va_free (wc := [(sl, .inr (5, [.ref sh, .int (zI lc), .ref ru, .ref tr, .ref se])), zQ cL sh 6 sf, (lv, .inr (1, [.int (zI w), .int (zI h), .ref ka, .ref ta, .int (zI sx), .int (zI sy), .int (zI fx), .int (zI fy), .int (zI lf), .int (zI un)])), zA cI ka 96 K]) hD hS hA [0, 1, 2, 3] rfl
  refine vx_callq (vx_runV (As := [.int (zI L), .int (zI cx), .int (zI cy)]) (rest := []) ⟨hx, hb, hml, hown, hts⟩ (x_X5_levelWithCell_xb l hfl dC dI cI cZ cL cT cJ s.heap.size sl sh lc ru tr se sf L k lv w h ka ta sx sy fx fy lf un K cx cy (by first | assumption | omega) (by first | assumption | omega) (by first | assumption | omega) (by first | assumption | omega) (by first | assumption | omega) (by first | assumption | omega) (by first | assumption | omega) (by first | assumption | omega)) (cwV 3 hts gX5_setCell_X5_levelWithCell rfl rfl rfl (by decide +kernel) ⟨Nat.le_of_ble_eq_true rfl, Nat.le_of_ble_eq_true rfl⟩) ⟨zPx_blind, va_recv hK hPc (ci := 5) (q0 := 0) rfl rfl, zPx_pre hPc hDc hK hEx hS hFc⟩ rfl rfl hl.1 rfl (lv_room (Nat.le_of_ble_eq_true rfl)) dX5_setCell_4 ⟨Nat.le_of_ble_eq_true rfl, Nat.le_of_ble_eq_true rfl⟩) hS (fun q _ h => hFc q h) hFc (fun q _ h => hFc q h) (fun E9 ce9 q9 u t H1 locs ht hvm _ hB hz1 hk1 hS hc9 hv9 hf9 => ?_) (fun r u t H1 locs ht hvm hw => hw.elim)
  obtain ⟨rfl, hP1, hK1, hD1⟩ := hB
  rw [ht] at hP1
  obtain ⟨hP, hD⟩ := va_join (wr := []) (w1 := [(sl, .inr (5, [.ref sh, .int (zI lc), .ref ru, .ref tr, .ref se])), zQ cL sh 6 sf, (lv, .inr (1, [.int (zI w), .int (zI h), .ref ka, .ref ta, .int (zI sx), .int (zI sy), .int (zI fx), .int (zI fy), .int (zI lf), .int (zI un)])), zA cI ka 96 K]) hP hD [0, 1, 2, 3] [] rfl rfl (by decide) (by decide) hk1 hFc hP1 hD1
  have hP : va_P (dC, dI) vwCl [(sl, .inr (5, [.ref sh, .int (zI lc), .ref ru, .ref tr, .ref se])), zQ cL sh 6 sf, (lv, .inr (1, [.int (zI w), .int (zI h), .ref ka, .ref ta, .int (zI sx), .int (zI sy), .int (zI fx), .int (zI fy), .int (zI lf), .int (zI un)])), zA cI ka 96 K] H1 := hP.sub [0, 1, 2, 3] rfl
  have hD : va_D A [(sl, .inr (5, [.ref sh, .int (zI lc), .ref ru, .ref tr, .ref se])), zQ cL sh 6 sf, (lv, .inr (1, [.int (zI w), .int (zI h), .ref ka, .ref ta, .int (zI sx), .int (zI sy), .int (zI fx), .int (zI fy), .int (zI lf), .int (zI un)])), zA cI ka 96 K] := hD.sub [0, 1, 2, 3] (by decide) rfl
  exact vx_out (fun x h => (hnt x h).elim) hlocks hc9 hv9 hf9 (fun t9 ht9 hvm9 => ⟨(), trivial, ⟨rfl, by rw [ht9]; exact hP, va_K.moved hvm9 hK, hD⟩, hS.F ht9⟩) hS.2.2 (Nat.le_of_ble_eq_true rfl) (Nat.le_of_ble_eq_true rfl)
set_option maxHeartbeats 4000000 in
set_option maxRecDepth 100000 in
theorem x_X5_setCell_xc (l : Launch) (hfl : l.stackTraces = false) (dC : Nat → ClassId) (dI : Nat → Nat → Nat) (cI cZ cL cT cJ : ClassId) (sz : Nat) (sl : Nat) (sh : Nat) (lc : Int) (ru : Nat) (tr : Nat) (se : Nat) (sf : Nat → Option Nat) (L : Int) (k : Nat) (lv : Nat) (w : Int) (h : Int) (ka : Nat) (ta : Nat) (sx : Int) (sy : Int) (fx : Int) (fy : Int) (lf : Int) (un : Int) (K : Int → Int) (cx : Int) (cy : Int) (v : Int) (gk : L = (k : Int) ∧ k < 6) (gf : sf k = some lv) (gw : 0 < w ∧ w ≤ 12) (gh : 0 < h ∧ h ≤ 8) (gK : Kin K) (gx : 0 ≤ cx ∧ cx < w) (gy : 0 ≤ cy ∧ cy < h) (r9v : -2147483648 ≤ v ∧ v < 2147483648) (gq : ¬ (0 ≤ v ∧ v ≤ 3)) : vx_Met l yX5_setCell wsX5_setCell ({ frames := 6, cells := 1, slots := 6, locals := 90 }) (zPx (dC, dI) (zT cI cZ cL cT cJ) sz [.ref sl, .int (zI L), .int (zI cx), .int (zI cy), .int (zI v)] [(sl, .inr (5, [.ref sh, .int (zI lc), .ref ru, .ref tr, .ref se])), zQ cL sh 6 sf, (lv, .inr (1, [.int (zI w), .int (zI h), .ref ka, .ref ta, .int (zI sx), .int (zI sy), .int (zI fx), .int (zI fy), .int (zI lf), .int (zI un)])), zA cI ka 96 K]) (va_Qi (S := Unit) (fun _ _ => False) (fun _ _ => True) (va_A [(sl, .inr (5, [.ref sh, .int (zI lc), .ref ru, .ref tr, .ref se])), zQ cL sh 6 sf, (lv, .inr (1, [.int (zI w), .int (zI h), .ref ka, .ref ta, .int (zI sx), .int (zI sy), .int (zI fx), .int (zI fy), .int (zI lf), .int (zI un)])), zA cI ka 96 K] sz)) (vx_X (S := Unit) (fun _ => True) (zBX (dC, dI) (zT cI cZ cL cT cJ) (va_A [(sl, .inr (5, [.ref sh, .int (zI lc), .ref ru, .ref tr, .ref se])), zQ cL sh 6 sf, (lv, .inr (1, [.int (zI w), .int (zI h), .ref ka, .ref ta, .int (zI sx), .int (zI sy), .int (zI fx), .int (zI fy), .int (zI lf), .int (zI un)])), zA cI ka 96 K] sz) "java/lang/IllegalArgumentException" [(sl, .inr (5, [.ref sh, .int (zI lc), .ref ru, .ref tr, .ref se])), zQ cL sh 6 sf, (lv, .inr (1, [.int (zI w), .int (zI h), .ref ka, .ref ta, .int (zI sx), .int (zI sy), .int (zI fx), .int (zI fy), .int (zI lf), .int (zI un)])), zA cI ka 96 K]) (va_A [(sl, .inr (5, [.ref sh, .int (zI lc), .ref ru, .ref tr, .ref se])), zQ cL sh 6 sf, (lv, .inr (1, [.int (zI w), .int (zI h), .ref ka, .ref ta, .int (zI sx), .int (zI sy), .int (zI fx), .int (zI fy), .int (zI lf), .int (zI un)])), zA cI ka 96 K] sz)) 1 6 (va_A [(sl, .inr (5, [.ref sh, .int (zI lc), .ref ru, .ref tr, .ref se])), zQ cL sh 6 sf, (lv, .inr (1, [.int (zI w), .int (zI h), .ref ka, .ref ta, .int (zI sx), .int (zI sy), .int (zI fx), .int (zI fy), .int (zI lf), .int (zI un)])), zA cI ka 96 K] sz) := by
  refine vx_ofW (cc := cX5_setCell) (maxL := 7) (ret := (some .int)) (by decide) rfl ?_
  intro p e s m args below meth c s₁ B hml hnt hv
  obtain ⟨rfl, hsz, hP, hK, hD0, hEx⟩ := hv
  have hx := B.exec
  have hb := B.bytes
  have hr := B.returns
  have hts := atoms_spec (ws := wsX5_setCell) B.pre
  have hown : s.vm.findClass RX5 = some m.cls := findClass_of_methodNamed B.named
  have hlocks := B.notSynchronized
  subst hsz
  have hD := hD0.self (sz := s.heap.size)
  generalize hAe : va_A [(sl, .inr (5, [.ref sh, .int (zI lc), .ref ru, .ref tr, .ref se])), zQ cL sh 6 sf, (lv, .inr (1, [.int (zI w), .int (zI h), .ref ka, .ref ta, .int (zI sx), .int (zI sy), .int (zI fx), .int (zI fy), .int (zI lf), .int (zI un)])), zA cI ka 96 K] s.heap.size = A at hD hEx ⊢
  have hA : ∀ q : Nat, s.heap.size ≤ q → A q := fun q h => by rw [← hAe]; exact Or.inr h
  clear hAe hD0
  have hS : va_S A s.heap s.heap [] := va_S.rf
  have hP : va_P (dC, dI) vwCl [(sl, .inr (5, [.ref sh, .int (zI lc), .ref ru, .ref tr, .ref se])), zQ cL sh 6 sf, (lv, .inr (1, [.int (zI w), .int (zI h), .ref ka, .ref ta, .int (zI sx), .int (zI sy), .int (zI fx), .int (zI fy), .int (zI lf), .int (zI un)])), zA cI ka 96 K] s.heap := hP
  have hl := lv_entry ([.ref sl, .int (zI L), .int (zI cx), .int (zI cy), .int (zI v)]) (n := 7) (Nat.le_of_ble_eq_true rfl)
  rw [lg_entry_eq]
  generalize (lg_sl ([.ref sl, .int (zI L), .int (zI cx), .int (zI cy), .int (zI v)]) ++ List.replicate (7 - (lg_sl ([.ref sl, .int (zI L), .int (zI cx), .int (zI cy), .int (zI v)])).length) Slot.unset).toArray = ls at hl ⊢
  have hl : lv_has ls 7 [(0, .ref sl), (1, .int (zI L)), (2, .int (zI cx)), (3, .int (zI cy)), (4, .int (zI v))] := hl
  refine lv_aload_n hx hb dX5_setCell_0 rfl (lv_at hl 0 rfl) ?_
  refine lv_iload_n hx hb dX5_setCell_1 rfl (lv_at hl 1 rfl) ?_
  refine lv_iload_n hx hb dX5_setCell_2 rfl (lv_at hl 2 rfl) ?_
  refine lv_iload_n hx hb dX5_setCell_3 rfl (lv_at hl 3 rfl) ?_
  have hPc := hP.sub (ws' := [(sl, .inr (5, [.ref sh, .int (zI lc), .ref ru, .ref tr, .ref se])), zQ cL sh 6 sf, (lv, .inr (1, [.int (zI w), .int (zI h), .ref ka, .ref ta, .int (zI sx), .int (zI sy), .int (zI fx), .int (zI fy), .int (zI lf), .int (zI un)])), zA cI ka 96 K]) [0, 1, 2, 3] rfl
  have hDc := hD.sub (ws' := [(sl, .inr (5, [.ref sh, .int (zI lc), .ref ru, .ref tr, .ref se])), zQ cL sh 6 sf, (lv, .inr (1, [.int (zI w), .int (zI h), .ref ka, .ref ta, .int (zI sx), .int (zI sy), .int (zI fx), .int (zI fy), .int (zI lf), .int (zI un)])), zA cI ka 96 K]) [0, 1, 2, 3] (by decide) rfl
  have hFc := va_free (wc := [(sl, .inr (5, [.ref sh, .int (zI lc), .ref ru, .ref tr, .ref se])), zQ cL sh 6 sf, (lv, .inr (1, [.int (zI w), .int (zI h), .ref ka, .ref ta, .int (zI sx), .int (zI sy), .int (zI fx), .int (zI fy), .int (zI lf), .int (zI un)])), zA cI ka 96 K]) hD hS hA [0, 1, 2, 3] rfl
  refine va_callq (va_runV (As := [.int (zI L), .int (zI cx), .int (zI cy)]) (rest := []) ⟨hx, hb, hml, hown, hts⟩ (c_X5_levelWithCell l dC dI cI cZ cL cT cJ s.heap.size sl sh lc ru tr se sf L k lv w h ka ta sx sy fx fy lf un K cx cy (by first | assumption | omega) (by first | assumption | omega) (by first | assumption | omega) (by first | assumption | omega) (by first | assumption | omega) (by first | assumption | omega) (by first | assumption | omega)) (cwV 3 hts gX5_setCell_X5_levelWithCell rfl rfl rfl (by decide +kernel) ⟨Nat.le_of_ble_eq_true rfl, Nat.le_of_ble_eq_true rfl⟩) ⟨zP_blind, va_recv hK hPc (ci := 5) (q0 := 0) rfl rfl, zP_pre hPc hDc hK⟩ rfl rfl hl.1 rfl (lv_room (Nat.le_of_ble_eq_true rfl)) dX5_setCell_4 ⟨Nat.le_of_ble_eq_true rfl, Nat.le_of_ble_eq_true rfl⟩) hS (fun q _ h => hFc q h) hFc (fun r_1 u_1 t H1 locs ht hvm hw hB hz1 hk1 hS => ?_)
  obtain ⟨hP1, hK1, hD1⟩ := hB
  rw [ht] at hP1
  have hP1 : va_P (dC, dI) vwCl [(sl, .inr (5, [.ref sh, .int (zI lc), .ref ru, .ref tr, .ref se])), zQ cL sh 6 sf, (lv, .inr (1, [.int (zI w), .int (zI h), .ref ka, .ref ta, .int (zI sx), .int (zI sy), .int (zI fx), .int (zI fy), .int (zI lf), .int (zI un)])), zA cI ka 96 K] H1 := hP1
  obtain ⟨hP, hD⟩ := va_join (wr := []) (w1 := [(sl, .inr (5, [.ref sh, .int (zI lc), .ref ru, .ref tr, .ref se])), zQ cL sh 6 sf, (lv, .inr (1, [.int (zI w), .int (zI h), .ref ka, .ref ta, .int (zI sx), .int (zI sy), .int (zI fx), .int (zI fy), .int (zI lf), .int (zI un)])), zA cI ka 96 K]) hP hD [0, 1, 2, 3] [] rfl rfl (by decide) (by decide) hk1 hFc hP1 hD1
  clear hP1 hD1 hk1 hFc hPc hDc hz1
  generalize H1 = H at hP hS ⊢
  have hP : va_P (dC, dI) vwCl [(sl, .inr (5, [.ref sh, .int (zI lc), .ref ru, .ref tr, .ref se])), zQ cL sh 6 sf, (lv, .inr (1, [.int (zI w), .int (zI h), .ref ka, .ref ta, .int (zI sx), .int (zI sy), .int (zI fx), .int (zI fy), .int (zI lf), .int (zI un)])), zA cI ka 96 K] H := hP.sub [0, 1, 2, 3] rfl
  have hD : va_D A [(sl, .inr (5, [.ref sh, .int (zI lc), .ref ru, .ref tr, .ref se])), zQ cL sh 6 sf, (lv, .inr (1, [.int (zI w), .int (zI h), .ref ka, .ref ta, .int (zI sx), .int (zI sy), .int (zI fx), .int (zI fy), .int (zI lf), .int (zI un)])), zA cI ka 96 K] := hD.sub [0, 1, 2, 3] (by decide) rfl
  clear hK1 hvm
  obtain ⟨rfl, po_2⟩ := hw
  refine W.eq (g2 := F0 m 7 ls [.ref lv]) rfl ?_
  refine lv_astore (lv' := [(5, .ref lv), (0, .ref sl), (1, .int (zI L)), (2, .int (zI cx)), (3, .int (zI cy)), (4, .int (zI v))]) hx hb dX5_setCell_7 hl (by decide) rfl (fun ls hl => ?_)
  refine lv_iload hx hb dX5_setCell_9 (lv_at hl 5 rfl) ?_
  refine lz_if_lt (tgt := 20) hx hb dX5_setCell_11 (by decide) (by omega) (fun c_3 => ?_) (fun c_3 => ?_)
  ·
    obtain ⟨sa, hsa⟩ := zEx_s59 hEx
    exact vx_throwS (A := A) hx hb hfl (own := RX5) (cls := "java/lang/IllegalArgumentException") (text := "no such kind") (names := ["java/lang/RuntimeException", "java/lang/Exception"]) (ik := 40) (is := 59) (ic := 44) hown (by decide) (by decide) (hts (.classLink RX5 40 "java/lang/IllegalArgumentException") (by decide +kernel)) (hts (.initialized "java/lang/IllegalArgumentException") (by decide +kernel)) hsa (vx_hat (fun w h => hts w (List.mem_cons_of_mem _ (List.mem_append_left _ (List.mem_append_left _ (List.mem_append_right _ h))))) zg_44 (vx_c (va_Nw.use rfl hEx.2.2.1) (vx_c (va_Nw.use rfl hEx.2.2.2.2.2.1) (vx_c (va_Nw.use rfl hEx.2.2.2.2.2.2.1) (vx_c (va_Nw.use rfl hEx.2.2.2.2.2.2.2.1) vx_n))))) zo_44_40 hEx.1 hEx.2.1 hS (by rw [hml]; exact hl.1) dX5_setCell_20 dX5_setCell_23 dX5_setCell_24 dX5_setCell_26 dX5_setCell_29 (fun x h => (hnt x h).elim) (Nat.le_of_ble_eq_true rfl) (Nat.le_of_ble_eq_true rfl) (Nat.le_of_ble_eq_true rfl) (Nat.le_of_ble_eq_true rfl) hlocks (fun t hvm hz hq => ⟨(), trivial, ⟨rfl, va_P.kept hP (fun k q hk => hq q.1 (hP k q hk).lt), va_K.moved hvm hK, hD⟩, Nat.le_trans hS.1 hz, fun q h1 h2 => (hq q (Nat.lt_of_lt_of_le h1 hS.1)).trans (hS.2.1 q h1 h2)⟩) hS.2.2 (Nat.le_of_ble_eq_true rfl) (Nat.le_of_ble_eq_true rfl)
  ·
    refine lv_iload hx hb dX5_setCell_14 (lv_at hl 5 rfl) ?_
    refine lv_iconst (v := zI 3) hx hb dX5_setCell_16 (rfl) ?_
    refine lz_icmp_le (tgt := 30) hx hb dX5_setCell_17 (by decide) (by omega) ⟨by decide, by decide⟩ (fun c_4 => ?_) (fun c_4 => ?_)
    · exfalso; omega
    ·
      obtain ⟨sa, hsa⟩ := zEx_s59 hEx
      exact vx_throwS (A := A) hx hb hfl (own := RX5) (cls := "java/lang/IllegalArgumentException") (text := "no such kind") (names := ["java/lang/RuntimeException", "java/lang/Exception"]) (ik := 40) (is := 59) (ic := 44) hown (by decide) (by decide) (hts (.classLink RX5 40 "java/lang/IllegalArgumentException") (by decide +kernel)) (hts (.initialized "java/lang/IllegalArgumentException") (by decide +kernel)) hsa (vx_hat (fun w h => hts w (List.mem_cons_of_mem _ (List.mem_append_left _ (List.mem_append_left _ (List.mem_append_right _ h))))) zg_44 (vx_c (va_Nw.use rfl hEx.2.2.1) (vx_c (va_Nw.use rfl hEx.2.2.2.2.2.1) (vx_c (va_Nw.use rfl hEx.2.2.2.2.2.2.1) (vx_c (va_Nw.use rfl hEx.2.2.2.2.2.2.2.1) vx_n))))) zo_44_40 hEx.1 hEx.2.1 hS (by rw [hml]; exact hl.1) dX5_setCell_20 dX5_setCell_23 dX5_setCell_24 dX5_setCell_26 dX5_setCell_29 (fun x h => (hnt x h).elim) (Nat.le_of_ble_eq_true rfl) (Nat.le_of_ble_eq_true rfl) (Nat.le_of_ble_eq_true rfl) (Nat.le_of_ble_eq_true rfl) hlocks (fun t hvm hz hq => ⟨(), trivial, ⟨rfl, va_P.kept hP (fun k q hk => hq q.1 (hP k q hk).lt), va_K.moved hvm hK, hD⟩, Nat.le_trans hS.1 hz, fun q h1 h2 => (hq q (Nat.lt_of_lt_of_le h1 hS.1)).trans (hS.2.1 q h1 h2)⟩) hS.2.2 (Nat.le_of_ble_eq_true rfl) (Nat.le_of_ble_eq_true rfl)
set_option maxHeartbeats 4000000 in
set_option maxRecDepth 100000 in
theorem x_X5_setCell_xd (l : Launch) (hfl : l.stackTraces = false) (dC : Nat → ClassId) (dI : Nat → Nat → Nat) (cI cZ cL cT cJ : ClassId) (sz : Nat) (sl : Nat) (sh : Nat) (lc : Int) (ru : Nat) (tr : Nat) (se : Nat) (sf : Nat → Option Nat) (L : Int) (k : Nat) (lv : Nat) (w : Int) (h : Int) (ka : Nat) (ta : Nat) (sx : Int) (sy : Int) (fx : Int) (fy : Int) (lf : Int) (un : Int) (K : Int → Int) (cx : Int) (cy : Int) (v : Int) (gk : L = (k : Int) ∧ k < 6) (gf : sf k = some lv) (gw : 0 < w ∧ w ≤ 12) (gh : 0 < h ∧ h ≤ 8) (gK : Kin K) (gx : 0 ≤ cx ∧ cx < w) (gy : 0 ≤ cy ∧ cy < h) (gsx : 0 ≤ sx ∧ sx < w) (gsy : 0 ≤ sy ∧ sy < h) (gfx : 0 ≤ fx ∧ fx < w) (gfy : 0 ≤ fy ∧ fy < h) (gq : v = 1) (gm : ((sx = cx ∧ sy = cy) ∨ (fx = cx ∧ fy = cy))) : vx_Met l yX5_setCell wsX5_setCell ({ frames := 6, cells := 1, slots := 6, locals := 90 }) (zPx (dC, dI) (zT cI cZ cL cT cJ) sz [.ref sl, .int (zI L), .int (zI cx), .int (zI cy), .int (zI v)] [(sl, .inr (5, [.ref sh, .int (zI lc), .ref ru, .ref tr, .ref se])), zQ cL sh 6 sf, (lv, .inr (1, [.int (zI w), .int (zI h), .ref ka, .ref ta, .int (zI sx), .int (zI sy), .int (zI fx), .int (zI fy), .int (zI lf), .int (zI un)])), zA cI ka 96 K]) (va_Qi (S := Unit) (fun _ _ => False) (fun _ _ => True) (va_A [(sl, .inr (5, [.ref sh, .int (zI lc), .ref ru, .ref tr, .ref se])), zQ cL sh 6 sf, (lv, .inr (1, [.int (zI w), .int (zI h), .ref ka, .ref ta, .int (zI sx), .int (zI sy), .int (zI fx), .int (zI fy), .int (zI lf), .int (zI un)])), zA cI ka 96 K] sz)) (vx_X (S := Unit) (fun _ => True) (zBX (dC, dI) (zT cI cZ cL cT cJ) (va_A [(sl, .inr (5, [.ref sh, .int (zI lc), .ref ru, .ref tr, .ref se])), zQ cL sh 6 sf, (lv, .inr (1, [.int (zI w), .int (zI h), .ref ka, .ref ta, .int (zI sx), .int (zI sy), .int (zI fx), .int (zI fy), .int (zI lf), .int (zI un)])), zA cI ka 96 K] sz) "java/lang/IllegalStateException" [(sl, .inr (5, [.ref sh, .int (zI lc), .ref ru, .ref tr, .ref se])), zQ cL sh 6 sf, (lv, .inr (1, [.int (zI w), .int (zI h), .ref ka, .ref ta, .int (zI sx), .int (zI sy), .int (zI fx), .int (zI fy), .int (zI lf), .int (zI un)])), zA cI ka 96 K]) (va_A [(sl, .inr (5, [.ref sh, .int (zI lc), .ref ru, .ref tr, .ref se])), zQ cL sh 6 sf, (lv, .inr (1, [.int (zI w), .int (zI h), .ref ka, .ref ta, .int (zI sx), .int (zI sy), .int (zI fx), .int (zI fy), .int (zI lf), .int (zI un)])), zA cI ka 96 K] sz)) 1 6 (va_A [(sl, .inr (5, [.ref sh, .int (zI lc), .ref ru, .ref tr, .ref se])), zQ cL sh 6 sf, (lv, .inr (1, [.int (zI w), .int (zI h), .ref ka, .ref ta, .int (zI sx), .int (zI sy), .int (zI fx), .int (zI fy), .int (zI lf), .int (zI un)])), zA cI ka 96 K] sz) := by
  refine vx_ofW (cc := cX5_setCell) (maxL := 7) (ret := (some .int)) (by decide) rfl ?_
  intro p e s m args below meth c s₁ B hml hnt hv
  obtain ⟨rfl, hsz, hP, hK, hD0, hEx⟩ := hv
  have hx := B.exec
  have hb := B.bytes
  have hr := B.returns
  have hts := atoms_spec (ws := wsX5_setCell) B.pre
  have hown : s.vm.findClass RX5 = some m.cls := findClass_of_methodNamed B.named
  have hlocks := B.notSynchronized
  subst hsz
  have hD := hD0.self (sz := s.heap.size)
  generalize hAe : va_A [(sl, .inr (5, [.ref sh, .int (zI lc), .ref ru, .ref tr, .ref se])), zQ cL sh 6 sf, (lv, .inr (1, [.int (zI w), .int (zI h), .ref ka, .ref ta, .int (zI sx), .int (zI sy), .int (zI fx), .int (zI fy), .int (zI lf), .int (zI un)])), zA cI ka 96 K] s.heap.size = A at hD hEx ⊢
  have hA : ∀ q : Nat, s.heap.size ≤ q → A q := fun q h => by rw [← hAe]; exact Or.inr h
  clear hAe hD0
  have hS : va_S A s.heap s.heap [] := va_S.rf
  have hP : va_P (dC, dI) vwCl [(sl, .inr (5, [.ref sh, .int (zI lc), .ref ru, .ref tr, .ref se])), zQ cL sh 6 sf, (lv, .inr (1, [.int (zI w), .int (zI h), .ref ka, .ref ta, .int (zI sx), .int (zI sy), .int (zI fx), .int (zI fy), .int (zI lf), .int (zI un)])), zA cI ka 96 K] s.heap := hP
  have hl := lv_entry ([.ref sl, .int (zI L), .int (zI cx), .int (zI cy), .int (zI v)]) (n := 7) (Nat.le_of_ble_eq_true rfl)
  rw [lg_entry_eq]
  generalize (lg_sl ([.ref sl, .int (zI L), .int (zI cx), .int (zI cy), .int (zI v)]) ++ List.replicate (7 - (lg_sl ([.ref sl, .int (zI L), .int (zI cx), .int (zI cy), .int (zI v)])).length) Slot.unset).toArray = ls at hl ⊢
  have hl : lv_has ls 7 [(0, .ref sl), (1, .int (zI L)), (2, .int (zI cx)), (3, .int (zI cy)), (4, .int (zI v))] := hl
  refine lv_aload_n hx hb dX5_setCell_0 rfl (lv_at hl 0 rfl) ?_
  refine lv_iload_n hx hb dX5_setCell_1 rfl (lv_at hl 1 rfl) ?_
  refine lv_iload_n hx hb dX5_setCell_2 rfl (lv_at hl 2 rfl) ?_
  refine lv_iload_n hx hb dX5_setCell_3 rfl (lv_at hl 3 rfl) ?_
  have hPc := hP.sub (ws' := [(sl, .inr (5, [.ref sh, .int (zI lc), .ref ru, .ref tr, .ref se])), zQ cL sh 6 sf, (lv, .inr (1, [.int (zI w), .int (zI h), .ref ka, .ref ta, .int (zI sx), .int (zI sy), .int (zI fx), .int (zI fy), .int (zI lf), .int (zI un)])), zA cI ka 96 K]) [0, 1, 2, 3] rfl
  have hDc := hD.sub (ws' := [(sl, .inr (5, [.ref sh, .int (zI lc), .ref ru, .ref tr, .ref se])), zQ cL sh 6 sf, (lv, .inr (1, [.int (zI w), .int (zI h), .ref ka, .ref ta, .int (zI sx), .int (zI sy), .int (zI fx), .int (zI fy), .int (zI lf), .int (zI un)])), zA cI ka 96 K]) [0, 1, 2, 3] (by decide) rfl
  have hFc := va_free (wc := [(sl, .inr (5, [.ref sh, .int (zI lc), .ref ru, .ref tr, .ref se])), zQ cL sh 6 sf, (lv, .inr (1, [.int (zI w), .int (zI h), .ref ka, .ref ta, .int (zI sx), .int (zI sy), .int (zI fx), .int (zI fy), .int (zI lf), .int (zI un)])), zA cI ka 96 K]) hD hS hA [0, 1, 2, 3] rfl
  refine va_callq (va_runV (As := [.int (zI L), .int (zI cx), .int (zI cy)]) (rest := []) ⟨hx, hb, hml, hown, hts⟩ (c_X5_levelWithCell l dC dI cI cZ cL cT cJ s.heap.size sl sh lc ru tr se sf L k lv w h ka ta sx sy fx fy lf un K cx cy (by first | assumption | omega) (by first | assumption | omega) (by first | assumption | omega) (by first | assumption | omega) (by first | assumption | omega) (by first | assumption | omega) (by first | assumption | omega)) (cwV 3 hts gX5_setCell_X5_levelWithCell rfl rfl rfl (by decide +kernel) ⟨Nat.le_of_ble_eq_true rfl, Nat.le_of_ble_eq_true rfl⟩) ⟨zP_blind, va_recv hK hPc (ci := 5) (q0 := 0) rfl rfl, zP_pre hPc hDc hK⟩ rfl rfl hl.1 rfl (lv_room (Nat.le_of_ble_eq_true rfl)) dX5_setCell_4 ⟨Nat.le_of_ble_eq_true rfl, Nat.le_of_ble_eq_true rfl⟩) hS (fun q _ h => hFc q h) hFc (fun r_1 u_1 t H1 locs ht hvm hw hB hz1 hk1 hS => ?_)
  obtain ⟨hP1, hK1, hD1⟩ := hB
  rw [ht] at hP1
  have hP1 : va_P (dC, dI) vwCl [(sl, .inr (5, [.ref sh, .int (zI lc), .ref ru, .ref tr, .ref se])), zQ cL sh 6 sf, (lv, .inr (1, [.int (zI w), .int (zI h), .ref ka, .ref ta, .int (zI sx), .int (zI sy), .int (zI fx), .int (zI fy), .int (zI lf), .int (zI un)])), zA cI ka 96 K] H1 := hP1
  obtain ⟨hP, hD⟩ := va_join (wr := []) (w1 := [(sl, .inr (5, [.ref sh, .int (zI lc), .ref ru, .ref tr, .ref se])), zQ cL sh 6 sf, (lv, .inr (1, [.int (zI w), .int (zI h), .ref ka, .ref ta, .int (zI sx), .int (zI sy), .int (zI fx), .int (zI fy), .int (zI lf), .int (zI un)])), zA cI ka 96 K]) hP hD [0, 1, 2, 3] [] rfl rfl (by decide) (by decide) hk1 hFc hP1 hD1
  clear hP1 hD1 hk1 hFc hPc hDc hz1
  generalize H1 = H at hP hS ⊢
  have hP : va_P (dC, dI) vwCl [(sl, .inr (5, [.ref sh, .int (zI lc), .ref ru, .ref tr, .ref se])), zQ cL sh 6 sf, (lv, .inr (1, [.int (zI w), .int (zI h), .ref ka, .ref ta, .int (zI sx), .int (zI sy), .int (zI fx), .int (zI fy), .int (zI lf), .int (zI un)])), zA cI ka 96 K] H := hP.sub [0, 1, 2, 3] rfl
  have hD : va_D A [(sl, .inr (5, [.ref sh, .int (zI lc), .ref ru, .ref tr, .ref se])), zQ cL sh 6 sf, (lv, .inr (1, [.int (zI w), .int (zI h), .ref ka, .ref ta, .int (zI sx), .int (zI sy), .int (zI fx), .int (zI fy), .int (zI lf), .int (zI un)])), zA cI ka 96 K] := hD.sub [0, 1, 2, 3] (by decide) rfl
  clear hK1 hvm
  obtain ⟨rfl, po_2⟩ := hw
  refine W.eq (g2 := F0 m 7 ls [.ref lv]) rfl ?_
  refine lv_astore (lv' := [(5, .ref lv), (0, .ref sl), (1, .int (zI L)), (2, .int (zI cx)), (3, .int (zI cy)), (4, .int (zI v))]) hx hb dX5_setCell_7 hl (by decide) rfl (fun ls hl => ?_)
  refine lv_iload hx hb dX5_setCell_9 (lv_at hl 5 rfl) ?_
  refine lz_if_lt (tgt := 20) hx hb dX5_setCell_11 (by decide) (by omega) (fun c_3 => ?_) (fun c_3 => ?_)
  · exfalso; omega
  ·
    refine lv_iload hx hb dX5_setCell_14 (lv_at hl 5 rfl) ?_
    refine lv_iconst (v := zI 3) hx hb dX5_setCell_16 (rfl) ?_
    refine lz_icmp_le (tgt := 30) hx hb dX5_setCell_17 (by decide) (by omega) ⟨by decide, by decide⟩ (fun c_4 => ?_) (fun c_4 => ?_)
    ·
      refine lv_iload hx hb dX5_setCell_30 (lv_at hl 5 rfl) ?_
      refine lv_iconst (v := zI 1) hx hb dX5_setCell_32 (rfl) ?_
      refine lz_icmp_ne (tgt := 66) hx hb dX5_setCell_33 (by decide) (by omega) ⟨by decide, by decide⟩ (fun c_5 => ?_) (fun c_5 => ?_)
      · exfalso; omega
      ·
        refine lv_aload hx hb dX5_setCell_36 (lv_at hl 0 rfl) ?_
        refine lv_iload_n hx hb dX5_setCell_38 rfl (lv_at hl 3 rfl) ?_
        refine lv_iload_n hx hb dX5_setCell_39 rfl (lv_at hl 4 rfl) ?_
        have hPc := hP.sub (ws' := [(lv, .inr (1, [.int (zI w), .int (zI h), .ref ka, .ref ta, .int (zI sx), .int (zI sy), .int (zI fx), .int (zI fy), .int (zI lf), .int (zI un)]))]) [2] rfl
        have hDc := hD.sub (ws' := [(lv, .inr (1, [.int (zI w), .int (zI h), .ref ka, .ref ta, .int (zI sx), .int (zI sy), .int (zI fx), .int (zI fy), .int (zI lf), .int (zI un)]))]) [2] (by decide) rfl
        have hFc := va_free (wc := [(lv, .inr (1, [.int (zI w), .int (zI h), .ref ka, .ref ta, .int (zI sx), .int (zI sy), .int (zI fx), .int (zI fy), .int (zI lf), .int (zI un)]))]) hD hS hA [2] rfl
        refine va_calli (va_runV (As := [.int (zI cx), .int (zI cy)]) (rest := []) ⟨hx, hb, hml, hown, hts⟩ (c_X1_startsAt l dC dI cI cZ cL cT cJ H.size lv w h ka ta sx sy fx fy lf un cx cy (by first | assumption | omega) (by first | assumption | omega) (by first | assumption | omega) (by first | assumption | omega)) (cwV 2 hts gX5_setCell_X1_startsAt rfl rfl rfl (by decide +kernel) ⟨Nat.le_of_ble_eq_true rfl, Nat.le_of_ble_eq_true rfl⟩) ⟨zP_blind, va_recv hK hPc (ci := 1) (q0 := 0) rfl rfl, zP_pre hPc hDc hK⟩ rfl rfl hl.1 rfl (lv_room (Nat.le_of_ble_eq_true rfl)) dX5_setCell_40 ⟨Nat.le_of_ble_eq_true rfl, Nat.le_of_ble_eq_true rfl⟩) hS (fun q _ h => hFc q h) hFc (fun r_6 u_6 t H1 locs ht hvm hw hB hz1 hk1 hS => ?_)
        obtain ⟨r_7, rfl⟩ : ∃ z, z = u_6 := ⟨_, rfl⟩
        obtain ⟨hP1, hK1, hD1⟩ := hB
        rw [ht] at hP1
        have hP1 : va_P (dC, dI) vwCl [(lv, .inr (1, [.int (zI w), .int (zI h), .ref ka, .ref ta, .int (zI sx), .int (zI sy), .int (zI fx), .int (zI fy), .int (zI lf), .int (zI un)]))] H1 := hP1
        obtain ⟨hP, hD⟩ := va_join (wr := [(sl, .inr (5, [.ref sh, .int (zI lc), .ref ru, .ref tr, .ref se])), zQ cL sh 6 sf, zA cI ka 96 K]) (w1 := [(lv, .inr (1, [.int (zI w), .int (zI h), .ref ka, .ref ta, .int (zI sx), .int (zI sy), .int (zI fx), .int (zI fy), .int (zI lf), .int (zI un)]))]) hP hD [2] [0, 1, 3] rfl rfl (by decide) (by decide) hk1 hFc hP1 hD1
        clear hP1 hD1 hk1 hFc hPc hDc hz1
        generalize H1 = H at hP hS ⊢
        have hP : va_P (dC, dI) vwCl [(sl, .inr (5, [.ref sh, .int (zI lc), .ref ru, .ref tr, .ref se])), zQ cL sh 6 sf, (lv, .inr (1, [.int (zI w), .int (zI h), .ref ka, .ref ta, .int (zI sx), .int (zI sy), .int (zI fx), .int (zI fy), .int (zI lf), .int (zI un)])), zA cI ka 96 K] H := hP.sub [0, 1, 3, 2] rfl
        have hD : va_D A [(sl, .inr (5, [.ref sh, .int (zI lc), .ref ru, .ref tr, .ref se])), zQ cL sh 6 sf, (lv, .inr (1, [.int (zI w), .int (zI h), .ref ka, .ref ta, .int (zI sx), .int (zI sy), .int (zI fx), .int (zI fy), .int (zI lf), .int (zI un)])), zA cI ka 96 K] := hD.sub [0, 1, 3, 2] (by decide) rfl
        clear hK1 hvm
        obtain ⟨rfl, po_8⟩ := hw
        have po_8 : r_7 = fgO sx sy cx cy ∧ 0 ≤ r_7 ∧ r_7 ≤ 1 := po_8
        refine W.eq (g2 := F0 m 43 ls [.int (zI r_7)]) rfl ?_
        refine lz_if_ne (tgt := 56) hx hb dX5_setCell_43 (by decide) (by omega) (fun c_9 => ?_) (fun c_9 => ?_)
        ·
          obtain ⟨sa, hsa⟩ := zEx_s68 hEx
          exact vx_throwS (A := A) hx hb hfl (own := RX5) (cls := "java/lang/IllegalStateException") (text := "the start or the flag is there") (names := ["java/lang/RuntimeException", "java/lang/Exception"]) (ik := 47) (is := 68) (ic := 51) hown (by decide) (by decide) (hts (.classLink RX5 47 "java/lang/IllegalStateException") (by decide +kernel)) (hts (.initialized "java/lang/IllegalStateException") (by decide +kernel)) hsa (vx_hat (fun w h => hts w (List.mem_cons_of_mem _ (List.mem_append_left _ (List.mem_append_right _ h)))) zg_51 (vx_c (va_Nw.use rfl hEx.2.2.2.1) (vx_c (va_Nw.use rfl hEx.2.2.2.2.2.1) (vx_c (va_Nw.use rfl hEx.2.2.2.2.2.2.1) (vx_c (va_Nw.use rfl hEx.2.2.2.2.2.2.2.1) vx_n))))) zo_51_47 hEx.1 hEx.2.1 hS (by rw [hml]; exact hl.1) dX5_setCell_56 dX5_setCell_59 dX5_setCell_60 dX5_setCell_62 dX5_setCell_65 (fun x h => (hnt x h).elim) (Nat.le_of_ble_eq_true rfl) (Nat.le_of_ble_eq_true rfl) (Nat.le_of_ble_eq_true rfl) (Nat.le_of_ble_eq_true rfl) hlocks (fun t hvm hz hq => ⟨(), trivial, ⟨rfl, va_P.kept hP (fun k q hk => hq q.1 (hP k q hk).lt), va_K.moved hvm hK, hD⟩, Nat.le_trans hS.1 hz, fun q h1 h2 => (hq q (Nat.lt_of_lt_of_le h1 hS.1)).trans (hS.2.1 q h1 h2)⟩) hS.2.2 (Nat.le_of_ble_eq_true rfl) (Nat.le_of_ble_eq_true rfl)
        ·
          refine lv_aload hx hb dX5_setCell_46 (lv_at hl 0 rfl) ?_
          refine lv_iload_n hx hb dX5_setCell_48 rfl (lv_at hl 3 rfl) ?_
          refine lv_iload_n hx hb dX5_setCell_49 rfl (lv_at hl 4 rfl) ?_
          have hPc := hP.sub (ws' := [(lv, .inr (1, [.int (zI w), .int (zI h), .ref ka, .ref ta, .int (zI sx), .int (zI sy), .int (zI fx), .int (zI fy), .int (zI lf), .int (zI un)]))]) [2] rfl
          have hDc := hD.sub (ws' := [(lv, .inr (1, [.int (zI w), .int (zI h), .ref ka, .ref ta, .int (zI sx), .int (zI sy), .int (zI fx), .int (zI fy), .int (zI lf), .int (zI un)]))]) [2] (by decide) rfl
          have hFc := va_free (wc := [(lv, .inr (1, [.int (zI w), .int (zI h), .ref ka, .ref ta, .int (zI sx), .int (zI sy), .int (zI fx), .int (zI fy), .int (zI lf), .int (zI un)]))]) hD hS hA [2] rfl
          refine va_calli (va_runV (As := [.int (zI cx), .int (zI cy)]) (rest := []) ⟨hx, hb, hml, hown, hts⟩ (c_X1_flagAt l dC dI cI cZ cL cT cJ H.size lv w h ka ta sx sy fx fy lf un cx cy (by first | assumption | omega) (by first | assumption | omega) (by first | assumption | omega) (by first | assumption | omega)) (cwV 2 hts gX5_setCell_X1_flagAt rfl rfl rfl (by decide +kernel) ⟨Nat.le_of_ble_eq_true rfl, Nat.le_of_ble_eq_true rfl⟩) ⟨zP_blind, va_recv hK hPc (ci := 1) (q0 := 0) rfl rfl, zP_pre hPc hDc hK⟩ rfl rfl hl.1 rfl (lv_room (Nat.le_of_ble_eq_true rfl)) dX5_setCell_50 ⟨Nat.le_of_ble_eq_true rfl, Nat.le_of_ble_eq_true rfl⟩) hS (fun q _ h => hFc q h) hFc (fun r_10 u_10 t H1 locs ht hvm hw hB hz1 hk1 hS => ?_)
          obtain ⟨r_11, rfl⟩ : ∃ z, z = u_10 := ⟨_, rfl⟩
          obtain ⟨hP1, hK1, hD1⟩ := hB
          rw [ht] at hP1
          have hP1 : va_P (dC, dI) vwCl [(lv, .inr (1, [.int (zI w), .int (zI h), .ref ka, .ref ta, .int (zI sx), .int (zI sy), .int (zI fx), .int (zI fy), .int (zI lf), .int (zI un)]))] H1 := hP1
          obtain ⟨hP, hD⟩ := va_join (wr := [(sl, .inr (5, [.ref sh, .int (zI lc), .ref ru, .ref tr, .ref se])), zQ cL sh 6 sf, zA cI ka 96 K]) (w1 := [(lv, .inr (1, [.int (zI w), .int (zI h), .ref ka, .ref ta, .int (zI sx), .int (zI sy), .int (zI fx), .int (zI fy), .int (zI lf), .int (zI un)]))]) hP hD [2] [0, 1, 3] rfl rfl (by decide) (by decide) hk1 hFc hP1 hD1
          clear hP1 hD1 hk1 hFc hPc hDc hz1
          generalize H1 = H at hP hS ⊢
          have hP : va_P (dC, dI) vwCl [(sl, .inr (5, [.ref sh, .int (zI lc), .ref ru, .ref tr, .ref se])), zQ cL sh 6 sf, (lv, .inr (1, [.int (zI w), .int (zI h), .ref ka, .ref ta, .int (zI sx), .int (zI sy), .int (zI fx), .int (zI fy), .int (zI lf), .int (zI un)])), zA cI ka 96 K] H := hP.sub [0, 1, 3, 2] rfl
          have hD : va_D A [(sl, .inr (5, [.ref sh, .int (zI lc), .ref ru, .ref tr, .ref se])), zQ cL sh 6 sf, (lv, .inr (1, [.int (zI w), .int (zI h), .ref ka, .ref ta, .int (zI sx), .int (zI sy), .int (zI fx), .int (zI fy), .int (zI lf), .int (zI un)])), zA cI ka 96 K] := hD.sub [0, 1, 3, 2] (by decide) rfl
          clear hK1 hvm
          obtain ⟨rfl, po_12⟩ := hw
          have po_12 : r_11 = fgO fx fy cx cy ∧ 0 ≤ r_11 ∧ r_11 ≤ 1 := po_12
          refine W.eq (g2 := F0 m 53 ls [.int (zI r_11)]) rfl ?_
          refine lz_if_eq (tgt := 66) hx hb dX5_setCell_53 (by decide) (by omega) (fun c_13 => ?_) (fun c_13 => ?_)
          · exfalso; have e9 := po_12.1; have e8 := po_8.1; unfold fgO at e9 e8; (repeat' split at e9) <;> (repeat' split at e8) <;> omega
          ·
            obtain ⟨sa, hsa⟩ := zEx_s68 hEx
            exact vx_throwS (A := A) hx hb hfl (own := RX5) (cls := "java/lang/IllegalStateException") (text := "the start or the flag is there") (names := ["java/lang/RuntimeException", "java/lang/Exception"]) (ik := 47) (is := 68) (ic := 51) hown (by decide) (by decide) (hts (.classLink RX5 47 "java/lang/IllegalStateException") (by decide +kernel)) (hts (.initialized "java/lang/IllegalStateException") (by decide +kernel)) hsa (vx_hat (fun w h => hts w (List.mem_cons_of_mem _ (List.mem_append_left _ (List.mem_append_right _ h)))) zg_51 (vx_c (va_Nw.use rfl hEx.2.2.2.1) (vx_c (va_Nw.use rfl hEx.2.2.2.2.2.1) (vx_c (va_Nw.use rfl hEx.2.2.2.2.2.2.1) (vx_c (va_Nw.use rfl hEx.2.2.2.2.2.2.2.1) vx_n))))) zo_51_47 hEx.1 hEx.2.1 hS (by rw [hml]; exact hl.1) dX5_setCell_56 dX5_setCell_59 dX5_setCell_60 dX5_setCell_62 dX5_setCell_65 (fun x h => (hnt x h).elim) (Nat.le_of_ble_eq_true rfl) (Nat.le_of_ble_eq_true rfl) (Nat.le_of_ble_eq_true rfl) (Nat.le_of_ble_eq_true rfl) hlocks (fun t hvm hz hq => ⟨(), trivial, ⟨rfl, va_P.kept hP (fun k q hk => hq q.1 (hP k q hk).lt), va_K.moved hvm hK, hD⟩, Nat.le_trans hS.1 hz, fun q h1 h2 => (hq q (Nat.lt_of_lt_of_le h1 hS.1)).trans (hS.2.1 q h1 h2)⟩) hS.2.2 (Nat.le_of_ble_eq_true rfl) (Nat.le_of_ble_eq_true rfl)
    · exfalso; omega
set_option maxHeartbeats 4000000 in
set_option maxRecDepth 100000 in
theorem x_X5_setStart_xa (l : Launch) (hfl : l.stackTraces = false) (dC : Nat → ClassId) (dI : Nat → Nat → Nat) (cI cZ cL cT cJ : ClassId) (sz : Nat) (sl : Nat) (sh : Nat) (lc : Int) (ru : Nat) (tr : Nat) (se : Nat) (sf : Nat → Option Nat) (L : Int) (cx : Int) (cy : Int) (gr9 : -2147483648 ≤ L ∧ L < 2147483648) (gb : L < 0 ∨ 6 ≤ L ∨ ∃ k : Nat, L = (k : Int) ∧ k < 6 ∧ sf k = none) : vx_Met l yX5_setStart wsX5_setStart ({ frames := 9, cells := 1, slots := 6, locals := 160 }) (zPx (dC, dI) (zT cI cZ cL cT cJ) sz [.ref sl, .int (zI L), .int (zI cx), .int (zI cy)] [(sl, .inr (5, [.ref sh, .int (zI lc), .ref ru, .ref tr, .ref se])), zQ cL sh 6 sf]) (va_Qv (S := Unit) (fun _ => False) (fun _ _ => True) (va_A [(sl, .inr (5, [.ref sh, .int (zI lc), .ref ru, .ref tr, .ref se])), zQ cL sh 6 sf] sz)) (vx_X (S := Unit) (fun _ => True) (zBX (dC, dI) (zT cI cZ cL cT cJ) (va_A [(sl, .inr (5, [.ref sh, .int (zI lc), .ref ru, .ref tr, .ref se])), zQ cL sh 6 sf] sz) "java/lang/IndexOutOfBoundsException" [(sl, .inr (5, [.ref sh, .int (zI lc), .ref ru, .ref tr, .ref se])), zQ cL sh 6 sf]) (va_A [(sl, .inr (5, [.ref sh, .int (zI lc), .ref ru, .ref tr, .ref se])), zQ cL sh 6 sf] sz)) 1 6 (va_A [(sl, .inr (5, [.ref sh, .int (zI lc), .ref ru, .ref tr, .ref se])), zQ cL sh 6 sf] sz) := by
  refine vx_ofW (cc := cX5_setStart) (maxL := 5) (ret := none) (by decide) rfl ?_
  intro p e s m args below meth c s₁ B hml hnt hv
  obtain ⟨rfl, hsz, hP, hK, hD0, hEx⟩ := hv
  have hx := B.exec
  have hb := B.bytes
  have hr := B.returns
  have hts := atoms_spec (ws := wsX5_setStart) B.pre
  have hown : s.vm.findClass RX5 = some m.cls := findClass_of_methodNamed B.named
  have hlocks := B.notSynchronized
  subst hsz
  have hD := hD0.self (sz := s.heap.size)
  generalize hAe : va_A [(sl, .inr (5, [.ref sh, .int (zI lc), .ref ru, .ref tr, .ref se])), zQ cL sh 6 sf] s.heap.size = A at hD hEx ⊢
  have hA : ∀ q : Nat, s.heap.size ≤ q → A q := fun q h => by rw [← hAe]; exact Or.inr h
  clear hAe hD0
  have hS : va_S A s.heap s.heap [] := va_S.rf
  have hP : va_P (dC, dI) vwCl [(sl, .inr (5, [.ref sh, .int (zI lc), .ref ru, .ref tr, .ref se])), zQ cL sh 6 sf] s.heap := hP
  have f_85 := hts (.fieldLink RX5 85 "SpringLevels$Level" "startX" "I") (by decide +kernel)
  have f_88 := hts (.fieldLink RX5 88 "SpringLevels$Level" "startY" "I") (by decide +kernel)
  have i_1 : ∀ w ∈ wsX10, w ∈ wsX5_setStart := by decide +kernel
  have hl := lv_entry ([.ref sl, .int (zI L), .int (zI cx), .int (zI cy)]) (n := 5) (Nat.le_of_ble_eq_true rfl)
  rw [lg_entry_eq]
  generalize (lg_sl ([.ref sl, .int (zI L), .int (zI cx), .int (zI cy)]) ++ List.replicate (5 - (lg_sl ([.ref sl, .int (zI L), .int (zI cx), .int (zI cy)])).length) Slot.unset).toArray = ls at hl ⊢
  have hl : lv_has ls 5 [(0, .ref sl), (1, .int (zI L)), (2, .int (zI cx)), (3, .int (zI cy))] := hl
  refine lv_aload_n hx hb dX5_setStart_0 rfl (lv_at hl 0 rfl) ?_
  refine lv_iload_n hx hb dX5_setStart_1 rfl (lv_at hl 1 rfl) ?_
  refine lv_iload_n hx hb dX5_setStart_2 rfl (lv_at hl 2 rfl) ?_
  refine lv_iload_n hx hb dX5_setStart_3 rfl (lv_at hl 3 rfl) ?_
  have hPc := hP.sub (ws' := [(sl, .inr (5, [.ref sh, .int (zI lc), .ref ru, .ref tr, .ref se])), zQ cL sh 6 sf]) [0, 1] rfl
  have hDc := hD.sub (ws' := [(sl, .inr (5, [.ref sh, .int (zI lc), .ref ru, .ref tr, .ref se])), zQ cL sh 6 sf]) [0, 1] (by decide) rfl
  have hFc := va_free (wc := [(sl, .inr (5, [.ref sh, .int (zI lc), .ref ru, .ref tr, .ref se])), zQ cL sh 6 sf]) hD hS hA [0, 1] rfl
  refine vx_callq (vx_runV (As := [.int (zI L), .int (zI cx), .int (zI cy)]) (rest := []) ⟨hx, hb, hml, hown, hts⟩ (x_X5_levelWithoutBlockAt_xa l hfl dC dI cI cZ cL cT cJ s.heap.size sl sh lc ru tr se sf L cx cy (by first | assumption | omega) (by first | assumption | omega)) (cwV 3 hts gX5_setStart_X5_levelWithoutBlockAt rfl rfl rfl (by decide +kernel) ⟨Nat.le_of_ble_eq_true rfl, Nat.le_of_ble_eq_true rfl⟩) ⟨zPx_blind, va_recv hK hPc (ci := 5) (q0 := 0) rfl rfl, zPx_pre hPc hDc hK hEx hS hFc⟩ rfl rfl hl.1 rfl (lv_room (Nat.le_of_ble_eq_true rfl)) dX5_setStart_4 ⟨Nat.le_of_ble_eq_true rfl, Nat.le_of_ble_eq_true rfl⟩) hS (fun q _ h => hFc q h) hFc (fun q _ h => hFc q h) (fun E9 ce9 q9 u t H1 locs ht hvm _ hB hz1 hk1 hS hc9 hv9 hf9 => ?_) (fun r u t H1 locs ht hvm hw => hw.elim)
  obtain ⟨rfl, hP1, hK1, hD1⟩ := hB
  rw [ht] at hP1
  obtain ⟨hP, hD⟩ := va_join (wr := []) (w1 := [(sl, .inr (5, [.ref sh, .int (zI lc), .ref ru, .ref tr, .ref se])), zQ cL sh 6 sf]) hP hD [0, 1] [] rfl rfl (by decide) (by decide) hk1 hFc hP1 hD1
  have hP : va_P (dC, dI) vwCl [(sl, .inr (5, [.ref sh, .int (zI lc), .ref ru, .ref tr, .ref se])), zQ cL sh 6 sf] H1 := hP.sub [0, 1] rfl
  have hD : va_D A [(sl, .inr (5, [.ref sh, .int (zI lc), .ref ru, .ref tr, .ref se])), zQ cL sh 6 sf] := hD.sub [0, 1] (by decide) rfl
  exact vx_out (fun x h => (hnt x h).elim) hlocks hc9 hv9 hf9 (fun t9 ht9 hvm9 => ⟨(), trivial, ⟨rfl, by rw [ht9]; exact hP, va_K.moved hvm9 hK, hD⟩, hS.F ht9⟩) hS.2.2 (Nat.le_of_ble_eq_true rfl) (Nat.le_of_ble_eq_true rfl)
set_option maxHeartbeats 4000000 in
set_option maxRecDepth 100000 in
theorem x_X5_setStart_xb (l : Launch) (hfl : l.stackTraces = false) (dC : Nat → ClassId) (dI : Nat → Nat → Nat) (cI cZ cL cT cJ : ClassId) (sz : Nat) (sl : Nat) (sh : Nat) (lc : Int) (ru : Nat) (tr : Nat) (se : Nat) (sf : Nat → Option Nat) (L : Int) (k : Nat) (lv : Nat) (w : Int) (h : Int) (ka : Nat) (ta : Nat) (sx : Int) (sy : Int) (fx : Int) (fy : Int) (lf : Int) (un : Int) (K : Int → Int) (cx : Int) (cy : Int) (gk : L = (k : Int) ∧ k < 6) (gf : sf k = some lv) (gw : 0 < w ∧ w ≤ 12) (gh : 0 < h ∧ h ≤ 8) (gK : Kin K) (r9x : -2147483648 ≤ cx ∧ cx < 2147483648) (r9y : -2147483648 ≤ cy ∧ cy < 2147483648) (gq : kd K w h cx cy = -1) : vx_Met l yX5_setStart wsX5_setStart ({ frames := 8, cells := 1, slots := 6, locals := 138 }) (zPx (dC, dI) (zT cI cZ cL cT cJ) sz [.ref sl, .int (zI L), .int (zI cx), .int (zI cy)] [(sl, .inr (5, [.ref sh, .int (zI lc), .ref ru, .ref tr, .ref se])), zQ cL sh 6 sf, (lv, .inr (1, [.int (zI w), .int (zI h), .ref ka, .ref ta, .int (zI sx), .int (zI sy), .int (zI fx), .int (zI fy), .int (zI lf), .int (zI un)])), zA cI ka 96 K]) (va_Qv (S := Unit) (fun _ => False) (fun _ _ => True) (va_A [(sl, .inr (5, [.ref sh, .int (zI lc), .ref ru, .ref tr, .ref se])), zQ cL sh 6 sf, (lv, .inr (1, [.int (zI w), .int (zI h), .ref ka, .ref ta, .int (zI sx), .int (zI sy), .int (zI fx), .int (zI fy), .int (zI lf), .int (zI un)])), zA cI ka 96 K] sz)) (vx_X (S := Unit) (fun _ => True) (zBX (dC, dI) (zT cI cZ cL cT cJ) (va_A [(sl, .inr (5, [.ref sh, .int (zI lc), .ref ru, .ref tr, .ref se])), zQ cL sh 6 sf, (lv, .inr (1, [.int (zI w), .int (zI h), .ref ka, .ref ta, .int (zI sx), .int (zI sy), .int (zI fx), .int (zI fy), .int (zI lf), .int (zI un)])), zA cI ka 96 K] sz) "java/lang/IndexOutOfBoundsException" [(sl, .inr (5, [.ref sh, .int (zI lc), .ref ru, .ref tr, .ref se])), zQ cL sh 6 sf, (lv, .inr (1, [.int (zI w), .int (zI h), .ref ka, .ref ta, .int (zI sx), .int (zI sy), .int (zI fx), .int (zI fy), .int (zI lf), .int (zI un)])), zA cI ka 96 K]) (va_A [(sl, .inr (5, [.ref sh, .int (zI lc), .ref ru, .ref tr, .ref se])), zQ cL sh 6 sf, (lv, .inr (1, [.int (zI w), .int (zI h), .ref ka, .ref ta, .int (zI sx), .int (zI sy), .int (zI fx), .int (zI fy), .int (zI lf), .int (zI un)])), zA cI ka 96 K] sz)) 1 6 (va_A [(sl, .inr (5, [.ref sh, .int (zI lc), .ref ru, .ref tr, .ref se])), zQ cL sh 6 sf, (lv, .inr (1, [.int (zI w), .int (zI h), .ref ka, .ref ta, .int (zI sx), .int (zI sy), .int (zI fx), .int (zI fy), .int (zI lf), .int (zI un)])), zA cI ka 96 K] sz) := by
  refine vx_ofW (cc := cX5_setStart) (maxL := 5) (ret := none) (by decide) rfl ?_
  intro p e s m args below meth c s₁ B hml hnt hv
  obtain ⟨rfl, hsz, hP, hK, hD0, hEx⟩ := hv
  have hx := B.exec
  have hb := B.bytes
  have hr := B.returns
  have hts := atoms_spec (ws := wsX5_setStart) B.pre
  have hown : s.vm.findClass RX5 = some m.cls := findClass_of_methodNamed B.named
  have hlocks := B.notSynchronized
  subst hsz
  have hD := hD0.self (sz := s.heap.size)
  generalize hAe : va_A [(sl, .inr (5, [.ref sh, .int (zI lc), .ref ru, .ref tr, .ref se])), zQ cL sh 6 sf, (lv, .inr (1, [.int (zI w), .int (zI h), .ref ka, .ref ta, .int (zI sx), .int (zI sy), .int (zI fx), .int (zI fy), .int (zI lf), .int (zI un)])), zA cI ka 96 K] s.heap.size = A at hD hEx ⊢
  have hA : ∀ q : Nat, s.heap.size ≤ q → A q := fun q h => by rw [← hAe]; exact Or.inr h
  clear hAe hD0
  have hS : va_S A s.heap s.heap [] := va_S.rf
  have hP : va_P (dC, dI) vwCl [(sl, .inr (5, [.ref sh, .int (zI lc), .ref ru, .ref tr, .ref se])), zQ cL sh 6 sf, (lv, .inr (1, [.int (zI w), .int (zI h), .ref ka, .ref ta, .int (zI sx), .int (zI sy), .int (zI fx), .int (zI fy), .int (zI lf), .int (zI un)])), zA cI ka 96 K] s.heap := hP
  have f_85 := hts (.fieldLink RX5 85 "SpringLevels$Level" "startX" "I") (by decide +kernel)
  have f_88 := hts (.fieldLink RX5 88 "SpringLevels$Level" "startY" "I") (by decide +kernel)
  have i_1 : ∀ w ∈ wsX10, w ∈ wsX5_setStart := by decide +kernel
  have hl := lv_entry ([.ref sl, .int (zI L), .int (zI cx), .int (zI cy)]) (n := 5) (Nat.le_of_ble_eq_true rfl)
  rw [lg_entry_eq]
  generalize (lg_sl ([.ref sl, .int (zI L), .int (zI cx), .int (zI cy)]) ++ List.replicate (5 - (lg_sl ([.ref sl, .int (zI L), .int (zI cx), .int (zI cy)])).length) Slot.unset).toArray = ls at hl ⊢
  have hl : lv_has ls 5 [(0, .ref sl), (1, .int (zI L)), (2, .int (zI cx)), (3, .int (zI cy))] := hl
  refine lv_aload_n hx hb dX5_setStart_0 rfl (lv_at hl 0 rfl) ?_
  refine lv_iload_n hx hb dX5_setStart_1 rfl (lv_at hl 1 rfl) ?_
  refine lv_iload_n hx hb dX5_setStart_2 rfl (lv_at hl 2 rfl) ?_
  refine lv_iload_n hx hb dX5_setStart_3 rfl (lv_at hl 3 rfl) ?_
  have hPc := hP.sub (ws' := [(sl, .inr (5, [.ref sh, .int (zI lc), .ref ru, .ref tr, .ref se])), zQ cL sh 6 sf, (lv, .inr (1, [.int (zI w), .int (zI h), .ref ka, .ref ta, .int (zI sx), .int (zI sy), .int (zI fx), .int (zI fy), .int (zI lf), .int (zI un)])), zA cI ka 96 K]) [0, 1, 2, 3] rfl
  have hDc := hD.sub (ws' := [(sl, .inr (5, [.ref sh, .int (zI lc), .ref ru, .ref tr, .ref se])), zQ cL sh 6 sf, (lv, .inr (1, [.int (zI w), .int (zI h), .ref ka, .ref ta, .int (zI sx), .int (zI sy), .int (zI fx), .int (zI fy), .int (zI lf), .int (zI un)])), zA cI ka 96 K]) [0, 1, 2, 3] (by decide) rfl
  have hFc := va_free (wc := [(sl, .inr (5, [.ref sh, .int (zI lc), .ref ru, .ref tr, .ref se])), zQ cL sh 6 sf, (lv, .inr (1, [.int (zI w), .int (zI h), .ref ka, .ref ta, .int (zI sx), .int (zI sy), .int (zI fx), .int (zI fy), .int (zI lf), .int (zI un)])), zA cI ka 96 K]) hD hS hA [0, 1, 2, 3] rfl
  refine vx_callq (vx_runV (As := [.int (zI L), .int (zI cx), .int (zI cy)]) (rest := []) ⟨hx, hb, hml, hown, hts⟩ (x_X5_levelWithoutBlockAt_xb l hfl dC dI cI cZ cL cT cJ s.heap.size sl sh lc ru tr se sf L k lv w h ka ta sx sy fx fy lf un K cx cy (by first | assumption | omega) (by first | assumption | omega) (by first | assumption | omega) (by first | assumption | omega) (by first | assumption | omega) (by first | assumption | omega) (by first | assumption | omega) (by first | assumption | omega)) (cwV 3 hts gX5_setStart_X5_levelWithoutBlockAt rfl rfl rfl (by decide +kernel) ⟨Nat.le_of_ble_eq_true rfl, Nat.le_of_ble_eq_true rfl⟩) ⟨zPx_blind, va_recv hK hPc (ci := 5) (q0 := 0) rfl rfl, zPx_pre hPc hDc hK hEx hS hFc⟩ rfl rfl hl.1 rfl (lv_room (Nat.le_of_ble_eq_true rfl)) dX5_setStart_4 ⟨Nat.le_of_ble_eq_true rfl, Nat.le_of_ble_eq_true rfl⟩) hS (fun q _ h => hFc q h) hFc (fun q _ h => hFc q h) (fun E9 ce9 q9 u t H1 locs ht hvm _ hB hz1 hk1 hS hc9 hv9 hf9 => ?_) (fun r u t H1 locs ht hvm hw => hw.elim)
  obtain ⟨rfl, hP1, hK1, hD1⟩ := hB
  rw [ht] at hP1
  obtain ⟨hP, hD⟩ := va_join (wr := []) (w1 := [(sl, .inr (5, [.ref sh, .int (zI lc), .ref ru, .ref tr, .ref se])), zQ cL sh 6 sf, (lv, .inr (1, [.int (zI w), .int (zI h), .ref ka, .ref ta, .int (zI sx), .int (zI sy), .int (zI fx), .int (zI fy), .int (zI lf), .int (zI un)])), zA cI ka 96 K]) hP hD [0, 1, 2, 3] [] rfl rfl (by decide) (by decide) hk1 hFc hP1 hD1
  have hP : va_P (dC, dI) vwCl [(sl, .inr (5, [.ref sh, .int (zI lc), .ref ru, .ref tr, .ref se])), zQ cL sh 6 sf, (lv, .inr (1, [.int (zI w), .int (zI h), .ref ka, .ref ta, .int (zI sx), .int (zI sy), .int (zI fx), .int (zI fy), .int (zI lf), .int (zI un)])), zA cI ka 96 K] H1 := hP.sub [0, 1, 2, 3] rfl
  have hD : va_D A [(sl, .inr (5, [.ref sh, .int (zI lc), .ref ru, .ref tr, .ref se])), zQ cL sh 6 sf, (lv, .inr (1, [.int (zI w), .int (zI h), .ref ka, .ref ta, .int (zI sx), .int (zI sy), .int (zI fx), .int (zI fy), .int (zI lf), .int (zI un)])), zA cI ka 96 K] := hD.sub [0, 1, 2, 3] (by decide) rfl
  exact vx_out (fun x h => (hnt x h).elim) hlocks hc9 hv9 hf9 (fun t9 ht9 hvm9 => ⟨(), trivial, ⟨rfl, by rw [ht9]; exact hP, va_K.moved hvm9 hK, hD⟩, hS.F ht9⟩) hS.2.2 (Nat.le_of_ble_eq_true rfl) (Nat.le_of_ble_eq_true rfl)
set_option maxHeartbeats 4000000 in
set_option maxRecDepth 100000 in
theorem x_X5_setStart_xc (l : Launch) (hfl : l.stackTraces = false) (dC : Nat → ClassId) (dI : Nat → Nat → Nat) (cI cZ cL cT cJ : ClassId) (sz : Nat) (sl : Nat) (sh : Nat) (lc : Int) (ru : Nat) (tr : Nat) (se : Nat) (sf : Nat → Option Nat) (L : Int) (k : Nat) (lv : Nat) (w : Int) (h : Int) (ka : Nat) (ta : Nat) (sx : Int) (sy : Int) (fx : Int) (fy : Int) (lf : Int) (un : Int) (K : Int → Int) (cx : Int) (cy : Int) (gk : L = (k : Int) ∧ k < 6) (gf : sf k = some lv) (gw : 0 < w ∧ w ≤ 12) (gh : 0 < h ∧ h ≤ 8) (gK : Kin K) (gx : 0 ≤ cx ∧ cx < w) (gy : 0 ≤ cy ∧ cy < h) (gq : kd K w h cx cy = 1) : vx_Met l yX5_setStart wsX5_setStart ({ frames := 7, cells := 1, slots := 6, locals := 114 }) (zPx (dC, dI) (zT cI cZ cL cT cJ) sz [.ref sl, .int (zI L), .int (zI cx), .int (zI cy)] [(sl, .inr (5, [.ref sh, .int (zI lc), .ref ru, .ref tr, .ref se])), zQ cL sh 6 sf, (lv, .inr (1, [.int (zI w), .int (zI h), .ref ka, .ref ta, .int (zI sx), .int (zI sy), .int (zI fx), .int (zI fy), .int (zI lf), .int (zI un)])), zA cI ka 96 K]) (va_Qv (S := Unit) (fun _ => False) (fun _ _ => True) (va_A [(sl, .inr (5, [.ref sh, .int (zI lc), .ref ru, .ref tr, .ref se])), zQ cL sh 6 sf, (lv, .inr (1, [.int (zI w), .int (zI h), .ref ka, .ref ta, .int (zI sx), .int (zI sy), .int (zI fx), .int (zI fy), .int (zI lf), .int (zI un)])), zA cI ka 96 K] sz)) (vx_X (S := Unit) (fun _ => True) (zBX (dC, dI) (zT cI cZ cL cT cJ) (va_A [(sl, .inr (5, [.ref sh, .int (zI lc), .ref ru, .ref tr, .ref se])), zQ cL sh 6 sf, (lv, .inr (1, [.int (zI w), .int (zI h), .ref ka, .ref ta, .int (zI sx), .int (zI sy), .int (zI fx), .int (zI fy), .int (zI lf), .int (zI un)])), zA cI ka 96 K] sz) "java/lang/IllegalStateException" [(sl, .inr (5, [.ref sh, .int (zI lc), .ref ru, .ref tr, .ref se])), zQ cL sh 6 sf, (lv, .inr (1, [.int (zI w), .int (zI h), .ref ka, .ref ta, .int (zI sx), .int (zI sy), .int (zI fx), .int (zI fy), .int (zI lf), .int (zI un)])), zA cI ka 96 K]) (va_A [(sl, .inr (5, [.ref sh, .int (zI lc), .ref ru, .ref tr, .ref se])), zQ cL sh 6 sf, (lv, .inr (1, [.int (zI w), .int (zI h), .ref ka, .ref ta, .int (zI sx), .int (zI sy), .int (zI fx), .int (zI fy), .int (zI lf), .int (zI un)])), zA cI ka 96 K] sz)) 1 6 (va_A [(sl, .inr (5, [.ref sh, .int (zI lc), .ref ru, .ref tr, .ref se])), zQ cL sh 6 sf, (lv, .inr (1, [.int (zI w), .int (zI h), .ref ka, .ref ta, .int (zI sx), .int (zI sy), .int (zI fx), .int (zI fy), .int (zI lf), .int (zI un)])), zA cI ka 96 K] sz) := by
  refine vx_ofW (cc := cX5_setStart) (maxL := 5) (ret := none) (by decide) rfl ?_
  intro p e s m args below meth c s₁ B hml hnt hv
  obtain ⟨rfl, hsz, hP, hK, hD0, hEx⟩ := hv
  have hx := B.exec
  have hb := B.bytes
  have hr := B.returns
  have hts := atoms_spec (ws := wsX5_setStart) B.pre
  have hown : s.vm.findClass RX5 = some m.cls := findClass_of_methodNamed B.named
  have hlocks := B.notSynchronized
  subst hsz
  have hD := hD0.self (sz := s.heap.size)
  generalize hAe : va_A [(sl, .inr (5, [.ref sh, .int (zI lc), .ref ru, .ref tr, .ref se])), zQ cL sh 6 sf, (lv, .inr (1, [.int (zI w), .int (zI h), .ref ka, .ref ta, .int (zI sx), .int (zI sy), .int (zI fx), .int (zI fy), .int (zI lf), .int (zI un)])), zA cI ka 96 K] s.heap.size = A at hD hEx ⊢
  have hA : ∀ q : Nat, s.heap.size ≤ q → A q := fun q h => by rw [← hAe]; exact Or.inr h
  clear hAe hD0
  have hS : va_S A s.heap s.heap [] := va_S.rf
  have hP : va_P (dC, dI) vwCl [(sl, .inr (5, [.ref sh, .int (zI lc), .ref ru, .ref tr, .ref se])), zQ cL sh 6 sf, (lv, .inr (1, [.int (zI w), .int (zI h), .ref ka, .ref ta, .int (zI sx), .int (zI sy), .int (zI fx), .int (zI fy), .int (zI lf), .int (zI un)])), zA cI ka 96 K] s.heap := hP
  have f_85 := hts (.fieldLink RX5 85 "SpringLevels$Level" "startX" "I") (by decide +kernel)
  have f_88 := hts (.fieldLink RX5 88 "SpringLevels$Level" "startY" "I") (by decide +kernel)
  have i_1 : ∀ w ∈ wsX10, w ∈ wsX5_setStart := by decide +kernel
  have hl := lv_entry ([.ref sl, .int (zI L), .int (zI cx), .int (zI cy)]) (n := 5) (Nat.le_of_ble_eq_true rfl)
  rw [lg_entry_eq]
  generalize (lg_sl ([.ref sl, .int (zI L), .int (zI cx), .int (zI cy)]) ++ List.replicate (5 - (lg_sl ([.ref sl, .int (zI L), .int (zI cx), .int (zI cy)])).length) Slot.unset).toArray = ls at hl ⊢
  have hl : lv_has ls 5 [(0, .ref sl), (1, .int (zI L)), (2, .int (zI cx)), (3, .int (zI cy))] := hl
  refine lv_aload_n hx hb dX5_setStart_0 rfl (lv_at hl 0 rfl) ?_
  refine lv_iload_n hx hb dX5_setStart_1 rfl (lv_at hl 1 rfl) ?_
  refine lv_iload_n hx hb dX5_setStart_2 rfl (lv_at hl 2 rfl) ?_
  refine lv_iload_n hx hb dX5_setStart_3 rfl (lv_at hl 3 rfl) ?_
  have hPc := hP.sub (ws' := [(sl, .inr (5, [.ref sh, .int (zI lc), .ref ru, .ref tr, .ref se])), zQ cL sh 6 sf, (lv, .inr (1, [.int (zI w), .int (zI h), .ref ka, .ref ta, .int (zI sx), .int (zI sy), .int (zI fx), .int (zI fy), .int (zI lf), .int (zI un)])), zA cI ka 96 K]) [0, 1, 2, 3] rfl
  have hDc := hD.sub (ws' := [(sl, .inr (5, [.ref sh, .int (zI lc), .ref ru, .ref tr, .ref se])), zQ cL sh 6 sf, (lv, .inr (1, [.int (zI w), .int (zI h), .ref ka, .ref ta, .int (zI sx), .int (zI sy), .int (zI fx), .int (zI fy), .int (zI lf), .int (zI un)])), zA cI ka 96 K]) [0, 1, 2, 3] (by decide) rfl
  have hFc := va_free (wc := [(sl, .inr (5, [.ref sh, .int (zI lc), .ref ru, .ref tr, .ref se])), zQ cL sh 6 sf, (lv, .inr (1, [.int (zI w), .int (zI h), .ref ka, .ref ta, .int (zI sx), .int (zI sy), .int (zI fx), .int (zI fy), .int (zI lf), .int (zI un)])), zA cI ka 96 K]) hD hS hA [0, 1, 2, 3] rfl
  refine vx_callq (vx_runV (As := [.int (zI L), .int (zI cx), .int (zI cy)]) (rest := []) ⟨hx, hb, hml, hown, hts⟩ (x_X5_levelWithoutBlockAt_xc l hfl dC dI cI cZ cL cT cJ s.heap.size sl sh lc ru tr se sf L k lv w h ka ta sx sy fx fy lf un K cx cy (by first | assumption | omega) (by first | assumption | omega) (by first | assumption | omega) (by first | assumption | omega) (by first | assumption | omega) (by first | assumption | omega) (by first | assumption | omega) (by first | assumption | omega)) (cwV 3 hts gX5_setStart_X5_levelWithoutBlockAt rfl rfl rfl (by decide +kernel) ⟨Nat.le_of_ble_eq_true rfl, Nat.le_of_ble_eq_true rfl⟩) ⟨zPx_blind, va_recv hK hPc (ci := 5) (q0 := 0) rfl rfl, zPx_pre hPc hDc hK hEx hS hFc⟩ rfl rfl hl.1 rfl (lv_room (Nat.le_of_ble_eq_true rfl)) dX5_setStart_4 ⟨Nat.le_of_ble_eq_true rfl, Nat.le_of_ble_eq_true rfl⟩) hS (fun q _ h => hFc q h) hFc (fun q _ h => hFc q h) (fun E9 ce9 q9 u t H1 locs ht hvm _ hB hz1 hk1 hS hc9 hv9 hf9 => ?_) (fun r u t H1 locs ht hvm hw => hw.elim)
  obtain ⟨rfl, hP1, hK1, hD1⟩ := hB
  rw [ht] at hP1
  obtain ⟨hP, hD⟩ := va_join (wr := []) (w1 := [(sl, .inr (5, [.ref sh, .int (zI lc), .ref ru, .ref tr, .ref se])), zQ cL sh 6 sf, (lv, .inr (1, [.int (zI w), .int (zI h), .ref ka, .ref ta, .int (zI sx), .int (zI sy), .int (zI fx), .int (zI fy), .int (zI lf), .int (zI un)])), zA cI ka 96 K]) hP hD [0, 1, 2, 3] [] rfl rfl (by decide) (by decide) hk1 hFc hP1 hD1
  have hP : va_P (dC, dI) vwCl [(sl, .inr (5, [.ref sh, .int (zI lc), .ref ru, .ref tr, .ref se])), zQ cL sh 6 sf, (lv, .inr (1, [.int (zI w), .int (zI h), .ref ka, .ref ta, .int (zI sx), .int (zI sy), .int (zI fx), .int (zI fy), .int (zI lf), .int (zI un)])), zA cI ka 96 K] H1 := hP.sub [0, 1, 2, 3] rfl
  have hD : va_D A [(sl, .inr (5, [.ref sh, .int (zI lc), .ref ru, .ref tr, .ref se])), zQ cL sh 6 sf, (lv, .inr (1, [.int (zI w), .int (zI h), .ref ka, .ref ta, .int (zI sx), .int (zI sy), .int (zI fx), .int (zI fy), .int (zI lf), .int (zI un)])), zA cI ka 96 K] := hD.sub [0, 1, 2, 3] (by decide) rfl
  exact vx_out (fun x h => (hnt x h).elim) hlocks hc9 hv9 hf9 (fun t9 ht9 hvm9 => ⟨(), trivial, ⟨rfl, by rw [ht9]; exact hP, va_K.moved hvm9 hK, hD⟩, hS.F ht9⟩) hS.2.2 (Nat.le_of_ble_eq_true rfl) (Nat.le_of_ble_eq_true rfl)
set_option maxHeartbeats 4000000 in
set_option maxRecDepth 100000 in
theorem x_X5_setFlag_xa (l : Launch) (hfl : l.stackTraces = false) (dC : Nat → ClassId) (dI : Nat → Nat → Nat) (cI cZ cL cT cJ : ClassId) (sz : Nat) (sl : Nat) (sh : Nat) (lc : Int) (ru : Nat) (tr : Nat) (se : Nat) (sf : Nat → Option Nat) (L : Int) (cx : Int) (cy : Int) (gr9 : -2147483648 ≤ L ∧ L < 2147483648) (gb : L < 0 ∨ 6 ≤ L ∨ ∃ k : Nat, L = (k : Int) ∧ k < 6 ∧ sf k = none) : vx_Met l yX5_setFlag wsX5_setFlag ({ frames := 9, cells := 1, slots := 6, locals := 160 }) (zPx (dC, dI) (zT cI cZ cL cT cJ) sz [.ref sl, .int (zI L), .int (zI cx), .int (zI cy)] [(sl, .inr (5, [.ref sh, .int (zI lc), .ref ru, .ref tr, .ref se])), zQ cL sh 6 sf]) (va_Qv (S := Unit) (fun _ => False) (fun _ _ => True) (va_A [(sl, .inr (5, [.ref sh, .int (zI lc), .ref ru, .ref tr, .ref se])), zQ cL sh 6 sf] sz)) (vx_X (S := Unit) (fun _ => True) (zBX (dC, dI) (zT cI cZ cL cT cJ) (va_A [(sl, .inr (5, [.ref sh, .int (zI lc), .ref ru, .ref tr, .ref se])), zQ cL sh 6 sf] sz) "java/lang/IndexOutOfBoundsException" [(sl, .inr (5, [.ref sh, .int (zI lc), .ref ru, .ref tr, .ref se])), zQ cL sh 6 sf]) (va_A [(sl, .inr (5, [.ref sh, .int (zI lc), .ref ru, .ref tr, .ref se])), zQ cL sh 6 sf] sz)) 1 6 (va_A [(sl, .inr (5, [.ref sh, .int (zI lc), .ref ru, .ref tr, .ref se])), zQ cL sh 6 sf] sz) := by
  refine vx_ofW (cc := cX5_setFlag) (maxL := 5) (ret := none) (by decide) rfl ?_
  intro p e s m args below meth c s₁ B hml hnt hv
  obtain ⟨rfl, hsz, hP, hK, hD0, hEx⟩ := hv
  have hx := B.exec
  have hb := B.bytes
  have hr := B.returns
  have hts := atoms_spec (ws := wsX5_setFlag) B.pre
  have hown : s.vm.findClass RX5 = some m.cls := findClass_of_methodNamed B.named
  have hlocks := B.notSynchronized
  subst hsz
  have hD := hD0.self (sz := s.heap.size)
  generalize hAe : va_A [(sl, .inr (5, [.ref sh, .int (zI lc), .ref ru, .ref tr, .ref se])), zQ cL sh 6 sf] s.heap.size = A at hD hEx ⊢
  have hA : ∀ q : Nat, s.heap.size ≤ q → A q := fun q h => by rw [← hAe]; exact Or.inr h
  clear hAe hD0
  have hS : va_S A s.heap s.heap [] := va_S.rf
  have hP : va_P (dC, dI) vwCl [(sl, .inr (5, [.ref sh, .int (zI lc), .ref ru, .ref tr, .ref se])), zQ cL sh 6 sf] s.heap := hP
  have f_91 := hts (.fieldLink RX5 91 "SpringLevels$Level" "flagX" "I") (by decide +kernel)
  have f_94 := hts (.fieldLink RX5 94 "SpringLevels$Level" "flagY" "I") (by decide +kernel)
  have i_1 : ∀ w ∈ wsX10, w ∈ wsX5_setFlag := by decide +kernel
  have hl := lv_entry ([.ref sl, .int (zI L), .int (zI cx), .int (zI cy)]) (n := 5) (Nat.le_of_ble_eq_true rfl)
  rw [lg_entry_eq]
  generalize (lg_sl ([.ref sl, .int (zI L), .int (zI cx), .int (zI cy)]) ++ List.replicate (5 - (lg_sl ([.ref sl, .int (zI L), .int (zI cx), .int (zI cy)])).length) Slot.unset).toArray = ls at hl ⊢
  have hl : lv_has ls 5 [(0, .ref sl), (1, .int (zI L)), (2, .int (zI cx)), (3, .int (zI cy))] := hl
  refine lv_aload_n hx hb dX5_setFlag_0 rfl (lv_at hl 0 rfl) ?_
  refine lv_iload_n hx hb dX5_setFlag_1 rfl (lv_at hl 1 rfl) ?_
  refine lv_iload_n hx hb dX5_setFlag_2 rfl (lv_at hl 2 rfl) ?_
  refine lv_iload_n hx hb dX5_setFlag_3 rfl (lv_at hl 3 rfl) ?_
  have hPc := hP.sub (ws' := [(sl, .inr (5, [.ref sh, .int (zI lc), .ref ru, .ref tr, .ref se])), zQ cL sh 6 sf]) [0, 1] rfl
  have hDc := hD.sub (ws' := [(sl, .inr (5, [.ref sh, .int (zI lc), .ref ru, .ref tr, .ref se])), zQ cL sh 6 sf]) [0, 1] (by decide) rfl
  have hFc := va_free (wc := [(sl, .inr (5, [.ref sh, .int (zI lc), .ref ru, .ref tr, .ref se])), zQ cL sh 6 sf]) hD hS hA [0, 1] rfl
  refine vx_callq (vx_runV (As := [.int (zI L), .int (zI cx), .int (zI cy)]) (rest := []) ⟨hx, hb, hml, hown, hts⟩ (x_X5_levelWithoutBlockAt_xa l hfl dC dI cI cZ cL cT cJ s.heap.size sl sh lc ru tr se sf L cx cy (by first | assumption | omega) (by first | assumption | omega)) (cwV 3 hts gX5_setFlag_X5_levelWithoutBlockAt rfl rfl rfl (by decide +kernel) ⟨Nat.le_of_ble_eq_true rfl, Nat.le_of_ble_eq_true rfl⟩) ⟨zPx_blind, va_recv hK hPc (ci := 5) (q0 := 0) rfl rfl, zPx_pre hPc hDc hK hEx hS hFc⟩ rfl rfl hl.1 rfl (lv_room (Nat.le_of_ble_eq_true rfl)) dX5_setFlag_4 ⟨Nat.le_of_ble_eq_true rfl, Nat.le_of_ble_eq_true rfl⟩) hS (fun q _ h => hFc q h) hFc (fun q _ h => hFc q h) (fun E9 ce9 q9 u t H1 locs ht hvm _ hB hz1 hk1 hS hc9 hv9 hf9 => ?_) (fun r u t H1 locs ht hvm hw => hw.elim)
  obtain ⟨rfl, hP1, hK1, hD1⟩ := hB
  rw [ht] at hP1
  obtain ⟨hP, hD⟩ := va_join (wr := []) (w1 := [(sl, .inr (5, [.ref sh, .int (zI lc), .ref ru, .ref tr, .ref se])), zQ cL sh 6 sf]) hP hD [0, 1] [] rfl rfl (by decide) (by decide) hk1 hFc hP1 hD1
  have hP : va_P (dC, dI) vwCl [(sl, .inr (5, [.ref sh, .int (zI lc), .ref ru, .ref tr, .ref se])), zQ cL sh 6 sf] H1 := hP.sub [0, 1] rfl
  have hD : va_D A [(sl, .inr (5, [.ref sh, .int (zI lc), .ref ru, .ref tr, .ref se])), zQ cL sh 6 sf] := hD.sub [0, 1] (by decide) rfl
  exact vx_out (fun x h => (hnt x h).elim) hlocks hc9 hv9 hf9 (fun t9 ht9 hvm9 => ⟨(), trivial, ⟨rfl, by rw [ht9]; exact hP, va_K.moved hvm9 hK, hD⟩, hS.F ht9⟩) hS.2.2 (Nat.le_of_ble_eq_true rfl) (Nat.le_of_ble_eq_true rfl)
set_option maxHeartbeats 4000000 in
set_option maxRecDepth 100000 in
theorem x_X5_setFlag_xb (l : Launch) (hfl : l.stackTraces = false) (dC : Nat → ClassId) (dI : Nat → Nat → Nat) (cI cZ cL cT cJ : ClassId) (sz : Nat) (sl : Nat) (sh : Nat) (lc : Int) (ru : Nat) (tr : Nat) (se : Nat) (sf : Nat → Option Nat) (L : Int) (k : Nat) (lv : Nat) (w : Int) (h : Int) (ka : Nat) (ta : Nat) (sx : Int) (sy : Int) (fx : Int) (fy : Int) (lf : Int) (un : Int) (K : Int → Int) (cx : Int) (cy : Int) (gk : L = (k : Int) ∧ k < 6) (gf : sf k = some lv) (gw : 0 < w ∧ w ≤ 12) (gh : 0 < h ∧ h ≤ 8) (gK : Kin K) (r9x : -2147483648 ≤ cx ∧ cx < 2147483648) (r9y : -2147483648 ≤ cy ∧ cy < 2147483648) (gq : kd K w h cx cy = -1) : vx_Met l yX5_setFlag wsX5_setFlag ({ frames := 8, cells := 1, slots := 6, locals := 138 }) (zPx (dC, dI) (zT cI cZ cL cT cJ) sz [.ref sl, .int (zI L), .int (zI cx), .int (zI cy)] [(sl, .inr (5, [.ref sh, .int (zI lc), .ref ru, .ref tr, .ref se])), zQ cL sh 6 sf, (lv, .inr (1, [.int (zI w), .int (zI h), .ref ka, .ref ta, .int (zI sx), .int (zI sy), .int (zI fx), .int (zI fy), .int (zI lf), .int (zI un)])), zA cI ka 96 K]) (va_Qv (S := Unit) (fun _ => False) (fun _ _ => True) (va_A [(sl, .inr (5, [.ref sh, .int (zI lc), .ref ru, .ref tr, .ref se])), zQ cL sh 6 sf, (lv, .inr (1, [.int (zI w), .int (zI h), .ref ka, .ref ta, .int (zI sx), .int (zI sy), .int (zI fx), .int (zI fy), .int (zI lf), .int (zI un)])), zA cI ka 96 K] sz)) (vx_X (S := Unit) (fun _ => True) (zBX (dC, dI) (zT cI cZ cL cT cJ) (va_A [(sl, .inr (5, [.ref sh, .int (zI lc), .ref ru, .ref tr, .ref se])), zQ cL sh 6 sf, (lv, .inr (1, [.int (zI w), .int (zI h), .ref ka, .ref ta, .int (zI sx), .int (zI sy), .int (zI fx), .int (zI fy), .int (zI lf), .int (zI un)])), zA cI ka 96 K] sz) "java/lang/IndexOutOfBoundsException" [(sl, .inr (5, [.ref sh, .int (zI lc), .ref ru, .ref tr, .ref se])), zQ cL sh 6 sf, (lv, .inr (1, [.int (zI w), .int (zI h), .ref ka, .ref ta, .int (zI sx), .int (zI sy), .int (zI fx), .int (zI fy), .int (zI lf), .int (zI un)])), zA cI ka 96 K]) (va_A [(sl, .inr (5, [.ref sh, .int (zI lc), .ref ru, .ref tr, .ref se])), zQ cL sh 6 sf, (lv, .inr (1, [.int (zI w), .int (zI h), .ref ka, .ref ta, .int (zI sx), .int (zI sy), .int (zI fx), .int (zI fy), .int (zI lf), .int (zI un)])), zA cI ka 96 K] sz)) 1 6 (va_A [(sl, .inr (5, [.ref sh, .int (zI lc), .ref ru, .ref tr, .ref se])), zQ cL sh 6 sf, (lv, .inr (1, [.int (zI w), .int (zI h), .ref ka, .ref ta, .int (zI sx), .int (zI sy), .int (zI fx), .int (zI fy), .int (zI lf), .int (zI un)])), zA cI ka 96 K] sz) := by
  refine vx_ofW (cc := cX5_setFlag) (maxL := 5) (ret := none) (by decide) rfl ?_
  intro p e s m args below meth c s₁ B hml hnt hv
  obtain ⟨rfl, hsz, hP, hK, hD0, hEx⟩ := hv
  have hx := B.exec
  have hb := B.bytes
  have hr := B.returns
  have hts := atoms_spec (ws := wsX5_setFlag) B.pre
  have hown : s.vm.findClass RX5 = some m.cls := findClass_of_methodNamed B.named
  have hlocks := B.notSynchronized
  subst hsz
  have hD := hD0.self (sz := s.heap.size)
  generalize hAe : va_A [(sl, .inr (5, [.ref sh, .int (zI lc), .ref ru, .ref tr, .ref se])), zQ cL sh 6 sf, (lv, .inr (1, [.int (zI w), .int (zI h), .ref ka, .ref ta, .int (zI sx), .int (zI sy), .int (zI fx), .int (zI fy), .int (zI lf), .int (zI un)])), zA cI ka 96 K] s.heap.size = A at hD hEx ⊢
  have hA : ∀ q : Nat, s.heap.size ≤ q → A q := fun q h => by rw [← hAe]; exact Or.inr h
  clear hAe hD0
  have hS : va_S A s.heap s.heap [] := va_S.rf
  have hP : va_P (dC, dI) vwCl [(sl, .inr (5, [.ref sh, .int (zI lc), .ref ru, .ref tr, .ref se])), zQ cL sh 6 sf, (lv, .inr (1, [.int (zI w), .int (zI h), .ref ka, .ref ta, .int (zI sx), .int (zI sy), .int (zI fx), .int (zI fy), .int (zI lf), .int (zI un)])), zA cI ka 96 K] s.heap := hP
  have f_91 := hts (.fieldLink RX5 91 "SpringLevels$Level" "flagX" "I") (by decide +kernel)
  have f_94 := hts (.fieldLink RX5 94 "SpringLevels$Level" "flagY" "I") (by decide +kernel)
  have i_1 : ∀ w ∈ wsX10, w ∈ wsX5_setFlag := by decide +kernel
  have hl := lv_entry ([.ref sl, .int (zI L), .int (zI cx), .int (zI cy)]) (n := 5) (Nat.le_of_ble_eq_true rfl)
  rw [lg_entry_eq]
  generalize (lg_sl ([.ref sl, .int (zI L), .int (zI cx), .int (zI cy)]) ++ List.replicate (5 - (lg_sl ([.ref sl, .int (zI L), .int (zI cx), .int (zI cy)])).length) Slot.unset).toArray = ls at hl ⊢
  have hl : lv_has ls 5 [(0, .ref sl), (1, .int (zI L)), (2, .int (zI cx)), (3, .int (zI cy))] := hl
  refine lv_aload_n hx hb dX5_setFlag_0 rfl (lv_at hl 0 rfl) ?_
  refine lv_iload_n hx hb dX5_setFlag_1 rfl (lv_at hl 1 rfl) ?_
  refine lv_iload_n hx hb dX5_setFlag_2 rfl (lv_at hl 2 rfl) ?_
  refine lv_iload_n hx hb dX5_setFlag_3 rfl (lv_at hl 3 rfl) ?_
  have hPc := hP.sub (ws' := [(sl, .inr (5, [.ref sh, .int (zI lc), .ref ru, .ref tr, .ref se])), zQ cL sh 6 sf, (lv, .inr (1, [.int (zI w), .int (zI h), .ref ka, .ref ta, .int (zI sx), .int (zI sy), .int (zI fx), .int (zI fy), .int (zI lf), .int (zI un)])), zA cI ka 96 K]) [0, 1, 2, 3] rfl
  have hDc := hD.sub (ws' := [(sl, .inr (5, [.ref sh, .int (zI lc), .ref ru, .ref tr, .ref se])), zQ cL sh 6 sf, (lv, .inr (1, [.int (zI w), .int (zI h), .ref ka, .ref ta, .int (zI sx), .int (zI sy), .int (zI fx), .int (zI fy), .int (zI lf), .int (zI un)])), zA cI ka 96 K]) [0, 1, 2, 3] (by decide) rfl
  have hFc := va_free (wc := [(sl, .inr (5, [.ref sh, .int (zI lc), .ref ru, .ref tr, .ref se])), zQ cL sh 6 sf, (lv, .inr (1, [.int (zI w), .int (zI h), .ref ka, .ref ta, .int (zI sx), .int (zI sy), .int (zI fx), .int (zI fy), .int (zI lf), .int (zI un)])), zA cI ka 96 K]) hD hS hA [0, 1, 2, 3] rfl
  refine vx_callq (vx_runV (As := [.int (zI L), .int (zI cx), .int (zI cy)]) (rest := []) ⟨hx, hb, hml, hown, hts⟩ (x_X5_levelWithoutBlockAt_xb l hfl dC dI cI cZ cL cT cJ s.heap.size sl sh lc ru tr se sf L k lv w h ka ta sx sy fx fy lf un K cx cy (by first | assumption | omega) (by first | assumption | omega) (by first | assumption | omega) (by first | assumption | omega) (by first | assumption | omega) (by first | assumption | omega) (by first | assumption | omega) (by first | assumption | omega)) (cwV 3 hts gX5_setFlag_X5_levelWithoutBlockAt rfl rfl rfl (by decide +kernel) ⟨Nat.le_of_ble_eq_true rfl, Nat.le_of_ble_eq_true rfl⟩) ⟨zPx_blind, va_recv hK hPc (ci := 5) (q0 := 0) rfl rfl, zPx_pre hPc hDc hK hEx hS hFc⟩ rfl rfl hl.1 rfl (lv_room (Nat.le_of_ble_eq_true rfl)) dX5_setFlag_4 ⟨Nat.le_of_ble_eq_true rfl, Nat.le_of_ble_eq_true rfl⟩) hS (fun q _ h => hFc q h) hFc (fun q _ h => hFc q h) (fun E9 ce9 q9 u t H1 locs ht hvm _ hB hz1 hk1 hS hc9 hv9 hf9 => ?_) (fun r u t H1 locs ht hvm hw => hw.elim)
  obtain ⟨rfl, hP1, hK1, hD1⟩ := hB
  rw [ht] at hP1
  obtain ⟨hP, hD⟩ := va_join (wr := []) (w1 := [(sl, .inr (5, [.ref sh, .int (zI lc), .ref ru, .ref tr, .ref se])), zQ cL sh 6 sf, (lv, .inr (1, [.int (zI w), .int (zI h), .ref ka, .ref ta, .int (zI sx), .int (zI sy), .int (zI fx), .int (zI fy), .int (zI lf), .int (zI un)])), zA cI ka 96 K]) hP hD [0, 1, 2, 3] [] rfl rfl (by decide) (by decide) hk1 hFc hP1 hD1
  have hP : va_P (dC, dI) vwCl [(sl, .inr (5, [.ref sh, .int (zI lc), .ref ru, .ref tr, .ref se])), zQ cL sh 6 sf, (lv, .inr (1, [.int (zI w), .int (zI h), .ref ka, .ref ta, .int (zI sx), .int (zI sy), .int (zI fx), .int (zI fy), .int (zI lf), .int (zI un)])), zA cI ka 96 K] H1 := hP.sub [0, 1, 2, 3] rfl
  have hD : va_D A [(sl, .inr (5, [.ref sh, .int (zI lc), .ref ru, .ref tr, .ref se])), zQ cL sh 6 sf, (lv, .inr (1, [.int (zI w), .int (zI h), .ref ka, .ref ta, .int (zI sx), .int (zI sy), .int (zI fx), .int (zI fy), .int (zI lf), .int (zI un)])), zA cI ka 96 K] := hD.sub [0, 1, 2, 3] (by decide) rfl
  exact vx_out (fun x h => (hnt x h).elim) hlocks hc9 hv9 hf9 (fun t9 ht9 hvm9 => ⟨(), trivial, ⟨rfl, by rw [ht9]; exact hP, va_K.moved hvm9 hK, hD⟩, hS.F ht9⟩) hS.2.2 (Nat.le_of_ble_eq_true rfl) (Nat.le_of_ble_eq_true rfl)
set_option maxHeartbeats 4000000 in
set_option maxRecDepth 100000 in
theorem x_X5_setFlag_xc (l : Launch) (hfl : l.stackTraces = false) (dC : Nat → ClassId) (dI : Nat → Nat → Nat) (cI cZ cL cT cJ : ClassId) (sz : Nat) (sl : Nat) (sh : Nat) (lc : Int) (ru : Nat) (tr : Nat) (se : Nat) (sf : Nat → Option Nat) (L : Int) (k : Nat) (lv : Nat) (w : Int) (h : Int) (ka : Nat) (ta : Nat) (sx : Int) (sy : Int) (fx : Int) (fy : Int) (lf : Int) (un : Int) (K : Int → Int) (cx : Int) (cy : Int) (gk : L = (k : Int) ∧ k < 6) (gf : sf k = some lv) (gw : 0 < w ∧ w ≤ 12) (gh : 0 < h ∧ h ≤ 8) (gK : Kin K) (gx : 0 ≤ cx ∧ cx < w) (gy : 0 ≤ cy ∧ cy < h) (gq : kd K w h cx cy = 1) : vx_Met l yX5_setFlag wsX5_setFlag ({ frames := 7, cells := 1, slots := 6, locals := 114 }) (zPx (dC, dI) (zT cI cZ cL cT cJ) sz [.ref sl, .int (zI L), .int (zI cx), .int (zI cy)] [(sl, .inr (5, [.ref sh, .int (zI lc), .ref ru, .ref tr, .ref se])), zQ cL sh 6 sf, (lv, .inr (1, [.int (zI w), .int (zI h), .ref ka, .ref ta, .int (zI sx), .int (zI sy), .int (zI fx), .int (zI fy), .int (zI lf), .int (zI un)])), zA cI ka 96 K]) (va_Qv (S := Unit) (fun _ => False) (fun _ _ => True) (va_A [(sl, .inr (5, [.ref sh, .int (zI lc), .ref ru, .ref tr, .ref se])), zQ cL sh 6 sf, (lv, .inr (1, [.int (zI w), .int (zI h), .ref ka, .ref ta, .int (zI sx), .int (zI sy), .int (zI fx), .int (zI fy), .int (zI lf), .int (zI un)])), zA cI ka 96 K] sz)) (vx_X (S := Unit) (fun _ => True) (zBX (dC, dI) (zT cI cZ cL cT cJ) (va_A [(sl, .inr (5, [.ref sh, .int (zI lc), .ref ru, .ref tr, .ref se])), zQ cL sh 6 sf, (lv, .inr (1, [.int (zI w), .int (zI h), .ref ka, .ref ta, .int (zI sx), .int (zI sy), .int (zI fx), .int (zI fy), .int (zI lf), .int (zI un)])), zA cI ka 96 K] sz) "java/lang/IllegalStateException" [(sl, .inr (5, [.ref sh, .int (zI lc), .ref ru, .ref tr, .ref se])), zQ cL sh 6 sf, (lv, .inr (1, [.int (zI w), .int (zI h), .ref ka, .ref ta, .int (zI sx), .int (zI sy), .int (zI fx), .int (zI fy), .int (zI lf), .int (zI un)])), zA cI ka 96 K]) (va_A [(sl, .inr (5, [.ref sh, .int (zI lc), .ref ru, .ref tr, .ref se])), zQ cL sh 6 sf, (lv, .inr (1, [.int (zI w), .int (zI h), .ref ka, .ref ta, .int (zI sx), .int (zI sy), .int (zI fx), .int (zI fy), .int (zI lf), .int (zI un)])), zA cI ka 96 K] sz)) 1 6 (va_A [(sl, .inr (5, [.ref sh, .int (zI lc), .ref ru, .ref tr, .ref se])), zQ cL sh 6 sf, (lv, .inr (1, [.int (zI w), .int (zI h), .ref ka, .ref ta, .int (zI sx), .int (zI sy), .int (zI fx), .int (zI fy), .int (zI lf), .int (zI un)])), zA cI ka 96 K] sz) := by
  refine vx_ofW (cc := cX5_setFlag) (maxL := 5) (ret := none) (by decide) rfl ?_
  intro p e s m args below meth c s₁ B hml hnt hv
  obtain ⟨rfl, hsz, hP, hK, hD0, hEx⟩ := hv
  have hx := B.exec
  have hb := B.bytes
  have hr := B.returns
  have hts := atoms_spec (ws := wsX5_setFlag) B.pre
  have hown : s.vm.findClass RX5 = some m.cls := findClass_of_methodNamed B.named
  have hlocks := B.notSynchronized
  subst hsz
  have hD := hD0.self (sz := s.heap.size)
  generalize hAe : va_A [(sl, .inr (5, [.ref sh, .int (zI lc), .ref ru, .ref tr, .ref se])), zQ cL sh 6 sf, (lv, .inr (1, [.int (zI w), .int (zI h), .ref ka, .ref ta, .int (zI sx), .int (zI sy), .int (zI fx), .int (zI fy), .int (zI lf), .int (zI un)])), zA cI ka 96 K] s.heap.size = A at hD hEx ⊢
  have hA : ∀ q : Nat, s.heap.size ≤ q → A q := fun q h => by rw [← hAe]; exact Or.inr h
  clear hAe hD0
  have hS : va_S A s.heap s.heap [] := va_S.rf
  have hP : va_P (dC, dI) vwCl [(sl, .inr (5, [.ref sh, .int (zI lc), .ref ru, .ref tr, .ref se])), zQ cL sh 6 sf, (lv, .inr (1, [.int (zI w), .int (zI h), .ref ka, .ref ta, .int (zI sx), .int (zI sy), .int (zI fx), .int (zI fy), .int (zI lf), .int (zI un)])), zA cI ka 96 K] s.heap := hP
  have f_91 := hts (.fieldLink RX5 91 "SpringLevels$Level" "flagX" "I") (by decide +kernel)
  have f_94 := hts (.fieldLink RX5 94 "SpringLevels$Level" "flagY" "I") (by decide +kernel)
  have i_1 : ∀ w ∈ wsX10, w ∈ wsX5_setFlag := by decide +kernel
  have hl := lv_entry ([.ref sl, .int (zI L), .int (zI cx), .int (zI cy)]) (n := 5) (Nat.le_of_ble_eq_true rfl)
  rw [lg_entry_eq]
  generalize (lg_sl ([.ref sl, .int (zI L), .int (zI cx), .int (zI cy)]) ++ List.replicate (5 - (lg_sl ([.ref sl, .int (zI L), .int (zI cx), .int (zI cy)])).length) Slot.unset).toArray = ls at hl ⊢
  have hl : lv_has ls 5 [(0, .ref sl), (1, .int (zI L)), (2, .int (zI cx)), (3, .int (zI cy))] := hl
  refine lv_aload_n hx hb dX5_setFlag_0 rfl (lv_at hl 0 rfl) ?_
  refine lv_iload_n hx hb dX5_setFlag_1 rfl (lv_at hl 1 rfl) ?_
  refine lv_iload_n hx hb dX5_setFlag_2 rfl (lv_at hl 2 rfl) ?_
  refine lv_iload_n hx hb dX5_setFlag_3 rfl (lv_at hl 3 rfl) ?_
  have hPc := hP.sub (ws' := [(sl, .inr (5, [.ref sh, .int (zI lc), .ref ru, .ref tr, .ref se])), zQ cL sh 6 sf, (lv, .inr (1, [.int (zI w), .int (zI h), .ref ka, .ref ta, .int (zI sx), .int (zI sy), .int (zI fx), .int (zI fy), .int (zI lf), .int (zI un)])), zA cI ka 96 K]) [0, 1, 2, 3] rfl
  have hDc := hD.sub (ws' := [(sl, .inr (5, [.ref sh, .int (zI lc), .ref ru, .ref tr, .ref se])), zQ cL sh 6 sf, (lv, .inr (1, [.int (zI w), .int (zI h), .ref ka, .ref ta, .int (zI sx), .int (zI sy), .int (zI fx), .int (zI fy), .int (zI lf), .int (zI un)])), zA cI ka 96 K]) [0, 1, 2, 3] (by decide) rfl
  have hFc := va_free (wc := [(sl, .inr (5, [.ref sh, .int (zI lc), .ref ru, .ref tr, .ref se])), zQ cL sh 6 sf, (lv, .inr (1, [.int (zI w), .int (zI h), .ref ka, .ref ta, .int (zI sx), .int (zI sy), .int (zI fx), .int (zI fy), .int (zI lf), .int (zI un)])), zA cI ka 96 K]) hD hS hA [0, 1, 2, 3] rfl
  refine vx_callq (vx_runV (As := [.int (zI L), .int (zI cx), .int (zI cy)]) (rest := []) ⟨hx, hb, hml, hown, hts⟩ (x_X5_levelWithoutBlockAt_xc l hfl dC dI cI cZ cL cT cJ s.heap.size sl sh lc ru tr se sf L k lv w h ka ta sx sy fx fy lf un K cx cy (by first | assumption | omega) (by first | assumption | omega) (by first | assumption | omega) (by first | assumption | omega) (by first | assumption | omega) (by first | assumption | omega) (by first | assumption | omega) (by first | assumption | omega)) (cwV 3 hts gX5_setFlag_X5_levelWithoutBlockAt rfl rfl rfl (by decide +kernel) ⟨Nat.le_of_ble_eq_true rfl, Nat.le_of_ble_eq_true rfl⟩) ⟨zPx_blind, va_recv hK hPc (ci := 5) (q0 := 0) rfl rfl, zPx_pre hPc hDc hK hEx hS hFc⟩ rfl rfl hl.1 rfl (lv_room (Nat.le_of_ble_eq_true rfl)) dX5_setFlag_4 ⟨Nat.le_of_ble_eq_true rfl, Nat.le_of_ble_eq_true rfl⟩) hS (fun q _ h => hFc q h) hFc (fun q _ h => hFc q h) (fun E9 ce9 q9 u t H1 locs ht hvm _ hB hz1 hk1 hS hc9 hv9 hf9 => ?_) (fun r u t H1 locs ht hvm hw => hw.elim)
  obtain ⟨rfl, hP1, hK1, hD1⟩ := hB
  rw [ht] at hP1
  obtain ⟨hP, hD⟩ := va_join (wr := []) (w1 := [(sl, .inr (5, [.ref sh, .int (zI lc), .ref ru, .ref tr, .ref se])), zQ cL sh 6 sf, (lv, .inr (1, [.int (zI w), .int (zI h), .ref ka, .ref ta, .int (zI sx), .int (zI sy), .int (zI fx), .int (zI fy), .int (zI lf), .int (zI un)])), zA cI ka 96 K]) hP hD [0, 1, 2, 3] [] rfl rfl (by decide) (by decide) hk1 hFc hP1 hD1
  have hP : va_P (dC, dI) vwCl [(sl, .inr (5, [.ref sh, .int (zI lc), .ref ru, .ref tr, .ref se])), zQ cL sh 6 sf, (lv, .inr (1, [.int (zI w), .int (zI h), .ref ka, .ref ta, .int (zI sx), .int (zI sy), .int (zI fx), .int (zI fy), .int (zI lf), .int (zI un)])), zA cI ka 96 K] H1 := hP.sub [0, 1, 2, 3] rfl
  have hD : va_D A [(sl, .inr (5, [.ref sh, .int (zI lc), .ref ru, .ref tr, .ref se])), zQ cL sh 6 sf, (lv, .inr (1, [.int (zI w), .int (zI h), .ref ka, .ref ta, .int (zI sx), .int (zI sy), .int (zI fx), .int (zI fy), .int (zI lf), .int (zI un)])), zA cI ka 96 K] := hD.sub [0, 1, 2, 3] (by decide) rfl
  exact vx_out (fun x h => (hnt x h).elim) hlocks hc9 hv9 hf9 (fun t9 ht9 hvm9 => ⟨(), trivial, ⟨rfl, by rw [ht9]; exact hP, va_K.moved hvm9 hK, hD⟩, hS.F ht9⟩) hS.2.2 (Nat.le_of_ble_eq_true rfl) (Nat.le_of_ble_eq_true rfl)
set_option maxHeartbeats 4000000 in
set_option maxRecDepth 100000 in
theorem x_X5_grow_xa (l : Launch) (hfl : l.stackTraces = false) (dC : Nat → ClassId) (dI : Nat → Nat → Nat) (cI cZ cL cT cJ : ClassId) (sz : Nat) (sl : Nat) (sh : Nat) (lc : Int) (ru : Nat) (tr : Nat) (se : Nat) (sf : Nat → Option Nat) (L : Int) (sd : Int) (gr9 : -2147483648 ≤ L ∧ L < 2147483648) (gb : L < 0 ∨ 6 ≤ L ∨ ∃ k : Nat, L = (k : Int) ∧ k < 6 ∧ sf k = none) : vx_Met l yX5_grow wsX5_grow ({ frames := 7, cells := 1, slots := 6, locals := 112 }) (zPx (dC, dI) (zT cI cZ cL cT cJ) sz [.ref sl, .int (zI L), .int (zI sd)] [(sl, .inr (5, [.ref sh, .int (zI lc), .ref ru, .ref tr, .ref se])), zQ cL sh 6 sf]) (va_Qi (S := Unit) (fun _ _ => False) (fun _ _ => True) (va_A [(sl, .inr (5, [.ref sh, .int (zI lc), .ref ru, .ref tr, .ref se])), zQ cL sh 6 sf] sz)) (vx_X (S := Unit) (fun _ => True) (zBX (dC, dI) (zT cI cZ cL cT cJ) (va_A [(sl, .inr (5, [.ref sh, .int (zI lc), .ref ru, .ref tr, .ref se])), zQ cL sh 6 sf] sz) "java/lang/IndexOutOfBoundsException" [(sl, .inr (5, [.ref sh, .int (zI lc), .ref ru, .ref tr, .ref se])), zQ cL sh 6 sf]) (va_A [(sl, .inr (5, [.ref sh, .int (zI lc), .ref ru, .ref tr, .ref se])), zQ cL sh 6 sf] sz)) 1 6 (va_A [(sl, .inr (5, [.ref sh, .int (zI lc), .ref ru, .ref tr, .ref se])), zQ cL sh 6 sf] sz) := by
  refine vx_ofW (cc := cX5_grow) (maxL := 4) (ret := (some .int)) (by decide) rfl ?_
  intro p e s m args below meth c s₁ B hml hnt hv
  obtain ⟨rfl, hsz, hP, hK, hD0, hEx⟩ := hv
  have hx := B.exec
  have hb := B.bytes
  have hr := B.returns
  have hts := atoms_spec (ws := wsX5_grow) B.pre
  have hown : s.vm.findClass RX5 = some m.cls := findClass_of_methodNamed B.named
  have hlocks := B.notSynchronized
  subst hsz
  have hD := hD0.self (sz := s.heap.size)
  generalize hAe : va_A [(sl, .inr (5, [.ref sh, .int (zI lc), .ref ru, .ref tr, .ref se])), zQ cL sh 6 sf] s.heap.size = A at hD hEx ⊢
  have hA : ∀ q : Nat, s.heap.size ≤ q → A q := fun q h => by rw [← hAe]; exact Or.inr h
  clear hAe hD0
  have hS : va_S A s.heap s.heap [] := va_S.rf
  have hP : va_P (dC, dI) vwCl [(sl, .inr (5, [.ref sh, .int (zI lc), .ref ru, .ref tr, .ref se])), zQ cL sh 6 sf] s.heap := hP
  have hl := lv_entry ([.ref sl, .int (zI L), .int (zI sd)]) (n := 4) (Nat.le_of_ble_eq_true rfl)
  rw [lg_entry_eq]
  generalize (lg_sl ([.ref sl, .int (zI L), .int (zI sd)]) ++ List.replicate (4 - (lg_sl ([.ref sl, .int (zI L), .int (zI sd)])).length) Slot.unset).toArray = ls at hl ⊢
  have hl : lv_has ls 4 [(0, .ref sl), (1, .int (zI L)), (2, .int (zI sd))] := hl
  refine lv_aload_n hx hb dX5_grow_0 rfl (lv_at hl 0 rfl) ?_
  refine lv_iload_n hx hb dX5_grow_1 rfl (lv_at hl 1 rfl) ?_
  have hPc := hP.sub (ws' := [(sl, .inr (5, [.ref sh, .int (zI lc), .ref ru, .ref tr, .ref se])), zQ cL sh 6 sf]) [0, 1] rfl
  have hDc := hD.sub (ws' := [(sl, .inr (5, [.ref sh, .int (zI lc), .ref ru, .ref tr, .ref se])), zQ cL sh 6 sf]) [0, 1] (by decide) rfl
  have hFc := va_free (wc := [(sl, .inr (5, [.ref sh, .int (zI lc), .ref ru, .ref tr, .ref se])), zQ cL sh 6 sf]) hD hS hA [0, 1] rfl
  refine vx_callq (vx_runV (As := [.int (zI L)]) (rest := []) ⟨hx, hb, hml, hown, hts⟩ (x_X5_levelNumbered_x l hfl dC dI cI cZ cL cT cJ s.heap.size sl sh lc ru tr se sf L (by first | assumption | omega) (by first | assumption | omega)) (cwV 1 hts gX5_grow_X5_levelNumbered rfl rfl rfl (by decide +kernel) ⟨Nat.le_of_ble_eq_true rfl, Nat.le_of_ble_eq_true rfl⟩) ⟨zPx_blind, va_recv hK hPc (ci := 5) (q0 := 0) rfl rfl, zPx_pre hPc hDc hK hEx hS hFc⟩ rfl rfl hl.1 rfl (lv_room (Nat.le_of_ble_eq_true rfl)) dX5_grow_2 ⟨Nat.le_of_ble_eq_true rfl, Nat.le_of_ble_eq_true rfl⟩) hS (fun q _ h => hFc q h) hFc (fun q _ h => hFc q h) (fun E9 ce9 q9 u t H1 locs ht hvm _ hB hz1 hk1 hS hc9 hv9 hf9 => ?_) (fun r u t H1 locs ht hvm hw => hw.elim)
  obtain ⟨rfl, hP1, hK1, hD1⟩ := hB
  rw [ht] at hP1
  obtain ⟨hP, hD⟩ := va_join (wr := []) (w1 := [(sl, .inr (5, [.ref sh, .int (zI lc), .ref ru, .ref tr, .ref se])), zQ cL sh 6 sf]) hP hD [0, 1] [] rfl rfl (by decide) (by decide) hk1 hFc hP1 hD1
  have hP : va_P (dC, dI) vwCl [(sl, .inr (5, [.ref sh, .int (zI lc), .ref ru, .ref tr, .ref se])), zQ cL sh 6 sf] H1 := hP.sub [0, 1] rfl
  have hD : va_D A [(sl, .inr (5, [.ref sh, .int (zI lc), .ref ru, .ref tr, .ref se])), zQ cL sh 6 sf] := hD.sub [0, 1] (by decide) rfl
  exact vx_out (fun x h => (hnt x h).elim) hlocks hc9 hv9 hf9 (fun t9 ht9 hvm9 => ⟨(), trivial, ⟨rfl, by rw [ht9]; exact hP, va_K.moved hvm9 hK, hD⟩, hS.F ht9⟩) hS.2.2 (Nat.le_of_ble_eq_true rfl) (Nat.le_of_ble_eq_true rfl)
set_option maxHeartbeats 4000000 in
set_option maxRecDepth 100000 in
theorem x_X5_grow_xb (l : Launch) (hfl : l.stackTraces = false) (dC : Nat → ClassId) (dI : Nat → Nat → Nat) (cI cZ cL cT cJ : ClassId) (sz : Nat) (sl : Nat) (sh : Nat) (lc : Int) (ru : Nat) (tr : Nat) (se : Nat) (sf : Nat → Option Nat) (L : Int) (k : Nat) (lv : Nat) (sd : Int) (gk : L = (k : Int) ∧ k < 6) (gf : sf k = some lv) (r9s : -2147483648 ≤ sd ∧ sd < 2147483648) (gq : ¬ (0 ≤ sd ∧ sd ≤ 65535)) : vx_Met l yX5_grow wsX5_grow ({ frames := 6, cells := 1, slots := 6, locals := 90 }) (zPx (dC, dI) (zT cI cZ cL cT cJ) sz [.ref sl, .int (zI L), .int (zI sd)] [(sl, .inr (5, [.ref sh, .int (zI lc), .ref ru, .ref tr, .ref se])), zQ cL sh 6 sf]) (va_Qi (S := Unit) (fun _ _ => False) (fun _ _ => True) (va_A [(sl, .inr (5, [.ref sh, .int (zI lc), .ref ru, .ref tr, .ref se])), zQ cL sh 6 sf] sz)) (vx_X (S := Unit) (fun _ => True) (zBX (dC, dI) (zT cI cZ cL cT cJ) (va_A [(sl, .inr (5, [.ref sh, .int (zI lc), .ref ru, .ref tr, .ref se])), zQ cL sh 6 sf] sz) "java/lang/IllegalArgumentException" [(sl, .inr (5, [.ref sh, .int (zI lc), .ref ru, .ref tr, .ref se])), zQ cL sh 6 sf]) (va_A [(sl, .inr (5, [.ref sh, .int (zI lc), .ref ru, .ref tr, .ref se])), zQ cL sh 6 sf] sz)) 1 6 (va_A [(sl, .inr (5, [.ref sh, .int (zI lc), .ref ru, .ref tr, .ref se])), zQ cL sh 6 sf] sz) := by
  refine vx_ofW (cc := cX5_grow) (maxL := 4) (ret := (some .int)) (by decide) rfl ?_
  intro p e s m args below meth c s₁ B hml hnt hv
  obtain ⟨rfl, hsz, hP, hK, hD0, hEx⟩ := hv
  have hx := B.exec
  have hb := B.bytes
  have hr := B.returns
  have hts := atoms_spec (ws := wsX5_grow) B.pre
  have hown : s.vm.findClass RX5 = some m.cls := findClass_of_methodNamed B.named
  have hlocks := B.notSynchronized
  subst hsz
  have hD := hD0.self (sz := s.heap.size)
  generalize hAe : va_A [(sl, .inr (5, [.ref sh, .int (zI lc), .ref ru, .ref tr, .ref se])), zQ cL sh 6 sf] s.heap.size = A at hD hEx ⊢
  have hA : ∀ q : Nat, s.heap.size ≤ q → A q := fun q h => by rw [← hAe]; exact Or.inr h
  clear hAe hD0
  have hS : va_S A s.heap s.heap [] := va_S.rf
  have hP : va_P (dC, dI) vwCl [(sl, .inr (5, [.ref sh, .int (zI lc), .ref ru, .ref tr, .ref se])), zQ cL sh 6 sf] s.heap := hP
  have hl := lv_entry ([.ref sl, .int (zI L), .int (zI sd)]) (n := 4) (Nat.le_of_ble_eq_true rfl)
  rw [lg_entry_eq]
  generalize (lg_sl ([.ref sl, .int (zI L), .int (zI sd)]) ++ List.replicate (4 - (lg_sl ([.ref sl, .int (zI L), .int (zI sd)])).length) Slot.unset).toArray = ls at hl ⊢
  have hl : lv_has ls 4 [(0, .ref sl), (1, .int (zI L)), (2, .int (zI sd))] := hl
  refine lv_aload_n hx hb dX5_grow_0 rfl (lv_at hl 0 rfl) ?_
  refine lv_iload_n hx hb dX5_grow_1 rfl (lv_at hl 1 rfl) ?_
  have hPc := hP.sub (ws' := [(sl, .inr (5, [.ref sh, .int (zI lc), .ref ru, .ref tr, .ref se])), zQ cL sh 6 sf]) [0, 1] rfl
  have hDc := hD.sub (ws' := [(sl, .inr (5, [.ref sh, .int (zI lc), .ref ru, .ref tr, .ref se])), zQ cL sh 6 sf]) [0, 1] (by decide) rfl
  have hFc := va_free (wc := [(sl, .inr (5, [.ref sh, .int (zI lc), .ref ru, .ref tr, .ref se])), zQ cL sh 6 sf]) hD hS hA [0, 1] rfl
  refine va_callq (va_runV (As := [.int (zI L)]) (rest := []) ⟨hx, hb, hml, hown, hts⟩ (c_X5_levelNumbered l dC dI cI cZ cL cT cJ s.heap.size sl sh lc ru tr se sf L k lv (by first | assumption | omega) (by first | assumption | omega)) (cwV 1 hts gX5_grow_X5_levelNumbered rfl rfl rfl (by decide +kernel) ⟨Nat.le_of_ble_eq_true rfl, Nat.le_of_ble_eq_true rfl⟩) ⟨zP_blind, va_recv hK hPc (ci := 5) (q0 := 0) rfl rfl, zP_pre hPc hDc hK⟩ rfl rfl hl.1 rfl (lv_room (Nat.le_of_ble_eq_true rfl)) dX5_grow_2 ⟨Nat.le_of_ble_eq_true rfl, Nat.le_of_ble_eq_true rfl⟩) hS (fun q _ h => hFc q h) hFc (fun r_1 u_1 t H1 locs ht hvm hw hB hz1 hk1 hS => ?_)
  obtain ⟨hP1, hK1, hD1⟩ := hB
  rw [ht] at hP1
  have hP1 : va_P (dC, dI) vwCl [(sl, .inr (5, [.ref sh, .int (zI lc), .ref ru, .ref tr, .ref se])), zQ cL sh 6 sf] H1 := hP1
  obtain ⟨hP, hD⟩ := va_join (wr := []) (w1 := [(sl, .inr (5, [.ref sh, .int (zI lc), .ref ru, .ref tr, .ref se])), zQ cL sh 6 sf]) hP hD [0, 1] [] rfl rfl (by decide) (by decide) hk1 hFc hP1 hD1
  clear hP1 hD1 hk1 hFc hPc hDc hz1
  generalize H1 = H at hP hS ⊢
  have hP : va_P (dC, dI) vwCl [(sl, .inr (5, [.ref sh, .int (zI lc), .ref ru, .ref tr, .ref se])), zQ cL sh 6 sf] H := hP.sub [0, 1] rfl
  have hD : va_D A [(sl, .inr (5, [.ref sh, .int (zI lc), .ref ru, .ref tr, .ref se])), zQ cL sh 6 sf] := hD.sub [0, 1] (by decide) rfl
  clear hK1 hvm
  obtain ⟨rfl, po_2⟩ := hw
  refine W.eq (g2 := F0 m 5 ls [.ref lv]) rfl ?_
  refine lv_astore_n (lv' := [(3, .ref lv), (0, .ref sl), (1, .int (zI L)), (2, .int (zI sd))]) hx hb dX5_grow_5 rfl hl (by decide) rfl (fun ls hl => ?_)
  refine lv_iload_n hx hb dX5_grow_6 rfl (lv_at hl 3 rfl) ?_
  refine lz_if_lt (tgt := 16) hx hb dX5_grow_7 (by decide) (by omega) (fun c_3 => ?_) (fun c_3 => ?_)
  ·
    obtain ⟨sa, hsa⟩ := zEx_s102 hEx
    exact vx_throwS (A := A) hx hb hfl (own := RX5) (cls := "java/lang/IllegalArgumentException") (text := "seed is out of range") (names := ["java/lang/RuntimeException", "java/lang/Exception"]) (ik := 40) (is := 102) (ic := 44) hown (by decide) (by decide) (hts (.classLink RX5 40 "java/lang/IllegalArgumentException") (by decide +kernel)) (hts (.initialized "java/lang/IllegalArgumentException") (by decide +kernel)) hsa (vx_hat (fun w h => hts w (List.mem_cons_of_mem _ (List.mem_append_left _ (List.mem_append_right _ h)))) zg_44 (vx_c (va_Nw.use rfl hEx.2.2.1) (vx_c (va_Nw.use rfl hEx.2.2.2.2.2.1) (vx_c (va_Nw.use rfl hEx.2.2.2.2.2.2.1) (vx_c (va_Nw.use rfl hEx.2.2.2.2.2.2.2.1) vx_n))))) zo_44_40 hEx.1 hEx.2.1 hS (by rw [hml]; exact hl.1) dX5_grow_16 dX5_grow_19 dX5_grow_20 dX5_grow_22 dX5_grow_25 (fun x h => (hnt x h).elim) (Nat.le_of_ble_eq_true rfl) (Nat.le_of_ble_eq_true rfl) (Nat.le_of_ble_eq_true rfl) (Nat.le_of_ble_eq_true rfl) hlocks (fun t hvm hz hq => ⟨(), trivial, ⟨rfl, va_P.kept hP (fun k q hk => hq q.1 (hP k q hk).lt), va_K.moved hvm hK, hD⟩, Nat.le_trans hS.1 hz, fun q h1 h2 => (hq q (Nat.lt_of_lt_of_le h1 hS.1)).trans (hS.2.1 q h1 h2)⟩) hS.2.2 (Nat.le_of_ble_eq_true rfl) (Nat.le_of_ble_eq_true rfl)
  ·
    refine lv_iload_n hx hb dX5_grow_10 rfl (lv_at hl 3 rfl) ?_
    refine lv_ldc (v := zI 65535) hx hb hown (hts (.constant RX5 101 (65535)) (by decide +kernel)) dX5_grow_11 ?_
    refine lz_icmp_le (tgt := 26) hx hb dX5_grow_13 (by decide) (by omega) ⟨by decide, by decide⟩ (fun c_4 => ?_) (fun c_4 => ?_)
    · exfalso; omega
    ·
      obtain ⟨sa, hsa⟩ := zEx_s102 hEx
      exact vx_throwS (A := A) hx hb hfl (own := RX5) (cls := "java/lang/IllegalArgumentException") (text := "seed is out of range") (names := ["java/lang/RuntimeException", "java/lang/Exception"]) (ik := 40) (is := 102) (ic := 44) hown (by decide) (by decide) (hts (.classLink RX5 40 "java/lang/IllegalArgumentException") (by decide +kernel)) (hts (.initialized "java/lang/IllegalArgumentException") (by decide +kernel)) hsa (vx_hat (fun w h => hts w (List.mem_cons_of_mem _ (List.mem_append_left _ (List.mem_append_right _ h)))) zg_44 (vx_c (va_Nw.use rfl hEx.2.2.1) (vx_c (va_Nw.use rfl hEx.2.2.2.2.2.1) (vx_c (va_Nw.use rfl hEx.2.2.2.2.2.2.1) (vx_c (va_Nw.use rfl hEx.2.2.2.2.2.2.2.1) vx_n))))) zo_44_40 hEx.1 hEx.2.1 hS (by rw [hml]; exact hl.1) dX5_grow_16 dX5_grow_19 dX5_grow_20 dX5_grow_22 dX5_grow_25 (fun x h => (hnt x h).elim) (Nat.le_of_ble_eq_true rfl) (Nat.le_of_ble_eq_true rfl) (Nat.le_of_ble_eq_true rfl) (Nat.le_of_ble_eq_true rfl) hlocks (fun t hvm hz hq => ⟨(), trivial, ⟨rfl, va_P.kept hP (fun k q hk => hq q.1 (hP k q hk).lt), va_K.moved hvm hK, hD⟩, Nat.le_trans hS.1 hz, fun q h1 h2 => (hq q (Nat.lt_of_lt_of_le h1 hS.1)).trans (hS.2.1 q h1 h2)⟩) hS.2.2 (Nat.le_of_ble_eq_true rfl) (Nat.le_of_ble_eq_true rfl)
set_option maxHeartbeats 4000000 in
set_option maxRecDepth 100000 in
theorem x_X5_cell_xa (l : Launch) (hfl : l.stackTraces = false) (dC : Nat → ClassId) (dI : Nat → Nat → Nat) (cI cZ cL cT cJ : ClassId) (sz : Nat) (sl : Nat) (sh : Nat) (lc : Int) (ru : Nat) (tr : Nat) (se : Nat) (sf : Nat → Option Nat) (L : Int) (cx : Int) (cy : Int) (gr9 : -2147483648 ≤ L ∧ L < 2147483648) (gb : L < 0 ∨ 6 ≤ L ∨ ∃ k : Nat, L = (k : Int) ∧ k < 6 ∧ sf k = none) : vx_Met l yX5_cell wsX5_cell ({ frames := 8, cells := 1, slots := 6, locals := 136 }) (zPx (dC, dI) (zT cI cZ cL cT cJ) sz [.ref sl, .int (zI L), .int (zI cx), .int (zI cy)] [(sl, .inr (5, [.ref sh, .int (zI lc), .ref ru, .ref tr, .ref se])), zQ cL sh 6 sf]) (va_Qi (S := Unit) (fun _ _ => False) (fun _ _ => True) (va_A [(sl, .inr (5, [.ref sh, .int (zI lc), .ref ru, .ref tr, .ref se])), zQ cL sh 6 sf] sz)) (vx_X (S := Unit) (fun _ => True) (zBX (dC, dI) (zT cI cZ cL cT cJ) (va_A [(sl, .inr (5, [.ref sh, .int (zI lc), .ref ru, .ref tr, .ref se])), zQ cL sh 6 sf] sz) "java/lang/IndexOutOfBoundsException" [(sl, .inr (5, [.ref sh, .int (zI lc), .ref ru, .ref tr, .ref se])), zQ cL sh 6 sf]) (va_A [(sl, .inr (5, [.ref sh, .int (zI lc), .ref ru, .ref tr, .ref se])), zQ cL sh 6 sf] sz)) 1 6 (va_A [(sl, .inr (5, [.ref sh, .int (zI lc), .ref ru, .ref tr, .ref se])), zQ cL sh 6 sf] sz) := by
  refine vx_ofW (cc := cX5_cell) (maxL := 4) (ret := (some .int)) (by decide) rfl ?_
  intro p e s m args below meth c s₁ B hml hnt hv
  obtain ⟨rfl, hsz, hP, hK, hD0, hEx⟩ := hv
  have hx := B.exec
  have hb := B.bytes
  have hr := B.returns
  have hts := atoms_spec (ws := wsX5_cell) B.pre
  have hown : s.vm.findClass RX5 = some m.cls := findClass_of_methodNamed B.named
  have hlocks := B.notSynchronized
  subst hsz
  have hD := hD0.self (sz := s.heap.size)
  generalize hAe : va_A [(sl, .inr (5, [.ref sh, .int (zI lc), .ref ru, .ref tr, .ref se])), zQ cL sh 6 sf] s.heap.size = A at hD hEx ⊢
  have hA : ∀ q : Nat, s.heap.size ≤ q → A q := fun q h => by rw [← hAe]; exact Or.inr h
  clear hAe hD0
  have hS : va_S A s.heap s.heap [] := va_S.rf
  have hP : va_P (dC, dI) vwCl [(sl, .inr (5, [.ref sh, .int (zI lc), .ref ru, .ref tr, .ref se])), zQ cL sh 6 sf] s.heap := hP
  have hl := lv_entry ([.ref sl, .int (zI L), .int (zI cx), .int (zI cy)]) (n := 4) (Nat.le_of_ble_eq_true rfl)
  rw [lg_entry_eq]
  generalize (lg_sl ([.ref sl, .int (zI L), .int (zI cx), .int (zI cy)]) ++ List.replicate (4 - (lg_sl ([.ref sl, .int (zI L), .int (zI cx), .int (zI cy)])).length) Slot.unset).toArray = ls at hl ⊢
  have hl : lv_has ls 4 [(0, .ref sl), (1, .int (zI L)), (2, .int (zI cx)), (3, .int (zI cy))] := hl
  refine lv_aload_n hx hb dX5_cell_0 rfl (lv_at hl 0 rfl) ?_
  refine lv_iload_n hx hb dX5_cell_1 rfl (lv_at hl 1 rfl) ?_
  refine lv_iload_n hx hb dX5_cell_2 rfl (lv_at hl 2 rfl) ?_
  refine lv_iload_n hx hb dX5_cell_3 rfl (lv_at hl 3 rfl) ?_
  have hPc := hP.sub (ws' := [(sl, .inr (5, [.ref sh, .int (zI lc), .ref ru, .ref tr, .ref se])), zQ cL sh 6 sf]) [0, 1] rfl
  have hDc := hD.sub (ws' := [(sl, .inr (5, [.ref sh, .int (zI lc), .ref ru, .ref tr, .ref se])), zQ cL sh 6 sf]) [0, 1] (by decide) rfl
  have hFc := va_free (wc := [(sl, .inr (5, [.ref sh, .int (zI lc), .ref ru, .ref tr, .ref se])), zQ cL sh 6 sf]) hD hS hA [0, 1] rfl
  refine vx_callq (vx_runV (As := [.int (zI L), .int (zI cx), .int (zI cy)]) (rest := []) ⟨hx, hb, hml, hown, hts⟩ (x_X5_levelWithCell_xa l hfl dC dI cI cZ cL cT cJ s.heap.size sl sh lc ru tr se sf L cx cy (by first | assumption | omega) (by first | assumption | omega)) (cwV 3 hts gX5_cell_X5_levelWithCell rfl rfl rfl (by decide +kernel) ⟨Nat.le_of_ble_eq_true rfl, Nat.le_of_ble_eq_true rfl⟩) ⟨zPx_blind, va_recv hK hPc (ci := 5) (q0 := 0) rfl rfl, zPx_pre hPc hDc hK hEx hS hFc⟩ rfl rfl hl.1 rfl (lv_room (Nat.le_of_ble_eq_true rfl)) dX5_cell_4 ⟨Nat.le_of_ble_eq_true rfl, Nat.le_of_ble_eq_true rfl⟩) hS (fun q _ h => hFc q h) hFc (fun q _ h => hFc q h) (fun E9 ce9 q9 u t H1 locs ht hvm _ hB hz1 hk1 hS hc9 hv9 hf9 => ?_) (fun r u t H1 locs ht hvm hw => hw.elim)
  obtain ⟨rfl, hP1, hK1, hD1⟩ := hB
  rw [ht] at hP1
  obtain ⟨hP, hD⟩ := va_join (wr := []) (w1 := [(sl, .inr (5, [.ref sh, .int (zI lc), .ref ru, .ref tr, .ref se])), zQ cL sh 6 sf]) hP hD [0, 1] [] rfl rfl (by decide) (by decide) hk1 hFc hP1 hD1
  have hP : va_P (dC, dI) vwCl [(sl, .inr (5, [.ref sh, .int (zI lc), .ref ru, .ref tr, .ref se])), zQ cL sh 6 sf] H1 := hP.sub [0, 1] rfl
  have hD : va_D A [(sl, .inr (5, [.ref sh, .int (zI lc), .ref ru, .ref tr, .ref se])), zQ cL sh 6 sf] := hD.sub [0, 1] (by decide) rfl
  exact vx_out (fun x h => (hnt x h).elim) hlocks hc9 hv9 hf9 (fun t9 ht9 hvm9 => ⟨(), trivial, ⟨rfl, by rw [ht9]; exact hP, va_K.moved hvm9 hK, hD⟩, hS.F ht9⟩) hS.2.2 (Nat.le_of_ble_eq_true rfl) (Nat.le_of_ble_eq_true rfl)
set_option maxHeartbeats 4000000 in
set_option maxRecDepth 100000 in
theorem x_X5_cell_xb (l : Launch) (hfl : l.stackTraces = false) (dC : Nat → ClassId) (dI : Nat → Nat → Nat) (cI cZ cL cT cJ : ClassId) (sz : Nat) (sl : Nat) (sh : Nat) (lc : Int) (ru : Nat) (tr : Nat) (se : Nat) (sf : Nat → Option Nat) (L : Int) (k : Nat) (lv : Nat) (w : Int) (h : Int) (ka : Nat) (ta : Nat) (sx : Int) (sy : Int) (fx : Int) (fy : Int) (lf : Int) (un : Int) (K : Int → Int) (cx : Int) (cy : Int) (gk : L = (k : Int) ∧ k < 6) (gf : sf k = some lv) (gw : 0 < w ∧ w ≤ 12) (gh : 0 < h ∧ h ≤ 8) (gK : Kin K) (r9x : -2147483648 ≤ cx ∧ cx < 2147483648) (r9y : -2147483648 ≤ cy ∧ cy < 2147483648) (gq : kd K w h cx cy = -1) : vx_Met l yX5_cell wsX5_cell ({ frames := 7, cells := 1, slots := 6, locals := 114 }) (zPx (dC, dI) (zT cI cZ cL cT cJ) sz [.ref sl, .int (zI L), .int (zI cx), .int (zI cy)] [(sl, .inr (5, [.ref sh, .int (zI lc), .ref ru, .ref tr, .ref se])), zQ cL sh 6 sf, (lv, .inr (1, [.int (zI w), .int (zI h), .ref ka, .ref ta, .int (zI sx), .int (zI sy), .int (zI fx), .int (zI fy), .int (zI lf), .int (zI un)])), zA cI ka 96 K]) (va_Qi (S := Unit) (fun _ _ => False) (fun _ _ => True) (va_A [(sl, .inr (5, [.ref sh, .int (zI lc), .ref ru, .ref tr, .ref se])), zQ cL sh 6 sf, (lv, .inr (1, [.int (zI w), .int (zI h), .ref ka, .ref ta, .int (zI sx), .int (zI sy), .int (zI fx), .int (zI fy), .int (zI lf), .int (zI un)])), zA cI ka 96 K] sz)) (vx_X (S := Unit) (fun _ => True) (zBX (dC, dI) (zT cI cZ cL cT cJ) (va_A [(sl, .inr (5, [.ref sh, .int (zI lc), .ref ru, .ref tr, .ref se])), zQ cL sh 6 sf, (lv, .inr (1, [.int (zI w), .int (zI h), .ref ka, .ref ta, .int (zI sx), .int (zI sy), .int (zI fx), .int (zI fy), .int (zI lf), .int (zI un)])), zA cI ka 96 K] sz) "java/lang/IndexOutOfBoundsException" [(sl, .inr (5, [.ref sh, .int (zI lc), .ref ru, .ref tr, .ref se])), zQ cL sh 6 sf, (lv, .inr (1, [.int (zI w), .int (zI h), .ref ka, .ref ta, .int (zI sx), .int (zI sy), .int (zI fx), .int (zI fy), .int (zI lf), .int (zI un)])), zA cI ka 96 K]) (va_A [(sl, .inr (5, [.ref sh, .int (zI lc), .ref ru, .ref tr, .ref se])), zQ cL sh 6 sf, (lv, .inr (1, [.int (zI w), .int (zI h), .ref ka, .ref ta, .int (zI sx), .int (zI sy), .int (zI fx), .int (zI fy), .int (zI lf), .int (zI un)])), zA cI ka 96 K] sz)) 1 6 (va_A [(sl, .inr (5, [.ref sh, .int (zI lc), .ref ru, .ref tr, .ref se])), zQ cL sh 6 sf, (lv, .inr (1, [.int (zI w), .int (zI h), .ref ka, .ref ta, .int (zI sx), .int (zI sy), .int (zI fx), .int (zI fy), .int (zI lf), .int (zI un)])), zA cI ka 96 K] sz) := by
  refine vx_ofW (cc := cX5_cell) (maxL := 4) (ret := (some .int)) (by decide) rfl ?_
  intro p e s m args below meth c s₁ B hml hnt hv
  obtain ⟨rfl, hsz, hP, hK, hD0, hEx⟩ := hv
  have hx := B.exec
  have hb := B.bytes
  have hr := B.returns
  have hts := atoms_spec (ws := wsX5_cell) B.pre
  have hown : s.vm.findClass RX5 = some m.cls := findClass_of_methodNamed B.named
  have hlocks := B.notSynchronized
  subst hsz
  have hD := hD0.self (sz := s.heap.size)
  generalize hAe : va_A [(sl, .inr (5, [.ref sh, .int (zI lc), .ref ru, .ref tr, .ref se])), zQ cL sh 6 sf, (lv, .inr (1, [.int (zI w), .int (zI h), .ref ka, .ref ta, .int (zI sx), .int (zI sy), .int (zI fx), .int (zI fy), .int (zI lf), .int (zI un)])), zA cI ka 96 K] s.heap.size = A at hD hEx ⊢
  have hA : ∀ q : Nat, s.heap.size ≤ q → A q := fun q h => by rw [← hAe]; exact Or.inr h
  clear hAe hD0
  have hS : va_S A s.heap s.heap [] := va_S.rf
  have hP : va_P (dC, dI) vwCl [(sl, .inr (5, [.ref sh, .int (zI lc), .ref ru, .ref tr, .ref se])), zQ cL sh 6 sf, (lv, .inr (1, [.int (zI w), .int (zI h), .ref ka, .ref ta, .int (zI sx), .int (zI sy), .int (zI fx), .int (zI fy), .int (zI lf), .int (zI un)])), zA cI ka 96 K] s.heap := hP
  have hl := lv_entry ([.ref sl, .int (zI L), .int (zI cx), .int (zI cy)]) (n := 4) (Nat.le_of_ble_eq_true rfl)
  rw [lg_entry_eq]
  generalize (lg_sl ([.ref sl, .int (zI L), .int (zI cx), .int (zI cy)]) ++ List.replicate (4 - (lg_sl ([.ref sl, .int (zI L), .int (zI cx), .int (zI cy)])).length) Slot.unset).toArray = ls at hl ⊢
  have hl : lv_has ls 4 [(0, .ref sl), (1, .int (zI L)), (2, .int (zI cx)), (3, .int (zI cy))] := hl
  refine lv_aload_n hx hb dX5_cell_0 rfl (lv_at hl 0 rfl) ?_
  refine lv_iload_n hx hb dX5_cell_1 rfl (lv_at hl 1 rfl) ?_
  refine lv_iload_n hx hb dX5_cell_2 rfl (lv_at hl 2 rfl) ?_
  refine lv_iload_n hx hb dX5_cell_3 rfl (lv_at hl 3 rfl) ?_
  have hPc := hP.sub (ws' := [(sl, .inr (5, [.ref sh, .int (zI lc), .ref ru, .ref tr, .ref se])), zQ cL sh 6 sf, (lv, .inr (1, [.int (zI w), .int (zI h), .ref ka, .ref ta, .int (zI sx), .int (zI sy), .int (zI fx), .int (zI fy), .int (zI lf), .int (zI un)])), zA cI ka 96 K]) [0, 1, 2, 3] rfl
  have hDc := hD.sub (ws' := [(sl, .inr (5, [.ref sh, .int (zI lc), .ref ru, .ref tr, .ref se])), zQ cL sh 6 sf, (lv, .inr (1, [.int (zI w), .int (zI h), .ref ka, .ref ta, .int (zI sx), .int (zI sy), .int (zI fx), .int (zI fy), .int (zI lf), .int (zI un)])), zA cI ka 96 K]) [0, 1, 2, 3] (by decide) rfl
  have hFc := va_free (wc := [(sl, .inr (5, [.ref sh, .int (zI lc), .ref ru, .ref tr, .ref se])), zQ cL sh 6 sf, (lv, .inr (1, [.int (zI w), .int (zI h), .ref ka, .ref ta, .int (zI sx), .int (zI sy), .int (zI fx), .int (zI fy), .int (zI lf), .int (zI un)])), zA cI ka 96 K]) hD hS hA [0, 1, 2, 3] rfl
  refine vx_callq (vx_runV (As := [.int (zI L), .int (zI cx), .int (zI cy)]) (rest := []) ⟨hx, hb, hml, hown, hts⟩ (x_X5_levelWithCell_xb l hfl dC dI cI cZ cL cT cJ s.heap.size sl sh lc ru tr se sf L k lv w h ka ta sx sy fx fy lf un K cx cy (by first | assumption | omega) (by first | assumption | omega) (by first | assumption | omega) (by first | assumption | omega) (by first | assumption | omega) (by first | assumption | omega) (by first | assumption | omega) (by first | assumption | omega)) (cwV 3 hts gX5_cell_X5_levelWithCell rfl rfl rfl (by decide +kernel) ⟨Nat.le_of_ble_eq_true rfl, Nat.le_of_ble_eq_true rfl⟩) ⟨zPx_blind, va_recv hK hPc (ci := 5) (q0 := 0) rfl rfl, zPx_pre hPc hDc hK hEx hS hFc⟩ rfl rfl hl.1 rfl (lv_room (Nat.le_of_ble_eq_true rfl)) dX5_cell_4 ⟨Nat.le_of_ble_eq_true rfl, Nat.le_of_ble_eq_true rfl⟩) hS (fun q _ h => hFc q h) hFc (fun q _ h => hFc q h) (fun E9 ce9 q9 u t H1 locs ht hvm _ hB hz1 hk1 hS hc9 hv9 hf9 => ?_) (fun r u t H1 locs ht hvm hw => hw.elim)
  obtain ⟨rfl, hP1, hK1, hD1⟩ := hB
  rw [ht] at hP1
  obtain ⟨hP, hD⟩ := va_join (wr := []) (w1 := [(sl, .inr (5, [.ref sh, .int (zI lc), .ref ru, .ref tr, .ref se])), zQ cL sh 6 sf, (lv, .inr (1, [.int (zI w), .int (zI h), .ref ka, .ref ta, .int (zI sx), .int (zI sy), .int (zI fx), .int (zI fy), .int (zI lf), .int (zI un)])), zA cI ka 96 K]) hP hD [0, 1, 2, 3] [] rfl rfl (by decide) (by decide) hk1 hFc hP1 hD1
  have hP : va_P (dC, dI) vwCl [(sl, .inr (5, [.ref sh, .int (zI lc), .ref ru, .ref tr, .ref se])), zQ cL sh 6 sf, (lv, .inr (1, [.int (zI w), .int (zI h), .ref ka, .ref ta, .int (zI sx), .int (zI sy), .int (zI fx), .int (zI fy), .int (zI lf), .int (zI un)])), zA cI ka 96 K] H1 := hP.sub [0, 1, 2, 3] rfl
  have hD : va_D A [(sl, .inr (5, [.ref sh, .int (zI lc), .ref ru, .ref tr, .ref se])), zQ cL sh 6 sf, (lv, .inr (1, [.int (zI w), .int (zI h), .ref ka, .ref ta, .int (zI sx), .int (zI sy), .int (zI fx), .int (zI fy), .int (zI lf), .int (zI un)])), zA cI ka 96 K] := hD.sub [0, 1, 2, 3] (by decide) rfl
  exact vx_out (fun x h => (hnt x h).elim) hlocks hc9 hv9 hf9 (fun t9 ht9 hvm9 => ⟨(), trivial, ⟨rfl, by rw [ht9]; exact hP, va_K.moved hvm9 hK, hD⟩, hS.F ht9⟩) hS.2.2 (Nat.le_of_ble_eq_true rfl) (Nat.le_of_ble_eq_true rfl)
set_option maxHeartbeats 4000000 in
set_option maxRecDepth 100000 in
theorem x_X5_solve_xa (l : Launch) (hfl : l.stackTraces = false) (dC : Nat → ClassId) (dI : Nat → Nat → Nat) (cI cZ cL cT cJ : ClassId) (sz : Nat) (sl : Nat) (sh : Nat) (lc : Int) (ru : Nat) (tr : Nat) (se : Nat) (sf : Nat → Option Nat) (L : Int) (gr9 : -2147483648 ≤ L ∧ L < 2147483648) (gb : L < 0 ∨ 6 ≤ L ∨ ∃ k : Nat, L = (k : Int) ∧ k < 6 ∧ sf k = none) : vx_Met l yX5_solve wsX5_solve ({ frames := 7, cells := 1, slots := 6, locals := 122 }) (zPx (dC, dI) (zT cI cZ cL cT cJ) sz [.ref sl, .int (zI L)] [(sl, .inr (5, [.ref sh, .int (zI lc), .ref ru, .ref tr, .ref se])), zQ cL sh 6 sf]) (va_Qi (S := Unit) (fun _ _ => False) (fun _ _ => True) (va_A [(sl, .inr (5, [.ref sh, .int (zI lc), .ref ru, .ref tr, .ref se])), zQ cL sh 6 sf] sz)) (vx_X (S := Unit) (fun _ => True) (zBX (dC, dI) (zT cI cZ cL cT cJ) (va_A [(sl, .inr (5, [.ref sh, .int (zI lc), .ref ru, .ref tr, .ref se])), zQ cL sh 6 sf] sz) "java/lang/IndexOutOfBoundsException" [(sl, .inr (5, [.ref sh, .int (zI lc), .ref ru, .ref tr, .ref se])), zQ cL sh 6 sf]) (va_A [(sl, .inr (5, [.ref sh, .int (zI lc), .ref ru, .ref tr, .ref se])), zQ cL sh 6 sf] sz)) 1 6 (va_A [(sl, .inr (5, [.ref sh, .int (zI lc), .ref ru, .ref tr, .ref se])), zQ cL sh 6 sf] sz) := by
  refine vx_ofW (cc := cX5_solve) (maxL := 3) (ret := (some .int)) (by decide) rfl ?_
  intro p e s m args below meth c s₁ B hml hnt hv
  obtain ⟨rfl, hsz, hP, hK, hD0, hEx⟩ := hv
  have hx := B.exec
  have hb := B.bytes
  have hr := B.returns
  have hts := atoms_spec (ws := wsX5_solve) B.pre
  have hown : s.vm.findClass RX5 = some m.cls := findClass_of_methodNamed B.named
  have hlocks := B.notSynchronized
  subst hsz
  have hD := hD0.self (sz := s.heap.size)
  generalize hAe : va_A [(sl, .inr (5, [.ref sh, .int (zI lc), .ref ru, .ref tr, .ref se])), zQ cL sh 6 sf] s.heap.size = A at hD hEx ⊢
  have hA : ∀ q : Nat, s.heap.size ≤ q → A q := fun q h => by rw [← hAe]; exact Or.inr h
  clear hAe hD0
  have hS : va_S A s.heap s.heap [] := va_S.rf
  have hP : va_P (dC, dI) vwCl [(sl, .inr (5, [.ref sh, .int (zI lc), .ref ru, .ref tr, .ref se])), zQ cL sh 6 sf] s.heap := hP
  have f_29 := hts (.fieldLink RX5 29 "SpringLevels" "trial" "LSpringLevels$Hero;") (by decide +kernel)
  have f_36 := hts (.fieldLink RX5 36 "SpringLevels" "search" "LSpringLevels$Search;") (by decide +kernel)
  have f_119 := hts (.fieldLink RX5 119 "SpringLevels$Search" "leastFrames" "I") (by decide +kernel)
  have f_122 := hts (.fieldLink RX5 122 "SpringLevels$Level" "leastFrames" "I") (by decide +kernel)
  have i_1 : ∀ w ∈ wsX10, w ∈ wsX5_solve := by decide +kernel
  have i_3 : ∀ w ∈ wsX30, w ∈ wsX5_solve := by decide +kernel
  have i_5 : ∀ w ∈ wsX50, w ∈ wsX5_solve := by decide +kernel
  have hl := lv_entry ([.ref sl, .int (zI L)]) (n := 3) (Nat.le_of_ble_eq_true rfl)
  rw [lg_entry_eq]
  generalize (lg_sl ([.ref sl, .int (zI L)]) ++ List.replicate (3 - (lg_sl ([.ref sl, .int (zI L)])).length) Slot.unset).toArray = ls at hl ⊢
  have hl : lv_has ls 3 [(0, .ref sl), (1, .int (zI L))] := hl
  refine lv_aload_n hx hb dX5_solve_0 rfl (lv_at hl 0 rfl) ?_
  refine lv_iload_n hx hb dX5_solve_1 rfl (lv_at hl 1 rfl) ?_
  have hPc := hP.sub (ws' := [(sl, .inr (5, [.ref sh, .int (zI lc), .ref ru, .ref tr, .ref se])), zQ cL sh 6 sf]) [0, 1] rfl
  have hDc := hD.sub (ws' := [(sl, .inr (5, [.ref sh, .int (zI lc), .ref ru, .ref tr, .ref se])), zQ cL sh 6 sf]) [0, 1] (by decide) rfl
  have hFc := va_free (wc := [(sl, .inr (5, [.ref sh, .int (zI lc), .ref ru, .ref tr, .ref se])), zQ cL sh 6 sf]) hD hS hA [0, 1] rfl
  refine vx_callq (vx_runV (As := [.int (zI L)]) (rest := []) ⟨hx, hb, hml, hown, hts⟩ (x_X5_levelNumbered_x l hfl dC dI cI cZ cL cT cJ s.heap.size sl sh lc ru tr se sf L (by first | assumption | omega) (by first | assumption | omega)) (cwV 1 hts gX5_solve_X5_levelNumbered rfl rfl rfl (by decide +kernel) ⟨Nat.le_of_ble_eq_true rfl, Nat.le_of_ble_eq_true rfl⟩) ⟨zPx_blind, va_recv hK hPc (ci := 5) (q0 := 0) rfl rfl, zPx_pre hPc hDc hK hEx hS hFc⟩ rfl rfl hl.1 rfl (lv_room (Nat.le_of_ble_eq_true rfl)) dX5_solve_2 ⟨Nat.le_of_ble_eq_true rfl, Nat.le_of_ble_eq_true rfl⟩) hS (fun q _ h => hFc q h) hFc (fun q _ h => hFc q h) (fun E9 ce9 q9 u t H1 locs ht hvm _ hB hz1 hk1 hS hc9 hv9 hf9 => ?_) (fun r u t H1 locs ht hvm hw => hw.elim)
  obtain ⟨rfl, hP1, hK1, hD1⟩ := hB
  rw [ht] at hP1
  obtain ⟨hP, hD⟩ := va_join (wr := []) (w1 := [(sl, .inr (5, [.ref sh, .int (zI lc), .ref ru, .ref tr, .ref se])), zQ cL sh 6 sf]) hP hD [0, 1] [] rfl rfl (by decide) (by decide) hk1 hFc hP1 hD1
  have hP : va_P (dC, dI) vwCl [(sl, .inr (5, [.ref sh, .int (zI lc), .ref ru, .ref tr, .ref se])), zQ cL sh 6 sf] H1 := hP.sub [0, 1] rfl
  have hD : va_D A [(sl, .inr (5, [.ref sh, .int (zI lc), .ref ru, .ref tr, .ref se])), zQ cL sh 6 sf] := hD.sub [0, 1] (by decide) rfl
  exact vx_out (fun x h => (hnt x h).elim) hlocks hc9 hv9 hf9 (fun t9 ht9 hvm9 => ⟨(), trivial, ⟨rfl, by rw [ht9]; exact hP, va_K.moved hvm9 hK, hD⟩, hS.F ht9⟩) hS.2.2 (Nat.le_of_ble_eq_true rfl) (Nat.le_of_ble_eq_true rfl)
set_option maxHeartbeats 4000000 in
set_option maxRecDepth 100000 in
theorem x_X5_way_xa (l : Launch) (hfl : l.stackTraces = false) (dC : Nat → ClassId) (dI : Nat → Nat → Nat) (cI cZ cL cT cJ : ClassId) (sz : Nat) (sl : Nat) (sh : Nat) (lc : Int) (ru : Nat) (tr : Nat) (se : Nat) (sf : Nat → Option Nat) (L : Int) (gr9 : -2147483648 ≤ L ∧ L < 2147483648) (gb : L < 0 ∨ 6 ≤ L ∨ ∃ k : Nat, L = (k : Int) ∧ k < 6 ∧ sf k = none) : vx_Met l yX5_way wsX5_way ({ frames := 7, cells := 1, slots := 6, locals := 112 }) (zPx (dC, dI) (zT cI cZ cL cT cJ) sz [.ref sl, .int (zI L)] [(sl, .inr (5, [.ref sh, .int (zI lc), .ref ru, .ref tr, .ref se])), zQ cL sh 6 sf]) (va_Qi (S := Unit) (fun _ _ => False) (fun _ _ => True) (va_A [(sl, .inr (5, [.ref sh, .int (zI lc), .ref ru, .ref tr, .ref se])), zQ cL sh 6 sf] sz)) (vx_X (S := Unit) (fun _ => True) (zBX (dC, dI) (zT cI cZ cL cT cJ) (va_A [(sl, .inr (5, [.ref sh, .int (zI lc), .ref ru, .ref tr, .ref se])), zQ cL sh 6 sf] sz) "java/lang/IndexOutOfBoundsException" [(sl, .inr (5, [.ref sh, .int (zI lc), .ref ru, .ref tr, .ref se])), zQ cL sh 6 sf]) (va_A [(sl, .inr (5, [.ref sh, .int (zI lc), .ref ru, .ref tr, .ref se])), zQ cL sh 6 sf] sz)) 1 6 (va_A [(sl, .inr (5, [.ref sh, .int (zI lc), .ref ru, .ref tr, .ref se])), zQ cL sh 6 sf] sz) := by
  refine vx_ofW (cc := cX5_way) (maxL := 2) (ret := (some .int)) (by decide) rfl ?_
  intro p e s m args below meth c s₁ B hml hnt hv
  obtain ⟨rfl, hsz, hP, hK, hD0, hEx⟩ := hv
  have hx := B.exec
  have hb := B.bytes
  have hr := B.returns
  have hts := atoms_spec (ws := wsX5_way) B.pre
  have hown : s.vm.findClass RX5 = some m.cls := findClass_of_methodNamed B.named
  have hlocks := B.notSynchronized
  subst hsz
  have hD := hD0.self (sz := s.heap.size)
  generalize hAe : va_A [(sl, .inr (5, [.ref sh, .int (zI lc), .ref ru, .ref tr, .ref se])), zQ cL sh 6 sf] s.heap.size = A at hD hEx ⊢
  have hA : ∀ q : Nat, s.heap.size ≤ q → A q := fun q h => by rw [← hAe]; exact Or.inr h
  clear hAe hD0
  have hS : va_S A s.heap s.heap [] := va_S.rf
  have hP : va_P (dC, dI) vwCl [(sl, .inr (5, [.ref sh, .int (zI lc), .ref ru, .ref tr, .ref se])), zQ cL sh 6 sf] s.heap := hP
  have f_122 := hts (.fieldLink RX5 122 "SpringLevels$Level" "leastFrames" "I") (by decide +kernel)
  have i_1 : ∀ w ∈ wsX10, w ∈ wsX5_way := by decide +kernel
  have hl := lv_entry ([.ref sl, .int (zI L)]) (n := 2) (Nat.le_of_ble_eq_true rfl)
  rw [lg_entry_eq]
  generalize (lg_sl ([.ref sl, .int (zI L)]) ++ List.replicate (2 - (lg_sl ([.ref sl, .int (zI L)])).length) Slot.unset).toArray = ls at hl ⊢
  have hl : lv_has ls 2 [(0, .ref sl), (1, .int (zI L))] := hl
  refine lv_aload_n hx hb dX5_way_0 rfl (lv_at hl 0 rfl) ?_
  refine lv_iload_n hx hb dX5_way_1 rfl (lv_at hl 1 rfl) ?_
  have hPc := hP.sub (ws' := [(sl, .inr (5, [.ref sh, .int (zI lc), .ref ru, .ref tr, .ref se])), zQ cL sh 6 sf]) [0, 1] rfl
  have hDc := hD.sub (ws' := [(sl, .inr (5, [.ref sh, .int (zI lc), .ref ru, .ref tr, .ref se])), zQ cL sh 6 sf]) [0, 1] (by decide) rfl
  have hFc := va_free (wc := [(sl, .inr (5, [.ref sh, .int (zI lc), .ref ru, .ref tr, .ref se])), zQ cL sh 6 sf]) hD hS hA [0, 1] rfl
  refine vx_callq (vx_runV (As := [.int (zI L)]) (rest := []) ⟨hx, hb, hml, hown, hts⟩ (x_X5_levelNumbered_x l hfl dC dI cI cZ cL cT cJ s.heap.size sl sh lc ru tr se sf L (by first | assumption | omega) (by first | assumption | omega)) (cwV 1 hts gX5_way_X5_levelNumbered rfl rfl rfl (by decide +kernel) ⟨Nat.le_of_ble_eq_true rfl, Nat.le_of_ble_eq_true rfl⟩) ⟨zPx_blind, va_recv hK hPc (ci := 5) (q0 := 0) rfl rfl, zPx_pre hPc hDc hK hEx hS hFc⟩ rfl rfl hl.1 rfl (lv_room (Nat.le_of_ble_eq_true rfl)) dX5_way_2 ⟨Nat.le_of_ble_eq_true rfl, Nat.le_of_ble_eq_true rfl⟩) hS (fun q _ h => hFc q h) hFc (fun q _ h => hFc q h) (fun E9 ce9 q9 u t H1 locs ht hvm _ hB hz1 hk1 hS hc9 hv9 hf9 => ?_) (fun r u t H1 locs ht hvm hw => hw.elim)
  obtain ⟨rfl, hP1, hK1, hD1⟩ := hB
  rw [ht] at hP1
  obtain ⟨hP, hD⟩ := va_join (wr := []) (w1 := [(sl, .inr (5, [.ref sh, .int (zI lc), .ref ru, .ref tr, .ref se])), zQ cL sh 6 sf]) hP hD [0, 1] [] rfl rfl (by decide) (by decide) hk1 hFc hP1 hD1
  have hP : va_P (dC, dI) vwCl [(sl, .inr (5, [.ref sh, .int (zI lc), .ref ru, .ref tr, .ref se])), zQ cL sh 6 sf] H1 := hP.sub [0, 1] rfl
  have hD : va_D A [(sl, .inr (5, [.ref sh, .int (zI lc), .ref ru, .ref tr, .ref se])), zQ cL sh 6 sf] := hD.sub [0, 1] (by decide) rfl
  exact vx_out (fun x h => (hnt x h).elim) hlocks hc9 hv9 hf9 (fun t9 ht9 hvm9 => ⟨(), trivial, ⟨rfl, by rw [ht9]; exact hP, va_K.moved hvm9 hK, hD⟩, hS.F ht9⟩) hS.2.2 (Nat.le_of_ble_eq_true rfl) (Nat.le_of_ble_eq_true rfl)
set_option maxHeartbeats 4000000 in
set_option maxRecDepth 100000 in
theorem x_X5_open_xa (l : Launch) (hfl : l.stackTraces = false) (dC : Nat → ClassId) (dI : Nat → Nat → Nat) (cI cZ cL cT cJ : ClassId) (sz : Nat) (sl : Nat) (sh : Nat) (lc : Int) (ru : Nat) (tr : Nat) (se : Nat) (sf : Nat → Option Nat) (L : Int) (gr9 : -2147483648 ≤ L ∧ L < 2147483648) (gb : L < 0 ∨ 6 ≤ L ∨ ∃ k : Nat, L = (k : Int) ∧ k < 6 ∧ sf k = none) : vx_Met l yX5_open wsX5_open ({ frames := 7, cells := 1, slots := 6, locals := 112 }) (zPx (dC, dI) (zT cI cZ cL cT cJ) sz [.ref sl, .int (zI L)] [(sl, .inr (5, [.ref sh, .int (zI lc), .ref ru, .ref tr, .ref se])), zQ cL sh 6 sf]) (va_Qi (S := Unit) (fun _ _ => False) (fun _ _ => True) (va_A [(sl, .inr (5, [.ref sh, .int (zI lc), .ref ru, .ref tr, .ref se])), zQ cL sh 6 sf] sz)) (vx_X (S := Unit) (fun _ => True) (zBX (dC, dI) (zT cI cZ cL cT cJ) (va_A [(sl, .inr (5, [.ref sh, .int (zI lc), .ref ru, .ref tr, .ref se])), zQ cL sh 6 sf] sz) "java/lang/IndexOutOfBoundsException" [(sl, .inr (5, [.ref sh, .int (zI lc), .ref ru, .ref tr, .ref se])), zQ cL sh 6 sf]) (va_A [(sl, .inr (5, [.ref sh, .int (zI lc), .ref ru, .ref tr, .ref se])), zQ cL sh 6 sf] sz)) 1 6 (va_A [(sl, .inr (5, [.ref sh, .int (zI lc), .ref ru, .ref tr, .ref se])), zQ cL sh 6 sf] sz) := by
  refine vx_ofW (cc := cX5_open) (maxL := 4) (ret := (some .boolean)) (by decide) rfl ?_
  intro p e s m args below meth c s₁ B hml hnt hv
  obtain ⟨rfl, hsz, hP, hK, hD0, hEx⟩ := hv
  have hx := B.exec
  have hb := B.bytes
  have hr := B.returns
  have hts := atoms_spec (ws := wsX5_open) B.pre
  have hown : s.vm.findClass RX5 = some m.cls := findClass_of_methodNamed B.named
  have hlocks := B.notSynchronized
  subst hsz
  have hD := hD0.self (sz := s.heap.size)
  generalize hAe : va_A [(sl, .inr (5, [.ref sh, .int (zI lc), .ref ru, .ref tr, .ref se])), zQ cL sh 6 sf] s.heap.size = A at hD hEx ⊢
  have hA : ∀ q : Nat, s.heap.size ≤ q → A q := fun q h => by rw [← hAe]; exact Or.inr h
  clear hAe hD0
  have hS : va_S A s.heap s.heap [] := va_S.rf
  have hP : va_P (dC, dI) vwCl [(sl, .inr (5, [.ref sh, .int (zI lc), .ref ru, .ref tr, .ref se])), zQ cL sh 6 sf] s.heap := hP
  have f_122 := hts (.fieldLink RX5 122 "SpringLevels$Level" "leastFrames" "I") (by decide +kernel)
  have f_125 := hts (.fieldLink RX5 125 "SpringLevels$Level" "unlocked" "Z") (by decide +kernel)
  have i_1 : ∀ w ∈ wsX10, w ∈ wsX5_open := by decide +kernel
  have hl := lv_entry ([.ref sl, .int (zI L)]) (n := 4) (Nat.le_of_ble_eq_true rfl)
  rw [lg_entry_eq]
  generalize (lg_sl ([.ref sl, .int (zI L)]) ++ List.replicate (4 - (lg_sl ([.ref sl, .int (zI L)])).length) Slot.unset).toArray = ls at hl ⊢
  have hl : lv_has ls 4 [(0, .ref sl), (1, .int (zI L))] := hl
  refine lv_aload_n hx hb dX5_open_0 rfl (lv_at hl 0 rfl) ?_
  refine lv_iload_n hx hb dX5_open_1 rfl (lv_at hl 1 rfl) ?_
  have hPc := hP.sub (ws' := [(sl, .inr (5, [.ref sh, .int (zI lc), .ref ru, .ref tr, .ref se])), zQ cL sh 6 sf]) [0, 1] rfl
  have hDc := hD.sub (ws' := [(sl, .inr (5, [.ref sh, .int (zI lc), .ref ru, .ref tr, .ref se])), zQ cL sh 6 sf]) [0, 1] (by decide) rfl
  have hFc := va_free (wc := [(sl, .inr (5, [.ref sh, .int (zI lc), .ref ru, .ref tr, .ref se])), zQ cL sh 6 sf]) hD hS hA [0, 1] rfl
  refine vx_callq (vx_runV (As := [.int (zI L)]) (rest := []) ⟨hx, hb, hml, hown, hts⟩ (x_X5_levelNumbered_x l hfl dC dI cI cZ cL cT cJ s.heap.size sl sh lc ru tr se sf L (by first | assumption | omega) (by first | assumption | omega)) (cwV 1 hts gX5_open_X5_levelNumbered rfl rfl rfl (by decide +kernel) ⟨Nat.le_of_ble_eq_true rfl, Nat.le_of_ble_eq_true rfl⟩) ⟨zPx_blind, va_recv hK hPc (ci := 5) (q0 := 0) rfl rfl, zPx_pre hPc hDc hK hEx hS hFc⟩ rfl rfl hl.1 rfl (lv_room (Nat.le_of_ble_eq_true rfl)) dX5_open_2 ⟨Nat.le_of_ble_eq_true rfl, Nat.le_of_ble_eq_true rfl⟩) hS (fun q _ h => hFc q h) hFc (fun q _ h => hFc q h) (fun E9 ce9 q9 u t H1 locs ht hvm _ hB hz1 hk1 hS hc9 hv9 hf9 => ?_) (fun r u t H1 locs ht hvm hw => hw.elim)
  obtain ⟨rfl, hP1, hK1, hD1⟩ := hB
  rw [ht] at hP1
  obtain ⟨hP, hD⟩ := va_join (wr := []) (w1 := [(sl, .inr (5, [.ref sh, .int (zI lc), .ref ru, .ref tr, .ref se])), zQ cL sh 6 sf]) hP hD [0, 1] [] rfl rfl (by decide) (by decide) hk1 hFc hP1 hD1
  have hP : va_P (dC, dI) vwCl [(sl, .inr (5, [.ref sh, .int (zI lc), .ref ru, .ref tr, .ref se])), zQ cL sh 6 sf] H1 := hP.sub [0, 1] rfl
  have hD : va_D A [(sl, .inr (5, [.ref sh, .int (zI lc), .ref ru, .ref tr, .ref se])), zQ cL sh 6 sf] := hD.sub [0, 1] (by decide) rfl
  exact vx_out (fun x h => (hnt x h).elim) hlocks hc9 hv9 hf9 (fun t9 ht9 hvm9 => ⟨(), trivial, ⟨rfl, by rw [ht9]; exact hP, va_K.moved hvm9 hK, hD⟩, hS.F ht9⟩) hS.2.2 (Nat.le_of_ble_eq_true rfl) (Nat.le_of_ble_eq_true rfl)
set_option maxHeartbeats 4000000 in
set_option maxRecDepth 100000 in
theorem x_X5_isOpen_xa (l : Launch) (hfl : l.stackTraces = false) (dC : Nat → ClassId) (dI : Nat → Nat → Nat) (cI cZ cL cT cJ : ClassId) (sz : Nat) (sl : Nat) (sh : Nat) (lc : Int) (ru : Nat) (tr : Nat) (se : Nat) (sf : Nat → Option Nat) (L : Int) (gr9 : -2147483648 ≤ L ∧ L < 2147483648) (gb : L < 0 ∨ 6 ≤ L ∨ ∃ k : Nat, L = (k : Int) ∧ k < 6 ∧ sf k = none) : vx_Met l yX5_isOpen wsX5_isOpen ({ frames := 7, cells := 1, slots := 6, locals := 112 }) (zPx (dC, dI) (zT cI cZ cL cT cJ) sz [.ref sl, .int (zI L)] [(sl, .inr (5, [.ref sh, .int (zI lc), .ref ru, .ref tr, .ref se])), zQ cL sh 6 sf]) (va_Qi (S := Unit) (fun _ _ => False) (fun _ _ => True) (va_A [(sl, .inr (5, [.ref sh, .int (zI lc), .ref ru, .ref tr, .ref se])), zQ cL sh 6 sf] sz)) (vx_X (S := Unit) (fun _ => True) (zBX (dC, dI) (zT cI cZ cL cT cJ) (va_A [(sl, .inr (5, [.ref sh, .int (zI lc), .ref ru, .ref tr, .ref se])), zQ cL sh 6 sf] sz) "java/lang/IndexOutOfBoundsException" [(sl, .inr (5, [.ref sh, .int (zI lc), .ref ru, .ref tr, .ref se])), zQ cL sh 6 sf]) (va_A [(sl, .inr (5, [.ref sh, .int (zI lc), .ref ru, .ref tr, .ref se])), zQ cL sh 6 sf] sz)) 1 6 (va_A [(sl, .inr (5, [.ref sh, .int (zI lc), .ref ru, .ref tr, .ref se])), zQ cL sh 6 sf] sz) := by
  refine vx_ofW (cc := cX5_isOpen) (maxL := 2) (ret := (some .boolean)) (by decide) rfl ?_
  intro p e s m args below meth c s₁ B hml hnt hv
  obtain ⟨rfl, hsz, hP, hK, hD0, hEx⟩ := hv
  have hx := B.exec
  have hb := B.bytes
  have hr := B.returns
  have hts := atoms_spec (ws := wsX5_isOpen) B.pre
  have hown : s.vm.findClass RX5 = some m.cls := findClass_of_methodNamed B.named
  have hlocks := B.notSynchronized
  subst hsz
  have hD := hD0.self (sz := s.heap.size)
  generalize hAe : va_A [(sl, .inr (5, [.ref sh, .int (zI lc), .ref ru, .ref tr, .ref se])), zQ cL sh 6 sf] s.heap.size = A at hD hEx ⊢
  have hA : ∀ q : Nat, s.heap.size ≤ q → A q := fun q h => by rw [← hAe]; exact Or.inr h
  clear hAe hD0
  have hS : va_S A s.heap s.heap [] := va_S.rf
  have hP : va_P (dC, dI) vwCl [(sl, .inr (5, [.ref sh, .int (zI lc), .ref ru, .ref tr, .ref se])), zQ cL sh 6 sf] s.heap := hP
  have f_125 := hts (.fieldLink RX5 125 "SpringLevels$Level" "unlocked" "Z") (by decide +kernel)
  have i_1 : ∀ w ∈ wsX10, w ∈ wsX5_isOpen := by decide +kernel
  have hl := lv_entry ([.ref sl, .int (zI L)]) (n := 2) (Nat.le_of_ble_eq_true rfl)
  rw [lg_entry_eq]
  generalize (lg_sl ([.ref sl, .int (zI L)]) ++ List.replicate (2 - (lg_sl ([.ref sl, .int (zI L)])).length) Slot.unset).toArray = ls at hl ⊢
  have hl : lv_has ls 2 [(0, .ref sl), (1, .int (zI L))] := hl
  refine lv_aload_n hx hb dX5_isOpen_0 rfl (lv_at hl 0 rfl) ?_
  refine lv_iload_n hx hb dX5_isOpen_1 rfl (lv_at hl 1 rfl) ?_
  have hPc := hP.sub (ws' := [(sl, .inr (5, [.ref sh, .int (zI lc), .ref ru, .ref tr, .ref se])), zQ cL sh 6 sf]) [0, 1] rfl
  have hDc := hD.sub (ws' := [(sl, .inr (5, [.ref sh, .int (zI lc), .ref ru, .ref tr, .ref se])), zQ cL sh 6 sf]) [0, 1] (by decide) rfl
  have hFc := va_free (wc := [(sl, .inr (5, [.ref sh, .int (zI lc), .ref ru, .ref tr, .ref se])), zQ cL sh 6 sf]) hD hS hA [0, 1] rfl
  refine vx_callq (vx_runV (As := [.int (zI L)]) (rest := []) ⟨hx, hb, hml, hown, hts⟩ (x_X5_levelNumbered_x l hfl dC dI cI cZ cL cT cJ s.heap.size sl sh lc ru tr se sf L (by first | assumption | omega) (by first | assumption | omega)) (cwV 1 hts gX5_isOpen_X5_levelNumbered rfl rfl rfl (by decide +kernel) ⟨Nat.le_of_ble_eq_true rfl, Nat.le_of_ble_eq_true rfl⟩) ⟨zPx_blind, va_recv hK hPc (ci := 5) (q0 := 0) rfl rfl, zPx_pre hPc hDc hK hEx hS hFc⟩ rfl rfl hl.1 rfl (lv_room (Nat.le_of_ble_eq_true rfl)) dX5_isOpen_2 ⟨Nat.le_of_ble_eq_true rfl, Nat.le_of_ble_eq_true rfl⟩) hS (fun q _ h => hFc q h) hFc (fun q _ h => hFc q h) (fun E9 ce9 q9 u t H1 locs ht hvm _ hB hz1 hk1 hS hc9 hv9 hf9 => ?_) (fun r u t H1 locs ht hvm hw => hw.elim)
  obtain ⟨rfl, hP1, hK1, hD1⟩ := hB
  rw [ht] at hP1
  obtain ⟨hP, hD⟩ := va_join (wr := []) (w1 := [(sl, .inr (5, [.ref sh, .int (zI lc), .ref ru, .ref tr, .ref se])), zQ cL sh 6 sf]) hP hD [0, 1] [] rfl rfl (by decide) (by decide) hk1 hFc hP1 hD1
  have hP : va_P (dC, dI) vwCl [(sl, .inr (5, [.ref sh, .int (zI lc), .ref ru, .ref tr, .ref se])), zQ cL sh 6 sf] H1 := hP.sub [0, 1] rfl
  have hD : va_D A [(sl, .inr (5, [.ref sh, .int (zI lc), .ref ru, .ref tr, .ref se])), zQ cL sh 6 sf] := hD.sub [0, 1] (by decide) rfl
  exact vx_out (fun x h => (hnt x h).elim) hlocks hc9 hv9 hf9 (fun t9 ht9 hvm9 => ⟨(), trivial, ⟨rfl, by rw [ht9]; exact hP, va_K.moved hvm9 hK, hD⟩, hS.F ht9⟩) hS.2.2 (Nat.le_of_ble_eq_true rfl) (Nat.le_of_ble_eq_true rfl)
set_option maxHeartbeats 4000000 in
set_option maxRecDepth 100000 in
theorem x_X5_bestPlayer_xa (l : Launch) (hfl : l.stackTraces = false) (dC : Nat → ClassId) (dI : Nat → Nat → Nat) (cI cZ cL cT cJ : ClassId) (sz : Nat) (sl : Nat) (sh : Nat) (lc : Int) (ru : Nat) (tr : Nat) (se : Nat) (sf : Nat → Option Nat) (L : Int) (gr9 : -2147483648 ≤ L ∧ L < 2147483648) (gb : L < 0 ∨ 6 ≤ L ∨ ∃ k : Nat, L = (k : Int) ∧ k < 6 ∧ sf k = none) : vx_Met l yX5_bestPlayer wsX5_bestPlayer ({ frames := 7, cells := 1, slots := 6, locals := 112 }) (zPx (dC, dI) (zT cI cZ cL cT cJ) sz [.ref sl, .int (zI L)] [(sl, .inr (5, [.ref sh, .int (zI lc), .ref ru, .ref tr, .ref se])), zQ cL sh 6 sf]) (va_Qi (S := Unit) (fun _ _ => False) (fun _ _ => True) (va_A [(sl, .inr (5, [.ref sh, .int (zI lc), .ref ru, .ref tr, .ref se])), zQ cL sh 6 sf] sz)) (vx_X (S := Unit) (fun _ => True) (zBX (dC, dI) (zT cI cZ cL cT cJ) (va_A [(sl, .inr (5, [.ref sh, .int (zI lc), .ref ru, .ref tr, .ref se])), zQ cL sh 6 sf] sz) "java/lang/IndexOutOfBoundsException" [(sl, .inr (5, [.ref sh, .int (zI lc), .ref ru, .ref tr, .ref se])), zQ cL sh 6 sf]) (va_A [(sl, .inr (5, [.ref sh, .int (zI lc), .ref ru, .ref tr, .ref se])), zQ cL sh 6 sf] sz)) 1 6 (va_A [(sl, .inr (5, [.ref sh, .int (zI lc), .ref ru, .ref tr, .ref se])), zQ cL sh 6 sf] sz) := by
  refine vx_ofW (cc := cX5_bestPlayer) (maxL := 2) (ret := (some .int)) (by decide) rfl ?_
  intro p e s m args below meth c s₁ B hml hnt hv
  obtain ⟨rfl, hsz, hP, hK, hD0, hEx⟩ := hv
  have hx := B.exec
  have hb := B.bytes
  have hr := B.returns
  have hts := atoms_spec (ws := wsX5_bestPlayer) B.pre
  have hown : s.vm.findClass RX5 = some m.cls := findClass_of_methodNamed B.named
  have hlocks := B.notSynchronized
  subst hsz
  have hD := hD0.self (sz := s.heap.size)
  generalize hAe : va_A [(sl, .inr (5, [.ref sh, .int (zI lc), .ref ru, .ref tr, .ref se])), zQ cL sh 6 sf] s.heap.size = A at hD hEx ⊢
  have hA : ∀ q : Nat, s.heap.size ≤ q → A q := fun q h => by rw [← hAe]; exact Or.inr h
  clear hAe hD0
  have hS : va_S A s.heap s.heap [] := va_S.rf
  have hP : va_P (dC, dI) vwCl [(sl, .inr (5, [.ref sh, .int (zI lc), .ref ru, .ref tr, .ref se])), zQ cL sh 6 sf] s.heap := hP
  have hl := lv_entry ([.ref sl, .int (zI L)]) (n := 2) (Nat.le_of_ble_eq_true rfl)
  rw [lg_entry_eq]
  generalize (lg_sl ([.ref sl, .int (zI L)]) ++ List.replicate (2 - (lg_sl ([.ref sl, .int (zI L)])).length) Slot.unset).toArray = ls at hl ⊢
  have hl : lv_has ls 2 [(0, .ref sl), (1, .int (zI L))] := hl
  refine lv_aload_n hx hb dX5_bestPlayer_0 rfl (lv_at hl 0 rfl) ?_
  refine lv_iload_n hx hb dX5_bestPlayer_1 rfl (lv_at hl 1 rfl) ?_
  have hPc := hP.sub (ws' := [(sl, .inr (5, [.ref sh, .int (zI lc), .ref ru, .ref tr, .ref se])), zQ cL sh 6 sf]) [0, 1] rfl
  have hDc := hD.sub (ws' := [(sl, .inr (5, [.ref sh, .int (zI lc), .ref ru, .ref tr, .ref se])), zQ cL sh 6 sf]) [0, 1] (by decide) rfl
  have hFc := va_free (wc := [(sl, .inr (5, [.ref sh, .int (zI lc), .ref ru, .ref tr, .ref se])), zQ cL sh 6 sf]) hD hS hA [0, 1] rfl
  refine vx_callq (vx_runV (As := [.int (zI L)]) (rest := []) ⟨hx, hb, hml, hown, hts⟩ (x_X5_levelNumbered_x l hfl dC dI cI cZ cL cT cJ s.heap.size sl sh lc ru tr se sf L (by first | assumption | omega) (by first | assumption | omega)) (cwV 1 hts gX5_bestPlayer_X5_levelNumbered rfl rfl rfl (by decide +kernel) ⟨Nat.le_of_ble_eq_true rfl, Nat.le_of_ble_eq_true rfl⟩) ⟨zPx_blind, va_recv hK hPc (ci := 5) (q0 := 0) rfl rfl, zPx_pre hPc hDc hK hEx hS hFc⟩ rfl rfl hl.1 rfl (lv_room (Nat.le_of_ble_eq_true rfl)) dX5_bestPlayer_2 ⟨Nat.le_of_ble_eq_true rfl, Nat.le_of_ble_eq_true rfl⟩) hS (fun q _ h => hFc q h) hFc (fun q _ h => hFc q h) (fun E9 ce9 q9 u t H1 locs ht hvm _ hB hz1 hk1 hS hc9 hv9 hf9 => ?_) (fun r u t H1 locs ht hvm hw => hw.elim)
  obtain ⟨rfl, hP1, hK1, hD1⟩ := hB
  rw [ht] at hP1
  obtain ⟨hP, hD⟩ := va_join (wr := []) (w1 := [(sl, .inr (5, [.ref sh, .int (zI lc), .ref ru, .ref tr, .ref se])), zQ cL sh 6 sf]) hP hD [0, 1] [] rfl rfl (by decide) (by decide) hk1 hFc hP1 hD1
  have hP : va_P (dC, dI) vwCl [(sl, .inr (5, [.ref sh, .int (zI lc), .ref ru, .ref tr, .ref se])), zQ cL sh 6 sf] H1 := hP.sub [0, 1] rfl
  have hD : va_D A [(sl, .inr (5, [.ref sh, .int (zI lc), .ref ru, .ref tr, .ref se])), zQ cL sh 6 sf] := hD.sub [0, 1] (by decide) rfl
  exact vx_out (fun x h => (hnt x h).elim) hlocks hc9 hv9 hf9 (fun t9 ht9 hvm9 => ⟨(), trivial, ⟨rfl, by rw [ht9]; exact hP, va_K.moved hvm9 hK, hD⟩, hS.F ht9⟩) hS.2.2 (Nat.le_of_ble_eq_true rfl) (Nat.le_of_ble_eq_true rfl)
set_option maxHeartbeats 4000000 in
set_option maxRecDepth 100000 in
theorem x_X5_open_xb (l : Launch) (hfl : l.stackTraces = false) (dC : Nat → ClassId) (dI : Nat → Nat → Nat) (cI cZ cL cT cJ : ClassId) (sz : Nat) (sl : Nat) (sh : Nat) (lc : Int) (ru : Nat) (tr : Nat) (se : Nat) (sf : Nat → Option Nat) (L : Int) (k : Nat) (lv : Nat) (w : Int) (h : Int) (ka : Nat) (ta : Nat) (sx : Int) (sy : Int) (fx : Int) (fy : Int) (lf : Int) (un : Int) (gk : L = (k : Int) ∧ k < 6) (gf : sf k = some lv) (gy : lf = -1) : vx_Met l yX5_open wsX5_open ({ frames := 6, cells := 1, slots := 6, locals := 90 }) (zPx (dC, dI) (zT cI cZ cL cT cJ) sz [.ref sl, .int (zI L)] [(sl, .inr (5, [.ref sh, .int (zI lc), .ref ru, .ref tr, .ref se])), zQ cL sh 6 sf, (lv, .inr (1, [.int (zI w), .int (zI h), .ref ka, .ref ta, .int (zI sx), .int (zI sy), .int (zI fx), .int (zI fy), .int (zI lf), .int (zI un)]))]) (va_Qi (S := Unit) (fun _ _ => False) (fun _ _ => True) (va_A [(sl, .inr (5, [.ref sh, .int (zI lc), .ref ru, .ref tr, .ref se])), zQ cL sh 6 sf, (lv, .inr (1, [.int (zI w), .int (zI h), .ref ka, .ref ta, .int (zI sx), .int (zI sy), .int (zI fx), .int (zI fy), .int (zI lf), .int (zI un)]))] sz)) (vx_X (S := Unit) (fun _ => True) (zBX (dC, dI) (zT cI cZ cL cT cJ) (va_A [(sl, .inr (5, [.ref sh, .int (zI lc), .ref ru, .ref tr, .ref se])), zQ cL sh 6 sf, (lv, .inr (1, [.int (zI w), .int (zI h), .ref ka, .ref ta, .int (zI sx), .int (zI sy), .int (zI fx), .int (zI fy), .int (zI lf), .int (zI un)]))] sz) "java/lang/IllegalStateException" [(sl, .inr (5, [.ref sh, .int (zI lc), .ref ru, .ref tr, .ref se])), zQ cL sh 6 sf, (lv, .inr (1, [.int (zI w), .int (zI h), .ref ka, .ref ta, .int (zI sx), .int (zI sy), .int (zI fx), .int (zI fy), .int (zI lf), .int (zI un)]))]) (va_A [(sl, .inr (5, [.ref sh, .int (zI lc), .ref ru, .ref tr, .ref se])), zQ cL sh 6 sf, (lv, .inr (1, [.int (zI w), .int (zI h), .ref ka, .ref ta, .int (zI sx), .int (zI sy), .int (zI fx), .int (zI fy), .int (zI lf), .int (zI un)]))] sz)) 1 6 (va_A [(sl, .inr (5, [.ref sh, .int (zI lc), .ref ru, .ref tr, .ref se])), zQ cL sh 6 sf, (lv, .inr (1, [.int (zI w), .int (zI h), .ref ka, .ref ta, .int (zI sx), .int (zI sy), .int (zI fx), .int (zI fy), .int (zI lf), .int (zI un)]))] sz) := by
  refine vx_ofW (cc := cX5_open) (maxL := 4) (ret := (some .boolean)) (by decide) rfl ?_
  intro p e s m args below meth c s₁ B hml hnt hv
  obtain ⟨rfl, hsz, hP, hK, hD0, hEx⟩ := hv
  have hx := B.exec
  have hb := B.bytes
  have hr := B.returns
  have hts := atoms_spec (ws := wsX5_open) B.pre
  have hown : s.vm.findClass RX5 = some m.cls := findClass_of_methodNamed B.named
  have hlocks := B.notSynchronized
  subst hsz
  have hD := hD0.self (sz := s.heap.size)
  generalize hAe : va_A [(sl, .inr (5, [.ref sh, .int (zI lc), .ref ru, .ref tr, .ref se])), zQ cL sh 6 sf, (lv, .inr (1, [.int (zI w), .int (zI h), .ref ka, .ref ta, .int (zI sx), .int (zI sy), .int (zI fx), .int (zI fy), .int (zI lf), .int (zI un)]))] s.heap.size = A at hD hEx ⊢
  have hA : ∀ q : Nat, s.heap.size ≤ q → A q := fun q h => by rw [← hAe]; exact Or.inr h
  clear hAe hD0
  have hS : va_S A s.heap s.heap [] := va_S.rf
  have hP : va_P (dC, dI) vwCl [(sl, .inr (5, [.ref sh, .int (zI lc), .ref ru, .ref tr, .ref se])), zQ cL sh 6 sf, (lv, .inr (1, [.int (zI w), .int (zI h), .ref ka, .ref ta, .int (zI sx), .int (zI sy), .int (zI fx), .int (zI fy), .int (zI lf), .int (zI un)]))] s.heap := hP
  have f_122 := hts (.fieldLink RX5 122 "SpringLevels$Level" "leastFrames" "I") (by decide +kernel)
  have f_125 := hts (.fieldLink RX5 125 "SpringLevels$Level" "unlocked" "Z") (by decide +kernel)
  have i_1 : ∀ w ∈ wsX10, w ∈ wsX5_open := by decide +kernel
  have hl := lv_entry ([.ref sl, .int (zI L)]) (n := 4) (Nat.le_of_ble_eq_true rfl)
  rw [lg_entry_eq]
  generalize (lg_sl ([.ref sl, .int (zI L)]) ++ List.replicate (4 - (lg_sl ([.ref sl, .int (zI L)])).length) Slot.unset).toArray = ls at hl ⊢
  have hl : lv_has ls 4 [(0, .ref sl), (1, .int (zI L))] := hl
  refine lv_aload_n hx hb dX5_open_0 rfl (lv_at hl 0 rfl) ?_
  refine lv_iload_n hx hb dX5_open_1 rfl (lv_at hl 1 rfl) ?_
  have hPc := hP.sub (ws' := [(sl, .inr (5, [.ref sh, .int (zI lc), .ref ru, .ref tr, .ref se])), zQ cL sh 6 sf]) [0, 1] rfl
  have hDc := hD.sub (ws' := [(sl, .inr (5, [.ref sh, .int (zI lc), .ref ru, .ref tr, .ref se])), zQ cL sh 6 sf]) [0, 1] (by decide) rfl
  have hFc := va_free (wc := [(sl, .inr (5, [.ref sh, .int (zI lc), .ref ru, .ref tr, .ref se])), zQ cL sh 6 sf]) hD hS hA [0, 1] rfl
  refine va_callq (va_runV (As := [.int (zI L)]) (rest := []) ⟨hx, hb, hml, hown, hts⟩ (c_X5_levelNumbered l dC dI cI cZ cL cT cJ s.heap.size sl sh lc ru tr se sf L k lv (by first | assumption | omega) (by first | assumption | omega)) (cwV 1 hts gX5_open_X5_levelNumbered rfl rfl rfl (by decide +kernel) ⟨Nat.le_of_ble_eq_true rfl, Nat.le_of_ble_eq_true rfl⟩) ⟨zP_blind, va_recv hK hPc (ci := 5) (q0 := 0) rfl rfl, zP_pre hPc hDc hK⟩ rfl rfl hl.1 rfl (lv_room (Nat.le_of_ble_eq_true rfl)) dX5_open_2 ⟨Nat.le_of_ble_eq_true rfl, Nat.le_of_ble_eq_true rfl⟩) hS (fun q _ h => hFc q h) hFc (fun r_1 u_1 t H1 locs ht hvm hw hB hz1 hk1 hS => ?_)
  obtain ⟨hP1, hK1, hD1⟩ := hB
  rw [ht] at hP1
  have hP1 : va_P (dC, dI) vwCl [(sl, .inr (5, [.ref sh, .int (zI lc), .ref ru, .ref tr, .ref se])), zQ cL sh 6 sf] H1 := hP1
  obtain ⟨hP, hD⟩ := va_join (wr := [(lv, .inr (1, [.int (zI w), .int (zI h), .ref ka, .ref ta, .int (zI sx), .int (zI sy), .int (zI fx), .int (zI fy), .int (zI lf), .int (zI un)]))]) (w1 := [(sl, .inr (5, [.ref sh, .int (zI lc), .ref ru, .ref tr, .ref se])), zQ cL sh 6 sf]) hP hD [0, 1] [2] rfl rfl (by decide) (by decide) hk1 hFc hP1 hD1
  clear hP1 hD1 hk1 hFc hPc hDc hz1
  generalize H1 = H at hP hS ⊢
  have hP : va_P (dC, dI) vwCl [(sl, .inr (5, [.ref sh, .int (zI lc), .ref ru, .ref tr, .ref se])), zQ cL sh 6 sf, (lv, .inr (1, [.int (zI w), .int (zI h), .ref ka, .ref ta, .int (zI sx), .int (zI sy), .int (zI fx), .int (zI fy), .int (zI lf), .int (zI un)]))] H := hP.sub [1, 2, 0] rfl
  have hD : va_D A [(sl, .inr (5, [.ref sh, .int (zI lc), .ref ru, .ref tr, .ref se])), zQ cL sh 6 sf, (lv, .inr (1, [.int (zI w), .int (zI h), .ref ka, .ref ta, .int (zI sx), .int (zI sy), .int (zI fx), .int (zI fy), .int (zI lf), .int (zI un)]))] := hD.sub [1, 2, 0] (by decide) rfl
  clear hK1 hvm
  obtain ⟨rfl, po_2⟩ := hw
  refine W.eq (g2 := F0 m 5 ls [.ref lv]) rfl ?_
  refine lv_astore_n (lv' := [(2, .ref lv), (0, .ref sl), (1, .int (zI L))]) hx hb dX5_open_5 rfl hl (by decide) rfl (fun ls hl => ?_)
  refine lv_aload_n hx hb dX5_open_6 rfl (lv_at hl 0 rfl) ?_
  refine va_get (D := (dC, dI)) (ci := 1) (v := .int (zI lf)) (C := RX1) (T := TX1) (N := 10) hx hb hts i_1 hown hK hP 2 rfl rfl 8 (by decide) f_122 (fun _ h9 => h9) rfl dX5_open_7 ?_
  refine lv_iconst (v := zI (-1)) hx hb dX5_open_10 (rfl) ?_
  refine lz_icmp_ne (tgt := 24) hx hb dX5_open_11 (by decide) (by omega) ⟨by decide, by decide⟩ (fun c_3 => ?_) (fun c_3 => ?_)
  · exfalso; omega
  ·
    obtain ⟨sa, hsa⟩ := zEx_s123 hEx
    exact vx_throwS (A := A) hx hb hfl (own := RX5) (cls := "java/lang/IllegalStateException") (text := "no way of the level was found") (names := ["java/lang/RuntimeException", "java/lang/Exception"]) (ik := 47) (is := 123) (ic := 51) hown (by decide) (by decide) (hts (.classLink RX5 47 "java/lang/IllegalStateException") (by decide +kernel)) (hts (.initialized "java/lang/IllegalStateException") (by decide +kernel)) hsa (vx_hat (fun w h => hts w (List.mem_cons_of_mem _ (List.mem_append_left _ (List.mem_append_right _ h)))) zg_51 (vx_c (va_Nw.use rfl hEx.2.2.2.1) (vx_c (va_Nw.use rfl hEx.2.2.2.2.2.1) (vx_c (va_Nw.use rfl hEx.2.2.2.2.2.2.1) (vx_c (va_Nw.use rfl hEx.2.2.2.2.2.2.2.1) vx_n))))) zo_51_47 hEx.1 hEx.2.1 hS (by rw [hml]; exact hl.1) dX5_open_14 dX5_open_17 dX5_open_18 dX5_open_20 dX5_open_23 (fun x h => (hnt x h).elim) (Nat.le_of_ble_eq_true rfl) (Nat.le_of_ble_eq_true rfl) (Nat.le_of_ble_eq_true rfl) (Nat.le_of_ble_eq_true rfl) hlocks (fun t hvm hz hq => ⟨(), trivial, ⟨rfl, va_P.kept hP (fun k q hk => hq q.1 (hP k q hk).lt), va_K.moved hvm hK, hD⟩, Nat.le_trans hS.1 hz, fun q h1 h2 => (hq q (Nat.lt_of_lt_of_le h1 hS.1)).trans (hS.2.1 q h1 h2)⟩) hS.2.2 (Nat.le_of_ble_eq_true rfl) (Nat.le_of_ble_eq_true rfl)
set_option maxHeartbeats 4000000 in
set_option maxRecDepth 100000 in
theorem x_X5_begin_xa (l : Launch) (hfl : l.stackTraces = false) (dC : Nat → ClassId) (dI : Nat → Nat → Nat) (cI cZ cL cT cJ : ClassId) (sz : Nat) (sl : Nat) (sh : Nat) (lc : Int) (ru : Nat) (tr : Nat) (se : Nat) (sf : Nat → Option Nat) (L : Int) (pl : Int) (gr : -2147483648 ≤ pl ∧ pl < 2147483648) (gkn : pl < 0 ∨ 4 ≤ pl) : vx_Met l yX5_begin wsX5_begin ({ frames := 6, cells := 1, slots := 6, locals := 90 }) (zPx (dC, dI) (zT cI cZ cL cT cJ) sz [.ref sl, .int (zI pl), .int (zI L)] [(sl, .inr (5, [.ref sh, .int (zI lc), .ref ru, .ref tr, .ref se])), zQ cL sh 6 sf]) (va_Qi (S := Unit) (fun _ _ => False) (fun _ _ => True) (va_A [(sl, .inr (5, [.ref sh, .int (zI lc), .ref ru, .ref tr, .ref se])), zQ cL sh 6 sf] sz)) (vx_X (S := Unit) (fun _ => True) (zBX (dC, dI) (zT cI cZ cL cT cJ) (va_A [(sl, .inr (5, [.ref sh, .int (zI lc), .ref ru, .ref tr, .ref se])), zQ cL sh 6 sf] sz) "java/lang/IndexOutOfBoundsException" [(sl, .inr (5, [.ref sh, .int (zI lc), .ref ru, .ref tr, .ref se])), zQ cL sh 6 sf]) (va_A [(sl, .inr (5, [.ref sh, .int (zI lc), .ref ru, .ref tr, .ref se])), zQ cL sh 6 sf] sz)) 1 6 (va_A [(sl, .inr (5, [.ref sh, .int (zI lc), .ref ru, .ref tr, .ref se])), zQ cL sh 6 sf] sz) := by
  refine vx_ofW (cc := cX5_begin) (maxL := 4) (ret := (some .int)) (by decide) rfl ?_
  intro p e s m args below meth c s₁ B hml hnt hv
  obtain ⟨rfl, hsz, hP, hK, hD0, hEx⟩ := hv
  have hx := B.exec
  have hb := B.bytes
  have hr := B.returns
  have hts := atoms_spec (ws := wsX5_begin) B.pre
  have hown : s.vm.findClass RX5 = some m.cls := findClass_of_methodNamed B.named
  have hlocks := B.notSynchronized
  subst hsz
  have hD := hD0.self (sz := s.heap.size)
  generalize hAe : va_A [(sl, .inr (5, [.ref sh, .int (zI lc), .ref ru, .ref tr, .ref se])), zQ cL sh 6 sf] s.heap.size = A at hD hEx ⊢
  have hA : ∀ q : Nat, s.heap.size ≤ q → A q := fun q h => by rw [← hAe]; exact Or.inr h
  clear hAe hD0
  have hS : va_S A s.heap s.heap [] := va_S.rf
  have hP : va_P (dC, dI) vwCl [(sl, .inr (5, [.ref sh, .int (zI lc), .ref ru, .ref tr, .ref se])), zQ cL sh 6 sf] s.heap := hP
  have f_22 := hts (.fieldLink RX5 22 "SpringLevels" "run" "LSpringLevels$Run;") (by decide +kernel)
  have f_125 := hts (.fieldLink RX5 125 "SpringLevels$Level" "unlocked" "Z") (by decide +kernel)
  have f_140 := hts (.fieldLink RX5 140 "SpringLevels$Run" "hero" "LSpringLevels$Hero;") (by decide +kernel)
  have f_143 := hts (.fieldLink RX5 143 "SpringLevels$Hero" "x" "I") (by decide +kernel)
  have i_0 : ∀ w ∈ wsX00, w ∈ wsX5_begin := by decide +kernel
  have i_1 : ∀ w ∈ wsX10, w ∈ wsX5_begin := by decide +kernel
  have i_2 : ∀ w ∈ wsX20, w ∈ wsX5_begin := by decide +kernel
  have i_5 : ∀ w ∈ wsX50, w ∈ wsX5_begin := by decide +kernel
  have hl := lv_entry ([.ref sl, .int (zI pl), .int (zI L)]) (n := 4) (Nat.le_of_ble_eq_true rfl)
  rw [lg_entry_eq]
  generalize (lg_sl ([.ref sl, .int (zI pl), .int (zI L)]) ++ List.replicate (4 - (lg_sl ([.ref sl, .int (zI pl), .int (zI L)])).length) Slot.unset).toArray = ls at hl ⊢
  have hl : lv_has ls 4 [(0, .ref sl), (1, .int (zI pl)), (2, .int (zI L))] := hl
  refine lv_iload_n hx hb dX5_begin_0 rfl (lv_at hl 1 rfl) ?_
  refine lz_if_lt (tgt := 9) hx hb dX5_begin_1 (by decide) (by omega) (fun c_1 => ?_) (fun c_1 => ?_)
  ·
    obtain ⟨sa, hsa⟩ := zEx_s131 hEx
    exact vx_throwS (A := A) hx hb hfl (own := RX5) (cls := "java/lang/IndexOutOfBoundsException") (text := "no such player") (names := ["java/lang/RuntimeException", "java/lang/Exception"]) (ik := 129) (is := 131) (ic := 133) hown (by decide) (by decide) (hts (.classLink RX5 129 "java/lang/IndexOutOfBoundsException") (by decide +kernel)) (hts (.initialized "java/lang/IndexOutOfBoundsException") (by decide +kernel)) hsa (vx_hat (fun w h => hts w (List.mem_cons_of_mem _ (List.mem_append_left _ (List.mem_append_right _ h)))) zg_133 (vx_c (va_Nw.use rfl hEx.2.2.2.2.1) (vx_c (va_Nw.use rfl hEx.2.2.2.2.2.1) (vx_c (va_Nw.use rfl hEx.2.2.2.2.2.2.1) (vx_c (va_Nw.use rfl hEx.2.2.2.2.2.2.2.1) vx_n))))) zo_133_129 hEx.1 hEx.2.1 hS (by rw [hml]; exact hl.1) dX5_begin_9 dX5_begin_12 dX5_begin_13 dX5_begin_15 dX5_begin_18 (fun x h => (hnt x h).elim) (Nat.le_of_ble_eq_true rfl) (Nat.le_of_ble_eq_true rfl) (Nat.le_of_ble_eq_true rfl) (Nat.le_of_ble_eq_true rfl) hlocks (fun t hvm hz hq => ⟨(), trivial, ⟨rfl, va_P.kept hP (fun k q hk => hq q.1 (hP k q hk).lt), va_K.moved hvm hK, hD⟩, Nat.le_trans hS.1 hz, fun q h1 h2 => (hq q (Nat.lt_of_lt_of_le h1 hS.1)).trans (hS.2.1 q h1 h2)⟩) hS.2.2 (Nat.le_of_ble_eq_true rfl) (Nat.le_of_ble_eq_true rfl)
  ·
    refine lv_iload_n hx hb dX5_begin_4 rfl (lv_at hl 1 rfl) ?_
    refine lv_iconst (v := zI 4) hx hb dX5_begin_5 (rfl) ?_
    refine lz_icmp_lt (tgt := 19) hx hb dX5_begin_6 (by decide) (by omega) ⟨by decide, by decide⟩ (fun c_2 => ?_) (fun c_2 => ?_)
    · exfalso; omega
    ·
      obtain ⟨sa, hsa⟩ := zEx_s131 hEx
      exact vx_throwS (A := A) hx hb hfl (own := RX5) (cls := "java/lang/IndexOutOfBoundsException") (text := "no such player") (names := ["java/lang/RuntimeException", "java/lang/Exception"]) (ik := 129) (is := 131) (ic := 133) hown (by decide) (by decide) (hts (.classLink RX5 129 "java/lang/IndexOutOfBoundsException") (by decide +kernel)) (hts (.initialized "java/lang/IndexOutOfBoundsException") (by decide +kernel)) hsa (vx_hat (fun w h => hts w (List.mem_cons_of_mem _ (List.mem_append_left _ (List.mem_append_right _ h)))) zg_133 (vx_c (va_Nw.use rfl hEx.2.2.2.2.1) (vx_c (va_Nw.use rfl hEx.2.2.2.2.2.1) (vx_c (va_Nw.use rfl hEx.2.2.2.2.2.2.1) (vx_c (va_Nw.use rfl hEx.2.2.2.2.2.2.2.1) vx_n))))) zo_133_129 hEx.1 hEx.2.1 hS (by rw [hml]; exact hl.1) dX5_begin_9 dX5_begin_12 dX5_begin_13 dX5_begin_15 dX5_begin_18 (fun x h => (hnt x h).elim) (Nat.le_of_ble_eq_true rfl) (Nat.le_of_ble_eq_true rfl) (Nat.le_of_ble_eq_true rfl) (Nat.le_of_ble_eq_true rfl) hlocks (fun t hvm hz hq => ⟨(), trivial, ⟨rfl, va_P.kept hP (fun k q hk => hq q.1 (hP k q hk).lt), va_K.moved hvm hK, hD⟩, Nat.le_trans hS.1 hz, fun q h1 h2 => (hq q (Nat.lt_of_lt_of_le h1 hS.1)).trans (hS.2.1 q h1 h2)⟩) hS.2.2 (Nat.le_of_ble_eq_true rfl) (Nat.le_of_ble_eq_true rfl)
set_option maxHeartbeats 4000000 in
set_option maxRecDepth 100000 in
theorem x_X5_begin_xb (l : Launch) (hfl : l.stackTraces = false) (dC : Nat → ClassId) (dI : Nat → Nat → Nat) (cI cZ cL cT cJ : ClassId) (sz : Nat) (sl : Nat) (sh : Nat) (lc : Int) (ru : Nat) (tr : Nat) (se : Nat) (sf : Nat → Option Nat) (L : Int) (pl : Int) (gr9 : -2147483648 ≤ L ∧ L < 2147483648) (gb : L < 0 ∨ 6 ≤ L ∨ ∃ k : Nat, L = (k : Int) ∧ k < 6 ∧ sf k = none) (gp : 0 ≤ pl ∧ pl ≤ 3) : vx_Met l yX5_begin wsX5_begin ({ frames := 7, cells := 1, slots := 6, locals := 112 }) (zPx (dC, dI) (zT cI cZ cL cT cJ) sz [.ref sl, .int (zI pl), .int (zI L)] [(sl, .inr (5, [.ref sh, .int (zI lc), .ref ru, .ref tr, .ref se])), zQ cL sh 6 sf]) (va_Qi (S := Unit) (fun _ _ => False) (fun _ _ => True) (va_A [(sl, .inr (5, [.ref sh, .int (zI lc), .ref ru, .ref tr, .ref se])), zQ cL sh 6 sf] sz)) (vx_X (S := Unit) (fun _ => True) (zBX (dC, dI) (zT cI cZ cL cT cJ) (va_A [(sl, .inr (5, [.ref sh, .int (zI lc), .ref ru, .ref tr, .ref se])), zQ cL sh 6 sf] sz) "java/lang/IndexOutOfBoundsException" [(sl, .inr (5, [.ref sh, .int (zI lc), .ref ru, .ref tr, .ref se])), zQ cL sh 6 sf]) (va_A [(sl, .inr (5, [.ref sh, .int (zI lc), .ref ru, .ref tr, .ref se])), zQ cL sh 6 sf] sz)) 1 6 (va_A [(sl, .inr (5, [.ref sh, .int (zI lc), .ref ru, .ref tr, .ref se])), zQ cL sh 6 sf] sz) := by
  refine vx_ofW (cc := cX5_begin) (maxL := 4) (ret := (some .int)) (by decide) rfl ?_
  intro p e s m args below meth c s₁ B hml hnt hv
  obtain ⟨rfl, hsz, hP, hK, hD0, hEx⟩ := hv
  have hx := B.exec
  have hb := B.bytes
  have hr := B.returns
  have hts := atoms_spec (ws := wsX5_begin) B.pre
  have hown : s.vm.findClass RX5 = some m.cls := findClass_of_methodNamed B.named
  have hlocks := B.notSynchronized
  subst hsz
  have hD := hD0.self (sz := s.heap.size)
  generalize hAe : va_A [(sl, .inr (5, [.ref sh, .int (zI lc), .ref ru, .ref tr, .ref se])), zQ cL sh 6 sf] s.heap.size = A at hD hEx ⊢
  have hA : ∀ q : Nat, s.heap.size ≤ q → A q := fun q h => by rw [← hAe]; exact Or.inr h
  clear hAe hD0
  have hS : va_S A s.heap s.heap [] := va_S.rf
  have hP : va_P (dC, dI) vwCl [(sl, .inr (5, [.ref sh, .int (zI lc), .ref ru, .ref tr, .ref se])), zQ cL sh 6 sf] s.heap := hP
  have f_22 := hts (.fieldLink RX5 22 "SpringLevels" "run" "LSpringLevels$Run;") (by decide +kernel)
  have f_125 := hts (.fieldLink RX5 125 "SpringLevels$Level" "unlocked" "Z") (by decide +kernel)
  have f_140 := hts (.fieldLink RX5 140 "SpringLevels$Run" "hero" "LSpringLevels$Hero;") (by decide +kernel)
  have f_143 := hts (.fieldLink RX5 143 "SpringLevels$Hero" "x" "I") (by decide +kernel)
  have i_0 : ∀ w ∈ wsX00, w ∈ wsX5_begin := by decide +kernel
  have i_1 : ∀ w ∈ wsX10, w ∈ wsX5_begin := by decide +kernel
  have i_2 : ∀ w ∈ wsX20, w ∈ wsX5_begin := by decide +kernel
  have i_5 : ∀ w ∈ wsX50, w ∈ wsX5_begin := by decide +kernel
  have hl := lv_entry ([.ref sl, .int (zI pl), .int (zI L)]) (n := 4) (Nat.le_of_ble_eq_true rfl)
  rw [lg_entry_eq]
  generalize (lg_sl ([.ref sl, .int (zI pl), .int (zI L)]) ++ List.replicate (4 - (lg_sl ([.ref sl, .int (zI pl), .int (zI L)])).length) Slot.unset).toArray = ls at hl ⊢
  have hl : lv_has ls 4 [(0, .ref sl), (1, .int (zI pl)), (2, .int (zI L))] := hl
  refine lv_iload_n hx hb dX5_begin_0 rfl (lv_at hl 1 rfl) ?_
  refine lz_if_lt (tgt := 9) hx hb dX5_begin_1 (by decide) (by omega) (fun c_1 => ?_) (fun c_1 => ?_)
  · exfalso; omega
  ·
    refine lv_iload_n hx hb dX5_begin_4 rfl (lv_at hl 1 rfl) ?_
    refine lv_iconst (v := zI 4) hx hb dX5_begin_5 (rfl) ?_
    refine lz_icmp_lt (tgt := 19) hx hb dX5_begin_6 (by decide) (by omega) ⟨by decide, by decide⟩ (fun c_2 => ?_) (fun c_2 => ?_)
    ·
      refine lv_aload_n hx hb dX5_begin_19 rfl (lv_at hl 0 rfl) ?_
      refine lv_iload_n hx hb dX5_begin_20 rfl (lv_at hl 2 rfl) ?_
      have hPc := hP.sub (ws' := [(sl, .inr (5, [.ref sh, .int (zI lc), .ref ru, .ref tr, .ref se])), zQ cL sh 6 sf]) [0, 1] rfl
      have hDc := hD.sub (ws' := [(sl, .inr (5, [.ref sh, .int (zI lc), .ref ru, .ref tr, .ref se])), zQ cL sh 6 sf]) [0, 1] (by decide) rfl
      have hFc := va_free (wc := [(sl, .inr (5, [.ref sh, .int (zI lc), .ref ru, .ref tr, .ref se])), zQ cL sh 6 sf]) hD hS hA [0, 1] rfl
      refine vx_callq (vx_runV (As := [.int (zI L)]) (rest := []) ⟨hx, hb, hml, hown, hts⟩ (x_X5_levelNumbered_x l hfl dC dI cI cZ cL cT cJ s.heap.size sl sh lc ru tr se sf L (by first | assumption | omega) (by first | assumption | omega)) (cwV 1 hts gX5_begin_X5_levelNumbered rfl rfl rfl (by decide +kernel) ⟨Nat.le_of_ble_eq_true rfl, Nat.le_of_ble_eq_true rfl⟩) ⟨zPx_blind, va_recv hK hPc (ci := 5) (q0 := 0) rfl rfl, zPx_pre hPc hDc hK hEx hS hFc⟩ rfl rfl hl.1 rfl (lv_room (Nat.le_of_ble_eq_true rfl)) dX5_begin_21 ⟨Nat.le_of_ble_eq_true rfl, Nat.le_of_ble_eq_true rfl⟩) hS (fun q _ h => hFc q h) hFc (fun q _ h => hFc q h) (fun E9 ce9 q9 u t H1 locs ht hvm _ hB hz1 hk1 hS hc9 hv9 hf9 => ?_) (fun r u t H1 locs ht hvm hw => hw.elim)
      obtain ⟨rfl, hP1, hK1, hD1⟩ := hB
      rw [ht] at hP1
      obtain ⟨hP, hD⟩ := va_join (wr := []) (w1 := [(sl, .inr (5, [.ref sh, .int (zI lc), .ref ru, .ref tr, .ref se])), zQ cL sh 6 sf]) hP hD [0, 1] [] rfl rfl (by decide) (by decide) hk1 hFc hP1 hD1
      have hP : va_P (dC, dI) vwCl [(sl, .inr (5, [.ref sh, .int (zI lc), .ref ru, .ref tr, .ref se])), zQ cL sh 6 sf] H1 := hP.sub [0, 1] rfl
      have hD : va_D A [(sl, .inr (5, [.ref sh, .int (zI lc), .ref ru, .ref tr, .ref se])), zQ cL sh 6 sf] := hD.sub [0, 1] (by decide) rfl
      exact vx_out (fun x h => (hnt x h).elim) hlocks hc9 hv9 hf9 (fun t9 ht9 hvm9 => ⟨(), trivial, ⟨rfl, by rw [ht9]; exact hP, va_K.moved hvm9 hK, hD⟩, hS.F ht9⟩) hS.2.2 (Nat.le_of_ble_eq_true rfl) (Nat.le_of_ble_eq_true rfl)
    · exfalso; omega
set_option maxHeartbeats 4000000 in
set_option maxRecDepth 100000 in
theorem x_X5_begin_xc (l : Launch) (hfl : l.stackTraces = false) (dC : Nat → ClassId) (dI : Nat → Nat → Nat) (cI cZ cL cT cJ : ClassId) (sz : Nat) (sl : Nat) (sh : Nat) (lc : Int) (ru : Nat) (tr : Nat) (se : Nat) (sf : Nat → Option Nat) (L : Int) (k : Nat) (lv : Nat) (w : Int) (h : Int) (ka : Nat) (ta : Nat) (sx : Int) (sy : Int) (fx : Int) (fy : Int) (lf : Int) (un : Int) (pl : Int) (gk : L = (k : Int) ∧ k < 6) (gf : sf k = some lv) (gp : 0 ≤ pl ∧ pl ≤ 3) (gu : un = 0) : vx_Met l yX5_begin wsX5_begin ({ frames := 6, cells := 1, slots := 6, locals := 90 }) (zPx (dC, dI) (zT cI cZ cL cT cJ) sz [.ref sl, .int (zI pl), .int (zI L)] [(sl, .inr (5, [.ref sh, .int (zI lc), .ref ru, .ref tr, .ref se])), zQ cL sh 6 sf, (lv, .inr (1, [.int (zI w), .int (zI h), .ref ka, .ref ta, .int (zI sx), .int (zI sy), .int (zI fx), .int (zI fy), .int (zI lf), .int (zI un)]))]) (va_Qi (S := Unit) (fun _ _ => False) (fun _ _ => True) (va_A [(sl, .inr (5, [.ref sh, .int (zI lc), .ref ru, .ref tr, .ref se])), zQ cL sh 6 sf, (lv, .inr (1, [.int (zI w), .int (zI h), .ref ka, .ref ta, .int (zI sx), .int (zI sy), .int (zI fx), .int (zI fy), .int (zI lf), .int (zI un)]))] sz)) (vx_X (S := Unit) (fun _ => True) (zBX (dC, dI) (zT cI cZ cL cT cJ) (va_A [(sl, .inr (5, [.ref sh, .int (zI lc), .ref ru, .ref tr, .ref se])), zQ cL sh 6 sf, (lv, .inr (1, [.int (zI w), .int (zI h), .ref ka, .ref ta, .int (zI sx), .int (zI sy), .int (zI fx), .int (zI fy), .int (zI lf), .int (zI un)]))] sz) "java/lang/IllegalStateException" [(sl, .inr (5, [.ref sh, .int (zI lc), .ref ru, .ref tr, .ref se])), zQ cL sh 6 sf, (lv, .inr (1, [.int (zI w), .int (zI h), .ref ka, .ref ta, .int (zI sx), .int (zI sy), .int (zI fx), .int (zI fy), .int (zI lf), .int (zI un)]))]) (va_A [(sl, .inr (5, [.ref sh, .int (zI lc), .ref ru, .ref tr, .ref se])), zQ cL sh 6 sf, (lv, .inr (1, [.int (zI w), .int (zI h), .ref ka, .ref ta, .int (zI sx), .int (zI sy), .int (zI fx), .int (zI fy), .int (zI lf), .int (zI un)]))] sz)) 1 6 (va_A [(sl, .inr (5, [.ref sh, .int (zI lc), .ref ru, .ref tr, .ref se])), zQ cL sh 6 sf, (lv, .inr (1, [.int (zI w), .int (zI h), .ref ka, .ref ta, .int (zI sx), .int (zI sy), .int (zI fx), .int (zI fy), .int (zI lf), .int (zI un)]))] sz) := by
  refine vx_ofW (cc := cX5_begin) (maxL := 4) (ret := (some .int)) (by decide) rfl ?_
  intro p e s m args below meth c s₁ B hml hnt hv
  obtain ⟨rfl, hsz, hP, hK, hD0, hEx⟩ := hv
  have hx := B.exec
  have hb := B.bytes
  have hr := B.returns
  have hts := atoms_spec (ws := wsX5_begin) B.pre
  have hown : s.vm.findClass RX5 = some m.cls := findClass_of_methodNamed B.named
  have hlocks := B.notSynchronized
  subst hsz
  have hD := hD0.self (sz := s.heap.size)
  generalize hAe : va_A [(sl, .inr (5, [.ref sh, .int (zI lc), .ref ru, .ref tr, .ref se])), zQ cL sh 6 sf, (lv, .inr (1, [.int (zI w), .int (zI h), .ref ka, .ref ta, .int (zI sx), .int (zI sy), .int (zI fx), .int (zI fy), .int (zI lf), .int (zI un)]))] s.heap.size = A at hD hEx ⊢
  have hA : ∀ q : Nat, s.heap.size ≤ q → A q := fun q h => by rw [← hAe]; exact Or.inr h
  clear hAe hD0
  have hS : va_S A s.heap s.heap [] := va_S.rf
  have hP : va_P (dC, dI) vwCl [(sl, .inr (5, [.ref sh, .int (zI lc), .ref ru, .ref tr, .ref se])), zQ cL sh 6 sf, (lv, .inr (1, [.int (zI w), .int (zI h), .ref ka, .ref ta, .int (zI sx), .int (zI sy), .int (zI fx), .int (zI fy), .int (zI lf), .int (zI un)]))] s.heap := hP
  have f_22 := hts (.fieldLink RX5 22 "SpringLevels" "run" "LSpringLevels$Run;") (by decide +kernel)
  have f_125 := hts (.fieldLink RX5 125 "SpringLevels$Level" "unlocked" "Z") (by decide +kernel)
  have f_140 := hts (.fieldLink RX5 140 "SpringLevels$Run" "hero" "LSpringLevels$Hero;") (by decide +kernel)
  have f_143 := hts (.fieldLink RX5 143 "SpringLevels$Hero" "x" "I") (by decide +kernel)
  have i_0 : ∀ w ∈ wsX00, w ∈ wsX5_begin := by decide +kernel
  have i_1 : ∀ w ∈ wsX10, w ∈ wsX5_begin := by decide +kernel
  have i_2 : ∀ w ∈ wsX20, w ∈ wsX5_begin := by decide +kernel
  have i_5 : ∀ w ∈ wsX50, w ∈ wsX5_begin := by decide +kernel
  have hl := lv_entry ([.ref sl, .int (zI pl), .int (zI L)]) (n := 4) (Nat.le_of_ble_eq_true rfl)
  rw [lg_entry_eq]
  generalize (lg_sl ([.ref sl, .int (zI pl), .int (zI L)]) ++ List.replicate (4 - (lg_sl ([.ref sl, .int (zI pl), .int (zI L)])).length) Slot.unset).toArray = ls at hl ⊢
  have hl : lv_has ls 4 [(0, .ref sl), (1, .int (zI pl)), (2, .int (zI L))] := hl
  refine lv_iload_n hx hb dX5_begin_0 rfl (lv_at hl 1 rfl) ?_
  refine lz_if_lt (tgt := 9) hx hb dX5_begin_1 (by decide) (by omega) (fun c_1 => ?_) (fun c_1 => ?_)
  · exfalso; omega
  ·
    refine lv_iload_n hx hb dX5_begin_4 rfl (lv_at hl 1 rfl) ?_
    refine lv_iconst (v := zI 4) hx hb dX5_begin_5 (rfl) ?_
    refine lz_icmp_lt (tgt := 19) hx hb dX5_begin_6 (by decide) (by omega) ⟨by decide, by decide⟩ (fun c_2 => ?_) (fun c_2 => ?_)
    ·
      refine lv_aload_n hx hb dX5_begin_19 rfl (lv_at hl 0 rfl) ?_
      refine lv_iload_n hx hb dX5_begin_20 rfl (lv_at hl 2 rfl) ?_
      have hPc := hP.sub (ws' := [(sl, .inr (5, [.ref sh, .int (zI lc), .ref ru, .ref tr, .ref se])), zQ cL sh 6 sf]) [0, 1] rfl
      have hDc := hD.sub (ws' := [(sl, .inr (5, [.ref sh, .int (zI lc), .ref ru, .ref tr, .ref se])), zQ cL sh 6 sf]) [0, 1] (by decide) rfl
      have hFc := va_free (wc := [(sl, .inr (5, [.ref sh, .int (zI lc), .ref ru, .ref tr, .ref se])), zQ cL sh 6 sf]) hD hS hA [0, 1] rfl
      refine va_callq (va_runV (As := [.int (zI L)]) (rest := []) ⟨hx, hb, hml, hown, hts⟩ (c_X5_levelNumbered l dC dI cI cZ cL cT cJ s.heap.size sl sh lc ru tr se sf L k lv (by first | assumption | omega) (by first | assumption | omega)) (cwV 1 hts gX5_begin_X5_levelNumbered rfl rfl rfl (by decide +kernel) ⟨Nat.le_of_ble_eq_true rfl, Nat.le_of_ble_eq_true rfl⟩) ⟨zP_blind, va_recv hK hPc (ci := 5) (q0 := 0) rfl rfl, zP_pre hPc hDc hK⟩ rfl rfl hl.1 rfl (lv_room (Nat.le_of_ble_eq_true rfl)) dX5_begin_21 ⟨Nat.le_of_ble_eq_true rfl, Nat.le_of_ble_eq_true rfl⟩) hS (fun q _ h => hFc q h) hFc (fun r_3 u_3 t H1 locs ht hvm hw hB hz1 hk1 hS => ?_)
      obtain ⟨hP1, hK1, hD1⟩ := hB
      rw [ht] at hP1
      have hP1 : va_P (dC, dI) vwCl [(sl, .inr (5, [.ref sh, .int (zI lc), .ref ru, .ref tr, .ref se])), zQ cL sh 6 sf] H1 := hP1
      obtain ⟨hP, hD⟩ := va_join (wr := [(lv, .inr (1, [.int (zI w), .int (zI h), .ref ka, .ref ta, .int (zI sx), .int (zI sy), .int (zI fx), .int (zI fy), .int (zI lf), .int (zI un)]))]) (w1 := [(sl, .inr (5, [.ref sh, .int (zI lc), .ref ru, .ref tr, .ref se])), zQ cL sh 6 sf]) hP hD [0, 1] [2] rfl rfl (by decide) (by decide) hk1 hFc hP1 hD1
      clear hP1 hD1 hk1 hFc hPc hDc hz1
      generalize H1 = H at hP hS ⊢
      have hP : va_P (dC, dI) vwCl [(sl, .inr (5, [.ref sh, .int (zI lc), .ref ru, .ref tr, .ref se])), zQ cL sh 6 sf, (lv, .inr (1, [.int (zI w), .int (zI h), .ref ka, .ref ta, .int (zI sx), .int (zI sy), .int (zI fx), .int (zI fy), .int (zI lf), .int (zI un)]))] H := hP.sub [1, 2, 0] rfl
      have hD : va_D A [(sl, .inr (5, [.ref sh, .int (zI lc), .ref ru, .ref tr, .ref se])), zQ cL sh 6 sf, (lv, .inr (1, [.int (zI w), .int (zI h), .ref ka, .ref ta, .int (zI sx), .int (zI sy), .int (zI fx), .int (zI fy), .int (zI lf), .int (zI un)]))] := hD.sub [1, 2, 0] (by decide) rfl
      clear hK1 hvm
      obtain ⟨rfl, po_4⟩ := hw
      refine W.eq (g2 := F0 m 24 ls [.ref lv]) rfl ?_
      refine lv_astore_n (lv' := [(3, .ref lv), (0, .ref sl), (1, .int (zI pl)), (2, .int (zI L))]) hx hb dX5_begin_24 rfl hl (by decide) rfl (fun ls hl => ?_)
      refine lv_aload_n hx hb dX5_begin_25 rfl (lv_at hl 0 rfl) ?_
      refine va_get (D := (dC, dI)) (ci := 1) (v := .int (zI un)) (C := RX1) (T := TX1) (N := 10) hx hb hts i_1 hown hK hP 2 rfl rfl 9 (by decide) f_125 (fun _ h9 => h9) rfl dX5_begin_26 ?_
      refine lz_if_ne (tgt := 42) hx hb dX5_begin_29 (by decide) (by omega) (fun c_5 => ?_) (fun c_5 => ?_)
      · exfalso; omega
      ·
        obtain ⟨sa, hsa⟩ := zEx_s134 hEx
        exact vx_throwS (A := A) hx hb hfl (own := RX5) (cls := "java/lang/IllegalStateException") (text := "the level is not open") (names := ["java/lang/RuntimeException", "java/lang/Exception"]) (ik := 47) (is := 134) (ic := 51) hown (by decide) (by decide) (hts (.classLink RX5 47 "java/lang/IllegalStateException") (by decide +kernel)) (hts (.initialized "java/lang/IllegalStateException") (by decide +kernel)) hsa (vx_hat (fun w h => hts w (List.mem_cons_of_mem _ (List.mem_append_right _ h))) zg_51 (vx_c (va_Nw.use rfl hEx.2.2.2.1) (vx_c (va_Nw.use rfl hEx.2.2.2.2.2.1) (vx_c (va_Nw.use rfl hEx.2.2.2.2.2.2.1) (vx_c (va_Nw.use rfl hEx.2.2.2.2.2.2.2.1) vx_n))))) zo_51_47 hEx.1 hEx.2.1 hS (by rw [hml]; exact hl.1) dX5_begin_32 dX5_begin_35 dX5_begin_36 dX5_begin_38 dX5_begin_41 (fun x h => (hnt x h).elim) (Nat.le_of_ble_eq_true rfl) (Nat.le_of_ble_eq_true rfl) (Nat.le_of_ble_eq_true rfl) (Nat.le_of_ble_eq_true rfl) hlocks (fun t hvm hz hq => ⟨(), trivial, ⟨rfl, va_P.kept hP (fun k q hk => hq q.1 (hP k q hk).lt), va_K.moved hvm hK, hD⟩, Nat.le_trans hS.1 hz, fun q h1 h2 => (hq q (Nat.lt_of_lt_of_le h1 hS.1)).trans (hS.2.1 q h1 h2)⟩) hS.2.2 (Nat.le_of_ble_eq_true rfl) (Nat.le_of_ble_eq_true rfl)
    · exfalso; omega
set_option maxHeartbeats 4000000 in
set_option maxRecDepth 100000 in
theorem x_X5_play_xa (l : Launch) (hfl : l.stackTraces = false) (dC : Nat → ClassId) (dI : Nat → Nat → Nat) (cI cZ cL cT cJ : ClassId) (sz : Nat) (sl : Nat) (sh : Nat) (lc : Int) (ru : Nat) (tr : Nat) (se : Nat) (i : Int) (r9i : -2147483648 ≤ i ∧ i < 2147483648) (gq : ¬ (0 ≤ i ∧ i ≤ 5)) : vx_Met l yX5_play wsX5_play ({ frames := 6, cells := 1, slots := 6, locals := 91 }) (zPx (dC, dI) (zT cI cZ cL cT cJ) sz [.ref sl, .int (zI i)] [(sl, .inr (5, [.ref sh, .int (zI lc), .ref ru, .ref tr, .ref se]))]) (va_Qi (S := Unit) (fun _ _ => False) (fun _ _ => True) (va_A [(sl, .inr (5, [.ref sh, .int (zI lc), .ref ru, .ref tr, .ref se]))] sz)) (vx_X (S := Unit) (fun _ => True) (zBX (dC, dI) (zT cI cZ cL cT cJ) (va_A [(sl, .inr (5, [.ref sh, .int (zI lc), .ref ru, .ref tr, .ref se]))] sz) "java/lang/IllegalArgumentException" [(sl, .inr (5, [.ref sh, .int (zI lc), .ref ru, .ref tr, .ref se]))]) (va_A [(sl, .inr (5, [.ref sh, .int (zI lc), .ref ru, .ref tr, .ref se]))] sz)) 1 6 (va_A [(sl, .inr (5, [.ref sh, .int (zI lc), .ref ru, .ref tr, .ref se]))] sz) := by
  refine vx_ofW (cc := cX5_play) (maxL := 3) (ret := (some .int)) (by decide) rfl ?_
  intro p e s m args below meth c s₁ B hml hnt hv
  obtain ⟨rfl, hsz, hP, hK, hD0, hEx⟩ := hv
  have hx := B.exec
  have hb := B.bytes
  have hr := B.returns
  have hts := atoms_spec (ws := wsX5_play) B.pre
  have hown : s.vm.findClass RX5 = some m.cls := findClass_of_methodNamed B.named
  have hlocks := B.notSynchronized
  subst hsz
  have hD := hD0.self (sz := s.heap.size)
  generalize hAe : va_A [(sl, .inr (5, [.ref sh, .int (zI lc), .ref ru, .ref tr, .ref se]))] s.heap.size = A at hD hEx ⊢
  have hA : ∀ q : Nat, s.heap.size ≤ q → A q := fun q h => by rw [← hAe]; exact Or.inr h
  clear hAe hD0
  have hS : va_S A s.heap s.heap [] := va_S.rf
  have hP : va_P (dC, dI) vwCl [(sl, .inr (5, [.ref sh, .int (zI lc), .ref ru, .ref tr, .ref se]))] s.heap := hP
  have f_22 := hts (.fieldLink RX5 22 "SpringLevels" "run" "LSpringLevels$Run;") (by decide +kernel)
  have f_148 := hts (.fieldLink RX5 148 "SpringLevels$Run" "level" "LSpringLevels$Level;") (by decide +kernel)
  have f_152 := hts (.fieldLink RX5 152 "SpringLevels$Run" "outcome" "I") (by decide +kernel)
  have f_161 := hts (.fieldLink RX5 161 "SpringLevels$Run" "player" "I") (by decide +kernel)
  have f_164 := hts (.fieldLink RX5 164 "SpringLevels$Run" "tape" "LSpringLevels$Tape;") (by decide +kernel)
  have i_2 : ∀ w ∈ wsX20, w ∈ wsX5_play := by decide +kernel
  have i_5 : ∀ w ∈ wsX50, w ∈ wsX5_play := by decide +kernel
  have hl := lv_entry ([.ref sl, .int (zI i)]) (n := 3) (Nat.le_of_ble_eq_true rfl)
  rw [lg_entry_eq]
  generalize (lg_sl ([.ref sl, .int (zI i)]) ++ List.replicate (3 - (lg_sl ([.ref sl, .int (zI i)])).length) Slot.unset).toArray = ls at hl ⊢
  have hl : lv_has ls 3 [(0, .ref sl), (1, .int (zI i))] := hl
  refine lv_iload_n hx hb dX5_play_0 rfl (lv_at hl 1 rfl) ?_
  refine lz_if_lt (tgt := 10) hx hb dX5_play_1 (by decide) (by omega) (fun c_1 => ?_) (fun c_1 => ?_)
  ·
    obtain ⟨sa, hsa⟩ := zEx_s146 hEx
    exact vx_throwS (A := A) hx hb hfl (own := RX5) (cls := "java/lang/IllegalArgumentException") (text := "input is out of range") (names := ["java/lang/RuntimeException", "java/lang/Exception"]) (ik := 40) (is := 146) (ic := 44) hown (by decide) (by decide) (hts (.classLink RX5 40 "java/lang/IllegalArgumentException") (by decide +kernel)) (hts (.initialized "java/lang/IllegalArgumentException") (by decide +kernel)) hsa (vx_hat (fun w h => hts w (List.mem_cons_of_mem _ (List.mem_append_left _ (List.mem_append_right _ h)))) zg_44 (vx_c (va_Nw.use rfl hEx.2.2.1) (vx_c (va_Nw.use rfl hEx.2.2.2.2.2.1) (vx_c (va_Nw.use rfl hEx.2.2.2.2.2.2.1) (vx_c (va_Nw.use rfl hEx.2.2.2.2.2.2.2.1) vx_n))))) zo_44_40 hEx.1 hEx.2.1 hS (by rw [hml]; exact hl.1) dX5_play_10 dX5_play_13 dX5_play_14 dX5_play_16 dX5_play_19 (fun x h => (hnt x h).elim) (Nat.le_of_ble_eq_true rfl) (Nat.le_of_ble_eq_true rfl) (Nat.le_of_ble_eq_true rfl) (Nat.le_of_ble_eq_true rfl) hlocks (fun t hvm hz hq => ⟨(), trivial, ⟨rfl, va_P.kept hP (fun k q hk => hq q.1 (hP k q hk).lt), va_K.moved hvm hK, hD⟩, Nat.le_trans hS.1 hz, fun q h1 h2 => (hq q (Nat.lt_of_lt_of_le h1 hS.1)).trans (hS.2.1 q h1 h2)⟩) hS.2.2 (Nat.le_of_ble_eq_true rfl) (Nat.le_of_ble_eq_true rfl)
  ·
    refine lv_iload_n hx hb dX5_play_4 rfl (lv_at hl 1 rfl) ?_
    refine lv_bipush (v := zI 6) hx hb dX5_play_5 (by decide) ?_
    refine lz_icmp_lt (tgt := 20) hx hb dX5_play_7 (by decide) (by omega) ⟨by decide, by decide⟩ (fun c_2 => ?_) (fun c_2 => ?_)
    · exfalso; omega
    ·
      obtain ⟨sa, hsa⟩ := zEx_s146 hEx
      exact vx_throwS (A := A) hx hb hfl (own := RX5) (cls := "java/lang/IllegalArgumentException") (text := "input is out of range") (names := ["java/lang/RuntimeException", "java/lang/Exception"]) (ik := 40) (is := 146) (ic := 44) hown (by decide) (by decide) (hts (.classLink RX5 40 "java/lang/IllegalArgumentException") (by decide +kernel)) (hts (.initialized "java/lang/IllegalArgumentException") (by decide +kernel)) hsa (vx_hat (fun w h => hts w (List.mem_cons_of_mem _ (List.mem_append_left _ (List.mem_append_right _ h)))) zg_44 (vx_c (va_Nw.use rfl hEx.2.2.1) (vx_c (va_Nw.use rfl hEx.2.2.2.2.2.1) (vx_c (va_Nw.use rfl hEx.2.2.2.2.2.2.1) (vx_c (va_Nw.use rfl hEx.2.2.2.2.2.2.2.1) vx_n))))) zo_44_40 hEx.1 hEx.2.1 hS (by rw [hml]; exact hl.1) dX5_play_10 dX5_play_13 dX5_play_14 dX5_play_16 dX5_play_19 (fun x h => (hnt x h).elim) (Nat.le_of_ble_eq_true rfl) (Nat.le_of_ble_eq_true rfl) (Nat.le_of_ble_eq_true rfl) (Nat.le_of_ble_eq_true rfl) hlocks (fun t hvm hz hq => ⟨(), trivial, ⟨rfl, va_P.kept hP (fun k q hk => hq q.1 (hP k q hk).lt), va_K.moved hvm hK, hD⟩, Nat.le_trans hS.1 hz, fun q h1 h2 => (hq q (Nat.lt_of_lt_of_le h1 hS.1)).trans (hS.2.1 q h1 h2)⟩) hS.2.2 (Nat.le_of_ble_eq_true rfl) (Nat.le_of_ble_eq_true rfl)
set_option maxHeartbeats 4000000 in
set_option maxRecDepth 100000 in
theorem x_X5_play_xb (l : Launch) (hfl : l.stackTraces = false) (dC : Nat → ClassId) (dI : Nat → Nat → Nat) (cI cZ cL cT cJ : ClassId) (sz : Nat) (sl : Nat) (sh : Nat) (lc : Int) (ru : Nat) (tr : Nat) (se : Nat) (rh : Nat) (rt : Nat) (rp : Int) (oc : Int) (i : Int) (gi : 0 ≤ i ∧ i ≤ 5) : vx_Met l yX5_play wsX5_play ({ frames := 6, cells := 1, slots := 6, locals := 91 }) (zPx (dC, dI) (zT cI cZ cL cT cJ) sz [.ref sl, .int (zI i)] [(sl, .inr (5, [.ref sh, .int (zI lc), .ref ru, .ref tr, .ref se])), (ru, .inr (2, [.ref rh, .ref rt, .null, .int (zI rp), .int (zI oc)]))]) (va_Qi (S := Unit) (fun _ _ => False) (fun _ _ => True) (va_A [(sl, .inr (5, [.ref sh, .int (zI lc), .ref ru, .ref tr, .ref se])), (ru, .inr (2, [.ref rh, .ref rt, .null, .int (zI rp), .int (zI oc)]))] sz)) (vx_X (S := Unit) (fun _ => True) (zBX (dC, dI) (zT cI cZ cL cT cJ) (va_A [(sl, .inr (5, [.ref sh, .int (zI lc), .ref ru, .ref tr, .ref se])), (ru, .inr (2, [.ref rh, .ref rt, .null, .int (zI rp), .int (zI oc)]))] sz) "java/lang/IllegalStateException" [(sl, .inr (5, [.ref sh, .int (zI lc), .ref ru, .ref tr, .ref se])), (ru, .inr (2, [.ref rh, .ref rt, .null, .int (zI rp), .int (zI oc)]))]) (va_A [(sl, .inr (5, [.ref sh, .int (zI lc), .ref ru, .ref tr, .ref se])), (ru, .inr (2, [.ref rh, .ref rt, .null, .int (zI rp), .int (zI oc)]))] sz)) 1 6 (va_A [(sl, .inr (5, [.ref sh, .int (zI lc), .ref ru, .ref tr, .ref se])), (ru, .inr (2, [.ref rh, .ref rt, .null, .int (zI rp), .int (zI oc)]))] sz) := by
  refine vx_ofW (cc := cX5_play) (maxL := 3) (ret := (some .int)) (by decide) rfl ?_
  intro p e s m args below meth c s₁ B hml hnt hv
  obtain ⟨rfl, hsz, hP, hK, hD0, hEx⟩ := hv
  have hx := B.exec
  have hb := B.bytes
  have hr := B.returns
  have hts := atoms_spec (ws := wsX5_play) B.pre
  have hown : s.vm.findClass RX5 = some m.cls := findClass_of_methodNamed B.named
  have hlocks := B.notSynchronized
  subst hsz
  have hD := hD0.self (sz := s.heap.size)
  generalize hAe : va_A [(sl, .inr (5, [.ref sh, .int (zI lc), .ref ru, .ref tr, .ref se])), (ru, .inr (2, [.ref rh, .ref rt, .null, .int (zI rp), .int (zI oc)]))] s.heap.size = A at hD hEx ⊢
  have hA : ∀ q : Nat, s.heap.size ≤ q → A q := fun q h => by rw [← hAe]; exact Or.inr h
  clear hAe hD0
  have hS : va_S A s.heap s.heap [] := va_S.rf
  have hP : va_P (dC, dI) vwCl [(sl, .inr (5, [.ref sh, .int (zI lc), .ref ru, .ref tr, .ref se])), (ru, .inr (2, [.ref rh, .ref rt, .null, .int (zI rp), .int (zI oc)]))] s.heap := hP
  have f_22 := hts (.fieldLink RX5 22 "SpringLevels" "run" "LSpringLevels$Run;") (by decide +kernel)
  have f_148 := hts (.fieldLink RX5 148 "SpringLevels$Run" "level" "LSpringLevels$Level;") (by decide +kernel)
  have f_152 := hts (.fieldLink RX5 152 "SpringLevels$Run" "outcome" "I") (by decide +kernel)
  have f_161 := hts (.fieldLink RX5 161 "SpringLevels$Run" "player" "I") (by decide +kernel)
  have f_164 := hts (.fieldLink RX5 164 "SpringLevels$Run" "tape" "LSpringLevels$Tape;") (by decide +kernel)
  have i_2 : ∀ w ∈ wsX20, w ∈ wsX5_play := by decide +kernel
  have i_5 : ∀ w ∈ wsX50, w ∈ wsX5_play := by decide +kernel
  have hl := lv_entry ([.ref sl, .int (zI i)]) (n := 3) (Nat.le_of_ble_eq_true rfl)
  rw [lg_entry_eq]
  generalize (lg_sl ([.ref sl, .int (zI i)]) ++ List.replicate (3 - (lg_sl ([.ref sl, .int (zI i)])).length) Slot.unset).toArray = ls at hl ⊢
  have hl : lv_has ls 3 [(0, .ref sl), (1, .int (zI i))] := hl
  refine lv_iload_n hx hb dX5_play_0 rfl (lv_at hl 1 rfl) ?_
  refine lz_if_lt (tgt := 10) hx hb dX5_play_1 (by decide) (by omega) (fun c_1 => ?_) (fun c_1 => ?_)
  · exfalso; omega
  ·
    refine lv_iload_n hx hb dX5_play_4 rfl (lv_at hl 1 rfl) ?_
    refine lv_bipush (v := zI 6) hx hb dX5_play_5 (by decide) ?_
    refine lz_icmp_lt (tgt := 20) hx hb dX5_play_7 (by decide) (by omega) ⟨by decide, by decide⟩ (fun c_2 => ?_) (fun c_2 => ?_)
    ·
      refine lv_aload_n hx hb dX5_play_20 rfl (lv_at hl 0 rfl) ?_
      refine va_get (D := (dC, dI)) (ci := 5) (v := .ref ru) (C := RX5) (T := TX5) (N := 5) hx hb hts i_5 hown hK hP 0 rfl rfl 2 (by decide) f_22 (fun _ h9 => h9) rfl dX5_play_21 ?_
      refine va_get (D := (dC, dI)) (ci := 2) (v := .null) (C := RX2) (T := TX2) (N := 5) hx hb hts i_2 hown hK hP 1 rfl rfl 2 (by decide) f_148 (fun _ h9 => h9) rfl dX5_play_24 ?_
      refine lv_astore_nN (lv' := [(2, .null), (0, .ref sl), (1, .int (zI i))]) hx hb dX5_play_27 rfl hl (by decide) rfl (fun ls hl => ?_)
      refine lv_aload_nN hx hb dX5_play_28 rfl (lv_at hl 0 rfl) ?_
      refine lv_ifnullN (tgt := 42) hx hb dX5_play_29 (by decide) ?_
      obtain ⟨sa, hsa⟩ := zEx_s155 hEx
      exact vx_throwS (A := A) hx hb hfl (own := RX5) (cls := "java/lang/IllegalStateException") (text := "there is no run that is RUNNING") (names := ["java/lang/RuntimeException", "java/lang/Exception"]) (ik := 47) (is := 155) (ic := 51) hown (by decide) (by decide) (hts (.classLink RX5 47 "java/lang/IllegalStateException") (by decide +kernel)) (hts (.initialized "java/lang/IllegalStateException") (by decide +kernel)) hsa (vx_hat (fun w h => hts w (List.mem_cons_of_mem _ (List.mem_append_right _ h))) zg_51 (vx_c (va_Nw.use rfl hEx.2.2.2.1) (vx_c (va_Nw.use rfl hEx.2.2.2.2.2.1) (vx_c (va_Nw.use rfl hEx.2.2.2.2.2.2.1) (vx_c (va_Nw.use rfl hEx.2.2.2.2.2.2.2.1) vx_n))))) zo_51_47 hEx.1 hEx.2.1 hS (by rw [hml]; exact hl.1) dX5_play_42 dX5_play_45 dX5_play_46 dX5_play_48 dX5_play_51 (fun x h => (hnt x h).elim) (Nat.le_of_ble_eq_true rfl) (Nat.le_of_ble_eq_true rfl) (Nat.le_of_ble_eq_true rfl) (Nat.le_of_ble_eq_true rfl) hlocks (fun t hvm hz hq => ⟨(), trivial, ⟨rfl, va_P.kept hP (fun k q hk => hq q.1 (hP k q hk).lt), va_K.moved hvm hK, hD⟩, Nat.le_trans hS.1 hz, fun q h1 h2 => (hq q (Nat.lt_of_lt_of_le h1 hS.1)).trans (hS.2.1 q h1 h2)⟩) hS.2.2 (Nat.le_of_ble_eq_true rfl) (Nat.le_of_ble_eq_true rfl)
    · exfalso; omega
set_option maxHeartbeats 4000000 in
set_option maxRecDepth 100000 in
theorem x_X5_play_xc (l : Launch) (hfl : l.stackTraces = false) (dC : Nat → ClassId) (dI : Nat → Nat → Nat) (cI cZ cL cT cJ : ClassId) (sz : Nat) (sl : Nat) (sh : Nat) (lc : Int) (ru : Nat) (tr : Nat) (se : Nat) (rh : Nat) (rt : Nat) (rp : Int) (oc : Int) (lv : Nat) (i : Int) (gi : 0 ≤ i ∧ i ≤ 5) (goc : ¬ oc = 0) (goc2 : 0 ≤ oc ∧ oc ≤ 2) : vx_Met l yX5_play wsX5_play ({ frames := 6, cells := 1, slots := 6, locals := 91 }) (zPx (dC, dI) (zT cI cZ cL cT cJ) sz [.ref sl, .int (zI i)] [(sl, .inr (5, [.ref sh, .int (zI lc), .ref ru, .ref tr, .ref se])), (ru, .inr (2, [.ref rh, .ref rt, .ref lv, .int (zI rp), .int (zI oc)]))]) (va_Qi (S := Unit) (fun _ _ => False) (fun _ _ => True) (va_A [(sl, .inr (5, [.ref sh, .int (zI lc), .ref ru, .ref tr, .ref se])), (ru, .inr (2, [.ref rh, .ref rt, .ref lv, .int (zI rp), .int (zI oc)]))] sz)) (vx_X (S := Unit) (fun _ => True) (zBX (dC, dI) (zT cI cZ cL cT cJ) (va_A [(sl, .inr (5, [.ref sh, .int (zI lc), .ref ru, .ref tr, .ref se])), (ru, .inr (2, [.ref rh, .ref rt, .ref lv, .int (zI rp), .int (zI oc)]))] sz) "java/lang/IllegalStateException" [(sl, .inr (5, [.ref sh, .int (zI lc), .ref ru, .ref tr, .ref se])), (ru, .inr (2, [.ref rh, .ref rt, .ref lv, .int (zI rp), .int (zI oc)]))]) (va_A [(sl, .inr (5, [.ref sh, .int (zI lc), .ref ru, .ref tr, .ref se])), (ru, .inr (2, [.ref rh, .ref rt, .ref lv, .int (zI rp), .int (zI oc)]))] sz)) 1 6 (va_A [(sl, .inr (5, [.ref sh, .int (zI lc), .ref ru, .ref tr, .ref se])), (ru, .inr (2, [.ref rh, .ref rt, .ref lv, .int (zI rp), .int (zI oc)]))] sz) := by
  refine vx_ofW (cc := cX5_play) (maxL := 3) (ret := (some .int)) (by decide) rfl ?_
  intro p e s m args below meth c s₁ B hml hnt hv
  obtain ⟨rfl, hsz, hP, hK, hD0, hEx⟩ := hv
  have hx := B.exec
  have hb := B.bytes
  have hr := B.returns
  have hts := atoms_spec (ws := wsX5_play) B.pre
  have hown : s.vm.findClass RX5 = some m.cls := findClass_of_methodNamed B.named
  have hlocks := B.notSynchronized
  subst hsz
  have hD := hD0.self (sz := s.heap.size)
  generalize hAe : va_A [(sl, .inr (5, [.ref sh, .int (zI lc), .ref ru, .ref tr, .ref se])), (ru, .inr (2, [.ref rh, .ref rt, .ref lv, .int (zI rp), .int (zI oc)]))] s.heap.size = A at hD hEx ⊢
  have hA : ∀ q : Nat, s.heap.size ≤ q → A q := fun q h => by rw [← hAe]; exact Or.inr h
  clear hAe hD0
  have hS : va_S A s.heap s.heap [] := va_S.rf
  have hP : va_P (dC, dI) vwCl [(sl, .inr (5, [.ref sh, .int (zI lc), .ref ru, .ref tr, .ref se])), (ru, .inr (2, [.ref rh, .ref rt, .ref lv, .int (zI rp), .int (zI oc)]))] s.heap := hP
  have f_22 := hts (.fieldLink RX5 22 "SpringLevels" "run" "LSpringLevels$Run;") (by decide +kernel)
  have f_148 := hts (.fieldLink RX5 148 "SpringLevels$Run" "level" "LSpringLevels$Level;") (by decide +kernel)
  have f_152 := hts (.fieldLink RX5 152 "SpringLevels$Run" "outcome" "I") (by decide +kernel)
  have f_161 := hts (.fieldLink RX5 161 "SpringLevels$Run" "player" "I") (by decide +kernel)
  have f_164 := hts (.fieldLink RX5 164 "SpringLevels$Run" "tape" "LSpringLevels$Tape;") (by decide +kernel)
  have i_2 : ∀ w ∈ wsX20, w ∈ wsX5_play := by decide +kernel
  have i_5 : ∀ w ∈ wsX50, w ∈ wsX5_play := by decide +kernel
  have hl := lv_entry ([.ref sl, .int (zI i)]) (n := 3) (Nat.le_of_ble_eq_true rfl)
  rw [lg_entry_eq]
  generalize (lg_sl ([.ref sl, .int (zI i)]) ++ List.replicate (3 - (lg_sl ([.ref sl, .int (zI i)])).length) Slot.unset).toArray = ls at hl ⊢
  have hl : lv_has ls 3 [(0, .ref sl), (1, .int (zI i))] := hl
  refine lv_iload_n hx hb dX5_play_0 rfl (lv_at hl 1 rfl) ?_
  refine lz_if_lt (tgt := 10) hx hb dX5_play_1 (by decide) (by omega) (fun c_1 => ?_) (fun c_1 => ?_)
  · exfalso; omega
  ·
    refine lv_iload_n hx hb dX5_play_4 rfl (lv_at hl 1 rfl) ?_
    refine lv_bipush (v := zI 6) hx hb dX5_play_5 (by decide) ?_
    refine lz_icmp_lt (tgt := 20) hx hb dX5_play_7 (by decide) (by omega) ⟨by decide, by decide⟩ (fun c_2 => ?_) (fun c_2 => ?_)
    ·
      refine lv_aload_n hx hb dX5_play_20 rfl (lv_at hl 0 rfl) ?_
      refine va_get (D := (dC, dI)) (ci := 5) (v := .ref ru) (C := RX5) (T := TX5) (N := 5) hx hb hts i_5 hown hK hP 0 rfl rfl 2 (by decide) f_22 (fun _ h9 => h9) rfl dX5_play_21 ?_
      refine va_get (D := (dC, dI)) (ci := 2) (v := .ref lv) (C := RX2) (T := TX2) (N := 5) hx hb hts i_2 hown hK hP 1 rfl rfl 2 (by decide) f_148 (fun _ h9 => h9) rfl dX5_play_24 ?_
      refine lv_astore_n (lv' := [(2, .ref lv), (0, .ref sl), (1, .int (zI i))]) hx hb dX5_play_27 rfl hl (by decide) rfl (fun ls hl => ?_)
      refine lv_aload_n hx hb dX5_play_28 rfl (lv_at hl 0 rfl) ?_
      refine lv_ifnull hx hb dX5_play_29 ?_
      refine lv_aload_n hx hb dX5_play_32 rfl (lv_at hl 1 rfl) ?_
      refine va_get (D := (dC, dI)) (ci := 5) (v := .ref ru) (C := RX5) (T := TX5) (N := 5) hx hb hts i_5 hown hK hP 0 rfl rfl 2 (by decide) f_22 (fun _ h9 => h9) rfl dX5_play_33 ?_
      refine va_get (D := (dC, dI)) (ci := 2) (v := .int (zI oc)) (C := RX2) (T := TX2) (N := 5) hx hb hts i_2 hown hK hP 1 rfl rfl 4 (by decide) f_152 (fun _ h9 => h9) rfl dX5_play_36 ?_
      refine lz_if_eq (tgt := 52) hx hb dX5_play_39 (by decide) (by omega) (fun c_3 => ?_) (fun c_3 => ?_)
      · exfalso; omega
      ·
        obtain ⟨sa, hsa⟩ := zEx_s155 hEx
        exact vx_throwS (A := A) hx hb hfl (own := RX5) (cls := "java/lang/IllegalStateException") (text := "there is no run that is RUNNING") (names := ["java/lang/RuntimeException", "java/lang/Exception"]) (ik := 47) (is := 155) (ic := 51) hown (by decide) (by decide) (hts (.classLink RX5 47 "java/lang/IllegalStateException") (by decide +kernel)) (hts (.initialized "java/lang/IllegalStateException") (by decide +kernel)) hsa (vx_hat (fun w h => hts w (List.mem_cons_of_mem _ (List.mem_append_right _ h))) zg_51 (vx_c (va_Nw.use rfl hEx.2.2.2.1) (vx_c (va_Nw.use rfl hEx.2.2.2.2.2.1) (vx_c (va_Nw.use rfl hEx.2.2.2.2.2.2.1) (vx_c (va_Nw.use rfl hEx.2.2.2.2.2.2.2.1) vx_n))))) zo_51_47 hEx.1 hEx.2.1 hS (by rw [hml]; exact hl.1) dX5_play_42 dX5_play_45 dX5_play_46 dX5_play_48 dX5_play_51 (fun x h => (hnt x h).elim) (Nat.le_of_ble_eq_true rfl) (Nat.le_of_ble_eq_true rfl) (Nat.le_of_ble_eq_true rfl) (Nat.le_of_ble_eq_true rfl) hlocks (fun t hvm hz hq => ⟨(), trivial, ⟨rfl, va_P.kept hP (fun k q hk => hq q.1 (hP k q hk).lt), va_K.moved hvm hK, hD⟩, Nat.le_trans hS.1 hz, fun q h1 h2 => (hq q (Nat.lt_of_lt_of_le h1 hS.1)).trans (hS.2.1 q h1 h2)⟩) hS.2.2 (Nat.le_of_ble_eq_true rfl) (Nat.le_of_ble_eq_true rfl)
    · exfalso; omega
set_option maxHeartbeats 4000000 in
set_option maxRecDepth 100000 in
theorem x_X5_record_xa (l : Launch) (hfl : l.stackTraces = false) (dC : Nat → ClassId) (dI : Nat → Nat → Nat) (cI cZ cL cT cJ : ClassId) (sz : Nat) (sl : Nat) (sh : Nat) (lc : Int) (ru : Nat) (tr : Nat) (se : Nat) (sf : Nat → Option Nat) (L : Int) (pl : Int) (gr9 : -2147483648 ≤ L ∧ L < 2147483648) (gb : L < 0 ∨ 6 ≤ L ∨ ∃ k : Nat, L = (k : Int) ∧ k < 6 ∧ sf k = none) : vx_Met l yX5_record wsX5_record ({ frames := 8, cells := 1, slots := 6, locals := 135 }) (zPx (dC, dI) (zT cI cZ cL cT cJ) sz [.ref sl, .int (zI L), .int (zI pl)] [(sl, .inr (5, [.ref sh, .int (zI lc), .ref ru, .ref tr, .ref se])), zQ cL sh 6 sf]) (va_Qi (S := Unit) (fun _ _ => False) (fun _ _ => True) (va_A [(sl, .inr (5, [.ref sh, .int (zI lc), .ref ru, .ref tr, .ref se])), zQ cL sh 6 sf] sz)) (vx_X (S := Unit) (fun _ => True) (zBX (dC, dI) (zT cI cZ cL cT cJ) (va_A [(sl, .inr (5, [.ref sh, .int (zI lc), .ref ru, .ref tr, .ref se])), zQ cL sh 6 sf] sz) "java/lang/IndexOutOfBoundsException" [(sl, .inr (5, [.ref sh, .int (zI lc), .ref ru, .ref tr, .ref se])), zQ cL sh 6 sf]) (va_A [(sl, .inr (5, [.ref sh, .int (zI lc), .ref ru, .ref tr, .ref se])), zQ cL sh 6 sf] sz)) 1 6 (va_A [(sl, .inr (5, [.ref sh, .int (zI lc), .ref ru, .ref tr, .ref se])), zQ cL sh 6 sf] sz) := by
  refine vx_ofW (cc := cX5_record) (maxL := 3) (ret := (some .int)) (by decide) rfl ?_
  intro p e s m args below meth c s₁ B hml hnt hv
  obtain ⟨rfl, hsz, hP, hK, hD0, hEx⟩ := hv
  have hx := B.exec
  have hb := B.bytes
  have hr := B.returns
  have hts := atoms_spec (ws := wsX5_record) B.pre
  have hown : s.vm.findClass RX5 = some m.cls := findClass_of_methodNamed B.named
  have hlocks := B.notSynchronized
  subst hsz
  have hD := hD0.self (sz := s.heap.size)
  generalize hAe : va_A [(sl, .inr (5, [.ref sh, .int (zI lc), .ref ru, .ref tr, .ref se])), zQ cL sh 6 sf] s.heap.size = A at hD hEx ⊢
  have hA : ∀ q : Nat, s.heap.size ≤ q → A q := fun q h => by rw [← hAe]; exact Or.inr h
  clear hAe hD0
  have hS : va_S A s.heap s.heap [] := va_S.rf
  have hP : va_P (dC, dI) vwCl [(sl, .inr (5, [.ref sh, .int (zI lc), .ref ru, .ref tr, .ref se])), zQ cL sh 6 sf] s.heap := hP
  have f_172 := hts (.fieldLink RX5 172 "SpringLevels$Tape" "length" "I") (by decide +kernel)
  have i_4 : ∀ w ∈ wsX40, w ∈ wsX5_record := by decide +kernel
  have hl := lv_entry ([.ref sl, .int (zI L), .int (zI pl)]) (n := 3) (Nat.le_of_ble_eq_true rfl)
  rw [lg_entry_eq]
  generalize (lg_sl ([.ref sl, .int (zI L), .int (zI pl)]) ++ List.replicate (3 - (lg_sl ([.ref sl, .int (zI L), .int (zI pl)])).length) Slot.unset).toArray = ls at hl ⊢
  have hl : lv_has ls 3 [(0, .ref sl), (1, .int (zI L)), (2, .int (zI pl))] := hl
  refine lv_aload_n hx hb dX5_record_0 rfl (lv_at hl 0 rfl) ?_
  refine lv_iload_n hx hb dX5_record_1 rfl (lv_at hl 1 rfl) ?_
  refine lv_iload_n hx hb dX5_record_2 rfl (lv_at hl 2 rfl) ?_
  have hPc := hP.sub (ws' := [(sl, .inr (5, [.ref sh, .int (zI lc), .ref ru, .ref tr, .ref se])), zQ cL sh 6 sf]) [0, 1] rfl
  have hDc := hD.sub (ws' := [(sl, .inr (5, [.ref sh, .int (zI lc), .ref ru, .ref tr, .ref se])), zQ cL sh 6 sf]) [0, 1] (by decide) rfl
  have hFc := va_free (wc := [(sl, .inr (5, [.ref sh, .int (zI lc), .ref ru, .ref tr, .ref se])), zQ cL sh 6 sf]) hD hS hA [0, 1] rfl
  refine vx_callq (vx_runV (As := [.int (zI L), .int (zI pl)]) (rest := []) ⟨hx, hb, hml, hown, hts⟩ (x_X5_tapeOf_xa l hfl dC dI cI cZ cL cT cJ s.heap.size sl sh lc ru tr se sf L pl (by first | assumption | omega) (by first | assumption | omega)) (cwV 2 hts gX5_record_X5_tapeOf rfl rfl rfl (by decide +kernel) ⟨Nat.le_of_ble_eq_true rfl, Nat.le_of_ble_eq_true rfl⟩) ⟨zPx_blind, va_recv hK hPc (ci := 5) (q0 := 0) rfl rfl, zPx_pre hPc hDc hK hEx hS hFc⟩ rfl rfl hl.1 rfl (lv_room (Nat.le_of_ble_eq_true rfl)) dX5_record_3 ⟨Nat.le_of_ble_eq_true rfl, Nat.le_of_ble_eq_true rfl⟩) hS (fun q _ h => hFc q h) hFc (fun q _ h => hFc q h) (fun E9 ce9 q9 u t H1 locs ht hvm _ hB hz1 hk1 hS hc9 hv9 hf9 => ?_) (fun r u t H1 locs ht hvm hw => hw.elim)
  obtain ⟨rfl, hP1, hK1, hD1⟩ := hB
  rw [ht] at hP1
  obtain ⟨hP, hD⟩ := va_join (wr := []) (w1 := [(sl, .inr (5, [.ref sh, .int (zI lc), .ref ru, .ref tr, .ref se])), zQ cL sh 6 sf]) hP hD [0, 1] [] rfl rfl (by decide) (by decide) hk1 hFc hP1 hD1
  have hP : va_P (dC, dI) vwCl [(sl, .inr (5, [.ref sh, .int (zI lc), .ref ru, .ref tr, .ref se])), zQ cL sh 6 sf] H1 := hP.sub [0, 1] rfl
  have hD : va_D A [(sl, .inr (5, [.ref sh, .int (zI lc), .ref ru, .ref tr, .ref se])), zQ cL sh 6 sf] := hD.sub [0, 1] (by decide) rfl
  exact vx_out (fun x h => (hnt x h).elim) hlocks hc9 hv9 hf9 (fun t9 ht9 hvm9 => ⟨(), trivial, ⟨rfl, by rw [ht9]; exact hP, va_K.moved hvm9 hK, hD⟩, hS.F ht9⟩) hS.2.2 (Nat.le_of_ble_eq_true rfl) (Nat.le_of_ble_eq_true rfl)
set_option maxHeartbeats 4000000 in
set_option maxRecDepth 100000 in
theorem x_X5_record_xb (l : Launch) (hfl : l.stackTraces = false) (dC : Nat → ClassId) (dI : Nat → Nat → Nat) (cI cZ cL cT cJ : ClassId) (sz : Nat) (sl : Nat) (sh : Nat) (lc : Int) (ru : Nat) (tr : Nat) (se : Nat) (sf : Nat → Option Nat) (L : Int) (k : Nat) (lv : Nat) (w : Int) (h : Int) (ka : Nat) (ta : Nat) (sx : Int) (sy : Int) (fx : Int) (fy : Int) (lf : Int) (un : Int) (tq : Nat → Option Nat) (tp : Nat → Nat) (pl : Int) (gk : L = (k : Int) ∧ k < 6) (gf : sf k = some lv) (gr : -2147483648 ≤ pl ∧ pl < 2147483648) (gkn : pl < 0 ∨ 4 ≤ pl) : vx_Met l yX5_record wsX5_record ({ frames := 7, cells := 1, slots := 6, locals := 113 }) (zPx (dC, dI) (zT cI cZ cL cT cJ) sz [.ref sl, .int (zI L), .int (zI pl)] [(sl, .inr (5, [.ref sh, .int (zI lc), .ref ru, .ref tr, .ref se])), zQ cL sh 6 sf, (lv, .inr (1, [.int (zI w), .int (zI h), .ref ka, .ref ta, .int (zI sx), .int (zI sy), .int (zI fx), .int (zI fy), .int (zI lf), .int (zI un)])), zQ cT ta 4 tq]) (va_Qi (S := Unit) (fun _ _ => False) (fun _ _ => True) (va_A [(sl, .inr (5, [.ref sh, .int (zI lc), .ref ru, .ref tr, .ref se])), zQ cL sh 6 sf, (lv, .inr (1, [.int (zI w), .int (zI h), .ref ka, .ref ta, .int (zI sx), .int (zI sy), .int (zI fx), .int (zI fy), .int (zI lf), .int (zI un)])), zQ cT ta 4 tq] sz)) (vx_X (S := Unit) (fun _ => True) (zBX (dC, dI) (zT cI cZ cL cT cJ) (va_A [(sl, .inr (5, [.ref sh, .int (zI lc), .ref ru, .ref tr, .ref se])), zQ cL sh 6 sf, (lv, .inr (1, [.int (zI w), .int (zI h), .ref ka, .ref ta, .int (zI sx), .int (zI sy), .int (zI fx), .int (zI fy), .int (zI lf), .int (zI un)])), zQ cT ta 4 tq] sz) "java/lang/IndexOutOfBoundsException" [(sl, .inr (5, [.ref sh, .int (zI lc), .ref ru, .ref tr, .ref se])), zQ cL sh 6 sf, (lv, .inr (1, [.int (zI w), .int (zI h), .ref ka, .ref ta, .int (zI sx), .int (zI sy), .int (zI fx), .int (zI fy), .int (zI lf), .int (zI un)])), zQ cT ta 4 tq]) (va_A [(sl, .inr (5, [.ref sh, .int (zI lc), .ref ru, .ref tr, .ref se])), zQ cL sh 6 sf, (lv, .inr (1, [.int (zI w), .int (zI h), .ref ka, .ref ta, .int (zI sx), .int (zI sy), .int (zI fx), .int (zI fy), .int (zI lf), .int (zI un)])), zQ cT ta 4 tq] sz)) 1 6 (va_A [(sl, .inr (5, [.ref sh, .int (zI lc), .ref ru, .ref tr, .ref se])), zQ cL sh 6 sf, (lv, .inr (1, [.int (zI w), .int (zI h), .ref ka, .ref ta, .int (zI sx), .int (zI sy), .int (zI fx), .int (zI fy), .int (zI lf), .int (zI un)])), zQ cT ta 4 tq] sz) := by
  refine vx_ofW (cc := cX5_record) (maxL := 3) (ret := (some .int)) (by decide) rfl ?_
  intro p e s m args below meth c s₁ B hml hnt hv
  obtain ⟨rfl, hsz, hP, hK, hD0, hEx⟩ := hv
  have hx := B.exec
  have hb := B.bytes
  have hr := B.returns
  have hts := atoms_spec (ws := wsX5_record) B.pre
  have hown : s.vm.findClass RX5 = some m.cls := findClass_of_methodNamed B.named
  have hlocks := B.notSynchronized
  subst hsz
  have hD := hD0.self (sz := s.heap.size)
  generalize hAe : va_A [(sl, .inr (5, [.ref sh, .int (zI lc), .ref ru, .ref tr, .ref se])), zQ cL sh 6 sf, (lv, .inr (1, [.int (zI w), .int (zI h), .ref ka, .ref ta, .int (zI sx), .int (zI sy), .int (zI fx), .int (zI fy), .int (zI lf), .int (zI un)])), zQ cT ta 4 tq] s.heap.size = A at hD hEx ⊢
  have hA : ∀ q : Nat, s.heap.size ≤ q → A q := fun q h => by rw [← hAe]; exact Or.inr h
  clear hAe hD0
  have hS : va_S A s.heap s.heap [] := va_S.rf
  have hP : va_P (dC, dI) vwCl [(sl, .inr (5, [.ref sh, .int (zI lc), .ref ru, .ref tr, .ref se])), zQ cL sh 6 sf, (lv, .inr (1, [.int (zI w), .int (zI h), .ref ka, .ref ta, .int (zI sx), .int (zI sy), .int (zI fx), .int (zI fy), .int (zI lf), .int (zI un)])), zQ cT ta 4 tq] s.heap := hP
  have f_172 := hts (.fieldLink RX5 172 "SpringLevels$Tape" "length" "I") (by decide +kernel)
  have i_4 : ∀ w ∈ wsX40, w ∈ wsX5_record := by decide +kernel
  have hl := lv_entry ([.ref sl, .int (zI L), .int (zI pl)]) (n := 3) (Nat.le_of_ble_eq_true rfl)
  rw [lg_entry_eq]
  generalize (lg_sl ([.ref sl, .int (zI L), .int (zI pl)]) ++ List.replicate (3 - (lg_sl ([.ref sl, .int (zI L), .int (zI pl)])).length) Slot.unset).toArray = ls at hl ⊢
  have hl : lv_has ls 3 [(0, .ref sl), (1, .int (zI L)), (2, .int (zI pl))] := hl
  refine lv_aload_n hx hb dX5_record_0 rfl (lv_at hl 0 rfl) ?_
  refine lv_iload_n hx hb dX5_record_1 rfl (lv_at hl 1 rfl) ?_
  refine lv_iload_n hx hb dX5_record_2 rfl (lv_at hl 2 rfl) ?_
  have hPc := hP.sub (ws' := [(sl, .inr (5, [.ref sh, .int (zI lc), .ref ru, .ref tr, .ref se])), zQ cL sh 6 sf, (lv, .inr (1, [.int (zI w), .int (zI h), .ref ka, .ref ta, .int (zI sx), .int (zI sy), .int (zI fx), .int (zI fy), .int (zI lf), .int (zI un)])), zQ cT ta 4 tq]) [0, 1, 2, 3] rfl
  have hDc := hD.sub (ws' := [(sl, .inr (5, [.ref sh, .int (zI lc), .ref ru, .ref tr, .ref se])), zQ cL sh 6 sf, (lv, .inr (1, [.int (zI w), .int (zI h), .ref ka, .ref ta, .int (zI sx), .int (zI sy), .int (zI fx), .int (zI fy), .int (zI lf), .int (zI un)])), zQ cT ta 4 tq]) [0, 1, 2, 3] (by decide) rfl
  have hFc := va_free (wc := [(sl, .inr (5, [.ref sh, .int (zI lc), .ref ru, .ref tr, .ref se])), zQ cL sh 6 sf, (lv, .inr (1, [.int (zI w), .int (zI h), .ref ka, .ref ta, .int (zI sx), .int (zI sy), .int (zI fx), .int (zI fy), .int (zI lf), .int (zI un)])), zQ cT ta 4 tq]) hD hS hA [0, 1, 2, 3] rfl
  refine vx_callq (vx_runV (As := [.int (zI L), .int (zI pl)]) (rest := []) ⟨hx, hb, hml, hown, hts⟩ (x_X5_tapeOf_xb l hfl dC dI cI cZ cL cT cJ s.heap.size sl sh lc ru tr se sf L k lv w h ka ta sx sy fx fy lf un tq tp pl (by first | assumption | omega) (by first | assumption | omega) (by first | assumption | omega) (by first | assumption | omega)) (cwV 2 hts gX5_record_X5_tapeOf rfl rfl rfl (by decide +kernel) ⟨Nat.le_of_ble_eq_true rfl, Nat.le_of_ble_eq_true rfl⟩) ⟨zPx_blind, va_recv hK hPc (ci := 5) (q0 := 0) rfl rfl, zPx_pre hPc hDc hK hEx hS hFc⟩ rfl rfl hl.1 rfl (lv_room (Nat.le_of_ble_eq_true rfl)) dX5_record_3 ⟨Nat.le_of_ble_eq_true rfl, Nat.le_of_ble_eq_true rfl⟩) hS (fun q _ h => hFc q h) hFc (fun q _ h => hFc q h) (fun E9 ce9 q9 u t H1 locs ht hvm _ hB hz1 hk1 hS hc9 hv9 hf9 => ?_) (fun r u t H1 locs ht hvm hw => hw.elim)
  obtain ⟨rfl, hP1, hK1, hD1⟩ := hB
  rw [ht] at hP1
  obtain ⟨hP, hD⟩ := va_join (wr := []) (w1 := [(sl, .inr (5, [.ref sh, .int (zI lc), .ref ru, .ref tr, .ref se])), zQ cL sh 6 sf, (lv, .inr (1, [.int (zI w), .int (zI h), .ref ka, .ref ta, .int (zI sx), .int (zI sy), .int (zI fx), .int (zI fy), .int (zI lf), .int (zI un)])), zQ cT ta 4 tq]) hP hD [0, 1, 2, 3] [] rfl rfl (by decide) (by decide) hk1 hFc hP1 hD1
  have hP : va_P (dC, dI) vwCl [(sl, .inr (5, [.ref sh, .int (zI lc), .ref ru, .ref tr, .ref se])), zQ cL sh 6 sf, (lv, .inr (1, [.int (zI w), .int (zI h), .ref ka, .ref ta, .int (zI sx), .int (zI sy), .int (zI fx), .int (zI fy), .int (zI lf), .int (zI un)])), zQ cT ta 4 tq] H1 := hP.sub [0, 1, 2, 3] rfl
  have hD : va_D A [(sl, .inr (5, [.ref sh, .int (zI lc), .ref ru, .ref tr, .ref se])), zQ cL sh 6 sf, (lv, .inr (1, [.int (zI w), .int (zI h), .ref ka, .ref ta, .int (zI sx), .int (zI sy), .int (zI fx), .int (zI fy), .int (zI lf), .int (zI un)])), zQ cT ta 4 tq] := hD.sub [0, 1, 2, 3] (by decide) rfl
  exact vx_out (fun x h => (hnt x h).elim) hlocks hc9 hv9 hf9 (fun t9 ht9 hvm9 => ⟨(), trivial, ⟨rfl, by rw [ht9]; exact hP, va_K.moved hvm9 hK, hD⟩, hS.F ht9⟩) hS.2.2 (Nat.le_of_ble_eq_true rfl) (Nat.le_of_ble_eq_true rfl)
set_option maxHeartbeats 4000000 in
set_option maxRecDepth 100000 in
theorem x_X5_half_xa (l : Launch) (hfl : l.stackTraces = false) (dC : Nat → ClassId) (dI : Nat → Nat → Nat) (cI cZ cL cT cJ : ClassId) (sz : Nat) (sl : Nat) (sh : Nat) (lc : Int) (ru : Nat) (tr : Nat) (se : Nat) (sf : Nat → Option Nat) (L : Int) (pl : Int) (gr9 : -2147483648 ≤ L ∧ L < 2147483648) (gb : L < 0 ∨ 6 ≤ L ∨ ∃ k : Nat, L = (k : Int) ∧ k < 6 ∧ sf k = none) : vx_Met l yX5_half wsX5_half ({ frames := 8, cells := 1, slots := 6, locals := 135 }) (zPx (dC, dI) (zT cI cZ cL cT cJ) sz [.ref sl, .int (zI L), .int (zI pl)] [(sl, .inr (5, [.ref sh, .int (zI lc), .ref ru, .ref tr, .ref se])), zQ cL sh 6 sf]) (va_Qi (S := Unit) (fun _ _ => False) (fun _ _ => True) (va_A [(sl, .inr (5, [.ref sh, .int (zI lc), .ref ru, .ref tr, .ref se])), zQ cL sh 6 sf] sz)) (vx_X (S := Unit) (fun _ => True) (zBX (dC, dI) (zT cI cZ cL cT cJ) (va_A [(sl, .inr (5, [.ref sh, .int (zI lc), .ref ru, .ref tr, .ref se])), zQ cL sh 6 sf] sz) "java/lang/IndexOutOfBoundsException" [(sl, .inr (5, [.ref sh, .int (zI lc), .ref ru, .ref tr, .ref se])), zQ cL sh 6 sf]) (va_A [(sl, .inr (5, [.ref sh, .int (zI lc), .ref ru, .ref tr, .ref se])), zQ cL sh 6 sf] sz)) 1 6 (va_A [(sl, .inr (5, [.ref sh, .int (zI lc), .ref ru, .ref tr, .ref se])), zQ cL sh 6 sf] sz) := by
  refine vx_ofW (cc := cX5_half) (maxL := 3) (ret := (some .int)) (by decide) rfl ?_
  intro p e s m args below meth c s₁ B hml hnt hv
  obtain ⟨rfl, hsz, hP, hK, hD0, hEx⟩ := hv
  have hx := B.exec
  have hb := B.bytes
  have hr := B.returns
  have hts := atoms_spec (ws := wsX5_half) B.pre
  have hown : s.vm.findClass RX5 = some m.cls := findClass_of_methodNamed B.named
  have hlocks := B.notSynchronized
  subst hsz
  have hD := hD0.self (sz := s.heap.size)
  generalize hAe : va_A [(sl, .inr (5, [.ref sh, .int (zI lc), .ref ru, .ref tr, .ref se])), zQ cL sh 6 sf] s.heap.size = A at hD hEx ⊢
  have hA : ∀ q : Nat, s.heap.size ≤ q → A q := fun q h => by rw [← hAe]; exact Or.inr h
  clear hAe hD0
  have hS : va_S A s.heap s.heap [] := va_S.rf
  have hP : va_P (dC, dI) vwCl [(sl, .inr (5, [.ref sh, .int (zI lc), .ref ru, .ref tr, .ref se])), zQ cL sh 6 sf] s.heap := hP
  have f_193 := hts (.fieldLink RX5 193 "SpringLevels$Tape" "halfLength" "I") (by decide +kernel)
  have i_4 : ∀ w ∈ wsX40, w ∈ wsX5_half := by decide +kernel
  have hl := lv_entry ([.ref sl, .int (zI L), .int (zI pl)]) (n := 3) (Nat.le_of_ble_eq_true rfl)
  rw [lg_entry_eq]
  generalize (lg_sl ([.ref sl, .int (zI L), .int (zI pl)]) ++ List.replicate (3 - (lg_sl ([.ref sl, .int (zI L), .int (zI pl)])).length) Slot.unset).toArray = ls at hl ⊢
  have hl : lv_has ls 3 [(0, .ref sl), (1, .int (zI L)), (2, .int (zI pl))] := hl
  refine lv_aload_n hx hb dX5_half_0 rfl (lv_at hl 0 rfl) ?_
  refine lv_iload_n hx hb dX5_half_1 rfl (lv_at hl 1 rfl) ?_
  refine lv_iload_n hx hb dX5_half_2 rfl (lv_at hl 2 rfl) ?_
  have hPc := hP.sub (ws' := [(sl, .inr (5, [.ref sh, .int (zI lc), .ref ru, .ref tr, .ref se])), zQ cL sh 6 sf]) [0, 1] rfl
  have hDc := hD.sub (ws' := [(sl, .inr (5, [.ref sh, .int (zI lc), .ref ru, .ref tr, .ref se])), zQ cL sh 6 sf]) [0, 1] (by decide) rfl
  have hFc := va_free (wc := [(sl, .inr (5, [.ref sh, .int (zI lc), .ref ru, .ref tr, .ref se])), zQ cL sh 6 sf]) hD hS hA [0, 1] rfl
  refine vx_callq (vx_runV (As := [.int (zI L), .int (zI pl)]) (rest := []) ⟨hx, hb, hml, hown, hts⟩ (x_X5_tapeOf_xa l hfl dC dI cI cZ cL cT cJ s.heap.size sl sh lc ru tr se sf L pl (by first | assumption | omega) (by first | assumption | omega)) (cwV 2 hts gX5_half_X5_tapeOf rfl rfl rfl (by decide +kernel) ⟨Nat.le_of_ble_eq_true rfl, Nat.le_of_ble_eq_true rfl⟩) ⟨zPx_blind, va_recv hK hPc (ci := 5) (q0 := 0) rfl rfl, zPx_pre hPc hDc hK hEx hS hFc⟩ rfl rfl hl.1 rfl (lv_room (Nat.le_of_ble_eq_true rfl)) dX5_half_3 ⟨Nat.le_of_ble_eq_true rfl, Nat.le_of_ble_eq_true rfl⟩) hS (fun q _ h => hFc q h) hFc (fun q _ h => hFc q h) (fun E9 ce9 q9 u t H1 locs ht hvm _ hB hz1 hk1 hS hc9 hv9 hf9 => ?_) (fun r u t H1 locs ht hvm hw => hw.elim)
  obtain ⟨rfl, hP1, hK1, hD1⟩ := hB
  rw [ht] at hP1
  obtain ⟨hP, hD⟩ := va_join (wr := []) (w1 := [(sl, .inr (5, [.ref sh, .int (zI lc), .ref ru, .ref tr, .ref se])), zQ cL sh 6 sf]) hP hD [0, 1] [] rfl rfl (by decide) (by decide) hk1 hFc hP1 hD1
  have hP : va_P (dC, dI) vwCl [(sl, .inr (5, [.ref sh, .int (zI lc), .ref ru, .ref tr, .ref se])), zQ cL sh 6 sf] H1 := hP.sub [0, 1] rfl
  have hD : va_D A [(sl, .inr (5, [.ref sh, .int (zI lc), .ref ru, .ref tr, .ref se])), zQ cL sh 6 sf] := hD.sub [0, 1] (by decide) rfl
  exact vx_out (fun x h => (hnt x h).elim) hlocks hc9 hv9 hf9 (fun t9 ht9 hvm9 => ⟨(), trivial, ⟨rfl, by rw [ht9]; exact hP, va_K.moved hvm9 hK, hD⟩, hS.F ht9⟩) hS.2.2 (Nat.le_of_ble_eq_true rfl) (Nat.le_of_ble_eq_true rfl)
set_option maxHeartbeats 4000000 in
set_option maxRecDepth 100000 in
theorem x_X5_half_xb (l : Launch) (hfl : l.stackTraces = false) (dC : Nat → ClassId) (dI : Nat → Nat → Nat) (cI cZ cL cT cJ : ClassId) (sz : Nat) (sl : Nat) (sh : Nat) (lc : Int) (ru : Nat) (tr : Nat) (se : Nat) (sf : Nat → Option Nat) (L : Int) (k : Nat) (lv : Nat) (w : Int) (h : Int) (ka : Nat) (ta : Nat) (sx : Int) (sy : Int) (fx : Int) (fy : Int) (lf : Int) (un : Int) (tq : Nat → Option Nat) (tp : Nat → Nat) (pl : Int) (gk : L = (k : Int) ∧ k < 6) (gf : sf k = some lv) (gr : -2147483648 ≤ pl ∧ pl < 2147483648) (gkn : pl < 0 ∨ 4 ≤ pl) : vx_Met l yX5_half wsX5_half ({ frames := 7, cells := 1, slots := 6, locals := 113 }) (zPx (dC, dI) (zT cI cZ cL cT cJ) sz [.ref sl, .int (zI L), .int (zI pl)] [(sl, .inr (5, [.ref sh, .int (zI lc), .ref ru, .ref tr, .ref se])), zQ cL sh 6 sf, (lv, .inr (1, [.int (zI w), .int (zI h), .ref ka, .ref ta, .int (zI sx), .int (zI sy), .int (zI fx), .int (zI fy), .int (zI lf), .int (zI un)])), zQ cT ta 4 tq]) (va_Qi (S := Unit) (fun _ _ => False) (fun _ _ => True) (va_A [(sl, .inr (5, [.ref sh, .int (zI lc), .ref ru, .ref tr, .ref se])), zQ cL sh 6 sf, (lv, .inr (1, [.int (zI w), .int (zI h), .ref ka, .ref ta, .int (zI sx), .int (zI sy), .int (zI fx), .int (zI fy), .int (zI lf), .int (zI un)])), zQ cT ta 4 tq] sz)) (vx_X (S := Unit) (fun _ => True) (zBX (dC, dI) (zT cI cZ cL cT cJ) (va_A [(sl, .inr (5, [.ref sh, .int (zI lc), .ref ru, .ref tr, .ref se])), zQ cL sh 6 sf, (lv, .inr (1, [.int (zI w), .int (zI h), .ref ka, .ref ta, .int (zI sx), .int (zI sy), .int (zI fx), .int (zI fy), .int (zI lf), .int (zI un)])), zQ cT ta 4 tq] sz) "java/lang/IndexOutOfBoundsException" [(sl, .inr (5, [.ref sh, .int (zI lc), .ref ru, .ref tr, .ref se])), zQ cL sh 6 sf, (lv, .inr (1, [.int (zI w), .int (zI h), .ref ka, .ref ta, .int (zI sx), .int (zI sy), .int (zI fx), .int (zI fy), .int (zI lf), .int (zI un)])), zQ cT ta 4 tq]) (va_A [(sl, .inr (5, [.ref sh, .int (zI lc), .ref ru, .ref tr, .ref se])), zQ cL sh 6 sf, (lv, .inr (1, [.int (zI w), .int (zI h), .ref ka, .ref ta, .int (zI sx), .int (zI sy), .int (zI fx), .int (zI fy), .int (zI lf), .int (zI un)])), zQ cT ta 4 tq] sz)) 1 6 (va_A [(sl, .inr (5, [.ref sh, .int (zI lc), .ref ru, .ref tr, .ref se])), zQ cL sh 6 sf, (lv, .inr (1, [.int (zI w), .int (zI h), .ref ka, .ref ta, .int (zI sx), .int (zI sy), .int (zI fx), .int (zI fy), .int (zI lf), .int (zI un)])), zQ cT ta 4 tq] sz) := by
  refine vx_ofW (cc := cX5_half) (maxL := 3) (ret := (some .int)) (by decide) rfl ?_
  intro p e s m args below meth c s₁ B hml hnt hv
  obtain ⟨rfl, hsz, hP, hK, hD0, hEx⟩ := hv
  have hx := B.exec
  have hb := B.bytes
  have hr := B.returns
  have hts := atoms_spec (ws := wsX5_half) B.pre
  have hown : s.vm.findClass RX5 = some m.cls := findClass_of_methodNamed B.named
  have hlocks := B.notSynchronized
  subst hsz
  have hD := hD0.self (sz := s.heap.size)
  generalize hAe : va_A [(sl, .inr (5, [.ref sh, .int (zI lc), .ref ru, .ref tr, .ref se])), zQ cL sh 6 sf, (lv, .inr (1, [.int (zI w), .int (zI h), .ref ka, .ref ta, .int (zI sx), .int (zI sy), .int (zI fx), .int (zI fy), .int (zI lf), .int (zI un)])), zQ cT ta 4 tq] s.heap.size = A at hD hEx ⊢
  have hA : ∀ q : Nat, s.heap.size ≤ q → A q := fun q h => by rw [← hAe]; exact Or.inr h
  clear hAe hD0
  have hS : va_S A s.heap s.heap [] := va_S.rf
  have hP : va_P (dC, dI) vwCl [(sl, .inr (5, [.ref sh, .int (zI lc), .ref ru, .ref tr, .ref se])), zQ cL sh 6 sf, (lv, .inr (1, [.int (zI w), .int (zI h), .ref ka, .ref ta, .int (zI sx), .int (zI sy), .int (zI fx), .int (zI fy), .int (zI lf), .int (zI un)])), zQ cT ta 4 tq] s.heap := hP
  have f_193 := hts (.fieldLink RX5 193 "SpringLevels$Tape" "halfLength" "I") (by decide +kernel)
  have i_4 : ∀ w ∈ wsX40, w ∈ wsX5_half := by decide +kernel
  have hl := lv_entry ([.ref sl, .int (zI L), .int (zI pl)]) (n := 3) (Nat.le_of_ble_eq_true rfl)
  rw [lg_entry_eq]
  generalize (lg_sl ([.ref sl, .int (zI L), .int (zI pl)]) ++ List.replicate (3 - (lg_sl ([.ref sl, .int (zI L), .int (zI pl)])).length) Slot.unset).toArray = ls at hl ⊢
  have hl : lv_has ls 3 [(0, .ref sl), (1, .int (zI L)), (2, .int (zI pl))] := hl
  refine lv_aload_n hx hb dX5_half_0 rfl (lv_at hl 0 rfl) ?_
  refine lv_iload_n hx hb dX5_half_1 rfl (lv_at hl 1 rfl) ?_
  refine lv_iload_n hx hb dX5_half_2 rfl (lv_at hl 2 rfl) ?_
  have hPc := hP.sub (ws' := [(sl, .inr (5, [.ref sh, .int (zI lc), .ref ru, .ref tr, .ref se])), zQ cL sh 6 sf, (lv, .inr (1, [.int (zI w), .int (zI h), .ref ka, .ref ta, .int (zI sx), .int (zI sy), .int (zI fx), .int (zI fy), .int (zI lf), .int (zI un)])), zQ cT ta 4 tq]) [0, 1, 2, 3] rfl
  have hDc := hD.sub (ws' := [(sl, .inr (5, [.ref sh, .int (zI lc), .ref ru, .ref tr, .ref se])), zQ cL sh 6 sf, (lv, .inr (1, [.int (zI w), .int (zI h), .ref ka, .ref ta, .int (zI sx), .int (zI sy), .int (zI fx), .int (zI fy), .int (zI lf), .int (zI un)])), zQ cT ta 4 tq]) [0, 1, 2, 3] (by decide) rfl
  have hFc := va_free (wc := [(sl, .inr (5, [.ref sh, .int (zI lc), .ref ru, .ref tr, .ref se])), zQ cL sh 6 sf, (lv, .inr (1, [.int (zI w), .int (zI h), .ref ka, .ref ta, .int (zI sx), .int (zI sy), .int (zI fx), .int (zI fy), .int (zI lf), .int (zI un)])), zQ cT ta 4 tq]) hD hS hA [0, 1, 2, 3] rfl
  refine vx_callq (vx_runV (As := [.int (zI L), .int (zI pl)]) (rest := []) ⟨hx, hb, hml, hown, hts⟩ (x_X5_tapeOf_xb l hfl dC dI cI cZ cL cT cJ s.heap.size sl sh lc ru tr se sf L k lv w h ka ta sx sy fx fy lf un tq tp pl (by first | assumption | omega) (by first | assumption | omega) (by first | assumption | omega) (by first | assumption | omega)) (cwV 2 hts gX5_half_X5_tapeOf rfl rfl rfl (by decide +kernel) ⟨Nat.le_of_ble_eq_true rfl, Nat.le_of_ble_eq_true rfl⟩) ⟨zPx_blind, va_recv hK hPc (ci := 5) (q0 := 0) rfl rfl, zPx_pre hPc hDc hK hEx hS hFc⟩ rfl rfl hl.1 rfl (lv_room (Nat.le_of_ble_eq_true rfl)) dX5_half_3 ⟨Nat.le_of_ble_eq_true rfl, Nat.le_of_ble_eq_true rfl⟩) hS (fun q _ h => hFc q h) hFc (fun q _ h => hFc q h) (fun E9 ce9 q9 u t H1 locs ht hvm _ hB hz1 hk1 hS hc9 hv9 hf9 => ?_) (fun r u t H1 locs ht hvm hw => hw.elim)
  obtain ⟨rfl, hP1, hK1, hD1⟩ := hB
  rw [ht] at hP1
  obtain ⟨hP, hD⟩ := va_join (wr := []) (w1 := [(sl, .inr (5, [.ref sh, .int (zI lc), .ref ru, .ref tr, .ref se])), zQ cL sh 6 sf, (lv, .inr (1, [.int (zI w), .int (zI h), .ref ka, .ref ta, .int (zI sx), .int (zI sy), .int (zI fx), .int (zI fy), .int (zI lf), .int (zI un)])), zQ cT ta 4 tq]) hP hD [0, 1, 2, 3] [] rfl rfl (by decide) (by decide) hk1 hFc hP1 hD1
  have hP : va_P (dC, dI) vwCl [(sl, .inr (5, [.ref sh, .int (zI lc), .ref ru, .ref tr, .ref se])), zQ cL sh 6 sf, (lv, .inr (1, [.int (zI w), .int (zI h), .ref ka, .ref ta, .int (zI sx), .int (zI sy), .int (zI fx), .int (zI fy), .int (zI lf), .int (zI un)])), zQ cT ta 4 tq] H1 := hP.sub [0, 1, 2, 3] rfl
  have hD : va_D A [(sl, .inr (5, [.ref sh, .int (zI lc), .ref ru, .ref tr, .ref se])), zQ cL sh 6 sf, (lv, .inr (1, [.int (zI w), .int (zI h), .ref ka, .ref ta, .int (zI sx), .int (zI sy), .int (zI fx), .int (zI fy), .int (zI lf), .int (zI un)])), zQ cT ta 4 tq] := hD.sub [0, 1, 2, 3] (by decide) rfl
  exact vx_out (fun x h => (hnt x h).elim) hlocks hc9 hv9 hf9 (fun t9 ht9 hvm9 => ⟨(), trivial, ⟨rfl, by rw [ht9]; exact hP, va_K.moved hvm9 hK, hD⟩, hS.F ht9⟩) hS.2.2 (Nat.le_of_ble_eq_true rfl) (Nat.le_of_ble_eq_true rfl)
set_option maxHeartbeats 4000000 in
set_option maxRecDepth 100000 in
theorem x_X5_replay_xa (l : Launch) (hfl : l.stackTraces = false) (dC : Nat → ClassId) (dI : Nat → Nat → Nat) (cI cZ cL cT cJ : ClassId) (sz : Nat) (sl : Nat) (sh : Nat) (lc : Int) (ru : Nat) (tr : Nat) (se : Nat) (sf : Nat → Option Nat) (L : Int) (pl : Int) (gr9 : -2147483648 ≤ L ∧ L < 2147483648) (gb : L < 0 ∨ 6 ≤ L ∨ ∃ k : Nat, L = (k : Int) ∧ k < 6 ∧ sf k = none) : vx_Met l yX5_replay wsX5_replay ({ frames := 8, cells := 1, slots := 6, locals := 135 }) (zPx (dC, dI) (zT cI cZ cL cT cJ) sz [.ref sl, .int (zI L), .int (zI pl)] [(sl, .inr (5, [.ref sh, .int (zI lc), .ref ru, .ref tr, .ref se])), zQ cL sh 6 sf]) (va_Qi (S := Unit) (fun _ _ => False) (fun _ _ => True) (va_A [(sl, .inr (5, [.ref sh, .int (zI lc), .ref ru, .ref tr, .ref se])), zQ cL sh 6 sf] sz)) (vx_X (S := Unit) (fun _ => True) (zBX (dC, dI) (zT cI cZ cL cT cJ) (va_A [(sl, .inr (5, [.ref sh, .int (zI lc), .ref ru, .ref tr, .ref se])), zQ cL sh 6 sf] sz) "java/lang/IndexOutOfBoundsException" [(sl, .inr (5, [.ref sh, .int (zI lc), .ref ru, .ref tr, .ref se])), zQ cL sh 6 sf]) (va_A [(sl, .inr (5, [.ref sh, .int (zI lc), .ref ru, .ref tr, .ref se])), zQ cL sh 6 sf] sz)) 1 6 (va_A [(sl, .inr (5, [.ref sh, .int (zI lc), .ref ru, .ref tr, .ref se])), zQ cL sh 6 sf] sz) := by
  refine vx_ofW (cc := cX5_replay) (maxL := 4) (ret := (some .int)) (by decide) rfl ?_
  intro p e s m args below meth c s₁ B hml hnt hv
  obtain ⟨rfl, hsz, hP, hK, hD0, hEx⟩ := hv
  have hx := B.exec
  have hb := B.bytes
  have hr := B.returns
  have hts := atoms_spec (ws := wsX5_replay) B.pre
  have hown : s.vm.findClass RX5 = some m.cls := findClass_of_methodNamed B.named
  have hlocks := B.notSynchronized
  subst hsz
  have hD := hD0.self (sz := s.heap.size)
  generalize hAe : va_A [(sl, .inr (5, [.ref sh, .int (zI lc), .ref ru, .ref tr, .ref se])), zQ cL sh 6 sf] s.heap.size = A at hD hEx ⊢
  have hA : ∀ q : Nat, s.heap.size ≤ q → A q := fun q h => by rw [← hAe]; exact Or.inr h
  clear hAe hD0
  have hS : va_S A s.heap s.heap [] := va_S.rf
  have hP : va_P (dC, dI) vwCl [(sl, .inr (5, [.ref sh, .int (zI lc), .ref ru, .ref tr, .ref se])), zQ cL sh 6 sf] s.heap := hP
  have f_172 := hts (.fieldLink RX5 172 "SpringLevels$Tape" "length" "I") (by decide +kernel)
  have i_4 : ∀ w ∈ wsX40, w ∈ wsX5_replay := by decide +kernel
  have hl := lv_entry ([.ref sl, .int (zI L), .int (zI pl)]) (n := 4) (Nat.le_of_ble_eq_true rfl)
  rw [lg_entry_eq]
  generalize (lg_sl ([.ref sl, .int (zI L), .int (zI pl)]) ++ List.replicate (4 - (lg_sl ([.ref sl, .int (zI L), .int (zI pl)])).length) Slot.unset).toArray = ls at hl ⊢
  have hl : lv_has ls 4 [(0, .ref sl), (1, .int (zI L)), (2, .int (zI pl))] := hl
  refine lv_aload_n hx hb dX5_replay_0 rfl (lv_at hl 0 rfl) ?_
  refine lv_iload_n hx hb dX5_replay_1 rfl (lv_at hl 1 rfl) ?_
  refine lv_iload_n hx hb dX5_replay_2 rfl (lv_at hl 2 rfl) ?_
  have hPc := hP.sub (ws' := [(sl, .inr (5, [.ref sh, .int (zI lc), .ref ru, .ref tr, .ref se])), zQ cL sh 6 sf]) [0, 1] rfl
  have hDc := hD.sub (ws' := [(sl, .inr (5, [.ref sh, .int (zI lc), .ref ru, .ref tr, .ref se])), zQ cL sh 6 sf]) [0, 1] (by decide) rfl
  have hFc := va_free (wc := [(sl, .inr (5, [.ref sh, .int (zI lc), .ref ru, .ref tr, .ref se])), zQ cL sh 6 sf]) hD hS hA [0, 1] rfl
  refine vx_callq (vx_runV (As := [.int (zI L), .int (zI pl)]) (rest := []) ⟨hx, hb, hml, hown, hts⟩ (x_X5_tapeOf_xa l hfl dC dI cI cZ cL cT cJ s.heap.size sl sh lc ru tr se sf L pl (by first | assumption | omega) (by first | assumption | omega)) (cwV 2 hts gX5_replay_X5_tapeOf rfl rfl rfl (by decide +kernel) ⟨Nat.le_of_ble_eq_true rfl, Nat.le_of_ble_eq_true rfl⟩) ⟨zPx_blind, va_recv hK hPc (ci := 5) (q0 := 0) rfl rfl, zPx_pre hPc hDc hK hEx hS hFc⟩ rfl rfl hl.1 rfl (lv_room (Nat.le_of_ble_eq_true rfl)) dX5_replay_3 ⟨Nat.le_of_ble_eq_true rfl, Nat.le_of_ble_eq_true rfl⟩) hS (fun q _ h => hFc q h) hFc (fun q _ h => hFc q h) (fun E9 ce9 q9 u t H1 locs ht hvm _ hB hz1 hk1 hS hc9 hv9 hf9 => ?_) (fun r u t H1 locs ht hvm hw => hw.elim)
  obtain ⟨rfl, hP1, hK1, hD1⟩ := hB
  rw [ht] at hP1
  obtain ⟨hP, hD⟩ := va_join (wr := []) (w1 := [(sl, .inr (5, [.ref sh, .int (zI lc), .ref ru, .ref tr, .ref se])), zQ cL sh 6 sf]) hP hD [0, 1] [] rfl rfl (by decide) (by decide) hk1 hFc hP1 hD1
  have hP : va_P (dC, dI) vwCl [(sl, .inr (5, [.ref sh, .int (zI lc), .ref ru, .ref tr, .ref se])), zQ cL sh 6 sf] H1 := hP.sub [0, 1] rfl
  have hD : va_D A [(sl, .inr (5, [.ref sh, .int (zI lc), .ref ru, .ref tr, .ref se])), zQ cL sh 6 sf] := hD.sub [0, 1] (by decide) rfl
  exact vx_out (fun x h => (hnt x h).elim) hlocks hc9 hv9 hf9 (fun t9 ht9 hvm9 => ⟨(), trivial, ⟨rfl, by rw [ht9]; exact hP, va_K.moved hvm9 hK, hD⟩, hS.F ht9⟩) hS.2.2 (Nat.le_of_ble_eq_true rfl) (Nat.le_of_ble_eq_true rfl)
set_option maxHeartbeats 4000000 in
set_option maxRecDepth 100000 in
theorem x_X5_replay_xb (l : Launch) (hfl : l.stackTraces = false) (dC : Nat → ClassId) (dI : Nat → Nat → Nat) (cI cZ cL cT cJ : ClassId) (sz : Nat) (sl : Nat) (sh : Nat) (lc : Int) (ru : Nat) (tr : Nat) (se : Nat) (sf : Nat → Option Nat) (L : Int) (k : Nat) (lv : Nat) (w : Int) (h : Int) (ka : Nat) (ta : Nat) (sx : Int) (sy : Int) (fx : Int) (fy : Int) (lf : Int) (un : Int) (tq : Nat → Option Nat) (tp : Nat → Nat) (pl : Int) (gk : L = (k : Int) ∧ k < 6) (gf : sf k = some lv) (gr : -2147483648 ≤ pl ∧ pl < 2147483648) (gkn : pl < 0 ∨ 4 ≤ pl) : vx_Met l yX5_replay wsX5_replay ({ frames := 7, cells := 1, slots := 6, locals := 113 }) (zPx (dC, dI) (zT cI cZ cL cT cJ) sz [.ref sl, .int (zI L), .int (zI pl)] [(sl, .inr (5, [.ref sh, .int (zI lc), .ref ru, .ref tr, .ref se])), zQ cL sh 6 sf, (lv, .inr (1, [.int (zI w), .int (zI h), .ref ka, .ref ta, .int (zI sx), .int (zI sy), .int (zI fx), .int (zI fy), .int (zI lf), .int (zI un)])), zQ cT ta 4 tq]) (va_Qi (S := Unit) (fun _ _ => False) (fun _ _ => True) (va_A [(sl, .inr (5, [.ref sh, .int (zI lc), .ref ru, .ref tr, .ref se])), zQ cL sh 6 sf, (lv, .inr (1, [.int (zI w), .int (zI h), .ref ka, .ref ta, .int (zI sx), .int (zI sy), .int (zI fx), .int (zI fy), .int (zI lf), .int (zI un)])), zQ cT ta 4 tq] sz)) (vx_X (S := Unit) (fun _ => True) (zBX (dC, dI) (zT cI cZ cL cT cJ) (va_A [(sl, .inr (5, [.ref sh, .int (zI lc), .ref ru, .ref tr, .ref se])), zQ cL sh 6 sf, (lv, .inr (1, [.int (zI w), .int (zI h), .ref ka, .ref ta, .int (zI sx), .int (zI sy), .int (zI fx), .int (zI fy), .int (zI lf), .int (zI un)])), zQ cT ta 4 tq] sz) "java/lang/IndexOutOfBoundsException" [(sl, .inr (5, [.ref sh, .int (zI lc), .ref ru, .ref tr, .ref se])), zQ cL sh 6 sf, (lv, .inr (1, [.int (zI w), .int (zI h), .ref ka, .ref ta, .int (zI sx), .int (zI sy), .int (zI fx), .int (zI fy), .int (zI lf), .int (zI un)])), zQ cT ta 4 tq]) (va_A [(sl, .inr (5, [.ref sh, .int (zI lc), .ref ru, .ref tr, .ref se])), zQ cL sh 6 sf, (lv, .inr (1, [.int (zI w), .int (zI h), .ref ka, .ref ta, .int (zI sx), .int (zI sy), .int (zI fx), .int (zI fy), .int (zI lf), .int (zI un)])), zQ cT ta 4 tq] sz)) 1 6 (va_A [(sl, .inr (5, [.ref sh, .int (zI lc), .ref ru, .ref tr, .ref se])), zQ cL sh 6 sf, (lv, .inr (1, [.int (zI w), .int (zI h), .ref ka, .ref ta, .int (zI sx), .int (zI sy), .int (zI fx), .int (zI fy), .int (zI lf), .int (zI un)])), zQ cT ta 4 tq] sz) := by
  refine vx_ofW (cc := cX5_replay) (maxL := 4) (ret := (some .int)) (by decide) rfl ?_
  intro p e s m args below meth c s₁ B hml hnt hv
  obtain ⟨rfl, hsz, hP, hK, hD0, hEx⟩ := hv
  have hx := B.exec
  have hb := B.bytes
  have hr := B.returns
  have hts := atoms_spec (ws := wsX5_replay) B.pre
  have hown : s.vm.findClass RX5 = some m.cls := findClass_of_methodNamed B.named
  have hlocks := B.notSynchronized
  subst hsz
  have hD := hD0.self (sz := s.heap.size)
  generalize hAe : va_A [(sl, .inr (5, [.ref sh, .int (zI lc), .ref ru, .ref tr, .ref se])), zQ cL sh 6 sf, (lv, .inr (1, [.int (zI w), .int (zI h), .ref ka, .ref ta, .int (zI sx), .int (zI sy), .int (zI fx), .int (zI fy), .int (zI lf), .int (zI un)])), zQ cT ta 4 tq] s.heap.size = A at hD hEx ⊢
  have hA : ∀ q : Nat, s.heap.size ≤ q → A q := fun q h => by rw [← hAe]; exact Or.inr h
  clear hAe hD0
  have hS : va_S A s.heap s.heap [] := va_S.rf
  have hP : va_P (dC, dI) vwCl [(sl, .inr (5, [.ref sh, .int (zI lc), .ref ru, .ref tr, .ref se])), zQ cL sh 6 sf, (lv, .inr (1, [.int (zI w), .int (zI h), .ref ka, .ref ta, .int (zI sx), .int (zI sy), .int (zI fx), .int (zI fy), .int (zI lf), .int (zI un)])), zQ cT ta 4 tq] s.heap := hP
  have f_172 := hts (.fieldLink RX5 172 "SpringLevels$Tape" "length" "I") (by decide +kernel)
  have i_4 : ∀ w ∈ wsX40, w ∈ wsX5_replay := by decide +kernel
  have hl := lv_entry ([.ref sl, .int (zI L), .int (zI pl)]) (n := 4) (Nat.le_of_ble_eq_true rfl)
  rw [lg_entry_eq]
  generalize (lg_sl ([.ref sl, .int (zI L), .int (zI pl)]) ++ List.replicate (4 - (lg_sl ([.ref sl, .int (zI L), .int (zI pl)])).length) Slot.unset).toArray = ls at hl ⊢
  have hl : lv_has ls 4 [(0, .ref sl), (1, .int (zI L)), (2, .int (zI pl))] := hl
  refine lv_aload_n hx hb dX5_replay_0 rfl (lv_at hl 0 rfl) ?_
  refine lv_iload_n hx hb dX5_replay_1 rfl (lv_at hl 1 rfl) ?_
  refine lv_iload_n hx hb dX5_replay_2 rfl (lv_at hl 2 rfl) ?_
  have hPc := hP.sub (ws' := [(sl, .inr (5, [.ref sh, .int (zI lc), .ref ru, .ref tr, .ref se])), zQ cL sh 6 sf, (lv, .inr (1, [.int (zI w), .int (zI h), .ref ka, .ref ta, .int (zI sx), .int (zI sy), .int (zI fx), .int (zI fy), .int (zI lf), .int (zI un)])), zQ cT ta 4 tq]) [0, 1, 2, 3] rfl
  have hDc := hD.sub (ws' := [(sl, .inr (5, [.ref sh, .int (zI lc), .ref ru, .ref tr, .ref se])), zQ cL sh 6 sf, (lv, .inr (1, [.int (zI w), .int (zI h), .ref ka, .ref ta, .int (zI sx), .int (zI sy), .int (zI fx), .int (zI fy), .int (zI lf), .int (zI un)])), zQ cT ta 4 tq]) [0, 1, 2, 3] (by decide) rfl
  have hFc := va_free (wc := [(sl, .inr (5, [.ref sh, .int (zI lc), .ref ru, .ref tr, .ref se])), zQ cL sh 6 sf, (lv, .inr (1, [.int (zI w), .int (zI h), .ref ka, .ref ta, .int (zI sx), .int (zI sy), .int (zI fx), .int (zI fy), .int (zI lf), .int (zI un)])), zQ cT ta 4 tq]) hD hS hA [0, 1, 2, 3] rfl
  refine vx_callq (vx_runV (As := [.int (zI L), .int (zI pl)]) (rest := []) ⟨hx, hb, hml, hown, hts⟩ (x_X5_tapeOf_xb l hfl dC dI cI cZ cL cT cJ s.heap.size sl sh lc ru tr se sf L k lv w h ka ta sx sy fx fy lf un tq tp pl (by first | assumption | omega) (by first | assumption | omega) (by first | assumption | omega) (by first | assumption | omega)) (cwV 2 hts gX5_replay_X5_tapeOf rfl rfl rfl (by decide +kernel) ⟨Nat.le_of_ble_eq_true rfl, Nat.le_of_ble_eq_true rfl⟩) ⟨zPx_blind, va_recv hK hPc (ci := 5) (q0 := 0) rfl rfl, zPx_pre hPc hDc hK hEx hS hFc⟩ rfl rfl hl.1 rfl (lv_room (Nat.le_of_ble_eq_true rfl)) dX5_replay_3 ⟨Nat.le_of_ble_eq_true rfl, Nat.le_of_ble_eq_true rfl⟩) hS (fun q _ h => hFc q h) hFc (fun q _ h => hFc q h) (fun E9 ce9 q9 u t H1 locs ht hvm _ hB hz1 hk1 hS hc9 hv9 hf9 => ?_) (fun r u t H1 locs ht hvm hw => hw.elim)
  obtain ⟨rfl, hP1, hK1, hD1⟩ := hB
  rw [ht] at hP1
  obtain ⟨hP, hD⟩ := va_join (wr := []) (w1 := [(sl, .inr (5, [.ref sh, .int (zI lc), .ref ru, .ref tr, .ref se])), zQ cL sh 6 sf, (lv, .inr (1, [.int (zI w), .int (zI h), .ref ka, .ref ta, .int (zI sx), .int (zI sy), .int (zI fx), .int (zI fy), .int (zI lf), .int (zI un)])), zQ cT ta 4 tq]) hP hD [0, 1, 2, 3] [] rfl rfl (by decide) (by decide) hk1 hFc hP1 hD1
  have hP : va_P (dC, dI) vwCl [(sl, .inr (5, [.ref sh, .int (zI lc), .ref ru, .ref tr, .ref se])), zQ cL sh 6 sf, (lv, .inr (1, [.int (zI w), .int (zI h), .ref ka, .ref ta, .int (zI sx), .int (zI sy), .int (zI fx), .int (zI fy), .int (zI lf), .int (zI un)])), zQ cT ta 4 tq] H1 := hP.sub [0, 1, 2, 3] rfl
  have hD : va_D A [(sl, .inr (5, [.ref sh, .int (zI lc), .ref ru, .ref tr, .ref se])), zQ cL sh 6 sf, (lv, .inr (1, [.int (zI w), .int (zI h), .ref ka, .ref ta, .int (zI sx), .int (zI sy), .int (zI fx), .int (zI fy), .int (zI lf), .int (zI un)])), zQ cT ta 4 tq] := hD.sub [0, 1, 2, 3] (by decide) rfl
  exact vx_out (fun x h => (hnt x h).elim) hlocks hc9 hv9 hf9 (fun t9 ht9 hvm9 => ⟨(), trivial, ⟨rfl, by rw [ht9]; exact hP, va_K.moved hvm9 hK, hD⟩, hS.F ht9⟩) hS.2.2 (Nat.le_of_ble_eq_true rfl) (Nat.le_of_ble_eq_true rfl)
