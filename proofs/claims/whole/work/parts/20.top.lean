set_option maxHeartbeats 4000000 in
set_option maxRecDepth 100000 in
theorem c_X5_levelNumbered (l : Launch) (dC : Nat → ClassId) (dI : Nat → Nat → Nat) (cI cZ cL cT cJ : ClassId) (sz : Nat) (sl : Nat) (sh : Nat) (lc : Int) (ru : Nat) (tr : Nat) (se : Nat) (sf : Nat → Option Nat) (L : Int) (k : Nat) (lv : Nat) (gk : L = (k : Int) ∧ k < 6) (gf : sf k = some lv) : Met l yX5_levelNumbered wsX5_levelNumbered ({ frames := 0, cells := 0, slots := 0, locals := 0 }) (zP (dC, dI) (zT cI cZ cL cT cJ) sz [.ref sl, .int (zI L)] [(sl, .inr (5, [.ref sh, .int (zI lc), .ref ru, .ref tr, .ref se])), zQ cL sh 6 sf]) (va_Qq (fun (r9 : Option Nat) (u9 : Unit) => match u9 with | _ => r9 = some lv ∧ (True)) (zB (dC, dI) (zT cI cZ cL cT cJ) (va_A [(sl, .inr (5, [.ref sh, .int (zI lc), .ref ru, .ref tr, .ref se])), zQ cL sh 6 sf] sz) (fun (u9 : Unit) => match u9 with | _ => [(sl, .inr (5, [.ref sh, .int (zI lc), .ref ru, .ref tr, .ref se])), zQ cL sh 6 sf])) (va_A [(sl, .inr (5, [.ref sh, .int (zI lc), .ref ru, .ref tr, .ref se])), zQ cL sh 6 sf] sz)) 0 0 (va_A [(sl, .inr (5, [.ref sh, .int (zI lc), .ref ru, .ref tr, .ref se])), zQ cL sh 6 sf] sz) := by
  refine Met.ofW (cc := cX5_levelNumbered) (maxL := 3) (ret := (some (.object "SpringLevels$Level"))) (by decide) rfl ?_
  intro p e s m args below meth c s₁ B hml hv
  obtain ⟨rfl, hsz, hP, hK, hD0⟩ := hv
  have hx := B.exec
  have hb := B.bytes
  have hr := B.returns
  have hts := atoms_spec (ws := wsX5_levelNumbered) B.pre
  have hown : s.vm.findClass RX5 = some m.cls := findClass_of_methodNamed B.named
  have hlocks := B.notSynchronized
  subst hsz
  have hD := hD0.self (sz := s.heap.size)
  generalize hAe : va_A [(sl, .inr (5, [.ref sh, .int (zI lc), .ref ru, .ref tr, .ref se])), zQ cL sh 6 sf] s.heap.size = A at hD ⊢
  have hA : ∀ q : Nat, s.heap.size ≤ q → A q := fun q h => by rw [← hAe]; exact Or.inr h
  clear hAe hD0
  have hS : va_S A s.heap s.heap [] := va_S.rf
  have hP : va_P (dC, dI) vwCl [(sl, .inr (5, [.ref sh, .int (zI lc), .ref ru, .ref tr, .ref se])), zQ cL sh 6 sf] s.heap := hP
  have f_11 := hts (.fieldLink RX5 11 "SpringLevels" "shelf" "[LSpringLevels$Level;") (by decide +kernel)
  have i_5 : ∀ w ∈ wsX50, w ∈ wsX5_levelNumbered := by decide +kernel
  have hl := lv_entry ([.ref sl, .int (zI L)]) (n := 3) (Nat.le_of_ble_eq_true rfl)
  rw [lg_entry_eq]
  generalize (lg_sl ([.ref sl, .int (zI L)]) ++ List.replicate (3 - (lg_sl ([.ref sl, .int (zI L)])).length) Slot.unset).toArray = ls at hl ⊢
  have hl : lv_has ls 3 [(0, .ref sl), (1, .int (zI L))] := hl
  refine lv_iload_n hx hb dX5_levelNumbered_0 rfl (lv_at hl 1 rfl) ?_
  refine lz_if_lt (tgt := 13) hx hb dX5_levelNumbered_1 (by decide) (by omega) (fun c_1 => ?_) (fun c_1 => ?_)
  · exfalso; omega
  ·
    refine lv_iload_n hx hb dX5_levelNumbered_4 rfl (lv_at hl 1 rfl) ?_
    refine lv_aload_n hx hb dX5_levelNumbered_5 rfl (lv_at hl 0 rfl) ?_
    refine va_get (D := (dC, dI)) (ci := 5) (v := .ref sh) (C := RX5) (T := TX5) (N := 5) hx hb hts i_5 hown hK hP 0 rfl rfl 0 (by decide) f_11 (fun _ h9 => h9) rfl dX5_levelNumbered_6 ?_
    refine va_alen (v := zI 6) hx hb hK hP 1 2 rfl rfl rfl dX5_levelNumbered_9 ?_
    refine lz_icmp_lt (tgt := 23) hx hb dX5_levelNumbered_10 (by decide) (by omega) ⟨by decide, by decide⟩ (fun c_2 => ?_) (fun c_2 => ?_)
    ·
      refine lv_aload_n hx hb dX5_levelNumbered_23 rfl (lv_at hl 0 rfl) ?_
      refine va_get (D := (dC, dI)) (ci := 5) (v := .ref sh) (C := RX5) (T := TX5) (N := 5) hx hb hts i_5 hown hK hP 0 rfl rfl 0 (by decide) f_11 (fun _ h9 => h9) rfl dX5_levelNumbered_24 ?_
      refine lv_iload_n hx hb dX5_levelNumbered_27 rfl (lv_at hl 1 rfl) ?_
      refine lz_aldq (k := k) (f := sf) (v := .ref lv) hx hb hK hP 1 2 rfl rfl (by omega) (by omega) (by decide) (by rw [gf]; rfl) dX5_levelNumbered_28 ?_
      refine lv_astore_n (lv' := [(2, .ref lv), (0, .ref sl), (1, .int (zI L))]) hx hb dX5_levelNumbered_29 rfl hl (by decide) rfl (fun ls hl => ?_)
      refine lv_aload_n hx hb dX5_levelNumbered_30 rfl (lv_at hl 0 rfl) ?_
      refine lv_ifnonnull (tgt := 44) hx hb dX5_levelNumbered_31 (by decide) ?_
      refine lv_aload_n hx hb dX5_levelNumbered_44 rfl (lv_at hl 0 rfl) ?_
      have hP9 := hP.sub (ws' := [(sl, .inr (5, [.ref sh, .int (zI lc), .ref ru, .ref tr, .ref se])), zQ cL sh 6 sf]) [0, 1] rfl
      have hD9 := hD.sub (ws' := [(sl, .inr (5, [.ref sh, .int (zI lc), .ref ru, .ref tr, .ref se])), zQ cL sh 6 sf]) [0, 1] (by decide) rfl
      have po : (some lv) = some lv ∧ (True) := by
        refine ⟨by first | rfl | simp [*], ?_⟩
        trivial
      exact W.aret (v := va_rf (some lv)) hx hb hr (by first | exact Or.inl ⟨_, rfl⟩ | exact Or.inr ⟨_, rfl⟩) (va_rf_or _) (fun t ht hW => ⟨⟨(some lv), (), rfl, po, by rw [ht]; exact hP9, va_K.moved hW.alike hK, hD9⟩, hS.F ht⟩) hS.2.2 dX5_levelNumbered_45
    · exfalso; omega
set_option maxHeartbeats 4000000 in
set_option maxRecDepth 100000 in
theorem c_X5_levelWithCell (l : Launch) (dC : Nat → ClassId) (dI : Nat → Nat → Nat) (cI cZ cL cT cJ : ClassId) (sz : Nat) (sl : Nat) (sh : Nat) (lc : Int) (ru : Nat) (tr : Nat) (se : Nat) (sf : Nat → Option Nat) (L : Int) (k : Nat) (lv : Nat) (w : Int) (h : Int) (ka : Nat) (ta : Nat) (sx : Int) (sy : Int) (fx : Int) (fy : Int) (lf : Int) (un : Int) (K : Int → Int) (cx : Int) (cy : Int) (gk : L = (k : Int) ∧ k < 6) (gf : sf k = some lv) (gw : 0 < w ∧ w ≤ 12) (gh : 0 < h ∧ h ≤ 8) (gK : Kin K) (gx : 0 ≤ cx ∧ cx < w) (gy : 0 ≤ cy ∧ cy < h) : Met l yX5_levelWithCell wsX5_levelWithCell ({ frames := 1, cells := 0, slots := 0, locals := 23 }) (zP (dC, dI) (zT cI cZ cL cT cJ) sz [.ref sl, .int (zI L), .int (zI cx), .int (zI cy)] [(sl, .inr (5, [.ref sh, .int (zI lc), .ref ru, .ref tr, .ref se])), zQ cL sh 6 sf, (lv, .inr (1, [.int (zI w), .int (zI h), .ref ka, .ref ta, .int (zI sx), .int (zI sy), .int (zI fx), .int (zI fy), .int (zI lf), .int (zI un)])), zA cI ka 96 K]) (va_Qq (fun (r9 : Option Nat) (u9 : Unit) => match u9 with | _ => r9 = some lv ∧ (True)) (zB (dC, dI) (zT cI cZ cL cT cJ) (va_A [(sl, .inr (5, [.ref sh, .int (zI lc), .ref ru, .ref tr, .ref se])), zQ cL sh 6 sf, (lv, .inr (1, [.int (zI w), .int (zI h), .ref ka, .ref ta, .int (zI sx), .int (zI sy), .int (zI fx), .int (zI fy), .int (zI lf), .int (zI un)])), zA cI ka 96 K] sz) (fun (u9 : Unit) => match u9 with | _ => [(sl, .inr (5, [.ref sh, .int (zI lc), .ref ru, .ref tr, .ref se])), zQ cL sh 6 sf, (lv, .inr (1, [.int (zI w), .int (zI h), .ref ka, .ref ta, .int (zI sx), .int (zI sy), .int (zI fx), .int (zI fy), .int (zI lf), .int (zI un)])), zA cI ka 96 K])) (va_A [(sl, .inr (5, [.ref sh, .int (zI lc), .ref ru, .ref tr, .ref se])), zQ cL sh 6 sf, (lv, .inr (1, [.int (zI w), .int (zI h), .ref ka, .ref ta, .int (zI sx), .int (zI sy), .int (zI fx), .int (zI fy), .int (zI lf), .int (zI un)])), zA cI ka 96 K] sz)) 0 0 (va_A [(sl, .inr (5, [.ref sh, .int (zI lc), .ref ru, .ref tr, .ref se])), zQ cL sh 6 sf, (lv, .inr (1, [.int (zI w), .int (zI h), .ref ka, .ref ta, .int (zI sx), .int (zI sy), .int (zI fx), .int (zI fy), .int (zI lf), .int (zI un)])), zA cI ka 96 K] sz) := by
  refine Met.ofW (cc := cX5_levelWithCell) (maxL := 5) (ret := (some (.object "SpringLevels$Level"))) (by decide) rfl ?_
  intro p e s m args below meth c s₁ B hml hv
  obtain ⟨rfl, hsz, hP, hK, hD0⟩ := hv
  have hx := B.exec
  have hb := B.bytes
  have hr := B.returns
  have hts := atoms_spec (ws := wsX5_levelWithCell) B.pre
  have hown : s.vm.findClass RX5 = some m.cls := findClass_of_methodNamed B.named
  have hlocks := B.notSynchronized
  subst hsz
  have hD := hD0.self (sz := s.heap.size)
  generalize hAe : va_A [(sl, .inr (5, [.ref sh, .int (zI lc), .ref ru, .ref tr, .ref se])), zQ cL sh 6 sf, (lv, .inr (1, [.int (zI w), .int (zI h), .ref ka, .ref ta, .int (zI sx), .int (zI sy), .int (zI fx), .int (zI fy), .int (zI lf), .int (zI un)])), zA cI ka 96 K] s.heap.size = A at hD ⊢
  have hA : ∀ q : Nat, s.heap.size ≤ q → A q := fun q h => by rw [← hAe]; exact Or.inr h
  clear hAe hD0
  have hS : va_S A s.heap s.heap [] := va_S.rf
  have hP : va_P (dC, dI) vwCl [(sl, .inr (5, [.ref sh, .int (zI lc), .ref ru, .ref tr, .ref se])), zQ cL sh 6 sf, (lv, .inr (1, [.int (zI w), .int (zI h), .ref ka, .ref ta, .int (zI sx), .int (zI sy), .int (zI fx), .int (zI fy), .int (zI lf), .int (zI un)])), zA cI ka 96 K] s.heap := hP
  have hl := lv_entry ([.ref sl, .int (zI L), .int (zI cx), .int (zI cy)]) (n := 5) (Nat.le_of_ble_eq_true rfl)
  rw [lg_entry_eq]
  generalize (lg_sl ([.ref sl, .int (zI L), .int (zI cx), .int (zI cy)]) ++ List.replicate (5 - (lg_sl ([.ref sl, .int (zI L), .int (zI cx), .int (zI cy)])).length) Slot.unset).toArray = ls at hl ⊢
  have hl : lv_has ls 5 [(0, .ref sl), (1, .int (zI L)), (2, .int (zI cx)), (3, .int (zI cy))] := hl
  refine lv_aload_n hx hb dX5_levelWithCell_0 rfl (lv_at hl 0 rfl) ?_
  refine lv_iload_n hx hb dX5_levelWithCell_1 rfl (lv_at hl 1 rfl) ?_
  have hPc := hP.sub (ws' := [(sl, .inr (5, [.ref sh, .int (zI lc), .ref ru, .ref tr, .ref se])), zQ cL sh 6 sf]) [0, 1] rfl
  have hDc := hD.sub (ws' := [(sl, .inr (5, [.ref sh, .int (zI lc), .ref ru, .ref tr, .ref se])), zQ cL sh 6 sf]) [0, 1] (by decide) rfl
  have hFc := va_free (wc := [(sl, .inr (5, [.ref sh, .int (zI lc), .ref ru, .ref tr, .ref se])), zQ cL sh 6 sf]) hD hS hA [0, 1] rfl
  refine va_callq (va_runV (As := [.int (zI L)]) (rest := []) ⟨hx, hb, hml, hown, hts⟩ (c_X5_levelNumbered l dC dI cI cZ cL cT cJ s.heap.size sl sh lc ru tr se sf L k lv (by first | assumption | omega) (by first | assumption | omega)) (cwV 1 hts gX5_levelWithCell_X5_levelNumbered rfl rfl rfl (by decide +kernel) ⟨Nat.le_of_ble_eq_true rfl, Nat.le_of_ble_eq_true rfl⟩) ⟨zP_blind, va_recv hK hPc (ci := 5) (q0 := 0) rfl rfl, zP_pre hPc hDc hK⟩ rfl rfl hl.1 rfl (lv_room (Nat.le_of_ble_eq_true rfl)) dX5_levelWithCell_2 ⟨Nat.le_of_ble_eq_true rfl, Nat.le_of_ble_eq_true rfl⟩) hS (fun q _ h => hFc q h) hFc (fun r_1 u_1 t H1 locs ht hvm hw hB hz1 hk1 hS => ?_)
  obtain ⟨hP1, hK1, hD1⟩ := hB
  rw [ht] at hP1
  have hP1 : va_P (dC, dI) vwCl [(sl, .inr (5, [.ref sh, .int (zI lc), .ref ru, .ref tr, .ref se])), zQ cL sh 6 sf] H1 := hP1
  obtain ⟨hP, hD⟩ := va_join (wr := [(lv, .inr (1, [.int (zI w), .int (zI h), .ref ka, .ref ta, .int (zI sx), .int (zI sy), .int (zI fx), .int (zI fy), .int (zI lf), .int (zI un)])), zA cI ka 96 K]) (w1 := [(sl, .inr (5, [.ref sh, .int (zI lc), .ref ru, .ref tr, .ref se])), zQ cL sh 6 sf]) hP hD [0, 1] [2, 3] rfl rfl (by decide) (by decide) hk1 hFc hP1 hD1
  clear hP1 hD1 hk1 hFc hPc hDc hz1
  generalize H1 = H at hP hS ⊢
  have hP : va_P (dC, dI) vwCl [(sl, .inr (5, [.ref sh, .int (zI lc), .ref ru, .ref tr, .ref se])), zQ cL sh 6 sf, (lv, .inr (1, [.int (zI w), .int (zI h), .ref ka, .ref ta, .int (zI sx), .int (zI sy), .int (zI fx), .int (zI fy), .int (zI lf), .int (zI un)])), zA cI ka 96 K] H := hP.sub [2, 3, 0, 1] rfl
  have hD : va_D A [(sl, .inr (5, [.ref sh, .int (zI lc), .ref ru, .ref tr, .ref se])), zQ cL sh 6 sf, (lv, .inr (1, [.int (zI w), .int (zI h), .ref ka, .ref ta, .int (zI sx), .int (zI sy), .int (zI fx), .int (zI fy), .int (zI lf), .int (zI un)])), zA cI ka 96 K] := hD.sub [2, 3, 0, 1] (by decide) rfl
  clear hK1 hvm
  obtain ⟨rfl, po_2⟩ := hw
  refine W.eq (g2 := F0 m 5 ls [.ref lv]) rfl ?_
  refine lv_astore (lv' := [(4, .ref lv), (0, .ref sl), (1, .int (zI L)), (2, .int (zI cx)), (3, .int (zI cy))]) hx hb dX5_levelWithCell_5 hl (by decide) rfl (fun ls hl => ?_)
  refine lv_aload hx hb dX5_levelWithCell_7 (lv_at hl 0 rfl) ?_
  refine lv_iload_n hx hb dX5_levelWithCell_9 rfl (lv_at hl 3 rfl) ?_
  refine lv_iload_n hx hb dX5_levelWithCell_10 rfl (lv_at hl 4 rfl) ?_
  have hPc := hP.sub (ws' := [(lv, .inr (1, [.int (zI w), .int (zI h), .ref ka, .ref ta, .int (zI sx), .int (zI sy), .int (zI fx), .int (zI fy), .int (zI lf), .int (zI un)])), zA cI ka 96 K]) [2, 3] rfl
  have hDc := hD.sub (ws' := [(lv, .inr (1, [.int (zI w), .int (zI h), .ref ka, .ref ta, .int (zI sx), .int (zI sy), .int (zI fx), .int (zI fy), .int (zI lf), .int (zI un)])), zA cI ka 96 K]) [2, 3] (by decide) rfl
  have hFc := va_free (wc := [(lv, .inr (1, [.int (zI w), .int (zI h), .ref ka, .ref ta, .int (zI sx), .int (zI sy), .int (zI fx), .int (zI fy), .int (zI lf), .int (zI un)])), zA cI ka 96 K]) hD hS hA [2, 3] rfl
  refine va_calli (va_runV (As := [.int (zI cx), .int (zI cy)]) (rest := []) ⟨hx, hb, hml, hown, hts⟩ (c_X1_kindAt l dC dI cI cZ cL cT cJ H.size lv w h ka (.ref ta) sx sy fx fy lf un K cx cy (by first | assumption | omega) (by first | assumption | omega) (by first | assumption | omega) (by first | assumption | omega) (by first | assumption | omega)) (cwV 2 hts gX5_levelWithCell_X1_kindAt rfl rfl rfl (by decide +kernel) ⟨Nat.le_of_ble_eq_true rfl, Nat.le_of_ble_eq_true rfl⟩) ⟨zP_blind, va_recv hK hPc (ci := 1) (q0 := 0) rfl rfl, zP_pre hPc hDc hK⟩ rfl rfl hl.1 rfl (lv_room (Nat.le_of_ble_eq_true rfl)) dX5_levelWithCell_11 ⟨Nat.le_of_ble_eq_true rfl, Nat.le_of_ble_eq_true rfl⟩) hS (fun q _ h => hFc q h) hFc (fun r_3 u_3 t H1 locs ht hvm hw hB hz1 hk1 hS => ?_)
  obtain ⟨r_4, rfl⟩ : ∃ z, z = u_3 := ⟨_, rfl⟩
  obtain ⟨hP1, hK1, hD1⟩ := hB
  rw [ht] at hP1
  have hP1 : va_P (dC, dI) vwCl [(lv, .inr (1, [.int (zI w), .int (zI h), .ref ka, .ref ta, .int (zI sx), .int (zI sy), .int (zI fx), .int (zI fy), .int (zI lf), .int (zI un)])), zA cI ka 96 K] H1 := hP1
  obtain ⟨hP, hD⟩ := va_join (wr := [(sl, .inr (5, [.ref sh, .int (zI lc), .ref ru, .ref tr, .ref se])), zQ cL sh 6 sf]) (w1 := [(lv, .inr (1, [.int (zI w), .int (zI h), .ref ka, .ref ta, .int (zI sx), .int (zI sy), .int (zI fx), .int (zI fy), .int (zI lf), .int (zI un)])), zA cI ka 96 K]) hP hD [2, 3] [0, 1] rfl rfl (by decide) (by decide) hk1 hFc hP1 hD1
  clear hP1 hD1 hk1 hFc hPc hDc hz1
  generalize H1 = H at hP hS ⊢
  have hP : va_P (dC, dI) vwCl [(sl, .inr (5, [.ref sh, .int (zI lc), .ref ru, .ref tr, .ref se])), zQ cL sh 6 sf, (lv, .inr (1, [.int (zI w), .int (zI h), .ref ka, .ref ta, .int (zI sx), .int (zI sy), .int (zI fx), .int (zI fy), .int (zI lf), .int (zI un)])), zA cI ka 96 K] H := hP.sub [0, 1, 2, 3] rfl
  have hD : va_D A [(sl, .inr (5, [.ref sh, .int (zI lc), .ref ru, .ref tr, .ref se])), zQ cL sh 6 sf, (lv, .inr (1, [.int (zI w), .int (zI h), .ref ka, .ref ta, .int (zI sx), .int (zI sy), .int (zI fx), .int (zI fy), .int (zI lf), .int (zI un)])), zA cI ka 96 K] := hD.sub [0, 1, 2, 3] (by decide) rfl
  clear hK1 hvm
  obtain ⟨rfl, po_5⟩ := hw
  have po_5 : r_4 = kd K w h cx cy ∧ -1 ≤ r_4 ∧ r_4 ≤ 3 := po_5
  refine W.eq (g2 := F0 m 14 ls [.int (zI r_4)]) rfl ?_
  refine lv_iconst (v := zI (-1)) hx hb dX5_levelWithCell_14 (rfl) ?_
  refine lz_icmp_ne (tgt := 28) hx hb dX5_levelWithCell_15 (by decide) (by omega) ⟨by decide, by decide⟩ (fun c_6 => ?_) (fun c_6 => ?_)
  ·
    refine lv_aload hx hb dX5_levelWithCell_28 (lv_at hl 0 rfl) ?_
    have hP9 := hP.sub (ws' := [(sl, .inr (5, [.ref sh, .int (zI lc), .ref ru, .ref tr, .ref se])), zQ cL sh 6 sf, (lv, .inr (1, [.int (zI w), .int (zI h), .ref ka, .ref ta, .int (zI sx), .int (zI sy), .int (zI fx), .int (zI fy), .int (zI lf), .int (zI un)])), zA cI ka 96 K]) [0, 1, 2, 3] rfl
    have hD9 := hD.sub (ws' := [(sl, .inr (5, [.ref sh, .int (zI lc), .ref ru, .ref tr, .ref se])), zQ cL sh 6 sf, (lv, .inr (1, [.int (zI w), .int (zI h), .ref ka, .ref ta, .int (zI sx), .int (zI sy), .int (zI fx), .int (zI fy), .int (zI lf), .int (zI un)])), zA cI ka 96 K]) [0, 1, 2, 3] (by decide) rfl
    have po : (some lv) = some lv ∧ (True) := by
      refine ⟨by first | rfl | simp [*], ?_⟩
      trivial
    exact W.aret (v := va_rf (some lv)) hx hb hr (by first | exact Or.inl ⟨_, rfl⟩ | exact Or.inr ⟨_, rfl⟩) (va_rf_or _) (fun t ht hW => ⟨⟨(some lv), (), rfl, po, by rw [ht]; exact hP9, va_K.moved hW.alike hK, hD9⟩, hS.F ht⟩) hS.2.2 dX5_levelWithCell_30
  · exfalso; have e9 := kd_pos gK gx gy; omega
set_option maxHeartbeats 4000000 in
set_option maxRecDepth 100000 in
theorem c_X5_levelWithoutBlockAt (l : Launch) (dC : Nat → ClassId) (dI : Nat → Nat → Nat) (cI cZ cL cT cJ : ClassId) (sz : Nat) (sl : Nat) (sh : Nat) (lc : Int) (ru : Nat) (tr : Nat) (se : Nat) (sf : Nat → Option Nat) (L : Int) (k : Nat) (lv : Nat) (w : Int) (h : Int) (ka : Nat) (ta : Nat) (sx : Int) (sy : Int) (fx : Int) (fy : Int) (lf : Int) (un : Int) (K : Int → Int) (cx : Int) (cy : Int) (gk : L = (k : Int) ∧ k < 6) (gf : sf k = some lv) (gw : 0 < w ∧ w ≤ 12) (gh : 0 < h ∧ h ≤ 8) (gK : Kin K) (gx : 0 ≤ cx ∧ cx < w) (gy : 0 ≤ cy ∧ cy < h) (gb : ¬ kd K w h cx cy = 1) : Met l yX5_levelWithoutBlockAt wsX5_levelWithoutBlockAt ({ frames := 2, cells := 0, slots := 0, locals := 47 }) (zP (dC, dI) (zT cI cZ cL cT cJ) sz [.ref sl, .int (zI L), .int (zI cx), .int (zI cy)] [(sl, .inr (5, [.ref sh, .int (zI lc), .ref ru, .ref tr, .ref se])), zQ cL sh 6 sf, (lv, .inr (1, [.int (zI w), .int (zI h), .ref ka, .ref ta, .int (zI sx), .int (zI sy), .int (zI fx), .int (zI fy), .int (zI lf), .int (zI un)])), zA cI ka 96 K]) (va_Qq (fun (r9 : Option Nat) (u9 : Unit) => match u9 with | _ => r9 = some lv ∧ (True)) (zB (dC, dI) (zT cI cZ cL cT cJ) (va_A [(sl, .inr (5, [.ref sh, .int (zI lc), .ref ru, .ref tr, .ref se])), zQ cL sh 6 sf, (lv, .inr (1, [.int (zI w), .int (zI h), .ref ka, .ref ta, .int (zI sx), .int (zI sy), .int (zI fx), .int (zI fy), .int (zI lf), .int (zI un)])), zA cI ka 96 K] sz) (fun (u9 : Unit) => match u9 with | _ => [(sl, .inr (5, [.ref sh, .int (zI lc), .ref ru, .ref tr, .ref se])), zQ cL sh 6 sf, (lv, .inr (1, [.int (zI w), .int (zI h), .ref ka, .ref ta, .int (zI sx), .int (zI sy), .int (zI fx), .int (zI fy), .int (zI lf), .int (zI un)])), zA cI ka 96 K])) (va_A [(sl, .inr (5, [.ref sh, .int (zI lc), .ref ru, .ref tr, .ref se])), zQ cL sh 6 sf, (lv, .inr (1, [.int (zI w), .int (zI h), .ref ka, .ref ta, .int (zI sx), .int (zI sy), .int (zI fx), .int (zI fy), .int (zI lf), .int (zI un)])), zA cI ka 96 K] sz)) 0 0 (va_A [(sl, .inr (5, [.ref sh, .int (zI lc), .ref ru, .ref tr, .ref se])), zQ cL sh 6 sf, (lv, .inr (1, [.int (zI w), .int (zI h), .ref ka, .ref ta, .int (zI sx), .int (zI sy), .int (zI fx), .int (zI fy), .int (zI lf), .int (zI un)])), zA cI ka 96 K] sz) := by
  refine Met.ofW (cc := cX5_levelWithoutBlockAt) (maxL := 5) (ret := (some (.object "SpringLevels$Level"))) (by decide) rfl ?_
  intro p e s m args below meth c s₁ B hml hv
  obtain ⟨rfl, hsz, hP, hK, hD0⟩ := hv
  have hx := B.exec
  have hb := B.bytes
  have hr := B.returns
  have hts := atoms_spec (ws := wsX5_levelWithoutBlockAt) B.pre
  have hown : s.vm.findClass RX5 = some m.cls := findClass_of_methodNamed B.named
  have hlocks := B.notSynchronized
  subst hsz
  have hD := hD0.self (sz := s.heap.size)
  generalize hAe : va_A [(sl, .inr (5, [.ref sh, .int (zI lc), .ref ru, .ref tr, .ref se])), zQ cL sh 6 sf, (lv, .inr (1, [.int (zI w), .int (zI h), .ref ka, .ref ta, .int (zI sx), .int (zI sy), .int (zI fx), .int (zI fy), .int (zI lf), .int (zI un)])), zA cI ka 96 K] s.heap.size = A at hD ⊢
  have hA : ∀ q : Nat, s.heap.size ≤ q → A q := fun q h => by rw [← hAe]; exact Or.inr h
  clear hAe hD0
  have hS : va_S A s.heap s.heap [] := va_S.rf
  have hP : va_P (dC, dI) vwCl [(sl, .inr (5, [.ref sh, .int (zI lc), .ref ru, .ref tr, .ref se])), zQ cL sh 6 sf, (lv, .inr (1, [.int (zI w), .int (zI h), .ref ka, .ref ta, .int (zI sx), .int (zI sy), .int (zI fx), .int (zI fy), .int (zI lf), .int (zI un)])), zA cI ka 96 K] s.heap := hP
  have hl := lv_entry ([.ref sl, .int (zI L), .int (zI cx), .int (zI cy)]) (n := 5) (Nat.le_of_ble_eq_true rfl)
  rw [lg_entry_eq]
  generalize (lg_sl ([.ref sl, .int (zI L), .int (zI cx), .int (zI cy)]) ++ List.replicate (5 - (lg_sl ([.ref sl, .int (zI L), .int (zI cx), .int (zI cy)])).length) Slot.unset).toArray = ls at hl ⊢
  have hl : lv_has ls 5 [(0, .ref sl), (1, .int (zI L)), (2, .int (zI cx)), (3, .int (zI cy))] := hl
  refine lv_aload_n hx hb dX5_levelWithoutBlockAt_0 rfl (lv_at hl 0 rfl) ?_
  refine lv_iload_n hx hb dX5_levelWithoutBlockAt_1 rfl (lv_at hl 1 rfl) ?_
  refine lv_iload_n hx hb dX5_levelWithoutBlockAt_2 rfl (lv_at hl 2 rfl) ?_
  refine lv_iload_n hx hb dX5_levelWithoutBlockAt_3 rfl (lv_at hl 3 rfl) ?_
  have hPc := hP.sub (ws' := [(sl, .inr (5, [.ref sh, .int (zI lc), .ref ru, .ref tr, .ref se])), zQ cL sh 6 sf, (lv, .inr (1, [.int (zI w), .int (zI h), .ref ka, .ref ta, .int (zI sx), .int (zI sy), .int (zI fx), .int (zI fy), .int (zI lf), .int (zI un)])), zA cI ka 96 K]) [0, 1, 2, 3] rfl
  have hDc := hD.sub (ws' := [(sl, .inr (5, [.ref sh, .int (zI lc), .ref ru, .ref tr, .ref se])), zQ cL sh 6 sf, (lv, .inr (1, [.int (zI w), .int (zI h), .ref ka, .ref ta, .int (zI sx), .int (zI sy), .int (zI fx), .int (zI fy), .int (zI lf), .int (zI un)])), zA cI ka 96 K]) [0, 1, 2, 3] (by decide) rfl
  have hFc := va_free (wc := [(sl, .inr (5, [.ref sh, .int (zI lc), .ref ru, .ref tr, .ref se])), zQ cL sh 6 sf, (lv, .inr (1, [.int (zI w), .int (zI h), .ref ka, .ref ta, .int (zI sx), .int (zI sy), .int (zI fx), .int (zI fy), .int (zI lf), .int (zI un)])), zA cI ka 96 K]) hD hS hA [0, 1, 2, 3] rfl
  refine va_callq (va_runV (As := [.int (zI L), .int (zI cx), .int (zI cy)]) (rest := []) ⟨hx, hb, hml, hown, hts⟩ (c_X5_levelWithCell l dC dI cI cZ cL cT cJ s.heap.size sl sh lc ru tr se sf L k lv w h ka ta sx sy fx fy lf un K cx cy (by first | assumption | omega) (by first | assumption | omega) (by first | assumption | omega) (by first | assumption | omega) (by first | assumption | omega) (by first | assumption | omega) (by first | assumption | omega)) (cwV 3 hts gX5_levelWithoutBlockAt_X5_levelWithCell rfl rfl rfl (by decide +kernel) ⟨Nat.le_of_ble_eq_true rfl, Nat.le_of_ble_eq_true rfl⟩) ⟨zP_blind, va_recv hK hPc (ci := 5) (q0 := 0) rfl rfl, zP_pre hPc hDc hK⟩ rfl rfl hl.1 rfl (lv_room (Nat.le_of_ble_eq_true rfl)) dX5_levelWithoutBlockAt_4 ⟨Nat.le_of_ble_eq_true rfl, Nat.le_of_ble_eq_true rfl⟩) hS (fun q _ h => hFc q h) hFc (fun r_1 u_1 t H1 locs ht hvm hw hB hz1 hk1 hS => ?_)
  obtain ⟨hP1, hK1, hD1⟩ := hB
  rw [ht] at hP1
  have hP1 : va_P (dC, dI) vwCl [(sl, .inr (5, [.ref sh, .int (zI lc), .ref ru, .ref tr, .ref se])), zQ cL sh 6 sf, (lv, .inr (1, [.int (zI w), .int (zI h), .ref ka, .ref ta, .int (zI sx), .int (zI sy), .int (zI fx), .int (zI fy), .int (zI lf), .int (zI un)])), zA cI ka 96 K] H1 := hP1
  obtain ⟨hP, hD⟩ := va_join (wr := []) (w1 := [(sl, .inr (5, [.ref sh, .int (zI lc), .ref ru, .ref tr, .ref se])), zQ cL sh 6 sf, (lv, .inr (1, [.int (zI w), .int (zI h), .ref ka, .ref ta, .int (zI sx), .int (zI sy), .int (zI fx), .int (zI fy), .int (zI lf), .int (zI un)])), zA cI ka 96 K]) hP hD [0, 1, 2, 3] [] rfl rfl (by decide) (by decide) hk1 hFc hP1 hD1
  clear hP1 hD1 hk1 hFc hPc hDc hz1
  generalize H1 = H at hP hS ⊢
  have hP : va_P (dC, dI) vwCl [(sl, .inr (5, [.ref sh, .int (zI lc), .ref ru, .ref tr, .ref se])), zQ cL sh 6 sf, (lv, .inr (1, [.int (zI w), .int (zI h), .ref ka, .ref ta, .int (zI sx), .int (zI sy), .int (zI fx), .int (zI fy), .int (zI lf), .int (zI un)])), zA cI ka 96 K] H := hP.sub [0, 1, 2, 3] rfl
  have hD : va_D A [(sl, .inr (5, [.ref sh, .int (zI lc), .ref ru, .ref tr, .ref se])), zQ cL sh 6 sf, (lv, .inr (1, [.int (zI w), .int (zI h), .ref ka, .ref ta, .int (zI sx), .int (zI sy), .int (zI fx), .int (zI fy), .int (zI lf), .int (zI un)])), zA cI ka 96 K] := hD.sub [0, 1, 2, 3] (by decide) rfl
  clear hK1 hvm
  obtain ⟨rfl, po_2⟩ := hw
  refine W.eq (g2 := F0 m 7 ls [.ref lv]) rfl ?_
  refine lv_astore (lv' := [(4, .ref lv), (0, .ref sl), (1, .int (zI L)), (2, .int (zI cx)), (3, .int (zI cy))]) hx hb dX5_levelWithoutBlockAt_7 hl (by decide) rfl (fun ls hl => ?_)
  refine lv_aload hx hb dX5_levelWithoutBlockAt_9 (lv_at hl 0 rfl) ?_
  refine lv_iload_n hx hb dX5_levelWithoutBlockAt_11 rfl (lv_at hl 3 rfl) ?_
  refine lv_iload_n hx hb dX5_levelWithoutBlockAt_12 rfl (lv_at hl 4 rfl) ?_
  have hPc := hP.sub (ws' := [(lv, .inr (1, [.int (zI w), .int (zI h), .ref ka, .ref ta, .int (zI sx), .int (zI sy), .int (zI fx), .int (zI fy), .int (zI lf), .int (zI un)])), zA cI ka 96 K]) [2, 3] rfl
  have hDc := hD.sub (ws' := [(lv, .inr (1, [.int (zI w), .int (zI h), .ref ka, .ref ta, .int (zI sx), .int (zI sy), .int (zI fx), .int (zI fy), .int (zI lf), .int (zI un)])), zA cI ka 96 K]) [2, 3] (by decide) rfl
  have hFc := va_free (wc := [(lv, .inr (1, [.int (zI w), .int (zI h), .ref ka, .ref ta, .int (zI sx), .int (zI sy), .int (zI fx), .int (zI fy), .int (zI lf), .int (zI un)])), zA cI ka 96 K]) hD hS hA [2, 3] rfl
  refine va_calli (va_runV (As := [.int (zI cx), .int (zI cy)]) (rest := []) ⟨hx, hb, hml, hown, hts⟩ (c_X1_kindAt l dC dI cI cZ cL cT cJ H.size lv w h ka (.ref ta) sx sy fx fy lf un K cx cy (by first | assumption | omega) (by first | assumption | omega) (by first | assumption | omega) (by first | assumption | omega) (by first | assumption | omega)) (cwV 2 hts gX5_levelWithoutBlockAt_X1_kindAt rfl rfl rfl (by decide +kernel) ⟨Nat.le_of_ble_eq_true rfl, Nat.le_of_ble_eq_true rfl⟩) ⟨zP_blind, va_recv hK hPc (ci := 1) (q0 := 0) rfl rfl, zP_pre hPc hDc hK⟩ rfl rfl hl.1 rfl (lv_room (Nat.le_of_ble_eq_true rfl)) dX5_levelWithoutBlockAt_13 ⟨Nat.le_of_ble_eq_true rfl, Nat.le_of_ble_eq_true rfl⟩) hS (fun q _ h => hFc q h) hFc (fun r_3 u_3 t H1 locs ht hvm hw hB hz1 hk1 hS => ?_)
  obtain ⟨r_4, rfl⟩ : ∃ z, z = u_3 := ⟨_, rfl⟩
  obtain ⟨hP1, hK1, hD1⟩ := hB
  rw [ht] at hP1
  have hP1 : va_P (dC, dI) vwCl [(lv, .inr (1, [.int (zI w), .int (zI h), .ref ka, .ref ta, .int (zI sx), .int (zI sy), .int (zI fx), .int (zI fy), .int (zI lf), .int (zI un)])), zA cI ka 96 K] H1 := hP1
  obtain ⟨hP, hD⟩ := va_join (wr := [(sl, .inr (5, [.ref sh, .int (zI lc), .ref ru, .ref tr, .ref se])), zQ cL sh 6 sf]) (w1 := [(lv, .inr (1, [.int (zI w), .int (zI h), .ref ka, .ref ta, .int (zI sx), .int (zI sy), .int (zI fx), .int (zI fy), .int (zI lf), .int (zI un)])), zA cI ka 96 K]) hP hD [2, 3] [0, 1] rfl rfl (by decide) (by decide) hk1 hFc hP1 hD1
  clear hP1 hD1 hk1 hFc hPc hDc hz1
  generalize H1 = H at hP hS ⊢
  have hP : va_P (dC, dI) vwCl [(sl, .inr (5, [.ref sh, .int (zI lc), .ref ru, .ref tr, .ref se])), zQ cL sh 6 sf, (lv, .inr (1, [.int (zI w), .int (zI h), .ref ka, .ref ta, .int (zI sx), .int (zI sy), .int (zI fx), .int (zI fy), .int (zI lf), .int (zI un)])), zA cI ka 96 K] H := hP.sub [0, 1, 2, 3] rfl
  have hD : va_D A [(sl, .inr (5, [.ref sh, .int (zI lc), .ref ru, .ref tr, .ref se])), zQ cL sh 6 sf, (lv, .inr (1, [.int (zI w), .int (zI h), .ref ka, .ref ta, .int (zI sx), .int (zI sy), .int (zI fx), .int (zI fy), .int (zI lf), .int (zI un)])), zA cI ka 96 K] := hD.sub [0, 1, 2, 3] (by decide) rfl
  clear hK1 hvm
  obtain ⟨rfl, po_5⟩ := hw
  have po_5 : r_4 = kd K w h cx cy ∧ -1 ≤ r_4 ∧ r_4 ≤ 3 := po_5
  refine W.eq (g2 := F0 m 16 ls [.int (zI r_4)]) rfl ?_
  refine lv_iconst (v := zI 1) hx hb dX5_levelWithoutBlockAt_16 (rfl) ?_
  refine lz_icmp_ne (tgt := 30) hx hb dX5_levelWithoutBlockAt_17 (by decide) (by omega) ⟨by decide, by decide⟩ (fun c_6 => ?_) (fun c_6 => ?_)
  ·
    refine lv_aload hx hb dX5_levelWithoutBlockAt_30 (lv_at hl 0 rfl) ?_
    have hP9 := hP.sub (ws' := [(sl, .inr (5, [.ref sh, .int (zI lc), .ref ru, .ref tr, .ref se])), zQ cL sh 6 sf, (lv, .inr (1, [.int (zI w), .int (zI h), .ref ka, .ref ta, .int (zI sx), .int (zI sy), .int (zI fx), .int (zI fy), .int (zI lf), .int (zI un)])), zA cI ka 96 K]) [0, 1, 2, 3] rfl
    have hD9 := hD.sub (ws' := [(sl, .inr (5, [.ref sh, .int (zI lc), .ref ru, .ref tr, .ref se])), zQ cL sh 6 sf, (lv, .inr (1, [.int (zI w), .int (zI h), .ref ka, .ref ta, .int (zI sx), .int (zI sy), .int (zI fx), .int (zI fy), .int (zI lf), .int (zI un)])), zA cI ka 96 K]) [0, 1, 2, 3] (by decide) rfl
    have po : (some lv) = some lv ∧ (True) := by
      refine ⟨by first | rfl | simp [*], ?_⟩
      trivial
    exact W.aret (v := va_rf (some lv)) hx hb hr (by first | exact Or.inl ⟨_, rfl⟩ | exact Or.inr ⟨_, rfl⟩) (va_rf_or _) (fun t ht hW => ⟨⟨(some lv), (), rfl, po, by rw [ht]; exact hP9, va_K.moved hW.alike hK, hD9⟩, hS.F ht⟩) hS.2.2 dX5_levelWithoutBlockAt_32
  · exfalso; omega
set_option maxHeartbeats 4000000 in
set_option maxRecDepth 100000 in
theorem c_X5_tapeOf (l : Launch) (dC : Nat → ClassId) (dI : Nat → Nat → Nat) (cI cZ cL cT cJ : ClassId) (sz : Nat) (sl : Nat) (sh : Nat) (lc : Int) (ru : Nat) (tr : Nat) (se : Nat) (sf : Nat → Option Nat) (L : Int) (k : Nat) (lv : Nat) (w : Int) (h : Int) (ka : Nat) (ta : Nat) (sx : Int) (sy : Int) (fx : Int) (fy : Int) (lf : Int) (un : Int) (tq : Nat → Option Nat) (tp : Nat → Nat) (pl : Int) (kp : Nat) (gk : L = (k : Int) ∧ k < 6) (gf : sf k = some lv) (gt : ∀ k, k < 4 → tq k = some (tp k)) (gkp : pl = (kp : Int) ∧ kp < 4) : Met l yX5_tapeOf wsX5_tapeOf ({ frames := 1, cells := 0, slots := 0, locals := 22 }) (zP (dC, dI) (zT cI cZ cL cT cJ) sz [.ref sl, .int (zI L), .int (zI pl)] [(sl, .inr (5, [.ref sh, .int (zI lc), .ref ru, .ref tr, .ref se])), zQ cL sh 6 sf, (lv, .inr (1, [.int (zI w), .int (zI h), .ref ka, .ref ta, .int (zI sx), .int (zI sy), .int (zI fx), .int (zI fy), .int (zI lf), .int (zI un)])), zQ cT ta 4 tq]) (va_Qq (fun (r9 : Option Nat) (u9 : Unit) => match u9 with | _ => r9 = some (tp kp) ∧ (True)) (zB (dC, dI) (zT cI cZ cL cT cJ) (va_A [(sl, .inr (5, [.ref sh, .int (zI lc), .ref ru, .ref tr, .ref se])), zQ cL sh 6 sf, (lv, .inr (1, [.int (zI w), .int (zI h), .ref ka, .ref ta, .int (zI sx), .int (zI sy), .int (zI fx), .int (zI fy), .int (zI lf), .int (zI un)])), zQ cT ta 4 tq] sz) (fun (u9 : Unit) => match u9 with | _ => [(sl, .inr (5, [.ref sh, .int (zI lc), .ref ru, .ref tr, .ref se])), zQ cL sh 6 sf, (lv, .inr (1, [.int (zI w), .int (zI h), .ref ka, .ref ta, .int (zI sx), .int (zI sy), .int (zI fx), .int (zI fy), .int (zI lf), .int (zI un)])), zQ cT ta 4 tq])) (va_A [(sl, .inr (5, [.ref sh, .int (zI lc), .ref ru, .ref tr, .ref se])), zQ cL sh 6 sf, (lv, .inr (1, [.int (zI w), .int (zI h), .ref ka, .ref ta, .int (zI sx), .int (zI sy), .int (zI fx), .int (zI fy), .int (zI lf), .int (zI un)])), zQ cT ta 4 tq] sz)) 0 0 (va_A [(sl, .inr (5, [.ref sh, .int (zI lc), .ref ru, .ref tr, .ref se])), zQ cL sh 6 sf, (lv, .inr (1, [.int (zI w), .int (zI h), .ref ka, .ref ta, .int (zI sx), .int (zI sy), .int (zI fx), .int (zI fy), .int (zI lf), .int (zI un)])), zQ cT ta 4 tq] sz) := by
  refine Met.ofW (cc := cX5_tapeOf) (maxL := 4) (ret := (some (.object "SpringLevels$Tape"))) (by decide) rfl ?_
  intro p e s m args below meth c s₁ B hml hv
  obtain ⟨rfl, hsz, hP, hK, hD0⟩ := hv
  have hx := B.exec
  have hb := B.bytes
  have hr := B.returns
  have hts := atoms_spec (ws := wsX5_tapeOf) B.pre
  have hown : s.vm.findClass RX5 = some m.cls := findClass_of_methodNamed B.named
  have hlocks := B.notSynchronized
  subst hsz
  have hD := hD0.self (sz := s.heap.size)
  generalize hAe : va_A [(sl, .inr (5, [.ref sh, .int (zI lc), .ref ru, .ref tr, .ref se])), zQ cL sh 6 sf, (lv, .inr (1, [.int (zI w), .int (zI h), .ref ka, .ref ta, .int (zI sx), .int (zI sy), .int (zI fx), .int (zI fy), .int (zI lf), .int (zI un)])), zQ cT ta 4 tq] s.heap.size = A at hD ⊢
  have hA : ∀ q : Nat, s.heap.size ≤ q → A q := fun q h => by rw [← hAe]; exact Or.inr h
  clear hAe hD0
  have hS : va_S A s.heap s.heap [] := va_S.rf
  have hP : va_P (dC, dI) vwCl [(sl, .inr (5, [.ref sh, .int (zI lc), .ref ru, .ref tr, .ref se])), zQ cL sh 6 sf, (lv, .inr (1, [.int (zI w), .int (zI h), .ref ka, .ref ta, .int (zI sx), .int (zI sy), .int (zI fx), .int (zI fy), .int (zI lf), .int (zI un)])), zQ cT ta 4 tq] s.heap := hP
  have hl := lv_entry ([.ref sl, .int (zI L), .int (zI pl)]) (n := 4) (Nat.le_of_ble_eq_true rfl)
  rw [lg_entry_eq]
  generalize (lg_sl ([.ref sl, .int (zI L), .int (zI pl)]) ++ List.replicate (4 - (lg_sl ([.ref sl, .int (zI L), .int (zI pl)])).length) Slot.unset).toArray = ls at hl ⊢
  have hl : lv_has ls 4 [(0, .ref sl), (1, .int (zI L)), (2, .int (zI pl))] := hl
  refine lv_aload_n hx hb dX5_tapeOf_0 rfl (lv_at hl 0 rfl) ?_
  refine lv_iload_n hx hb dX5_tapeOf_1 rfl (lv_at hl 1 rfl) ?_
  have hPc := hP.sub (ws' := [(sl, .inr (5, [.ref sh, .int (zI lc), .ref ru, .ref tr, .ref se])), zQ cL sh 6 sf]) [0, 1] rfl
  have hDc := hD.sub (ws' := [(sl, .inr (5, [.ref sh, .int (zI lc), .ref ru, .ref tr, .ref se])), zQ cL sh 6 sf]) [0, 1] (by decide) rfl
  have hFc := va_free (wc := [(sl, .inr (5, [.ref sh, .int (zI lc), .ref ru, .ref tr, .ref se])), zQ cL sh 6 sf]) hD hS hA [0, 1] rfl
  refine va_callq (va_runV (As := [.int (zI L)]) (rest := []) ⟨hx, hb, hml, hown, hts⟩ (c_X5_levelNumbered l dC dI cI cZ cL cT cJ s.heap.size sl sh lc ru tr se sf L k lv (by first | assumption | omega) (by first | assumption | omega)) (cwV 1 hts gX5_tapeOf_X5_levelNumbered rfl rfl rfl (by decide +kernel) ⟨Nat.le_of_ble_eq_true rfl, Nat.le_of_ble_eq_true rfl⟩) ⟨zP_blind, va_recv hK hPc (ci := 5) (q0 := 0) rfl rfl, zP_pre hPc hDc hK⟩ rfl rfl hl.1 rfl (lv_room (Nat.le_of_ble_eq_true rfl)) dX5_tapeOf_2 ⟨Nat.le_of_ble_eq_true rfl, Nat.le_of_ble_eq_true rfl⟩) hS (fun q _ h => hFc q h) hFc (fun r_1 u_1 t H1 locs ht hvm hw hB hz1 hk1 hS => ?_)
  obtain ⟨hP1, hK1, hD1⟩ := hB
  rw [ht] at hP1
  have hP1 : va_P (dC, dI) vwCl [(sl, .inr (5, [.ref sh, .int (zI lc), .ref ru, .ref tr, .ref se])), zQ cL sh 6 sf] H1 := hP1
  obtain ⟨hP, hD⟩ := va_join (wr := [(lv, .inr (1, [.int (zI w), .int (zI h), .ref ka, .ref ta, .int (zI sx), .int (zI sy), .int (zI fx), .int (zI fy), .int (zI lf), .int (zI un)])), zQ cT ta 4 tq]) (w1 := [(sl, .inr (5, [.ref sh, .int (zI lc), .ref ru, .ref tr, .ref se])), zQ cL sh 6 sf]) hP hD [0, 1] [2, 3] rfl rfl (by decide) (by decide) hk1 hFc hP1 hD1
  clear hP1 hD1 hk1 hFc hPc hDc hz1
  generalize H1 = H at hP hS ⊢
  have hP : va_P (dC, dI) vwCl [(sl, .inr (5, [.ref sh, .int (zI lc), .ref ru, .ref tr, .ref se])), zQ cL sh 6 sf, (lv, .inr (1, [.int (zI w), .int (zI h), .ref ka, .ref ta, .int (zI sx), .int (zI sy), .int (zI fx), .int (zI fy), .int (zI lf), .int (zI un)])), zQ cT ta 4 tq] H := hP.sub [2, 3, 0, 1] rfl
  have hD : va_D A [(sl, .inr (5, [.ref sh, .int (zI lc), .ref ru, .ref tr, .ref se])), zQ cL sh 6 sf, (lv, .inr (1, [.int (zI w), .int (zI h), .ref ka, .ref ta, .int (zI sx), .int (zI sy), .int (zI fx), .int (zI fy), .int (zI lf), .int (zI un)])), zQ cT ta 4 tq] := hD.sub [2, 3, 0, 1] (by decide) rfl
  clear hK1 hvm
  obtain ⟨rfl, po_2⟩ := hw
  refine W.eq (g2 := F0 m 5 ls [.ref lv]) rfl ?_
  refine lv_iload_n hx hb dX5_tapeOf_5 rfl (lv_at hl 2 rfl) ?_
  have hPc := hP.sub (ws' := [(lv, .inr (1, [.int (zI w), .int (zI h), .ref ka, .ref ta, .int (zI sx), .int (zI sy), .int (zI fx), .int (zI fy), .int (zI lf), .int (zI un)])), zQ cT ta 4 tq]) [2, 3] rfl
  have hDc := hD.sub (ws' := [(lv, .inr (1, [.int (zI w), .int (zI h), .ref ka, .ref ta, .int (zI sx), .int (zI sy), .int (zI fx), .int (zI fy), .int (zI lf), .int (zI un)])), zQ cT ta 4 tq]) [2, 3] (by decide) rfl
  have hFc := va_free (wc := [(lv, .inr (1, [.int (zI w), .int (zI h), .ref ka, .ref ta, .int (zI sx), .int (zI sy), .int (zI fx), .int (zI fy), .int (zI lf), .int (zI un)])), zQ cT ta 4 tq]) hD hS hA [2, 3] rfl
  refine va_callq (va_runV (As := [.int (zI pl)]) (rest := []) ⟨hx, hb, hml, hown, hts⟩ (c_X1_tapeOf l dC dI cI cZ cL cT cJ H.size lv w h ka ta sx sy fx fy lf un tq tp pl kp (by first | assumption | omega) (by first | assumption | omega)) (cwV 1 hts gX5_tapeOf_X1_tapeOf rfl rfl rfl (by decide +kernel) ⟨Nat.le_of_ble_eq_true rfl, Nat.le_of_ble_eq_true rfl⟩) ⟨zP_blind, va_recv hK hPc (ci := 1) (q0 := 0) rfl rfl, zP_pre hPc hDc hK⟩ rfl rfl hl.1 rfl (lv_room (Nat.le_of_ble_eq_true rfl)) dX5_tapeOf_6 ⟨Nat.le_of_ble_eq_true rfl, Nat.le_of_ble_eq_true rfl⟩) hS (fun q _ h => hFc q h) hFc (fun r_3 u_3 t H1 locs ht hvm hw hB hz1 hk1 hS => ?_)
  obtain ⟨hP1, hK1, hD1⟩ := hB
  rw [ht] at hP1
  have hP1 : va_P (dC, dI) vwCl [(lv, .inr (1, [.int (zI w), .int (zI h), .ref ka, .ref ta, .int (zI sx), .int (zI sy), .int (zI fx), .int (zI fy), .int (zI lf), .int (zI un)])), zQ cT ta 4 tq] H1 := hP1
  obtain ⟨hP, hD⟩ := va_join (wr := [(sl, .inr (5, [.ref sh, .int (zI lc), .ref ru, .ref tr, .ref se])), zQ cL sh 6 sf]) (w1 := [(lv, .inr (1, [.int (zI w), .int (zI h), .ref ka, .ref ta, .int (zI sx), .int (zI sy), .int (zI fx), .int (zI fy), .int (zI lf), .int (zI un)])), zQ cT ta 4 tq]) hP hD [2, 3] [0, 1] rfl rfl (by decide) (by decide) hk1 hFc hP1 hD1
  clear hP1 hD1 hk1 hFc hPc hDc hz1
  generalize H1 = H at hP hS ⊢
  have hP : va_P (dC, dI) vwCl [(sl, .inr (5, [.ref sh, .int (zI lc), .ref ru, .ref tr, .ref se])), zQ cL sh 6 sf, (lv, .inr (1, [.int (zI w), .int (zI h), .ref ka, .ref ta, .int (zI sx), .int (zI sy), .int (zI fx), .int (zI fy), .int (zI lf), .int (zI un)])), zQ cT ta 4 tq] H := hP.sub [0, 1, 2, 3] rfl
  have hD : va_D A [(sl, .inr (5, [.ref sh, .int (zI lc), .ref ru, .ref tr, .ref se])), zQ cL sh 6 sf, (lv, .inr (1, [.int (zI w), .int (zI h), .ref ka, .ref ta, .int (zI sx), .int (zI sy), .int (zI fx), .int (zI fy), .int (zI lf), .int (zI un)])), zQ cT ta 4 tq] := hD.sub [0, 1, 2, 3] (by decide) rfl
  clear hK1 hvm
  obtain ⟨rfl, po_4⟩ := hw
  refine W.eq (g2 := F0 m 9 ls [.ref (tp kp)]) rfl ?_
  refine lv_astore_n (lv' := [(3, .ref (tp kp)), (0, .ref sl), (1, .int (zI L)), (2, .int (zI pl))]) hx hb dX5_tapeOf_9 rfl hl (by decide) rfl (fun ls hl => ?_)
  refine lv_aload_n hx hb dX5_tapeOf_10 rfl (lv_at hl 0 rfl) ?_
  refine lv_ifnonnull (tgt := 24) hx hb dX5_tapeOf_11 (by decide) ?_
  refine lv_aload_n hx hb dX5_tapeOf_24 rfl (lv_at hl 0 rfl) ?_
  have hP9 := hP.sub (ws' := [(sl, .inr (5, [.ref sh, .int (zI lc), .ref ru, .ref tr, .ref se])), zQ cL sh 6 sf, (lv, .inr (1, [.int (zI w), .int (zI h), .ref ka, .ref ta, .int (zI sx), .int (zI sy), .int (zI fx), .int (zI fy), .int (zI lf), .int (zI un)])), zQ cT ta 4 tq]) [0, 1, 2, 3] rfl
  have hD9 := hD.sub (ws' := [(sl, .inr (5, [.ref sh, .int (zI lc), .ref ru, .ref tr, .ref se])), zQ cL sh 6 sf, (lv, .inr (1, [.int (zI w), .int (zI h), .ref ka, .ref ta, .int (zI sx), .int (zI sy), .int (zI fx), .int (zI fy), .int (zI lf), .int (zI un)])), zQ cT ta 4 tq]) [0, 1, 2, 3] (by decide) rfl
  have po : (some (tp kp)) = some (tp kp) ∧ (True) := by
    refine ⟨by first | rfl | simp [*], ?_⟩
    trivial
  exact W.aret (v := va_rf (some (tp kp))) hx hb hr (by first | exact Or.inl ⟨_, rfl⟩ | exact Or.inr ⟨_, rfl⟩) (va_rf_or _) (fun t ht hW => ⟨⟨(some (tp kp)), (), rfl, po, by rw [ht]; exact hP9, va_K.moved hW.alike hK, hD9⟩, hS.F ht⟩) hS.2.2 dX5_tapeOf_25
set_option maxHeartbeats 4000000 in
set_option maxRecDepth 100000 in
theorem c_X5_voidWhatWasFound (l : Launch) (dC : Nat → ClassId) (dI : Nat → Nat → Nat) (cI cZ cL cT cJ : ClassId) (sz : Nat) (sl : Nat) (sh : Nat) (lc : Int) (ru : Nat) (tr : Nat) (se : Nat) (rh : Nat) (rt : Nat) (rp : Int) (oc : Int) (rl : Option Nat) (lv : Nat) (w : Int) (h : Int) (ka : Nat) (ta : Nat) (sx : Int) (sy : Int) (fx : Int) (fy : Int) (lf : Int) (un : Int) (tq : Nat → Option Nat) (tp : Nat → Nat) (ti : Nat → Nat) (LN : Nat → Int) (HF : Nat → Int) (gt : ∀ k, k < 4 → tq k = some (tp k)) : Met l yX5_voidWhatWasFound wsX5_voidWhatWasFound ({ frames := 2, cells := 0, slots := 0, locals := 44 }) (zP (dC, dI) (zT cI cZ cL cT cJ) sz [.ref sl, .ref lv] [(sl, .inr (5, [.ref sh, .int (zI lc), .ref ru, .ref tr, .ref se])), (ru, .inr (2, [.ref rh, .ref rt, va_rf rl, .int (zI rp), .int (zI oc)])), (lv, .inr (1, [.int (zI w), .int (zI h), .ref ka, .ref ta, .int (zI sx), .int (zI sy), .int (zI fx), .int (zI fy), .int (zI lf), .int (zI un)])), zQ cT ta 4 tq, (tp 0, .inr (4, [.ref (ti 0), .int (zI (LN 0)), .int (zI (HF 0))])), (tp 1, .inr (4, [.ref (ti 1), .int (zI (LN 1)), .int (zI (HF 1))])), (tp 2, .inr (4, [.ref (ti 2), .int (zI (LN 2)), .int (zI (HF 2))])), (tp 3, .inr (4, [.ref (ti 3), .int (zI (LN 3)), .int (zI (HF 3))]))]) (va_Qv (fun (u9 : (Option Nat)) => match u9 with | rl1 => (rl1 = (if rl = some lv then none else rl))) (zB (dC, dI) (zT cI cZ cL cT cJ) (va_A [(sl, .inr (5, [.ref sh, .int (zI lc), .ref ru, .ref tr, .ref se])), (ru, .inr (2, [.ref rh, .ref rt, va_rf rl, .int (zI rp), .int (zI oc)])), (lv, .inr (1, [.int (zI w), .int (zI h), .ref ka, .ref ta, .int (zI sx), .int (zI sy), .int (zI fx), .int (zI fy), .int (zI lf), .int (zI un)])), zQ cT ta 4 tq, (tp 0, .inr (4, [.ref (ti 0), .int (zI (LN 0)), .int (zI (HF 0))])), (tp 1, .inr (4, [.ref (ti 1), .int (zI (LN 1)), .int (zI (HF 1))])), (tp 2, .inr (4, [.ref (ti 2), .int (zI (LN 2)), .int (zI (HF 2))])), (tp 3, .inr (4, [.ref (ti 3), .int (zI (LN 3)), .int (zI (HF 3))]))] sz) (fun (u9 : (Option Nat)) => match u9 with | rl1 => [(sl, .inr (5, [.ref sh, .int (zI lc), .ref ru, .ref tr, .ref se])), (ru, .inr (2, [.ref rh, .ref rt, va_rf rl1, .int (zI rp), .int (zI oc)])), (lv, .inr (1, [.int (zI w), .int (zI h), .ref ka, .ref ta, .int (zI sx), .int (zI sy), .int (zI fx), .int (zI fy), .int (zI (-1)), .int (zI 0)])), zQ cT ta 4 tq, (tp 0, .inr (4, [.ref (ti 0), .int (zI (-1)), .int (zI (-1))])), (tp 1, .inr (4, [.ref (ti 1), .int (zI (-1)), .int (zI (-1))])), (tp 2, .inr (4, [.ref (ti 2), .int (zI (-1)), .int (zI (-1))])), (tp 3, .inr (4, [.ref (ti 3), .int (zI (-1)), .int (zI (-1))]))])) (va_A [(sl, .inr (5, [.ref sh, .int (zI lc), .ref ru, .ref tr, .ref se])), (ru, .inr (2, [.ref rh, .ref rt, va_rf rl, .int (zI rp), .int (zI oc)])), (lv, .inr (1, [.int (zI w), .int (zI h), .ref ka, .ref ta, .int (zI sx), .int (zI sy), .int (zI fx), .int (zI fy), .int (zI lf), .int (zI un)])), zQ cT ta 4 tq, (tp 0, .inr (4, [.ref (ti 0), .int (zI (LN 0)), .int (zI (HF 0))])), (tp 1, .inr (4, [.ref (ti 1), .int (zI (LN 1)), .int (zI (HF 1))])), (tp 2, .inr (4, [.ref (ti 2), .int (zI (LN 2)), .int (zI (HF 2))])), (tp 3, .inr (4, [.ref (ti 3), .int (zI (LN 3)), .int (zI (HF 3))]))] sz)) 0 0 (va_A [(sl, .inr (5, [.ref sh, .int (zI lc), .ref ru, .ref tr, .ref se])), (ru, .inr (2, [.ref rh, .ref rt, va_rf rl, .int (zI rp), .int (zI oc)])), (lv, .inr (1, [.int (zI w), .int (zI h), .ref ka, .ref ta, .int (zI sx), .int (zI sy), .int (zI fx), .int (zI fy), .int (zI lf), .int (zI un)])), zQ cT ta 4 tq, (tp 0, .inr (4, [.ref (ti 0), .int (zI (LN 0)), .int (zI (HF 0))])), (tp 1, .inr (4, [.ref (ti 1), .int (zI (LN 1)), .int (zI (HF 1))])), (tp 2, .inr (4, [.ref (ti 2), .int (zI (LN 2)), .int (zI (HF 2))])), (tp 3, .inr (4, [.ref (ti 3), .int (zI (LN 3)), .int (zI (HF 3))]))] sz) := by
  refine Met.ofW (cc := cX5_voidWhatWasFound) (maxL := 2) (ret := none) (by decide) rfl ?_
  intro p e s m args below meth c s₁ B hml hv
  obtain ⟨rfl, hsz, hP, hK, hD0⟩ := hv
  have hx := B.exec
  have hb := B.bytes
  have hr := B.returns
  have hts := atoms_spec (ws := wsX5_voidWhatWasFound) B.pre
  have hown : s.vm.findClass RX5 = some m.cls := findClass_of_methodNamed B.named
  have hlocks := B.notSynchronized
  subst hsz
  have hD := hD0.self (sz := s.heap.size)
  generalize hAe : va_A [(sl, .inr (5, [.ref sh, .int (zI lc), .ref ru, .ref tr, .ref se])), (ru, .inr (2, [.ref rh, .ref rt, va_rf rl, .int (zI rp), .int (zI oc)])), (lv, .inr (1, [.int (zI w), .int (zI h), .ref ka, .ref ta, .int (zI sx), .int (zI sy), .int (zI fx), .int (zI fy), .int (zI lf), .int (zI un)])), zQ cT ta 4 tq, (tp 0, .inr (4, [.ref (ti 0), .int (zI (LN 0)), .int (zI (HF 0))])), (tp 1, .inr (4, [.ref (ti 1), .int (zI (LN 1)), .int (zI (HF 1))])), (tp 2, .inr (4, [.ref (ti 2), .int (zI (LN 2)), .int (zI (HF 2))])), (tp 3, .inr (4, [.ref (ti 3), .int (zI (LN 3)), .int (zI (HF 3))]))] s.heap.size = A at hD ⊢
  have hA : ∀ q : Nat, s.heap.size ≤ q → A q := fun q h => by rw [← hAe]; exact Or.inr h
  clear hAe hD0
  have hS : va_S A s.heap s.heap [] := va_S.rf
  have hP : va_P (dC, dI) vwCl [(sl, .inr (5, [.ref sh, .int (zI lc), .ref ru, .ref tr, .ref se])), (ru, .inr (2, [.ref rh, .ref rt, va_rf rl, .int (zI rp), .int (zI oc)])), (lv, .inr (1, [.int (zI w), .int (zI h), .ref ka, .ref ta, .int (zI sx), .int (zI sy), .int (zI fx), .int (zI fy), .int (zI lf), .int (zI un)])), zQ cT ta 4 tq, (tp 0, .inr (4, [.ref (ti 0), .int (zI (LN 0)), .int (zI (HF 0))])), (tp 1, .inr (4, [.ref (ti 1), .int (zI (LN 1)), .int (zI (HF 1))])), (tp 2, .inr (4, [.ref (ti 2), .int (zI (LN 2)), .int (zI (HF 2))])), (tp 3, .inr (4, [.ref (ti 3), .int (zI (LN 3)), .int (zI (HF 3))]))] s.heap := hP
  have f_22 := hts (.fieldLink RX5 22 "SpringLevels" "run" "LSpringLevels$Run;") (by decide +kernel)
  have f_148 := hts (.fieldLink RX5 148 "SpringLevels$Run" "level" "LSpringLevels$Level;") (by decide +kernel)
  have i_2 : ∀ w ∈ wsX20, w ∈ wsX5_voidWhatWasFound := by decide +kernel
  have i_5 : ∀ w ∈ wsX50, w ∈ wsX5_voidWhatWasFound := by decide +kernel
  have hl := lv_entry ([.ref sl, .ref lv]) (n := 2) (Nat.le_of_ble_eq_true rfl)
  rw [lg_entry_eq]
  generalize (lg_sl ([.ref sl, .ref lv]) ++ List.replicate (2 - (lg_sl ([.ref sl, .ref lv])).length) Slot.unset).toArray = ls at hl ⊢
  have hl : lv_has ls 2 [(0, .ref sl), (1, .ref lv)] := hl
  refine lv_aload_n hx hb dX5_voidWhatWasFound_0 rfl (lv_at hl 1 rfl) ?_
  have hPc := hP.sub (ws' := [(lv, .inr (1, [.int (zI w), .int (zI h), .ref ka, .ref ta, .int (zI sx), .int (zI sy), .int (zI fx), .int (zI fy), .int (zI lf), .int (zI un)])), zQ cT ta 4 tq, (tp 0, .inr (4, [.ref (ti 0), .int (zI (LN 0)), .int (zI (HF 0))])), (tp 1, .inr (4, [.ref (ti 1), .int (zI (LN 1)), .int (zI (HF 1))])), (tp 2, .inr (4, [.ref (ti 2), .int (zI (LN 2)), .int (zI (HF 2))])), (tp 3, .inr (4, [.ref (ti 3), .int (zI (LN 3)), .int (zI (HF 3))]))]) [2, 3, 4, 5, 6, 7] rfl
  have hDc := hD.sub (ws' := [(lv, .inr (1, [.int (zI w), .int (zI h), .ref ka, .ref ta, .int (zI sx), .int (zI sy), .int (zI fx), .int (zI fy), .int (zI lf), .int (zI un)])), zQ cT ta 4 tq, (tp 0, .inr (4, [.ref (ti 0), .int (zI (LN 0)), .int (zI (HF 0))])), (tp 1, .inr (4, [.ref (ti 1), .int (zI (LN 1)), .int (zI (HF 1))])), (tp 2, .inr (4, [.ref (ti 2), .int (zI (LN 2)), .int (zI (HF 2))])), (tp 3, .inr (4, [.ref (ti 3), .int (zI (LN 3)), .int (zI (HF 3))]))]) [2, 3, 4, 5, 6, 7] (by decide) rfl
  have hFc := va_free (wc := [(lv, .inr (1, [.int (zI w), .int (zI h), .ref ka, .ref ta, .int (zI sx), .int (zI sy), .int (zI fx), .int (zI fy), .int (zI lf), .int (zI un)])), zQ cT ta 4 tq, (tp 0, .inr (4, [.ref (ti 0), .int (zI (LN 0)), .int (zI (HF 0))])), (tp 1, .inr (4, [.ref (ti 1), .int (zI (LN 1)), .int (zI (HF 1))])), (tp 2, .inr (4, [.ref (ti 2), .int (zI (LN 2)), .int (zI (HF 2))])), (tp 3, .inr (4, [.ref (ti 3), .int (zI (LN 3)), .int (zI (HF 3))]))]) hD hS hA [2, 3, 4, 5, 6, 7] rfl
  refine va_callv (va_runV (As := []) (rest := []) ⟨hx, hb, hml, hown, hts⟩ (c_X1_forgetWayAndRecords l dC dI cI cZ cL cT cJ s.heap.size lv w h ka ta sx sy fx fy lf un tq tp ti LN HF (by first | assumption | omega)) (cwV 0 hts gX5_voidWhatWasFound_X1_forgetWayAndRecords rfl rfl rfl (by decide +kernel) ⟨Nat.le_of_ble_eq_true rfl, Nat.le_of_ble_eq_true rfl⟩) ⟨zP_blind, va_recv hK hPc (ci := 1) (q0 := 0) rfl rfl, zP_pre hPc hDc hK⟩ rfl rfl hl.1 rfl (lv_room (Nat.le_of_ble_eq_true rfl)) dX5_voidWhatWasFound_1 ⟨Nat.le_of_ble_eq_true rfl, Nat.le_of_ble_eq_true rfl⟩) hS (fun q _ h => hFc q h) hFc (fun u_1 t H1 locs ht hvm hw hB hz1 hk1 hS => ?_)
  obtain ⟨hP1, hK1, hD1⟩ := hB
  rw [ht] at hP1
  have hP1 : va_P (dC, dI) vwCl [(lv, .inr (1, [.int (zI w), .int (zI h), .ref ka, .ref ta, .int (zI sx), .int (zI sy), .int (zI fx), .int (zI fy), .int (zI (-1)), .int (zI 0)])), zQ cT ta 4 tq, (tp 0, .inr (4, [.ref (ti 0), .int (zI (-1)), .int (zI (-1))])), (tp 1, .inr (4, [.ref (ti 1), .int (zI (-1)), .int (zI (-1))])), (tp 2, .inr (4, [.ref (ti 2), .int (zI (-1)), .int (zI (-1))])), (tp 3, .inr (4, [.ref (ti 3), .int (zI (-1)), .int (zI (-1))]))] H1 := hP1
  obtain ⟨hP, hD⟩ := va_join (wr := [(sl, .inr (5, [.ref sh, .int (zI lc), .ref ru, .ref tr, .ref se])), (ru, .inr (2, [.ref rh, .ref rt, va_rf rl, .int (zI rp), .int (zI oc)]))]) (w1 := [(lv, .inr (1, [.int (zI w), .int (zI h), .ref ka, .ref ta, .int (zI sx), .int (zI sy), .int (zI fx), .int (zI fy), .int (zI (-1)), .int (zI 0)])), zQ cT ta 4 tq, (tp 0, .inr (4, [.ref (ti 0), .int (zI (-1)), .int (zI (-1))])), (tp 1, .inr (4, [.ref (ti 1), .int (zI (-1)), .int (zI (-1))])), (tp 2, .inr (4, [.ref (ti 2), .int (zI (-1)), .int (zI (-1))])), (tp 3, .inr (4, [.ref (ti 3), .int (zI (-1)), .int (zI (-1))]))]) hP hD [2, 3, 4, 5, 6, 7] [0, 1] rfl rfl (by decide) (by decide) hk1 hFc hP1 hD1
  clear hP1 hD1 hk1 hFc hPc hDc hz1
  generalize H1 = H at hP hS ⊢
  have hP : va_P (dC, dI) vwCl [(sl, .inr (5, [.ref sh, .int (zI lc), .ref ru, .ref tr, .ref se])), (ru, .inr (2, [.ref rh, .ref rt, va_rf rl, .int (zI rp), .int (zI oc)])), (lv, .inr (1, [.int (zI w), .int (zI h), .ref ka, .ref ta, .int (zI sx), .int (zI sy), .int (zI fx), .int (zI fy), .int (zI (-1)), .int (zI 0)])), zQ cT ta 4 tq, (tp 0, .inr (4, [.ref (ti 0), .int (zI (-1)), .int (zI (-1))])), (tp 1, .inr (4, [.ref (ti 1), .int (zI (-1)), .int (zI (-1))])), (tp 2, .inr (4, [.ref (ti 2), .int (zI (-1)), .int (zI (-1))])), (tp 3, .inr (4, [.ref (ti 3), .int (zI (-1)), .int (zI (-1))]))] H := hP.sub [0, 1, 2, 3, 4, 5, 6, 7] rfl
  have hD : va_D A [(sl, .inr (5, [.ref sh, .int (zI lc), .ref ru, .ref tr, .ref se])), (ru, .inr (2, [.ref rh, .ref rt, va_rf rl, .int (zI rp), .int (zI oc)])), (lv, .inr (1, [.int (zI w), .int (zI h), .ref ka, .ref ta, .int (zI sx), .int (zI sy), .int (zI fx), .int (zI fy), .int (zI (-1)), .int (zI 0)])), zQ cT ta 4 tq, (tp 0, .inr (4, [.ref (ti 0), .int (zI (-1)), .int (zI (-1))])), (tp 1, .inr (4, [.ref (ti 1), .int (zI (-1)), .int (zI (-1))])), (tp 2, .inr (4, [.ref (ti 2), .int (zI (-1)), .int (zI (-1))])), (tp 3, .inr (4, [.ref (ti 3), .int (zI (-1)), .int (zI (-1))]))] := hD.sub [0, 1, 2, 3, 4, 5, 6, 7] (by decide) rfl
  clear hK1 hvm
  refine W.eq (g2 := F0 m 4 ls []) rfl ?_
  refine lv_aload_n hx hb dX5_voidWhatWasFound_4 rfl (lv_at hl 0 rfl) ?_
  refine va_get (D := (dC, dI)) (ci := 5) (v := .ref ru) (C := RX5) (T := TX5) (N := 5) hx hb hts i_5 hown hK hP 0 rfl rfl 2 (by decide) f_22 (fun _ h9 => h9) rfl dX5_voidWhatWasFound_5 ?_
  refine va_get (D := (dC, dI)) (ci := 2) (v := va_rf rl) (C := RX2) (T := TX2) (N := 5) hx hb hts i_2 hown hK hP 1 rfl rfl 2 (by decide) f_148 (fun _ h9 => h9) rfl dX5_voidWhatWasFound_8 ?_
  refine lv_aload_n hx hb dX5_voidWhatWasFound_11 rfl (lv_at hl 1 rfl) ?_
  refine lv_acmp_ne (rx := rl) (ry := (some lv)) (tgt := 23) hx hb dX5_voidWhatWasFound_12 (by decide) (fun c_3 => ?_) (fun c_3 => ?_)
  ·
    have hP9 := hP.sub (ws' := [(sl, .inr (5, [.ref sh, .int (zI lc), .ref ru, .ref tr, .ref se])), (ru, .inr (2, [.ref rh, .ref rt, va_rf rl, .int (zI rp), .int (zI oc)])), (lv, .inr (1, [.int (zI w), .int (zI h), .ref ka, .ref ta, .int (zI sx), .int (zI sy), .int (zI fx), .int (zI fy), .int (zI (-1)), .int (zI 0)])), zQ cT ta 4 tq, (tp 0, .inr (4, [.ref (ti 0), .int (zI (-1)), .int (zI (-1))])), (tp 1, .inr (4, [.ref (ti 1), .int (zI (-1)), .int (zI (-1))])), (tp 2, .inr (4, [.ref (ti 2), .int (zI (-1)), .int (zI (-1))])), (tp 3, .inr (4, [.ref (ti 3), .int (zI (-1)), .int (zI (-1))]))]) [0, 1, 2, 3, 4, 5, 6, 7] rfl
    have hD9 := hD.sub (ws' := [(sl, .inr (5, [.ref sh, .int (zI lc), .ref ru, .ref tr, .ref se])), (ru, .inr (2, [.ref rh, .ref rt, va_rf rl, .int (zI rp), .int (zI oc)])), (lv, .inr (1, [.int (zI w), .int (zI h), .ref ka, .ref ta, .int (zI sx), .int (zI sy), .int (zI fx), .int (zI fy), .int (zI (-1)), .int (zI 0)])), zQ cT ta 4 tq, (tp 0, .inr (4, [.ref (ti 0), .int (zI (-1)), .int (zI (-1))])), (tp 1, .inr (4, [.ref (ti 1), .int (zI (-1)), .int (zI (-1))])), (tp 2, .inr (4, [.ref (ti 2), .int (zI (-1)), .int (zI (-1))])), (tp 3, .inr (4, [.ref (ti 3), .int (zI (-1)), .int (zI (-1))]))]) [0, 1, 2, 3, 4, 5, 6, 7] (by decide) rfl
    have po : (rl = (if rl = some lv then none else rl)) := by
      first | rw [if_pos (by assumption)] | rw [if_neg (by assumption)]
    exact W.vret hx hb hr (fun t ht hW => ⟨⟨rl, rfl, po, by rw [ht]; exact hP9, va_K.moved hW.alike hK, hD9⟩, hS.F ht⟩) hS.2.2 dX5_voidWhatWasFound_23
  ·
    refine lv_aload_n hx hb dX5_voidWhatWasFound_15 rfl (lv_at hl 0 rfl) ?_
    refine va_get (D := (dC, dI)) (ci := 5) (v := .ref ru) (C := RX5) (T := TX5) (N := 5) hx hb hts i_5 hown hK hP 0 rfl rfl 2 (by decide) f_22 (fun _ h9 => h9) rfl dX5_voidWhatWasFound_16 ?_
    refine lv_null hx hb dX5_voidWhatWasFound_19 ?_
    refine va_put (D := (dC, dI)) (ci := 2) (v := .null) (ty := .object "SpringLevels$Level") (C := RX2) (T := TX2) (N := 5) hx hb hts i_2 tyX2 tyX2_ok nmX2 hown hK hP hD hS 1 rfl rfl 2 (by decide) f_148 (fun _ h9 => h9) rfl (by decide +kernel) rfl rfl (Nat.le_of_ble_eq_true rfl) dX5_voidWhatWasFound_20 (fun H locs hP hD hS => ?_)
    have hP : va_P (dC, dI) vwCl [(sl, .inr (5, [.ref sh, .int (zI lc), .ref ru, .ref tr, .ref se])), (ru, .inr (2, [.ref rh, .ref rt, .null, .int (zI rp), .int (zI oc)])), (lv, .inr (1, [.int (zI w), .int (zI h), .ref ka, .ref ta, .int (zI sx), .int (zI sy), .int (zI fx), .int (zI fy), .int (zI (-1)), .int (zI 0)])), zQ cT ta 4 tq, (tp 0, .inr (4, [.ref (ti 0), .int (zI (-1)), .int (zI (-1))])), (tp 1, .inr (4, [.ref (ti 1), .int (zI (-1)), .int (zI (-1))])), (tp 2, .inr (4, [.ref (ti 2), .int (zI (-1)), .int (zI (-1))])), (tp 3, .inr (4, [.ref (ti 3), .int (zI (-1)), .int (zI (-1))]))] H := hP
    have hD : va_D A [(sl, .inr (5, [.ref sh, .int (zI lc), .ref ru, .ref tr, .ref se])), (ru, .inr (2, [.ref rh, .ref rt, .null, .int (zI rp), .int (zI oc)])), (lv, .inr (1, [.int (zI w), .int (zI h), .ref ka, .ref ta, .int (zI sx), .int (zI sy), .int (zI fx), .int (zI fy), .int (zI (-1)), .int (zI 0)])), zQ cT ta 4 tq, (tp 0, .inr (4, [.ref (ti 0), .int (zI (-1)), .int (zI (-1))])), (tp 1, .inr (4, [.ref (ti 1), .int (zI (-1)), .int (zI (-1))])), (tp 2, .inr (4, [.ref (ti 2), .int (zI (-1)), .int (zI (-1))])), (tp 3, .inr (4, [.ref (ti 3), .int (zI (-1)), .int (zI (-1))]))] := hD
    have hP9 := hP.sub (ws' := [(sl, .inr (5, [.ref sh, .int (zI lc), .ref ru, .ref tr, .ref se])), (ru, .inr (2, [.ref rh, .ref rt, .null, .int (zI rp), .int (zI oc)])), (lv, .inr (1, [.int (zI w), .int (zI h), .ref ka, .ref ta, .int (zI sx), .int (zI sy), .int (zI fx), .int (zI fy), .int (zI (-1)), .int (zI 0)])), zQ cT ta 4 tq, (tp 0, .inr (4, [.ref (ti 0), .int (zI (-1)), .int (zI (-1))])), (tp 1, .inr (4, [.ref (ti 1), .int (zI (-1)), .int (zI (-1))])), (tp 2, .inr (4, [.ref (ti 2), .int (zI (-1)), .int (zI (-1))])), (tp 3, .inr (4, [.ref (ti 3), .int (zI (-1)), .int (zI (-1))]))]) [0, 1, 2, 3, 4, 5, 6, 7] rfl
    have hD9 := hD.sub (ws' := [(sl, .inr (5, [.ref sh, .int (zI lc), .ref ru, .ref tr, .ref se])), (ru, .inr (2, [.ref rh, .ref rt, .null, .int (zI rp), .int (zI oc)])), (lv, .inr (1, [.int (zI w), .int (zI h), .ref ka, .ref ta, .int (zI sx), .int (zI sy), .int (zI fx), .int (zI fy), .int (zI (-1)), .int (zI 0)])), zQ cT ta 4 tq, (tp 0, .inr (4, [.ref (ti 0), .int (zI (-1)), .int (zI (-1))])), (tp 1, .inr (4, [.ref (ti 1), .int (zI (-1)), .int (zI (-1))])), (tp 2, .inr (4, [.ref (ti 2), .int (zI (-1)), .int (zI (-1))])), (tp 3, .inr (4, [.ref (ti 3), .int (zI (-1)), .int (zI (-1))]))]) [0, 1, 2, 3, 4, 5, 6, 7] (by decide) rfl
    have po : ((none : Option Nat) = (if rl = some lv then none else rl)) := by
      first | rw [if_pos (by assumption)] | rw [if_neg (by assumption)]
    exact W.vret hx hb hr (fun t ht hW => ⟨⟨(none : Option Nat), rfl, po, by rw [ht]; exact hP9, va_K.moved hW.alike hK, hD9⟩, hS.F ht⟩) hS.2.2 dX5_voidWhatWasFound_23
set_option maxHeartbeats 4000000 in
set_option maxRecDepth 100000 in
theorem c_X5_setCell (l : Launch) (dC : Nat → ClassId) (dI : Nat → Nat → Nat) (cI cZ cL cT cJ : ClassId) (sz : Nat) (sl : Nat) (sh : Nat) (lc : Int) (ru : Nat) (tr : Nat) (se : Nat) (sf : Nat → Option Nat) (L : Int) (k : Nat) (rh : Nat) (rt : Nat) (rp : Int) (oc : Int) (rl : Option Nat) (lv : Nat) (w : Int) (h : Int) (ka : Nat) (ta : Nat) (sx : Int) (sy : Int) (fx : Int) (fy : Int) (lf : Int) (un : Int) (K : Int → Int) (tq : Nat → Option Nat) (tp : Nat → Nat) (ti : Nat → Nat) (LN : Nat → Int) (HF : Nat → Int) (cx : Int) (cy : Int) (v : Int) (gk : L = (k : Int) ∧ k < 6) (gf : sf k = some lv) (gw : 0 < w ∧ w ≤ 12) (gh : 0 < h ∧ h ≤ 8) (gK : Kin K) (gx : 0 ≤ cx ∧ cx < w) (gy : 0 ≤ cy ∧ cy < h) (gsx : 0 ≤ sx ∧ sx < w) (gsy : 0 ≤ sy ∧ sy < h) (gfx : 0 ≤ fx ∧ fx < w) (gfy : 0 ≤ fy ∧ fy < h) (gt : ∀ k, k < 4 → tq k = some (tp k)) (gv : 0 ≤ v ∧ v ≤ 3) (gm : ¬ (v = 1 ∧ ((sx = cx ∧ sy = cy) ∨ (fx = cx ∧ fy = cy)))) : Met l yX5_setCell wsX5_setCell ({ frames := 3, cells := 0, slots := 0, locals := 65 }) (zP (dC, dI) (zT cI cZ cL cT cJ) sz [.ref sl, .int (zI L), .int (zI cx), .int (zI cy), .int (zI v)] [(sl, .inr (5, [.ref sh, .int (zI lc), .ref ru, .ref tr, .ref se])), zQ cL sh 6 sf, (ru, .inr (2, [.ref rh, .ref rt, va_rf rl, .int (zI rp), .int (zI oc)])), (lv, .inr (1, [.int (zI w), .int (zI h), .ref ka, .ref ta, .int (zI sx), .int (zI sy), .int (zI fx), .int (zI fy), .int (zI lf), .int (zI un)])), zA cI ka 96 K, zQ cT ta 4 tq, (tp 0, .inr (4, [.ref (ti 0), .int (zI (LN 0)), .int (zI (HF 0))])), (tp 1, .inr (4, [.ref (ti 1), .int (zI (LN 1)), .int (zI (HF 1))])), (tp 2, .inr (4, [.ref (ti 2), .int (zI (LN 2)), .int (zI (HF 2))])), (tp 3, .inr (4, [.ref (ti 3), .int (zI (LN 3)), .int (zI (HF 3))]))]) (va_Qi (fun (r9 : Int32) (u9 : (Option Nat) × Int) => match u9 with | (rl1, rr) => r9 = zI rr ∧ (rl1 = (if rl = some lv then none else rl) ∧ rr = K (cy * 12 + cx))) (zB (dC, dI) (zT cI cZ cL cT cJ) (va_A [(sl, .inr (5, [.ref sh, .int (zI lc), .ref ru, .ref tr, .ref se])), zQ cL sh 6 sf, (ru, .inr (2, [.ref rh, .ref rt, va_rf rl, .int (zI rp), .int (zI oc)])), (lv, .inr (1, [.int (zI w), .int (zI h), .ref ka, .ref ta, .int (zI sx), .int (zI sy), .int (zI fx), .int (zI fy), .int (zI lf), .int (zI un)])), zA cI ka 96 K, zQ cT ta 4 tq, (tp 0, .inr (4, [.ref (ti 0), .int (zI (LN 0)), .int (zI (HF 0))])), (tp 1, .inr (4, [.ref (ti 1), .int (zI (LN 1)), .int (zI (HF 1))])), (tp 2, .inr (4, [.ref (ti 2), .int (zI (LN 2)), .int (zI (HF 2))])), (tp 3, .inr (4, [.ref (ti 3), .int (zI (LN 3)), .int (zI (HF 3))]))] sz) (fun (u9 : (Option Nat) × Int) => match u9 with | (rl1, rr) => [(sl, .inr (5, [.ref sh, .int (zI lc), .ref ru, .ref tr, .ref se])), zQ cL sh 6 sf, (ru, .inr (2, [.ref rh, .ref rt, va_rf rl1, .int (zI rp), .int (zI oc)])), (lv, .inr (1, [.int (zI w), .int (zI h), .ref ka, .ref ta, .int (zI sx), .int (zI sy), .int (zI fx), .int (zI fy), .int (zI (-1)), .int (zI 0)])), zA cI ka 96 (zu K (cy * 12 + cx) v), zQ cT ta 4 tq, (tp 0, .inr (4, [.ref (ti 0), .int (zI (-1)), .int (zI (-1))])), (tp 1, .inr (4, [.ref (ti 1), .int (zI (-1)), .int (zI (-1))])), (tp 2, .inr (4, [.ref (ti 2), .int (zI (-1)), .int (zI (-1))])), (tp 3, .inr (4, [.ref (ti 3), .int (zI (-1)), .int (zI (-1))]))])) (va_A [(sl, .inr (5, [.ref sh, .int (zI lc), .ref ru, .ref tr, .ref se])), zQ cL sh 6 sf, (ru, .inr (2, [.ref rh, .ref rt, va_rf rl, .int (zI rp), .int (zI oc)])), (lv, .inr (1, [.int (zI w), .int (zI h), .ref ka, .ref ta, .int (zI sx), .int (zI sy), .int (zI fx), .int (zI fy), .int (zI lf), .int (zI un)])), zA cI ka 96 K, zQ cT ta 4 tq, (tp 0, .inr (4, [.ref (ti 0), .int (zI (LN 0)), .int (zI (HF 0))])), (tp 1, .inr (4, [.ref (ti 1), .int (zI (LN 1)), .int (zI (HF 1))])), (tp 2, .inr (4, [.ref (ti 2), .int (zI (LN 2)), .int (zI (HF 2))])), (tp 3, .inr (4, [.ref (ti 3), .int (zI (LN 3)), .int (zI (HF 3))]))] sz)) 0 0 (va_A [(sl, .inr (5, [.ref sh, .int (zI lc), .ref ru, .ref tr, .ref se])), zQ cL sh 6 sf, (ru, .inr (2, [.ref rh, .ref rt, va_rf rl, .int (zI rp), .int (zI oc)])), (lv, .inr (1, [.int (zI w), .int (zI h), .ref ka, .ref ta, .int (zI sx), .int (zI sy), .int (zI fx), .int (zI fy), .int (zI lf), .int (zI un)])), zA cI ka 96 K, zQ cT ta 4 tq, (tp 0, .inr (4, [.ref (ti 0), .int (zI (LN 0)), .int (zI (HF 0))])), (tp 1, .inr (4, [.ref (ti 1), .int (zI (LN 1)), .int (zI (HF 1))])), (tp 2, .inr (4, [.ref (ti 2), .int (zI (LN 2)), .int (zI (HF 2))])), (tp 3, .inr (4, [.ref (ti 3), .int (zI (LN 3)), .int (zI (HF 3))]))] sz) := by
  refine Met.ofW (cc := cX5_setCell) (maxL := 7) (ret := (some .int)) (by decide) rfl ?_
  intro p e s m args below meth c s₁ B hml hv
  obtain ⟨rfl, hsz, hP, hK, hD0⟩ := hv
  have hx := B.exec
  have hb := B.bytes
  have hr := B.returns
  have hts := atoms_spec (ws := wsX5_setCell) B.pre
  have hown : s.vm.findClass RX5 = some m.cls := findClass_of_methodNamed B.named
  have hlocks := B.notSynchronized
  subst hsz
  have hD := hD0.self (sz := s.heap.size)
  generalize hAe : va_A [(sl, .inr (5, [.ref sh, .int (zI lc), .ref ru, .ref tr, .ref se])), zQ cL sh 6 sf, (ru, .inr (2, [.ref rh, .ref rt, va_rf rl, .int (zI rp), .int (zI oc)])), (lv, .inr (1, [.int (zI w), .int (zI h), .ref ka, .ref ta, .int (zI sx), .int (zI sy), .int (zI fx), .int (zI fy), .int (zI lf), .int (zI un)])), zA cI ka 96 K, zQ cT ta 4 tq, (tp 0, .inr (4, [.ref (ti 0), .int (zI (LN 0)), .int (zI (HF 0))])), (tp 1, .inr (4, [.ref (ti 1), .int (zI (LN 1)), .int (zI (HF 1))])), (tp 2, .inr (4, [.ref (ti 2), .int (zI (LN 2)), .int (zI (HF 2))])), (tp 3, .inr (4, [.ref (ti 3), .int (zI (LN 3)), .int (zI (HF 3))]))] s.heap.size = A at hD ⊢
  have hA : ∀ q : Nat, s.heap.size ≤ q → A q := fun q h => by rw [← hAe]; exact Or.inr h
  clear hAe hD0
  have hS : va_S A s.heap s.heap [] := va_S.rf
  have hP : va_P (dC, dI) vwCl [(sl, .inr (5, [.ref sh, .int (zI lc), .ref ru, .ref tr, .ref se])), zQ cL sh 6 sf, (ru, .inr (2, [.ref rh, .ref rt, va_rf rl, .int (zI rp), .int (zI oc)])), (lv, .inr (1, [.int (zI w), .int (zI h), .ref ka, .ref ta, .int (zI sx), .int (zI sy), .int (zI fx), .int (zI fy), .int (zI lf), .int (zI un)])), zA cI ka 96 K, zQ cT ta 4 tq, (tp 0, .inr (4, [.ref (ti 0), .int (zI (LN 0)), .int (zI (HF 0))])), (tp 1, .inr (4, [.ref (ti 1), .int (zI (LN 1)), .int (zI (HF 1))])), (tp 2, .inr (4, [.ref (ti 2), .int (zI (LN 2)), .int (zI (HF 2))])), (tp 3, .inr (4, [.ref (ti 3), .int (zI (LN 3)), .int (zI (HF 3))]))] s.heap := hP
  have hl := lv_entry ([.ref sl, .int (zI L), .int (zI cx), .int (zI cy), .int (zI v)]) (n := 7) (Nat.le_of_ble_eq_true rfl)
  rw [lg_entry_eq]
  generalize (lg_sl ([.ref sl, .int (zI L), .int (zI cx), .int (zI cy), .int (zI v)]) ++ List.replicate (7 - (lg_sl ([.ref sl, .int (zI L), .int (zI cx), .int (zI cy), .int (zI v)])).length) Slot.unset).toArray = ls at hl ⊢
  have hl : lv_has ls 7 [(0, .ref sl), (1, .int (zI L)), (2, .int (zI cx)), (3, .int (zI cy)), (4, .int (zI v))] := hl
  refine lv_aload_n hx hb dX5_setCell_0 rfl (lv_at hl 0 rfl) ?_
  refine lv_iload_n hx hb dX5_setCell_1 rfl (lv_at hl 1 rfl) ?_
  refine lv_iload_n hx hb dX5_setCell_2 rfl (lv_at hl 2 rfl) ?_
  refine lv_iload_n hx hb dX5_setCell_3 rfl (lv_at hl 3 rfl) ?_
  have hPc := hP.sub (ws' := [(sl, .inr (5, [.ref sh, .int (zI lc), .ref ru, .ref tr, .ref se])), zQ cL sh 6 sf, (lv, .inr (1, [.int (zI w), .int (zI h), .ref ka, .ref ta, .int (zI sx), .int (zI sy), .int (zI fx), .int (zI fy), .int (zI lf), .int (zI un)])), zA cI ka 96 K]) [0, 1, 3, 4] rfl
  have hDc := hD.sub (ws' := [(sl, .inr (5, [.ref sh, .int (zI lc), .ref ru, .ref tr, .ref se])), zQ cL sh 6 sf, (lv, .inr (1, [.int (zI w), .int (zI h), .ref ka, .ref ta, .int (zI sx), .int (zI sy), .int (zI fx), .int (zI fy), .int (zI lf), .int (zI un)])), zA cI ka 96 K]) [0, 1, 3, 4] (by decide) rfl
  have hFc := va_free (wc := [(sl, .inr (5, [.ref sh, .int (zI lc), .ref ru, .ref tr, .ref se])), zQ cL sh 6 sf, (lv, .inr (1, [.int (zI w), .int (zI h), .ref ka, .ref ta, .int (zI sx), .int (zI sy), .int (zI fx), .int (zI fy), .int (zI lf), .int (zI un)])), zA cI ka 96 K]) hD hS hA [0, 1, 3, 4] rfl
  refine va_callq (va_runV (As := [.int (zI L), .int (zI cx), .int (zI cy)]) (rest := []) ⟨hx, hb, hml, hown, hts⟩ (c_X5_levelWithCell l dC dI cI cZ cL cT cJ s.heap.size sl sh lc ru tr se sf L k lv w h ka ta sx sy fx fy lf un K cx cy (by first | assumption | omega) (by first | assumption | omega) (by first | assumption | omega) (by first | assumption | omega) (by first | assumption | omega) (by first | assumption | omega) (by first | assumption | omega)) (cwV 3 hts gX5_setCell_X5_levelWithCell rfl rfl rfl (by decide +kernel) ⟨Nat.le_of_ble_eq_true rfl, Nat.le_of_ble_eq_true rfl⟩) ⟨zP_blind, va_recv hK hPc (ci := 5) (q0 := 0) rfl rfl, zP_pre hPc hDc hK⟩ rfl rfl hl.1 rfl (lv_room (Nat.le_of_ble_eq_true rfl)) dX5_setCell_4 ⟨Nat.le_of_ble_eq_true rfl, Nat.le_of_ble_eq_true rfl⟩) hS (fun q _ h => hFc q h) hFc (fun r_1 u_1 t H1 locs ht hvm hw hB hz1 hk1 hS => ?_)
  obtain ⟨hP1, hK1, hD1⟩ := hB
  rw [ht] at hP1
  have hP1 : va_P (dC, dI) vwCl [(sl, .inr (5, [.ref sh, .int (zI lc), .ref ru, .ref tr, .ref se])), zQ cL sh 6 sf, (lv, .inr (1, [.int (zI w), .int (zI h), .ref ka, .ref ta, .int (zI sx), .int (zI sy), .int (zI fx), .int (zI fy), .int (zI lf), .int (zI un)])), zA cI ka 96 K] H1 := hP1
  obtain ⟨hP, hD⟩ := va_join (wr := [(ru, .inr (2, [.ref rh, .ref rt, va_rf rl, .int (zI rp), .int (zI oc)])), zQ cT ta 4 tq, (tp 0, .inr (4, [.ref (ti 0), .int (zI (LN 0)), .int (zI (HF 0))])), (tp 1, .inr (4, [.ref (ti 1), .int (zI (LN 1)), .int (zI (HF 1))])), (tp 2, .inr (4, [.ref (ti 2), .int (zI (LN 2)), .int (zI (HF 2))])), (tp 3, .inr (4, [.ref (ti 3), .int (zI (LN 3)), .int (zI (HF 3))]))]) (w1 := [(sl, .inr (5, [.ref sh, .int (zI lc), .ref ru, .ref tr, .ref se])), zQ cL sh 6 sf, (lv, .inr (1, [.int (zI w), .int (zI h), .ref ka, .ref ta, .int (zI sx), .int (zI sy), .int (zI fx), .int (zI fy), .int (zI lf), .int (zI un)])), zA cI ka 96 K]) hP hD [0, 1, 3, 4] [2, 5, 6, 7, 8, 9] rfl rfl (by decide) (by decide) hk1 hFc hP1 hD1
  clear hP1 hD1 hk1 hFc hPc hDc hz1
  generalize H1 = H at hP hS ⊢
  have hP : va_P (dC, dI) vwCl [(sl, .inr (5, [.ref sh, .int (zI lc), .ref ru, .ref tr, .ref se])), zQ cL sh 6 sf, (ru, .inr (2, [.ref rh, .ref rt, va_rf rl, .int (zI rp), .int (zI oc)])), (lv, .inr (1, [.int (zI w), .int (zI h), .ref ka, .ref ta, .int (zI sx), .int (zI sy), .int (zI fx), .int (zI fy), .int (zI lf), .int (zI un)])), zA cI ka 96 K, zQ cT ta 4 tq, (tp 0, .inr (4, [.ref (ti 0), .int (zI (LN 0)), .int (zI (HF 0))])), (tp 1, .inr (4, [.ref (ti 1), .int (zI (LN 1)), .int (zI (HF 1))])), (tp 2, .inr (4, [.ref (ti 2), .int (zI (LN 2)), .int (zI (HF 2))])), (tp 3, .inr (4, [.ref (ti 3), .int (zI (LN 3)), .int (zI (HF 3))]))] H := hP.sub [6, 7, 0, 8, 9, 1, 2, 3, 4, 5] rfl
  have hD : va_D A [(sl, .inr (5, [.ref sh, .int (zI lc), .ref ru, .ref tr, .ref se])), zQ cL sh 6 sf, (ru, .inr (2, [.ref rh, .ref rt, va_rf rl, .int (zI rp), .int (zI oc)])), (lv, .inr (1, [.int (zI w), .int (zI h), .ref ka, .ref ta, .int (zI sx), .int (zI sy), .int (zI fx), .int (zI fy), .int (zI lf), .int (zI un)])), zA cI ka 96 K, zQ cT ta 4 tq, (tp 0, .inr (4, [.ref (ti 0), .int (zI (LN 0)), .int (zI (HF 0))])), (tp 1, .inr (4, [.ref (ti 1), .int (zI (LN 1)), .int (zI (HF 1))])), (tp 2, .inr (4, [.ref (ti 2), .int (zI (LN 2)), .int (zI (HF 2))])), (tp 3, .inr (4, [.ref (ti 3), .int (zI (LN 3)), .int (zI (HF 3))]))] := hD.sub [6, 7, 0, 8, 9, 1, 2, 3, 4, 5] (by decide) rfl
  clear hK1 hvm
  obtain ⟨rfl, po_2⟩ := hw
  refine W.eq (g2 := F0 m 7 ls [.ref lv]) rfl ?_
  refine lv_astore (lv' := [(5, .ref lv), (0, .ref sl), (1, .int (zI L)), (2, .int (zI cx)), (3, .int (zI cy)), (4, .int (zI v))]) hx hb dX5_setCell_7 hl (by decide) rfl (fun ls hl => ?_)
  refine lv_iload hx hb dX5_setCell_9 (lv_at hl 5 rfl) ?_
  refine lz_if_lt (tgt := 20) hx hb dX5_setCell_11 (by decide) (by omega) (fun c_3 => ?_) (fun c_3 => ?_)
  · exfalso; omega
  ·
    refine lv_iload hx hb dX5_setCell_14 (lv_at hl 5 rfl) ?_
    refine lv_iconst (v := zI 3) hx hb dX5_setCell_16 (rfl) ?_
    refine lz_icmp_le (tgt := 30) hx hb dX5_setCell_17 (by decide) (by omega) ⟨by decide, by decide⟩ (fun c_4 => ?_) (fun c_4 => ?_)
    ·
      refine lv_iload hx hb dX5_setCell_30 (lv_at hl 5 rfl) ?_
      refine lv_iconst (v := zI 1) hx hb dX5_setCell_32 (rfl) ?_
      refine lz_icmp_ne (tgt := 66) hx hb dX5_setCell_33 (by decide) (by omega) ⟨by decide, by decide⟩ (fun c_5 => ?_) (fun c_5 => ?_)
      ·
        refine lv_aload hx hb dX5_setCell_66 (lv_at hl 0 rfl) ?_
        refine lv_iload_n hx hb dX5_setCell_68 rfl (lv_at hl 3 rfl) ?_
        refine lv_iload_n hx hb dX5_setCell_69 rfl (lv_at hl 4 rfl) ?_
        have hPc := hP.sub (ws' := [(lv, .inr (1, [.int (zI w), .int (zI h), .ref ka, .ref ta, .int (zI sx), .int (zI sy), .int (zI fx), .int (zI fy), .int (zI lf), .int (zI un)])), zA cI ka 96 K]) [3, 4] rfl
        have hDc := hD.sub (ws' := [(lv, .inr (1, [.int (zI w), .int (zI h), .ref ka, .ref ta, .int (zI sx), .int (zI sy), .int (zI fx), .int (zI fy), .int (zI lf), .int (zI un)])), zA cI ka 96 K]) [3, 4] (by decide) rfl
        have hFc := va_free (wc := [(lv, .inr (1, [.int (zI w), .int (zI h), .ref ka, .ref ta, .int (zI sx), .int (zI sy), .int (zI fx), .int (zI fy), .int (zI lf), .int (zI un)])), zA cI ka 96 K]) hD hS hA [3, 4] rfl
        refine va_calli (va_runV (As := [.int (zI cx), .int (zI cy)]) (rest := []) ⟨hx, hb, hml, hown, hts⟩ (c_X1_kindAt l dC dI cI cZ cL cT cJ H.size lv w h ka (.ref ta) sx sy fx fy lf un K cx cy (by first | assumption | omega) (by first | assumption | omega) (by first | assumption | omega) (by first | assumption | omega) (by first | assumption | omega)) (cwV 2 hts gX5_setCell_X1_kindAt rfl rfl rfl (by decide +kernel) ⟨Nat.le_of_ble_eq_true rfl, Nat.le_of_ble_eq_true rfl⟩) ⟨zP_blind, va_recv hK hPc (ci := 1) (q0 := 0) rfl rfl, zP_pre hPc hDc hK⟩ rfl rfl hl.1 rfl (lv_room (Nat.le_of_ble_eq_true rfl)) dX5_setCell_70 ⟨Nat.le_of_ble_eq_true rfl, Nat.le_of_ble_eq_true rfl⟩) hS (fun q _ h => hFc q h) hFc (fun r_6 u_6 t H1 locs ht hvm hw hB hz1 hk1 hS => ?_)
        obtain ⟨r_7, rfl⟩ : ∃ z, z = u_6 := ⟨_, rfl⟩
        obtain ⟨hP1, hK1, hD1⟩ := hB
        rw [ht] at hP1
        have hP1 : va_P (dC, dI) vwCl [(lv, .inr (1, [.int (zI w), .int (zI h), .ref ka, .ref ta, .int (zI sx), .int (zI sy), .int (zI fx), .int (zI fy), .int (zI lf), .int (zI un)])), zA cI ka 96 K] H1 := hP1
        obtain ⟨hP, hD⟩ := va_join (wr := [(sl, .inr (5, [.ref sh, .int (zI lc), .ref ru, .ref tr, .ref se])), zQ cL sh 6 sf, (ru, .inr (2, [.ref rh, .ref rt, va_rf rl, .int (zI rp), .int (zI oc)])), zQ cT ta 4 tq, (tp 0, .inr (4, [.ref (ti 0), .int (zI (LN 0)), .int (zI (HF 0))])), (tp 1, .inr (4, [.ref (ti 1), .int (zI (LN 1)), .int (zI (HF 1))])), (tp 2, .inr (4, [.ref (ti 2), .int (zI (LN 2)), .int (zI (HF 2))])), (tp 3, .inr (4, [.ref (ti 3), .int (zI (LN 3)), .int (zI (HF 3))]))]) (w1 := [(lv, .inr (1, [.int (zI w), .int (zI h), .ref ka, .ref ta, .int (zI sx), .int (zI sy), .int (zI fx), .int (zI fy), .int (zI lf), .int (zI un)])), zA cI ka 96 K]) hP hD [3, 4] [0, 1, 2, 5, 6, 7, 8, 9] rfl rfl (by decide) (by decide) hk1 hFc hP1 hD1
        clear hP1 hD1 hk1 hFc hPc hDc hz1
        generalize H1 = H at hP hS ⊢
        have hP : va_P (dC, dI) vwCl [(sl, .inr (5, [.ref sh, .int (zI lc), .ref ru, .ref tr, .ref se])), zQ cL sh 6 sf, (ru, .inr (2, [.ref rh, .ref rt, va_rf rl, .int (zI rp), .int (zI oc)])), (lv, .inr (1, [.int (zI w), .int (zI h), .ref ka, .ref ta, .int (zI sx), .int (zI sy), .int (zI fx), .int (zI fy), .int (zI lf), .int (zI un)])), zA cI ka 96 K, zQ cT ta 4 tq, (tp 0, .inr (4, [.ref (ti 0), .int (zI (LN 0)), .int (zI (HF 0))])), (tp 1, .inr (4, [.ref (ti 1), .int (zI (LN 1)), .int (zI (HF 1))])), (tp 2, .inr (4, [.ref (ti 2), .int (zI (LN 2)), .int (zI (HF 2))])), (tp 3, .inr (4, [.ref (ti 3), .int (zI (LN 3)), .int (zI (HF 3))]))] H := hP.sub [0, 1, 2, 8, 9, 3, 4, 5, 6, 7] rfl
        have hD : va_D A [(sl, .inr (5, [.ref sh, .int (zI lc), .ref ru, .ref tr, .ref se])), zQ cL sh 6 sf, (ru, .inr (2, [.ref rh, .ref rt, va_rf rl, .int (zI rp), .int (zI oc)])), (lv, .inr (1, [.int (zI w), .int (zI h), .ref ka, .ref ta, .int (zI sx), .int (zI sy), .int (zI fx), .int (zI fy), .int (zI lf), .int (zI un)])), zA cI ka 96 K, zQ cT ta 4 tq, (tp 0, .inr (4, [.ref (ti 0), .int (zI (LN 0)), .int (zI (HF 0))])), (tp 1, .inr (4, [.ref (ti 1), .int (zI (LN 1)), .int (zI (HF 1))])), (tp 2, .inr (4, [.ref (ti 2), .int (zI (LN 2)), .int (zI (HF 2))])), (tp 3, .inr (4, [.ref (ti 3), .int (zI (LN 3)), .int (zI (HF 3))]))] := hD.sub [0, 1, 2, 8, 9, 3, 4, 5, 6, 7] (by decide) rfl
        clear hK1 hvm
        obtain ⟨rfl, po_8⟩ := hw
        have po_8 : r_7 = kd K w h cx cy ∧ -1 ≤ r_7 ∧ r_7 ≤ 3 := po_8
        refine W.eq (g2 := F0 m 73 ls [.int (zI r_7)]) rfl ?_
        have k9 := po_8.1
        rw [kd_at gx gy] at k9
        refine lv_istore (lv' := [(6, .int (zI r_7)), (5, .ref lv), (0, .ref sl), (1, .int (zI L)), (2, .int (zI cx)), (3, .int (zI cy)), (4, .int (zI v))]) hx hb dX5_setCell_73 hl (by decide) rfl (fun ls hl => ?_)
        refine lv_aload hx hb dX5_setCell_75 (lv_at hl 1 rfl) ?_
        refine lv_iload_n hx hb dX5_setCell_77 rfl (lv_at hl 4 rfl) ?_
        refine lv_iload_n hx hb dX5_setCell_78 rfl (lv_at hl 5 rfl) ?_
        refine lv_iload hx hb dX5_setCell_79 (lv_at hl 6 rfl) ?_
        have hPc := hP.sub (ws' := [(lv, .inr (1, [.int (zI w), .int (zI h), .ref ka, .ref ta, .int (zI sx), .int (zI sy), .int (zI fx), .int (zI fy), .int (zI lf), .int (zI un)])), zA cI ka 96 K]) [3, 4] rfl
        have hDc := hD.sub (ws' := [(lv, .inr (1, [.int (zI w), .int (zI h), .ref ka, .ref ta, .int (zI sx), .int (zI sy), .int (zI fx), .int (zI fy), .int (zI lf), .int (zI un)])), zA cI ka 96 K]) [3, 4] (by decide) rfl
        have hFc := va_free (wc := [(lv, .inr (1, [.int (zI w), .int (zI h), .ref ka, .ref ta, .int (zI sx), .int (zI sy), .int (zI fx), .int (zI fy), .int (zI lf), .int (zI un)])), zA cI ka 96 K]) hD hS hA [3, 4] rfl
        refine va_callv (va_runV (As := [.int (zI cx), .int (zI cy), .int (zI v)]) (rest := []) ⟨hx, hb, hml, hown, hts⟩ (c_X1_put l dC dI cI cZ cL cT cJ H.size lv w h ka (.ref ta) sx sy fx fy lf un K cx cy v (by first | assumption | omega) (by first | assumption | omega) (by first | assumption | omega) (by first | assumption | omega) (by first | assumption | omega)) (cwV 3 hts gX5_setCell_X1_put rfl rfl rfl (by decide +kernel) ⟨Nat.le_of_ble_eq_true rfl, Nat.le_of_ble_eq_true rfl⟩) ⟨zP_blind, va_recv hK hPc (ci := 1) (q0 := 0) rfl rfl, zP_pre hPc hDc hK⟩ rfl rfl hl.1 rfl (lv_room (Nat.le_of_ble_eq_true rfl)) dX5_setCell_81 ⟨Nat.le_of_ble_eq_true rfl, Nat.le_of_ble_eq_true rfl⟩) hS (fun q _ h => hFc q h) hFc (fun u_9 t H1 locs ht hvm hw hB hz1 hk1 hS => ?_)
        obtain ⟨hP1, hK1, hD1⟩ := hB
        rw [ht] at hP1
        have hP1 : va_P (dC, dI) vwCl [(lv, .inr (1, [.int (zI w), .int (zI h), .ref ka, .ref ta, .int (zI sx), .int (zI sy), .int (zI fx), .int (zI fy), .int (zI lf), .int (zI un)])), zA cI ka 96 (zu K (cy * 12 + cx) v)] H1 := hP1
        obtain ⟨hP, hD⟩ := va_join (wr := [(sl, .inr (5, [.ref sh, .int (zI lc), .ref ru, .ref tr, .ref se])), zQ cL sh 6 sf, (ru, .inr (2, [.ref rh, .ref rt, va_rf rl, .int (zI rp), .int (zI oc)])), zQ cT ta 4 tq, (tp 0, .inr (4, [.ref (ti 0), .int (zI (LN 0)), .int (zI (HF 0))])), (tp 1, .inr (4, [.ref (ti 1), .int (zI (LN 1)), .int (zI (HF 1))])), (tp 2, .inr (4, [.ref (ti 2), .int (zI (LN 2)), .int (zI (HF 2))])), (tp 3, .inr (4, [.ref (ti 3), .int (zI (LN 3)), .int (zI (HF 3))]))]) (w1 := [(lv, .inr (1, [.int (zI w), .int (zI h), .ref ka, .ref ta, .int (zI sx), .int (zI sy), .int (zI fx), .int (zI fy), .int (zI lf), .int (zI un)])), zA cI ka 96 (zu K (cy * 12 + cx) v)]) hP hD [3, 4] [0, 1, 2, 5, 6, 7, 8, 9] rfl rfl (by decide) (by decide) hk1 hFc hP1 hD1
        clear hP1 hD1 hk1 hFc hPc hDc hz1
        generalize H1 = H at hP hS ⊢
        have hP : va_P (dC, dI) vwCl [(sl, .inr (5, [.ref sh, .int (zI lc), .ref ru, .ref tr, .ref se])), zQ cL sh 6 sf, (ru, .inr (2, [.ref rh, .ref rt, va_rf rl, .int (zI rp), .int (zI oc)])), (lv, .inr (1, [.int (zI w), .int (zI h), .ref ka, .ref ta, .int (zI sx), .int (zI sy), .int (zI fx), .int (zI fy), .int (zI lf), .int (zI un)])), zA cI ka 96 (zu K (cy * 12 + cx) v), zQ cT ta 4 tq, (tp 0, .inr (4, [.ref (ti 0), .int (zI (LN 0)), .int (zI (HF 0))])), (tp 1, .inr (4, [.ref (ti 1), .int (zI (LN 1)), .int (zI (HF 1))])), (tp 2, .inr (4, [.ref (ti 2), .int (zI (LN 2)), .int (zI (HF 2))])), (tp 3, .inr (4, [.ref (ti 3), .int (zI (LN 3)), .int (zI (HF 3))]))] H := hP.sub [0, 1, 2, 8, 9, 3, 4, 5, 6, 7] rfl
        have hD : va_D A [(sl, .inr (5, [.ref sh, .int (zI lc), .ref ru, .ref tr, .ref se])), zQ cL sh 6 sf, (ru, .inr (2, [.ref rh, .ref rt, va_rf rl, .int (zI rp), .int (zI oc)])), (lv, .inr (1, [.int (zI w), .int (zI h), .ref ka, .ref ta, .int (zI sx), .int (zI sy), .int (zI fx), .int (zI fy), .int (zI lf), .int (zI un)])), zA cI ka 96 (zu K (cy * 12 + cx) v), zQ cT ta 4 tq, (tp 0, .inr (4, [.ref (ti 0), .int (zI (LN 0)), .int (zI (HF 0))])), (tp 1, .inr (4, [.ref (ti 1), .int (zI (LN 1)), .int (zI (HF 1))])), (tp 2, .inr (4, [.ref (ti 2), .int (zI (LN 2)), .int (zI (HF 2))])), (tp 3, .inr (4, [.ref (ti 3), .int (zI (LN 3)), .int (zI (HF 3))]))] := hD.sub [0, 1, 2, 8, 9, 3, 4, 5, 6, 7] (by decide) rfl
        clear hK1 hvm
        refine W.eq (g2 := F0 m 84 ls []) rfl ?_
        refine lv_aload_n hx hb dX5_setCell_84 rfl (lv_at hl 2 rfl) ?_
        refine lv_aload hx hb dX5_setCell_85 (lv_at hl 1 rfl) ?_
        have hPc := hP.sub (ws' := [(sl, .inr (5, [.ref sh, .int (zI lc), .ref ru, .ref tr, .ref se])), (ru, .inr (2, [.ref rh, .ref rt, va_rf rl, .int (zI rp), .int (zI oc)])), (lv, .inr (1, [.int (zI w), .int (zI h), .ref ka, .ref ta, .int (zI sx), .int (zI sy), .int (zI fx), .int (zI fy), .int (zI lf), .int (zI un)])), zQ cT ta 4 tq, (tp 0, .inr (4, [.ref (ti 0), .int (zI (LN 0)), .int (zI (HF 0))])), (tp 1, .inr (4, [.ref (ti 1), .int (zI (LN 1)), .int (zI (HF 1))])), (tp 2, .inr (4, [.ref (ti 2), .int (zI (LN 2)), .int (zI (HF 2))])), (tp 3, .inr (4, [.ref (ti 3), .int (zI (LN 3)), .int (zI (HF 3))]))]) [0, 2, 3, 5, 6, 7, 8, 9] rfl
        have hDc := hD.sub (ws' := [(sl, .inr (5, [.ref sh, .int (zI lc), .ref ru, .ref tr, .ref se])), (ru, .inr (2, [.ref rh, .ref rt, va_rf rl, .int (zI rp), .int (zI oc)])), (lv, .inr (1, [.int (zI w), .int (zI h), .ref ka, .ref ta, .int (zI sx), .int (zI sy), .int (zI fx), .int (zI fy), .int (zI lf), .int (zI un)])), zQ cT ta 4 tq, (tp 0, .inr (4, [.ref (ti 0), .int (zI (LN 0)), .int (zI (HF 0))])), (tp 1, .inr (4, [.ref (ti 1), .int (zI (LN 1)), .int (zI (HF 1))])), (tp 2, .inr (4, [.ref (ti 2), .int (zI (LN 2)), .int (zI (HF 2))])), (tp 3, .inr (4, [.ref (ti 3), .int (zI (LN 3)), .int (zI (HF 3))]))]) [0, 2, 3, 5, 6, 7, 8, 9] (by decide) rfl
        have hFc := va_free (wc := [(sl, .inr (5, [.ref sh, .int (zI lc), .ref ru, .ref tr, .ref se])), (ru, .inr (2, [.ref rh, .ref rt, va_rf rl, .int (zI rp), .int (zI oc)])), (lv, .inr (1, [.int (zI w), .int (zI h), .ref ka, .ref ta, .int (zI sx), .int (zI sy), .int (zI fx), .int (zI fy), .int (zI lf), .int (zI un)])), zQ cT ta 4 tq, (tp 0, .inr (4, [.ref (ti 0), .int (zI (LN 0)), .int (zI (HF 0))])), (tp 1, .inr (4, [.ref (ti 1), .int (zI (LN 1)), .int (zI (HF 1))])), (tp 2, .inr (4, [.ref (ti 2), .int (zI (LN 2)), .int (zI (HF 2))])), (tp 3, .inr (4, [.ref (ti 3), .int (zI (LN 3)), .int (zI (HF 3))]))]) hD hS hA [0, 2, 3, 5, 6, 7, 8, 9] rfl
        refine va_callv (va_runV (As := [.ref lv]) (rest := []) ⟨hx, hb, hml, hown, hts⟩ (c_X5_voidWhatWasFound l dC dI cI cZ cL cT cJ H.size sl sh lc ru tr se rh rt rp oc rl lv w h ka ta sx sy fx fy lf un tq tp ti LN HF (by first | assumption | omega)) (cwV 1 hts gX5_setCell_X5_voidWhatWasFound rfl rfl rfl (by decide +kernel) ⟨Nat.le_of_ble_eq_true rfl, Nat.le_of_ble_eq_true rfl⟩) ⟨zP_blind, va_recv hK hPc (ci := 5) (q0 := 0) rfl rfl, zP_pre hPc hDc hK⟩ rfl rfl hl.1 rfl (lv_room (Nat.le_of_ble_eq_true rfl)) dX5_setCell_87 ⟨Nat.le_of_ble_eq_true rfl, Nat.le_of_ble_eq_true rfl⟩) hS (fun q _ h => hFc q h) hFc (fun u_11 t H1 locs ht hvm hw hB hz1 hk1 hS => ?_)
        obtain ⟨rl1_12, rfl⟩ : ∃ z, z = u_11 := ⟨_, rfl⟩
        obtain ⟨hP1, hK1, hD1⟩ := hB
        rw [ht] at hP1
        have hP1 : va_P (dC, dI) vwCl [(sl, .inr (5, [.ref sh, .int (zI lc), .ref ru, .ref tr, .ref se])), (ru, .inr (2, [.ref rh, .ref rt, va_rf rl1_12, .int (zI rp), .int (zI oc)])), (lv, .inr (1, [.int (zI w), .int (zI h), .ref ka, .ref ta, .int (zI sx), .int (zI sy), .int (zI fx), .int (zI fy), .int (zI (-1)), .int (zI 0)])), zQ cT ta 4 tq, (tp 0, .inr (4, [.ref (ti 0), .int (zI (-1)), .int (zI (-1))])), (tp 1, .inr (4, [.ref (ti 1), .int (zI (-1)), .int (zI (-1))])), (tp 2, .inr (4, [.ref (ti 2), .int (zI (-1)), .int (zI (-1))])), (tp 3, .inr (4, [.ref (ti 3), .int (zI (-1)), .int (zI (-1))]))] H1 := hP1
        obtain ⟨hP, hD⟩ := va_join (wr := [zQ cL sh 6 sf, zA cI ka 96 (zu K (cy * 12 + cx) v)]) (w1 := [(sl, .inr (5, [.ref sh, .int (zI lc), .ref ru, .ref tr, .ref se])), (ru, .inr (2, [.ref rh, .ref rt, va_rf rl1_12, .int (zI rp), .int (zI oc)])), (lv, .inr (1, [.int (zI w), .int (zI h), .ref ka, .ref ta, .int (zI sx), .int (zI sy), .int (zI fx), .int (zI fy), .int (zI (-1)), .int (zI 0)])), zQ cT ta 4 tq, (tp 0, .inr (4, [.ref (ti 0), .int (zI (-1)), .int (zI (-1))])), (tp 1, .inr (4, [.ref (ti 1), .int (zI (-1)), .int (zI (-1))])), (tp 2, .inr (4, [.ref (ti 2), .int (zI (-1)), .int (zI (-1))])), (tp 3, .inr (4, [.ref (ti 3), .int (zI (-1)), .int (zI (-1))]))]) hP hD [0, 2, 3, 5, 6, 7, 8, 9] [1, 4] rfl rfl (by decide) (by decide) hk1 hFc hP1 hD1
        clear hP1 hD1 hk1 hFc hPc hDc hz1
        generalize H1 = H at hP hS ⊢
        have hP : va_P (dC, dI) vwCl [(sl, .inr (5, [.ref sh, .int (zI lc), .ref ru, .ref tr, .ref se])), zQ cL sh 6 sf, (ru, .inr (2, [.ref rh, .ref rt, va_rf rl1_12, .int (zI rp), .int (zI oc)])), (lv, .inr (1, [.int (zI w), .int (zI h), .ref ka, .ref ta, .int (zI sx), .int (zI sy), .int (zI fx), .int (zI fy), .int (zI (-1)), .int (zI 0)])), zA cI ka 96 (zu K (cy * 12 + cx) v), zQ cT ta 4 tq, (tp 0, .inr (4, [.ref (ti 0), .int (zI (-1)), .int (zI (-1))])), (tp 1, .inr (4, [.ref (ti 1), .int (zI (-1)), .int (zI (-1))])), (tp 2, .inr (4, [.ref (ti 2), .int (zI (-1)), .int (zI (-1))])), (tp 3, .inr (4, [.ref (ti 3), .int (zI (-1)), .int (zI (-1))]))] H := hP.sub [2, 0, 3, 4, 1, 5, 6, 7, 8, 9] rfl
        have hD : va_D A [(sl, .inr (5, [.ref sh, .int (zI lc), .ref ru, .ref tr, .ref se])), zQ cL sh 6 sf, (ru, .inr (2, [.ref rh, .ref rt, va_rf rl1_12, .int (zI rp), .int (zI oc)])), (lv, .inr (1, [.int (zI w), .int (zI h), .ref ka, .ref ta, .int (zI sx), .int (zI sy), .int (zI fx), .int (zI fy), .int (zI (-1)), .int (zI 0)])), zA cI ka 96 (zu K (cy * 12 + cx) v), zQ cT ta 4 tq, (tp 0, .inr (4, [.ref (ti 0), .int (zI (-1)), .int (zI (-1))])), (tp 1, .inr (4, [.ref (ti 1), .int (zI (-1)), .int (zI (-1))])), (tp 2, .inr (4, [.ref (ti 2), .int (zI (-1)), .int (zI (-1))])), (tp 3, .inr (4, [.ref (ti 3), .int (zI (-1)), .int (zI (-1))]))] := hD.sub [2, 0, 3, 4, 1, 5, 6, 7, 8, 9] (by decide) rfl
        clear hK1 hvm
        have po_13 : rl1_12 = (if rl = some lv then none else rl) := hw
        refine W.eq (g2 := F0 m 90 ls []) rfl ?_
        refine lv_iload hx hb dX5_setCell_90 (lv_at hl 0 rfl) ?_
        have hP9 := hP.sub (ws' := [(sl, .inr (5, [.ref sh, .int (zI lc), .ref ru, .ref tr, .ref se])), zQ cL sh 6 sf, (ru, .inr (2, [.ref rh, .ref rt, va_rf rl1_12, .int (zI rp), .int (zI oc)])), (lv, .inr (1, [.int (zI w), .int (zI h), .ref ka, .ref ta, .int (zI sx), .int (zI sy), .int (zI fx), .int (zI fy), .int (zI (-1)), .int (zI 0)])), zA cI ka 96 (zu K (cy * 12 + cx) v), zQ cT ta 4 tq, (tp 0, .inr (4, [.ref (ti 0), .int (zI (-1)), .int (zI (-1))])), (tp 1, .inr (4, [.ref (ti 1), .int (zI (-1)), .int (zI (-1))])), (tp 2, .inr (4, [.ref (ti 2), .int (zI (-1)), .int (zI (-1))])), (tp 3, .inr (4, [.ref (ti 3), .int (zI (-1)), .int (zI (-1))]))]) [0, 1, 2, 3, 4, 5, 6, 7, 8, 9] rfl
        have hD9 := hD.sub (ws' := [(sl, .inr (5, [.ref sh, .int (zI lc), .ref ru, .ref tr, .ref se])), zQ cL sh 6 sf, (ru, .inr (2, [.ref rh, .ref rt, va_rf rl1_12, .int (zI rp), .int (zI oc)])), (lv, .inr (1, [.int (zI w), .int (zI h), .ref ka, .ref ta, .int (zI sx), .int (zI sy), .int (zI fx), .int (zI fy), .int (zI (-1)), .int (zI 0)])), zA cI ka 96 (zu K (cy * 12 + cx) v), zQ cT ta 4 tq, (tp 0, .inr (4, [.ref (ti 0), .int (zI (-1)), .int (zI (-1))])), (tp 1, .inr (4, [.ref (ti 1), .int (zI (-1)), .int (zI (-1))])), (tp 2, .inr (4, [.ref (ti 2), .int (zI (-1)), .int (zI (-1))])), (tp 3, .inr (4, [.ref (ti 3), .int (zI (-1)), .int (zI (-1))]))]) [0, 1, 2, 3, 4, 5, 6, 7, 8, 9] (by decide) rfl
        have po : zI r_7 = zI r_7 ∧ (rl1_12 = (if rl = some lv then none else rl) ∧ r_7 = K (cy * 12 + cx)) := by
          refine ⟨by first | rfl | (congr 1; omega) | (congr 1; simp [*]), ?_⟩
          exact ⟨po_13, k9⟩
        exact W.iret (v := zI r_7) hx hb hr (fun t ht hW => ⟨⟨zI r_7, (rl1_12, r_7), rfl, po, by rw [ht]; exact hP9, va_K.moved hW.alike hK, hD9⟩, hS.F ht⟩) hS.2.2 dX5_setCell_92
      ·
        refine lv_aload hx hb dX5_setCell_36 (lv_at hl 0 rfl) ?_
        refine lv_iload_n hx hb dX5_setCell_38 rfl (lv_at hl 3 rfl) ?_
        refine lv_iload_n hx hb dX5_setCell_39 rfl (lv_at hl 4 rfl) ?_
        have hPc := hP.sub (ws' := [(lv, .inr (1, [.int (zI w), .int (zI h), .ref ka, .ref ta, .int (zI sx), .int (zI sy), .int (zI fx), .int (zI fy), .int (zI lf), .int (zI un)]))]) [3] rfl
        have hDc := hD.sub (ws' := [(lv, .inr (1, [.int (zI w), .int (zI h), .ref ka, .ref ta, .int (zI sx), .int (zI sy), .int (zI fx), .int (zI fy), .int (zI lf), .int (zI un)]))]) [3] (by decide) rfl
        have hFc := va_free (wc := [(lv, .inr (1, [.int (zI w), .int (zI h), .ref ka, .ref ta, .int (zI sx), .int (zI sy), .int (zI fx), .int (zI fy), .int (zI lf), .int (zI un)]))]) hD hS hA [3] rfl
        refine va_calli (va_runV (As := [.int (zI cx), .int (zI cy)]) (rest := []) ⟨hx, hb, hml, hown, hts⟩ (c_X1_startsAt l dC dI cI cZ cL cT cJ H.size lv w h ka ta sx sy fx fy lf un cx cy (by first | assumption | omega) (by first | assumption | omega) (by first | assumption | omega) (by first | assumption | omega)) (cwV 2 hts gX5_setCell_X1_startsAt rfl rfl rfl (by decide +kernel) ⟨Nat.le_of_ble_eq_true rfl, Nat.le_of_ble_eq_true rfl⟩) ⟨zP_blind, va_recv hK hPc (ci := 1) (q0 := 0) rfl rfl, zP_pre hPc hDc hK⟩ rfl rfl hl.1 rfl (lv_room (Nat.le_of_ble_eq_true rfl)) dX5_setCell_40 ⟨Nat.le_of_ble_eq_true rfl, Nat.le_of_ble_eq_true rfl⟩) hS (fun q _ h => hFc q h) hFc (fun r_14 u_14 t H1 locs ht hvm hw hB hz1 hk1 hS => ?_)
        obtain ⟨r_15, rfl⟩ : ∃ z, z = u_14 := ⟨_, rfl⟩
        obtain ⟨hP1, hK1, hD1⟩ := hB
        rw [ht] at hP1
        have hP1 : va_P (dC, dI) vwCl [(lv, .inr (1, [.int (zI w), .int (zI h), .ref ka, .ref ta, .int (zI sx), .int (zI sy), .int (zI fx), .int (zI fy), .int (zI lf), .int (zI un)]))] H1 := hP1
        obtain ⟨hP, hD⟩ := va_join (wr := [(sl, .inr (5, [.ref sh, .int (zI lc), .ref ru, .ref tr, .ref se])), zQ cL sh 6 sf, (ru, .inr (2, [.ref rh, .ref rt, va_rf rl, .int (zI rp), .int (zI oc)])), zA cI ka 96 K, zQ cT ta 4 tq, (tp 0, .inr (4, [.ref (ti 0), .int (zI (LN 0)), .int (zI (HF 0))])), (tp 1, .inr (4, [.ref (ti 1), .int (zI (LN 1)), .int (zI (HF 1))])), (tp 2, .inr (4, [.ref (ti 2), .int (zI (LN 2)), .int (zI (HF 2))])), (tp 3, .inr (4, [.ref (ti 3), .int (zI (LN 3)), .int (zI (HF 3))]))]) (w1 := [(lv, .inr (1, [.int (zI w), .int (zI h), .ref ka, .ref ta, .int (zI sx), .int (zI sy), .int (zI fx), .int (zI fy), .int (zI lf), .int (zI un)]))]) hP hD [3] [0, 1, 2, 4, 5, 6, 7, 8, 9] rfl rfl (by decide) (by decide) hk1 hFc hP1 hD1
        clear hP1 hD1 hk1 hFc hPc hDc hz1
        generalize H1 = H at hP hS ⊢
        have hP : va_P (dC, dI) vwCl [(sl, .inr (5, [.ref sh, .int (zI lc), .ref ru, .ref tr, .ref se])), zQ cL sh 6 sf, (ru, .inr (2, [.ref rh, .ref rt, va_rf rl, .int (zI rp), .int (zI oc)])), (lv, .inr (1, [.int (zI w), .int (zI h), .ref ka, .ref ta, .int (zI sx), .int (zI sy), .int (zI fx), .int (zI fy), .int (zI lf), .int (zI un)])), zA cI ka 96 K, zQ cT ta 4 tq, (tp 0, .inr (4, [.ref (ti 0), .int (zI (LN 0)), .int (zI (HF 0))])), (tp 1, .inr (4, [.ref (ti 1), .int (zI (LN 1)), .int (zI (HF 1))])), (tp 2, .inr (4, [.ref (ti 2), .int (zI (LN 2)), .int (zI (HF 2))])), (tp 3, .inr (4, [.ref (ti 3), .int (zI (LN 3)), .int (zI (HF 3))]))] H := hP.sub [0, 1, 2, 9, 3, 4, 5, 6, 7, 8] rfl
        have hD : va_D A [(sl, .inr (5, [.ref sh, .int (zI lc), .ref ru, .ref tr, .ref se])), zQ cL sh 6 sf, (ru, .inr (2, [.ref rh, .ref rt, va_rf rl, .int (zI rp), .int (zI oc)])), (lv, .inr (1, [.int (zI w), .int (zI h), .ref ka, .ref ta, .int (zI sx), .int (zI sy), .int (zI fx), .int (zI fy), .int (zI lf), .int (zI un)])), zA cI ka 96 K, zQ cT ta 4 tq, (tp 0, .inr (4, [.ref (ti 0), .int (zI (LN 0)), .int (zI (HF 0))])), (tp 1, .inr (4, [.ref (ti 1), .int (zI (LN 1)), .int (zI (HF 1))])), (tp 2, .inr (4, [.ref (ti 2), .int (zI (LN 2)), .int (zI (HF 2))])), (tp 3, .inr (4, [.ref (ti 3), .int (zI (LN 3)), .int (zI (HF 3))]))] := hD.sub [0, 1, 2, 9, 3, 4, 5, 6, 7, 8] (by decide) rfl
        clear hK1 hvm
        obtain ⟨rfl, po_16⟩ := hw
        have po_16 : r_15 = fgO sx sy cx cy ∧ 0 ≤ r_15 ∧ r_15 ≤ 1 := po_16
        refine W.eq (g2 := F0 m 43 ls [.int (zI r_15)]) rfl ?_
        refine lz_if_ne (tgt := 56) hx hb dX5_setCell_43 (by decide) (by omega) (fun c_17 => ?_) (fun c_17 => ?_)
        · exfalso; have e9 := fgO_1 (by rw [← po_16.1]; exact c_17); omega
        ·
          refine lv_aload hx hb dX5_setCell_46 (lv_at hl 0 rfl) ?_
          refine lv_iload_n hx hb dX5_setCell_48 rfl (lv_at hl 3 rfl) ?_
          refine lv_iload_n hx hb dX5_setCell_49 rfl (lv_at hl 4 rfl) ?_
          have hPc := hP.sub (ws' := [(lv, .inr (1, [.int (zI w), .int (zI h), .ref ka, .ref ta, .int (zI sx), .int (zI sy), .int (zI fx), .int (zI fy), .int (zI lf), .int (zI un)]))]) [3] rfl
          have hDc := hD.sub (ws' := [(lv, .inr (1, [.int (zI w), .int (zI h), .ref ka, .ref ta, .int (zI sx), .int (zI sy), .int (zI fx), .int (zI fy), .int (zI lf), .int (zI un)]))]) [3] (by decide) rfl
          have hFc := va_free (wc := [(lv, .inr (1, [.int (zI w), .int (zI h), .ref ka, .ref ta, .int (zI sx), .int (zI sy), .int (zI fx), .int (zI fy), .int (zI lf), .int (zI un)]))]) hD hS hA [3] rfl
          refine va_calli (va_runV (As := [.int (zI cx), .int (zI cy)]) (rest := []) ⟨hx, hb, hml, hown, hts⟩ (c_X1_flagAt l dC dI cI cZ cL cT cJ H.size lv w h ka ta sx sy fx fy lf un cx cy (by first | assumption | omega) (by first | assumption | omega) (by first | assumption | omega) (by first | assumption | omega)) (cwV 2 hts gX5_setCell_X1_flagAt rfl rfl rfl (by decide +kernel) ⟨Nat.le_of_ble_eq_true rfl, Nat.le_of_ble_eq_true rfl⟩) ⟨zP_blind, va_recv hK hPc (ci := 1) (q0 := 0) rfl rfl, zP_pre hPc hDc hK⟩ rfl rfl hl.1 rfl (lv_room (Nat.le_of_ble_eq_true rfl)) dX5_setCell_50 ⟨Nat.le_of_ble_eq_true rfl, Nat.le_of_ble_eq_true rfl⟩) hS (fun q _ h => hFc q h) hFc (fun r_18 u_18 t H1 locs ht hvm hw hB hz1 hk1 hS => ?_)
          obtain ⟨r_19, rfl⟩ : ∃ z, z = u_18 := ⟨_, rfl⟩
          obtain ⟨hP1, hK1, hD1⟩ := hB
          rw [ht] at hP1
          have hP1 : va_P (dC, dI) vwCl [(lv, .inr (1, [.int (zI w), .int (zI h), .ref ka, .ref ta, .int (zI sx), .int (zI sy), .int (zI fx), .int (zI fy), .int (zI lf), .int (zI un)]))] H1 := hP1
          obtain ⟨hP, hD⟩ := va_join (wr := [(sl, .inr (5, [.ref sh, .int (zI lc), .ref ru, .ref tr, .ref se])), zQ cL sh 6 sf, (ru, .inr (2, [.ref rh, .ref rt, va_rf rl, .int (zI rp), .int (zI oc)])), zA cI ka 96 K, zQ cT ta 4 tq, (tp 0, .inr (4, [.ref (ti 0), .int (zI (LN 0)), .int (zI (HF 0))])), (tp 1, .inr (4, [.ref (ti 1), .int (zI (LN 1)), .int (zI (HF 1))])), (tp 2, .inr (4, [.ref (ti 2), .int (zI (LN 2)), .int (zI (HF 2))])), (tp 3, .inr (4, [.ref (ti 3), .int (zI (LN 3)), .int (zI (HF 3))]))]) (w1 := [(lv, .inr (1, [.int (zI w), .int (zI h), .ref ka, .ref ta, .int (zI sx), .int (zI sy), .int (zI fx), .int (zI fy), .int (zI lf), .int (zI un)]))]) hP hD [3] [0, 1, 2, 4, 5, 6, 7, 8, 9] rfl rfl (by decide) (by decide) hk1 hFc hP1 hD1
          clear hP1 hD1 hk1 hFc hPc hDc hz1
          generalize H1 = H at hP hS ⊢
          have hP : va_P (dC, dI) vwCl [(sl, .inr (5, [.ref sh, .int (zI lc), .ref ru, .ref tr, .ref se])), zQ cL sh 6 sf, (ru, .inr (2, [.ref rh, .ref rt, va_rf rl, .int (zI rp), .int (zI oc)])), (lv, .inr (1, [.int (zI w), .int (zI h), .ref ka, .ref ta, .int (zI sx), .int (zI sy), .int (zI fx), .int (zI fy), .int (zI lf), .int (zI un)])), zA cI ka 96 K, zQ cT ta 4 tq, (tp 0, .inr (4, [.ref (ti 0), .int (zI (LN 0)), .int (zI (HF 0))])), (tp 1, .inr (4, [.ref (ti 1), .int (zI (LN 1)), .int (zI (HF 1))])), (tp 2, .inr (4, [.ref (ti 2), .int (zI (LN 2)), .int (zI (HF 2))])), (tp 3, .inr (4, [.ref (ti 3), .int (zI (LN 3)), .int (zI (HF 3))]))] H := hP.sub [0, 1, 2, 9, 3, 4, 5, 6, 7, 8] rfl
          have hD : va_D A [(sl, .inr (5, [.ref sh, .int (zI lc), .ref ru, .ref tr, .ref se])), zQ cL sh 6 sf, (ru, .inr (2, [.ref rh, .ref rt, va_rf rl, .int (zI rp), .int (zI oc)])), (lv, .inr (1, [.int (zI w), .int (zI h), .ref ka, .ref ta, .int (zI sx), .int (zI sy), .int (zI fx), .int (zI fy), .int (zI lf), .int (zI un)])), zA cI ka 96 K, zQ cT ta 4 tq, (tp 0, .inr (4, [.ref (ti 0), .int (zI (LN 0)), .int (zI (HF 0))])), (tp 1, .inr (4, [.ref (ti 1), .int (zI (LN 1)), .int (zI (HF 1))])), (tp 2, .inr (4, [.ref (ti 2), .int (zI (LN 2)), .int (zI (HF 2))])), (tp 3, .inr (4, [.ref (ti 3), .int (zI (LN 3)), .int (zI (HF 3))]))] := hD.sub [0, 1, 2, 9, 3, 4, 5, 6, 7, 8] (by decide) rfl
          clear hK1 hvm
          obtain ⟨rfl, po_20⟩ := hw
          have po_20 : r_19 = fgO fx fy cx cy ∧ 0 ≤ r_19 ∧ r_19 ≤ 1 := po_20
          refine W.eq (g2 := F0 m 53 ls [.int (zI r_19)]) rfl ?_
          refine lz_if_eq (tgt := 66) hx hb dX5_setCell_53 (by decide) (by omega) (fun c_21 => ?_) (fun c_21 => ?_)
          ·
            refine lv_aload hx hb dX5_setCell_66 (lv_at hl 0 rfl) ?_
            refine lv_iload_n hx hb dX5_setCell_68 rfl (lv_at hl 3 rfl) ?_
            refine lv_iload_n hx hb dX5_setCell_69 rfl (lv_at hl 4 rfl) ?_
            have hPc := hP.sub (ws' := [(lv, .inr (1, [.int (zI w), .int (zI h), .ref ka, .ref ta, .int (zI sx), .int (zI sy), .int (zI fx), .int (zI fy), .int (zI lf), .int (zI un)])), zA cI ka 96 K]) [3, 4] rfl
            have hDc := hD.sub (ws' := [(lv, .inr (1, [.int (zI w), .int (zI h), .ref ka, .ref ta, .int (zI sx), .int (zI sy), .int (zI fx), .int (zI fy), .int (zI lf), .int (zI un)])), zA cI ka 96 K]) [3, 4] (by decide) rfl
            have hFc := va_free (wc := [(lv, .inr (1, [.int (zI w), .int (zI h), .ref ka, .ref ta, .int (zI sx), .int (zI sy), .int (zI fx), .int (zI fy), .int (zI lf), .int (zI un)])), zA cI ka 96 K]) hD hS hA [3, 4] rfl
            refine va_calli (va_runV (As := [.int (zI cx), .int (zI cy)]) (rest := []) ⟨hx, hb, hml, hown, hts⟩ (c_X1_kindAt l dC dI cI cZ cL cT cJ H.size lv w h ka (.ref ta) sx sy fx fy lf un K cx cy (by first | assumption | omega) (by first | assumption | omega) (by first | assumption | omega) (by first | assumption | omega) (by first | assumption | omega)) (cwV 2 hts gX5_setCell_X1_kindAt rfl rfl rfl (by decide +kernel) ⟨Nat.le_of_ble_eq_true rfl, Nat.le_of_ble_eq_true rfl⟩) ⟨zP_blind, va_recv hK hPc (ci := 1) (q0 := 0) rfl rfl, zP_pre hPc hDc hK⟩ rfl rfl hl.1 rfl (lv_room (Nat.le_of_ble_eq_true rfl)) dX5_setCell_70 ⟨Nat.le_of_ble_eq_true rfl, Nat.le_of_ble_eq_true rfl⟩) hS (fun q _ h => hFc q h) hFc (fun r_22 u_22 t H1 locs ht hvm hw hB hz1 hk1 hS => ?_)
            obtain ⟨r_23, rfl⟩ : ∃ z, z = u_22 := ⟨_, rfl⟩
            obtain ⟨hP1, hK1, hD1⟩ := hB
            rw [ht] at hP1
            have hP1 : va_P (dC, dI) vwCl [(lv, .inr (1, [.int (zI w), .int (zI h), .ref ka, .ref ta, .int (zI sx), .int (zI sy), .int (zI fx), .int (zI fy), .int (zI lf), .int (zI un)])), zA cI ka 96 K] H1 := hP1
            obtain ⟨hP, hD⟩ := va_join (wr := [(sl, .inr (5, [.ref sh, .int (zI lc), .ref ru, .ref tr, .ref se])), zQ cL sh 6 sf, (ru, .inr (2, [.ref rh, .ref rt, va_rf rl, .int (zI rp), .int (zI oc)])), zQ cT ta 4 tq, (tp 0, .inr (4, [.ref (ti 0), .int (zI (LN 0)), .int (zI (HF 0))])), (tp 1, .inr (4, [.ref (ti 1), .int (zI (LN 1)), .int (zI (HF 1))])), (tp 2, .inr (4, [.ref (ti 2), .int (zI (LN 2)), .int (zI (HF 2))])), (tp 3, .inr (4, [.ref (ti 3), .int (zI (LN 3)), .int (zI (HF 3))]))]) (w1 := [(lv, .inr (1, [.int (zI w), .int (zI h), .ref ka, .ref ta, .int (zI sx), .int (zI sy), .int (zI fx), .int (zI fy), .int (zI lf), .int (zI un)])), zA cI ka 96 K]) hP hD [3, 4] [0, 1, 2, 5, 6, 7, 8, 9] rfl rfl (by decide) (by decide) hk1 hFc hP1 hD1
            clear hP1 hD1 hk1 hFc hPc hDc hz1
            generalize H1 = H at hP hS ⊢
            have hP : va_P (dC, dI) vwCl [(sl, .inr (5, [.ref sh, .int (zI lc), .ref ru, .ref tr, .ref se])), zQ cL sh 6 sf, (ru, .inr (2, [.ref rh, .ref rt, va_rf rl, .int (zI rp), .int (zI oc)])), (lv, .inr (1, [.int (zI w), .int (zI h), .ref ka, .ref ta, .int (zI sx), .int (zI sy), .int (zI fx), .int (zI fy), .int (zI lf), .int (zI un)])), zA cI ka 96 K, zQ cT ta 4 tq, (tp 0, .inr (4, [.ref (ti 0), .int (zI (LN 0)), .int (zI (HF 0))])), (tp 1, .inr (4, [.ref (ti 1), .int (zI (LN 1)), .int (zI (HF 1))])), (tp 2, .inr (4, [.ref (ti 2), .int (zI (LN 2)), .int (zI (HF 2))])), (tp 3, .inr (4, [.ref (ti 3), .int (zI (LN 3)), .int (zI (HF 3))]))] H := hP.sub [0, 1, 2, 8, 9, 3, 4, 5, 6, 7] rfl
            have hD : va_D A [(sl, .inr (5, [.ref sh, .int (zI lc), .ref ru, .ref tr, .ref se])), zQ cL sh 6 sf, (ru, .inr (2, [.ref rh, .ref rt, va_rf rl, .int (zI rp), .int (zI oc)])), (lv, .inr (1, [.int (zI w), .int (zI h), .ref ka, .ref ta, .int (zI sx), .int (zI sy), .int (zI fx), .int (zI fy), .int (zI lf), .int (zI un)])), zA cI ka 96 K, zQ cT ta 4 tq, (tp 0, .inr (4, [.ref (ti 0), .int (zI (LN 0)), .int (zI (HF 0))])), (tp 1, .inr (4, [.ref (ti 1), .int (zI (LN 1)), .int (zI (HF 1))])), (tp 2, .inr (4, [.ref (ti 2), .int (zI (LN 2)), .int (zI (HF 2))])), (tp 3, .inr (4, [.ref (ti 3), .int (zI (LN 3)), .int (zI (HF 3))]))] := hD.sub [0, 1, 2, 8, 9, 3, 4, 5, 6, 7] (by decide) rfl
            clear hK1 hvm
            obtain ⟨rfl, po_24⟩ := hw
            have po_24 : r_23 = kd K w h cx cy ∧ -1 ≤ r_23 ∧ r_23 ≤ 3 := po_24
            refine W.eq (g2 := F0 m 73 ls [.int (zI r_23)]) rfl ?_
            have k9 := po_24.1
            rw [kd_at gx gy] at k9
            refine lv_istore (lv' := [(6, .int (zI r_23)), (5, .ref lv), (0, .ref sl), (1, .int (zI L)), (2, .int (zI cx)), (3, .int (zI cy)), (4, .int (zI v))]) hx hb dX5_setCell_73 hl (by decide) rfl (fun ls hl => ?_)
            refine lv_aload hx hb dX5_setCell_75 (lv_at hl 1 rfl) ?_
            refine lv_iload_n hx hb dX5_setCell_77 rfl (lv_at hl 4 rfl) ?_
            refine lv_iload_n hx hb dX5_setCell_78 rfl (lv_at hl 5 rfl) ?_
            refine lv_iload hx hb dX5_setCell_79 (lv_at hl 6 rfl) ?_
            have hPc := hP.sub (ws' := [(lv, .inr (1, [.int (zI w), .int (zI h), .ref ka, .ref ta, .int (zI sx), .int (zI sy), .int (zI fx), .int (zI fy), .int (zI lf), .int (zI un)])), zA cI ka 96 K]) [3, 4] rfl
            have hDc := hD.sub (ws' := [(lv, .inr (1, [.int (zI w), .int (zI h), .ref ka, .ref ta, .int (zI sx), .int (zI sy), .int (zI fx), .int (zI fy), .int (zI lf), .int (zI un)])), zA cI ka 96 K]) [3, 4] (by decide) rfl
            have hFc := va_free (wc := [(lv, .inr (1, [.int (zI w), .int (zI h), .ref ka, .ref ta, .int (zI sx), .int (zI sy), .int (zI fx), .int (zI fy), .int (zI lf), .int (zI un)])), zA cI ka 96 K]) hD hS hA [3, 4] rfl
            refine va_callv (va_runV (As := [.int (zI cx), .int (zI cy), .int (zI v)]) (rest := []) ⟨hx, hb, hml, hown, hts⟩ (c_X1_put l dC dI cI cZ cL cT cJ H.size lv w h ka (.ref ta) sx sy fx fy lf un K cx cy v (by first | assumption | omega) (by first | assumption | omega) (by first | assumption | omega) (by first | assumption | omega) (by first | assumption | omega)) (cwV 3 hts gX5_setCell_X1_put rfl rfl rfl (by decide +kernel) ⟨Nat.le_of_ble_eq_true rfl, Nat.le_of_ble_eq_true rfl⟩) ⟨zP_blind, va_recv hK hPc (ci := 1) (q0 := 0) rfl rfl, zP_pre hPc hDc hK⟩ rfl rfl hl.1 rfl (lv_room (Nat.le_of_ble_eq_true rfl)) dX5_setCell_81 ⟨Nat.le_of_ble_eq_true rfl, Nat.le_of_ble_eq_true rfl⟩) hS (fun q _ h => hFc q h) hFc (fun u_25 t H1 locs ht hvm hw hB hz1 hk1 hS => ?_)
            obtain ⟨hP1, hK1, hD1⟩ := hB
            rw [ht] at hP1
            have hP1 : va_P (dC, dI) vwCl [(lv, .inr (1, [.int (zI w), .int (zI h), .ref ka, .ref ta, .int (zI sx), .int (zI sy), .int (zI fx), .int (zI fy), .int (zI lf), .int (zI un)])), zA cI ka 96 (zu K (cy * 12 + cx) v)] H1 := hP1
            obtain ⟨hP, hD⟩ := va_join (wr := [(sl, .inr (5, [.ref sh, .int (zI lc), .ref ru, .ref tr, .ref se])), zQ cL sh 6 sf, (ru, .inr (2, [.ref rh, .ref rt, va_rf rl, .int (zI rp), .int (zI oc)])), zQ cT ta 4 tq, (tp 0, .inr (4, [.ref (ti 0), .int (zI (LN 0)), .int (zI (HF 0))])), (tp 1, .inr (4, [.ref (ti 1), .int (zI (LN 1)), .int (zI (HF 1))])), (tp 2, .inr (4, [.ref (ti 2), .int (zI (LN 2)), .int (zI (HF 2))])), (tp 3, .inr (4, [.ref (ti 3), .int (zI (LN 3)), .int (zI (HF 3))]))]) (w1 := [(lv, .inr (1, [.int (zI w), .int (zI h), .ref ka, .ref ta, .int (zI sx), .int (zI sy), .int (zI fx), .int (zI fy), .int (zI lf), .int (zI un)])), zA cI ka 96 (zu K (cy * 12 + cx) v)]) hP hD [3, 4] [0, 1, 2, 5, 6, 7, 8, 9] rfl rfl (by decide) (by decide) hk1 hFc hP1 hD1
            clear hP1 hD1 hk1 hFc hPc hDc hz1
            generalize H1 = H at hP hS ⊢
            have hP : va_P (dC, dI) vwCl [(sl, .inr (5, [.ref sh, .int (zI lc), .ref ru, .ref tr, .ref se])), zQ cL sh 6 sf, (ru, .inr (2, [.ref rh, .ref rt, va_rf rl, .int (zI rp), .int (zI oc)])), (lv, .inr (1, [.int (zI w), .int (zI h), .ref ka, .ref ta, .int (zI sx), .int (zI sy), .int (zI fx), .int (zI fy), .int (zI lf), .int (zI un)])), zA cI ka 96 (zu K (cy * 12 + cx) v), zQ cT ta 4 tq, (tp 0, .inr (4, [.ref (ti 0), .int (zI (LN 0)), .int (zI (HF 0))])), (tp 1, .inr (4, [.ref (ti 1), .int (zI (LN 1)), .int (zI (HF 1))])), (tp 2, .inr (4, [.ref (ti 2), .int (zI (LN 2)), .int (zI (HF 2))])), (tp 3, .inr (4, [.ref (ti 3), .int (zI (LN 3)), .int (zI (HF 3))]))] H := hP.sub [0, 1, 2, 8, 9, 3, 4, 5, 6, 7] rfl
            have hD : va_D A [(sl, .inr (5, [.ref sh, .int (zI lc), .ref ru, .ref tr, .ref se])), zQ cL sh 6 sf, (ru, .inr (2, [.ref rh, .ref rt, va_rf rl, .int (zI rp), .int (zI oc)])), (lv, .inr (1, [.int (zI w), .int (zI h), .ref ka, .ref ta, .int (zI sx), .int (zI sy), .int (zI fx), .int (zI fy), .int (zI lf), .int (zI un)])), zA cI ka 96 (zu K (cy * 12 + cx) v), zQ cT ta 4 tq, (tp 0, .inr (4, [.ref (ti 0), .int (zI (LN 0)), .int (zI (HF 0))])), (tp 1, .inr (4, [.ref (ti 1), .int (zI (LN 1)), .int (zI (HF 1))])), (tp 2, .inr (4, [.ref (ti 2), .int (zI (LN 2)), .int (zI (HF 2))])), (tp 3, .inr (4, [.ref (ti 3), .int (zI (LN 3)), .int (zI (HF 3))]))] := hD.sub [0, 1, 2, 8, 9, 3, 4, 5, 6, 7] (by decide) rfl
            clear hK1 hvm
            refine W.eq (g2 := F0 m 84 ls []) rfl ?_
            refine lv_aload_n hx hb dX5_setCell_84 rfl (lv_at hl 2 rfl) ?_
            refine lv_aload hx hb dX5_setCell_85 (lv_at hl 1 rfl) ?_
            have hPc := hP.sub (ws' := [(sl, .inr (5, [.ref sh, .int (zI lc), .ref ru, .ref tr, .ref se])), (ru, .inr (2, [.ref rh, .ref rt, va_rf rl, .int (zI rp), .int (zI oc)])), (lv, .inr (1, [.int (zI w), .int (zI h), .ref ka, .ref ta, .int (zI sx), .int (zI sy), .int (zI fx), .int (zI fy), .int (zI lf), .int (zI un)])), zQ cT ta 4 tq, (tp 0, .inr (4, [.ref (ti 0), .int (zI (LN 0)), .int (zI (HF 0))])), (tp 1, .inr (4, [.ref (ti 1), .int (zI (LN 1)), .int (zI (HF 1))])), (tp 2, .inr (4, [.ref (ti 2), .int (zI (LN 2)), .int (zI (HF 2))])), (tp 3, .inr (4, [.ref (ti 3), .int (zI (LN 3)), .int (zI (HF 3))]))]) [0, 2, 3, 5, 6, 7, 8, 9] rfl
            have hDc := hD.sub (ws' := [(sl, .inr (5, [.ref sh, .int (zI lc), .ref ru, .ref tr, .ref se])), (ru, .inr (2, [.ref rh, .ref rt, va_rf rl, .int (zI rp), .int (zI oc)])), (lv, .inr (1, [.int (zI w), .int (zI h), .ref ka, .ref ta, .int (zI sx), .int (zI sy), .int (zI fx), .int (zI fy), .int (zI lf), .int (zI un)])), zQ cT ta 4 tq, (tp 0, .inr (4, [.ref (ti 0), .int (zI (LN 0)), .int (zI (HF 0))])), (tp 1, .inr (4, [.ref (ti 1), .int (zI (LN 1)), .int (zI (HF 1))])), (tp 2, .inr (4, [.ref (ti 2), .int (zI (LN 2)), .int (zI (HF 2))])), (tp 3, .inr (4, [.ref (ti 3), .int (zI (LN 3)), .int (zI (HF 3))]))]) [0, 2, 3, 5, 6, 7, 8, 9] (by decide) rfl
            have hFc := va_free (wc := [(sl, .inr (5, [.ref sh, .int (zI lc), .ref ru, .ref tr, .ref se])), (ru, .inr (2, [.ref rh, .ref rt, va_rf rl, .int (zI rp), .int (zI oc)])), (lv, .inr (1, [.int (zI w), .int (zI h), .ref ka, .ref ta, .int (zI sx), .int (zI sy), .int (zI fx), .int (zI fy), .int (zI lf), .int (zI un)])), zQ cT ta 4 tq, (tp 0, .inr (4, [.ref (ti 0), .int (zI (LN 0)), .int (zI (HF 0))])), (tp 1, .inr (4, [.ref (ti 1), .int (zI (LN 1)), .int (zI (HF 1))])), (tp 2, .inr (4, [.ref (ti 2), .int (zI (LN 2)), .int (zI (HF 2))])), (tp 3, .inr (4, [.ref (ti 3), .int (zI (LN 3)), .int (zI (HF 3))]))]) hD hS hA [0, 2, 3, 5, 6, 7, 8, 9] rfl
            refine va_callv (va_runV (As := [.ref lv]) (rest := []) ⟨hx, hb, hml, hown, hts⟩ (c_X5_voidWhatWasFound l dC dI cI cZ cL cT cJ H.size sl sh lc ru tr se rh rt rp oc rl lv w h ka ta sx sy fx fy lf un tq tp ti LN HF (by first | assumption | omega)) (cwV 1 hts gX5_setCell_X5_voidWhatWasFound rfl rfl rfl (by decide +kernel) ⟨Nat.le_of_ble_eq_true rfl, Nat.le_of_ble_eq_true rfl⟩) ⟨zP_blind, va_recv hK hPc (ci := 5) (q0 := 0) rfl rfl, zP_pre hPc hDc hK⟩ rfl rfl hl.1 rfl (lv_room (Nat.le_of_ble_eq_true rfl)) dX5_setCell_87 ⟨Nat.le_of_ble_eq_true rfl, Nat.le_of_ble_eq_true rfl⟩) hS (fun q _ h => hFc q h) hFc (fun u_27 t H1 locs ht hvm hw hB hz1 hk1 hS => ?_)
            obtain ⟨rl1_28, rfl⟩ : ∃ z, z = u_27 := ⟨_, rfl⟩
            obtain ⟨hP1, hK1, hD1⟩ := hB
            rw [ht] at hP1
            have hP1 : va_P (dC, dI) vwCl [(sl, .inr (5, [.ref sh, .int (zI lc), .ref ru, .ref tr, .ref se])), (ru, .inr (2, [.ref rh, .ref rt, va_rf rl1_28, .int (zI rp), .int (zI oc)])), (lv, .inr (1, [.int (zI w), .int (zI h), .ref ka, .ref ta, .int (zI sx), .int (zI sy), .int (zI fx), .int (zI fy), .int (zI (-1)), .int (zI 0)])), zQ cT ta 4 tq, (tp 0, .inr (4, [.ref (ti 0), .int (zI (-1)), .int (zI (-1))])), (tp 1, .inr (4, [.ref (ti 1), .int (zI (-1)), .int (zI (-1))])), (tp 2, .inr (4, [.ref (ti 2), .int (zI (-1)), .int (zI (-1))])), (tp 3, .inr (4, [.ref (ti 3), .int (zI (-1)), .int (zI (-1))]))] H1 := hP1
            obtain ⟨hP, hD⟩ := va_join (wr := [zQ cL sh 6 sf, zA cI ka 96 (zu K (cy * 12 + cx) v)]) (w1 := [(sl, .inr (5, [.ref sh, .int (zI lc), .ref ru, .ref tr, .ref se])), (ru, .inr (2, [.ref rh, .ref rt, va_rf rl1_28, .int (zI rp), .int (zI oc)])), (lv, .inr (1, [.int (zI w), .int (zI h), .ref ka, .ref ta, .int (zI sx), .int (zI sy), .int (zI fx), .int (zI fy), .int (zI (-1)), .int (zI 0)])), zQ cT ta 4 tq, (tp 0, .inr (4, [.ref (ti 0), .int (zI (-1)), .int (zI (-1))])), (tp 1, .inr (4, [.ref (ti 1), .int (zI (-1)), .int (zI (-1))])), (tp 2, .inr (4, [.ref (ti 2), .int (zI (-1)), .int (zI (-1))])), (tp 3, .inr (4, [.ref (ti 3), .int (zI (-1)), .int (zI (-1))]))]) hP hD [0, 2, 3, 5, 6, 7, 8, 9] [1, 4] rfl rfl (by decide) (by decide) hk1 hFc hP1 hD1
            clear hP1 hD1 hk1 hFc hPc hDc hz1
            generalize H1 = H at hP hS ⊢
            have hP : va_P (dC, dI) vwCl [(sl, .inr (5, [.ref sh, .int (zI lc), .ref ru, .ref tr, .ref se])), zQ cL sh 6 sf, (ru, .inr (2, [.ref rh, .ref rt, va_rf rl1_28, .int (zI rp), .int (zI oc)])), (lv, .inr (1, [.int (zI w), .int (zI h), .ref ka, .ref ta, .int (zI sx), .int (zI sy), .int (zI fx), .int (zI fy), .int (zI (-1)), .int (zI 0)])), zA cI ka 96 (zu K (cy * 12 + cx) v), zQ cT ta 4 tq, (tp 0, .inr (4, [.ref (ti 0), .int (zI (-1)), .int (zI (-1))])), (tp 1, .inr (4, [.ref (ti 1), .int (zI (-1)), .int (zI (-1))])), (tp 2, .inr (4, [.ref (ti 2), .int (zI (-1)), .int (zI (-1))])), (tp 3, .inr (4, [.ref (ti 3), .int (zI (-1)), .int (zI (-1))]))] H := hP.sub [2, 0, 3, 4, 1, 5, 6, 7, 8, 9] rfl
            have hD : va_D A [(sl, .inr (5, [.ref sh, .int (zI lc), .ref ru, .ref tr, .ref se])), zQ cL sh 6 sf, (ru, .inr (2, [.ref rh, .ref rt, va_rf rl1_28, .int (zI rp), .int (zI oc)])), (lv, .inr (1, [.int (zI w), .int (zI h), .ref ka, .ref ta, .int (zI sx), .int (zI sy), .int (zI fx), .int (zI fy), .int (zI (-1)), .int (zI 0)])), zA cI ka 96 (zu K (cy * 12 + cx) v), zQ cT ta 4 tq, (tp 0, .inr (4, [.ref (ti 0), .int (zI (-1)), .int (zI (-1))])), (tp 1, .inr (4, [.ref (ti 1), .int (zI (-1)), .int (zI (-1))])), (tp 2, .inr (4, [.ref (ti 2), .int (zI (-1)), .int (zI (-1))])), (tp 3, .inr (4, [.ref (ti 3), .int (zI (-1)), .int (zI (-1))]))] := hD.sub [2, 0, 3, 4, 1, 5, 6, 7, 8, 9] (by decide) rfl
            clear hK1 hvm
            have po_29 : rl1_28 = (if rl = some lv then none else rl) := hw
            refine W.eq (g2 := F0 m 90 ls []) rfl ?_
            refine lv_iload hx hb dX5_setCell_90 (lv_at hl 0 rfl) ?_
            have hP9 := hP.sub (ws' := [(sl, .inr (5, [.ref sh, .int (zI lc), .ref ru, .ref tr, .ref se])), zQ cL sh 6 sf, (ru, .inr (2, [.ref rh, .ref rt, va_rf rl1_28, .int (zI rp), .int (zI oc)])), (lv, .inr (1, [.int (zI w), .int (zI h), .ref ka, .ref ta, .int (zI sx), .int (zI sy), .int (zI fx), .int (zI fy), .int (zI (-1)), .int (zI 0)])), zA cI ka 96 (zu K (cy * 12 + cx) v), zQ cT ta 4 tq, (tp 0, .inr (4, [.ref (ti 0), .int (zI (-1)), .int (zI (-1))])), (tp 1, .inr (4, [.ref (ti 1), .int (zI (-1)), .int (zI (-1))])), (tp 2, .inr (4, [.ref (ti 2), .int (zI (-1)), .int (zI (-1))])), (tp 3, .inr (4, [.ref (ti 3), .int (zI (-1)), .int (zI (-1))]))]) [0, 1, 2, 3, 4, 5, 6, 7, 8, 9] rfl
            have hD9 := hD.sub (ws' := [(sl, .inr (5, [.ref sh, .int (zI lc), .ref ru, .ref tr, .ref se])), zQ cL sh 6 sf, (ru, .inr (2, [.ref rh, .ref rt, va_rf rl1_28, .int (zI rp), .int (zI oc)])), (lv, .inr (1, [.int (zI w), .int (zI h), .ref ka, .ref ta, .int (zI sx), .int (zI sy), .int (zI fx), .int (zI fy), .int (zI (-1)), .int (zI 0)])), zA cI ka 96 (zu K (cy * 12 + cx) v), zQ cT ta 4 tq, (tp 0, .inr (4, [.ref (ti 0), .int (zI (-1)), .int (zI (-1))])), (tp 1, .inr (4, [.ref (ti 1), .int (zI (-1)), .int (zI (-1))])), (tp 2, .inr (4, [.ref (ti 2), .int (zI (-1)), .int (zI (-1))])), (tp 3, .inr (4, [.ref (ti 3), .int (zI (-1)), .int (zI (-1))]))]) [0, 1, 2, 3, 4, 5, 6, 7, 8, 9] (by decide) rfl
            have po : zI r_23 = zI r_23 ∧ (rl1_28 = (if rl = some lv then none else rl) ∧ r_23 = K (cy * 12 + cx)) := by
              refine ⟨by first | rfl | (congr 1; omega) | (congr 1; simp [*]), ?_⟩
              exact ⟨po_29, k9⟩
            exact W.iret (v := zI r_23) hx hb hr (fun t ht hW => ⟨⟨zI r_23, (rl1_28, r_23), rfl, po, by rw [ht]; exact hP9, va_K.moved hW.alike hK, hD9⟩, hS.F ht⟩) hS.2.2 dX5_setCell_92
          · exfalso; have e9 := fgO_1 (by rw [← po_20.1]; exact c_21); omega
    · exfalso; omega
set_option maxHeartbeats 4000000 in
set_option maxRecDepth 100000 in
theorem c_X5_setStart (l : Launch) (dC : Nat → ClassId) (dI : Nat → Nat → Nat) (cI cZ cL cT cJ : ClassId) (sz : Nat) (sl : Nat) (sh : Nat) (lc : Int) (ru : Nat) (tr : Nat) (se : Nat) (sf : Nat → Option Nat) (L : Int) (k : Nat) (rh : Nat) (rt : Nat) (rp : Int) (oc : Int) (rl : Option Nat) (lv : Nat) (w : Int) (h : Int) (ka : Nat) (ta : Nat) (sx : Int) (sy : Int) (fx : Int) (fy : Int) (lf : Int) (un : Int) (K : Int → Int) (tq : Nat → Option Nat) (tp : Nat → Nat) (ti : Nat → Nat) (LN : Nat → Int) (HF : Nat → Int) (cx : Int) (cy : Int) (gk : L = (k : Int) ∧ k < 6) (gf : sf k = some lv) (gw : 0 < w ∧ w ≤ 12) (gh : 0 < h ∧ h ≤ 8) (gK : Kin K) (gx : 0 ≤ cx ∧ cx < w) (gy : 0 ≤ cy ∧ cy < h) (gb : ¬ kd K w h cx cy = 1) (gt : ∀ k, k < 4 → tq k = some (tp k)) : Met l yX5_setStart wsX5_setStart ({ frames := 3, cells := 0, slots := 0, locals := 71 }) (zP (dC, dI) (zT cI cZ cL cT cJ) sz [.ref sl, .int (zI L), .int (zI cx), .int (zI cy)] [(sl, .inr (5, [.ref sh, .int (zI lc), .ref ru, .ref tr, .ref se])), zQ cL sh 6 sf, (ru, .inr (2, [.ref rh, .ref rt, va_rf rl, .int (zI rp), .int (zI oc)])), (lv, .inr (1, [.int (zI w), .int (zI h), .ref ka, .ref ta, .int (zI sx), .int (zI sy), .int (zI fx), .int (zI fy), .int (zI lf), .int (zI un)])), zA cI ka 96 K, zQ cT ta 4 tq, (tp 0, .inr (4, [.ref (ti 0), .int (zI (LN 0)), .int (zI (HF 0))])), (tp 1, .inr (4, [.ref (ti 1), .int (zI (LN 1)), .int (zI (HF 1))])), (tp 2, .inr (4, [.ref (ti 2), .int (zI (LN 2)), .int (zI (HF 2))])), (tp 3, .inr (4, [.ref (ti 3), .int (zI (LN 3)), .int (zI (HF 3))]))]) (va_Qv (fun (u9 : (Option Nat)) => match u9 with | rl1 => (rl1 = (if rl = some lv then none else rl))) (zB (dC, dI) (zT cI cZ cL cT cJ) (va_A [(sl, .inr (5, [.ref sh, .int (zI lc), .ref ru, .ref tr, .ref se])), zQ cL sh 6 sf, (ru, .inr (2, [.ref rh, .ref rt, va_rf rl, .int (zI rp), .int (zI oc)])), (lv, .inr (1, [.int (zI w), .int (zI h), .ref ka, .ref ta, .int (zI sx), .int (zI sy), .int (zI fx), .int (zI fy), .int (zI lf), .int (zI un)])), zA cI ka 96 K, zQ cT ta 4 tq, (tp 0, .inr (4, [.ref (ti 0), .int (zI (LN 0)), .int (zI (HF 0))])), (tp 1, .inr (4, [.ref (ti 1), .int (zI (LN 1)), .int (zI (HF 1))])), (tp 2, .inr (4, [.ref (ti 2), .int (zI (LN 2)), .int (zI (HF 2))])), (tp 3, .inr (4, [.ref (ti 3), .int (zI (LN 3)), .int (zI (HF 3))]))] sz) (fun (u9 : (Option Nat)) => match u9 with | rl1 => [(sl, .inr (5, [.ref sh, .int (zI lc), .ref ru, .ref tr, .ref se])), zQ cL sh 6 sf, (ru, .inr (2, [.ref rh, .ref rt, va_rf rl1, .int (zI rp), .int (zI oc)])), (lv, .inr (1, [.int (zI w), .int (zI h), .ref ka, .ref ta, .int (zI cx), .int (zI cy), .int (zI fx), .int (zI fy), .int (zI (-1)), .int (zI 0)])), zA cI ka 96 K, zQ cT ta 4 tq, (tp 0, .inr (4, [.ref (ti 0), .int (zI (-1)), .int (zI (-1))])), (tp 1, .inr (4, [.ref (ti 1), .int (zI (-1)), .int (zI (-1))])), (tp 2, .inr (4, [.ref (ti 2), .int (zI (-1)), .int (zI (-1))])), (tp 3, .inr (4, [.ref (ti 3), .int (zI (-1)), .int (zI (-1))]))])) (va_A [(sl, .inr (5, [.ref sh, .int (zI lc), .ref ru, .ref tr, .ref se])), zQ cL sh 6 sf, (ru, .inr (2, [.ref rh, .ref rt, va_rf rl, .int (zI rp), .int (zI oc)])), (lv, .inr (1, [.int (zI w), .int (zI h), .ref ka, .ref ta, .int (zI sx), .int (zI sy), .int (zI fx), .int (zI fy), .int (zI lf), .int (zI un)])), zA cI ka 96 K, zQ cT ta 4 tq, (tp 0, .inr (4, [.ref (ti 0), .int (zI (LN 0)), .int (zI (HF 0))])), (tp 1, .inr (4, [.ref (ti 1), .int (zI (LN 1)), .int (zI (HF 1))])), (tp 2, .inr (4, [.ref (ti 2), .int (zI (LN 2)), .int (zI (HF 2))])), (tp 3, .inr (4, [.ref (ti 3), .int (zI (LN 3)), .int (zI (HF 3))]))] sz)) 0 0 (va_A [(sl, .inr (5, [.ref sh, .int (zI lc), .ref ru, .ref tr, .ref se])), zQ cL sh 6 sf, (ru, .inr (2, [.ref rh, .ref rt, va_rf rl, .int (zI rp), .int (zI oc)])), (lv, .inr (1, [.int (zI w), .int (zI h), .ref ka, .ref ta, .int (zI sx), .int (zI sy), .int (zI fx), .int (zI fy), .int (zI lf), .int (zI un)])), zA cI ka 96 K, zQ cT ta 4 tq, (tp 0, .inr (4, [.ref (ti 0), .int (zI (LN 0)), .int (zI (HF 0))])), (tp 1, .inr (4, [.ref (ti 1), .int (zI (LN 1)), .int (zI (HF 1))])), (tp 2, .inr (4, [.ref (ti 2), .int (zI (LN 2)), .int (zI (HF 2))])), (tp 3, .inr (4, [.ref (ti 3), .int (zI (LN 3)), .int (zI (HF 3))]))] sz) := by
  refine Met.ofW (cc := cX5_setStart) (maxL := 5) (ret := none) (by decide) rfl ?_
  intro p e s m args below meth c s₁ B hml hv
  obtain ⟨rfl, hsz, hP, hK, hD0⟩ := hv
  have hx := B.exec
  have hb := B.bytes
  have hr := B.returns
  have hts := atoms_spec (ws := wsX5_setStart) B.pre
  have hown : s.vm.findClass RX5 = some m.cls := findClass_of_methodNamed B.named
  have hlocks := B.notSynchronized
  subst hsz
  have hD := hD0.self (sz := s.heap.size)
  generalize hAe : va_A [(sl, .inr (5, [.ref sh, .int (zI lc), .ref ru, .ref tr, .ref se])), zQ cL sh 6 sf, (ru, .inr (2, [.ref rh, .ref rt, va_rf rl, .int (zI rp), .int (zI oc)])), (lv, .inr (1, [.int (zI w), .int (zI h), .ref ka, .ref ta, .int (zI sx), .int (zI sy), .int (zI fx), .int (zI fy), .int (zI lf), .int (zI un)])), zA cI ka 96 K, zQ cT ta 4 tq, (tp 0, .inr (4, [.ref (ti 0), .int (zI (LN 0)), .int (zI (HF 0))])), (tp 1, .inr (4, [.ref (ti 1), .int (zI (LN 1)), .int (zI (HF 1))])), (tp 2, .inr (4, [.ref (ti 2), .int (zI (LN 2)), .int (zI (HF 2))])), (tp 3, .inr (4, [.ref (ti 3), .int (zI (LN 3)), .int (zI (HF 3))]))] s.heap.size = A at hD ⊢
  have hA : ∀ q : Nat, s.heap.size ≤ q → A q := fun q h => by rw [← hAe]; exact Or.inr h
  clear hAe hD0
  have hS : va_S A s.heap s.heap [] := va_S.rf
  have hP : va_P (dC, dI) vwCl [(sl, .inr (5, [.ref sh, .int (zI lc), .ref ru, .ref tr, .ref se])), zQ cL sh 6 sf, (ru, .inr (2, [.ref rh, .ref rt, va_rf rl, .int (zI rp), .int (zI oc)])), (lv, .inr (1, [.int (zI w), .int (zI h), .ref ka, .ref ta, .int (zI sx), .int (zI sy), .int (zI fx), .int (zI fy), .int (zI lf), .int (zI un)])), zA cI ka 96 K, zQ cT ta 4 tq, (tp 0, .inr (4, [.ref (ti 0), .int (zI (LN 0)), .int (zI (HF 0))])), (tp 1, .inr (4, [.ref (ti 1), .int (zI (LN 1)), .int (zI (HF 1))])), (tp 2, .inr (4, [.ref (ti 2), .int (zI (LN 2)), .int (zI (HF 2))])), (tp 3, .inr (4, [.ref (ti 3), .int (zI (LN 3)), .int (zI (HF 3))]))] s.heap := hP
  have f_85 := hts (.fieldLink RX5 85 "SpringLevels$Level" "startX" "I") (by decide +kernel)
  have f_88 := hts (.fieldLink RX5 88 "SpringLevels$Level" "startY" "I") (by decide +kernel)
  have i_1 : ∀ w ∈ wsX10, w ∈ wsX5_setStart := by decide +kernel
  have hl := lv_entry ([.ref sl, .int (zI L), .int (zI cx), .int (zI cy)]) (n := 5) (Nat.le_of_ble_eq_true rfl)
  rw [lg_entry_eq]
  generalize (lg_sl ([.ref sl, .int (zI L), .int (zI cx), .int (zI cy)]) ++ List.replicate (5 - (lg_sl ([.ref sl, .int (zI L), .int (zI cx), .int (zI cy)])).length) Slot.unset).toArray = ls at hl ⊢
  have hl : lv_has ls 5 [(0, .ref sl), (1, .int (zI L)), (2, .int (zI cx)), (3, .int (zI cy))] := hl
  refine lv_aload_n hx hb dX5_setStart_0 rfl (lv_at hl 0 rfl) ?_
  refine lv_iload_n hx hb dX5_setStart_1 rfl (lv_at hl 1 rfl) ?_
  refine lv_iload_n hx hb dX5_setStart_2 rfl (lv_at hl 2 rfl) ?_
  refine lv_iload_n hx hb dX5_setStart_3 rfl (lv_at hl 3 rfl) ?_
  have hPc := hP.sub (ws' := [(sl, .inr (5, [.ref sh, .int (zI lc), .ref ru, .ref tr, .ref se])), zQ cL sh 6 sf, (lv, .inr (1, [.int (zI w), .int (zI h), .ref ka, .ref ta, .int (zI sx), .int (zI sy), .int (zI fx), .int (zI fy), .int (zI lf), .int (zI un)])), zA cI ka 96 K]) [0, 1, 3, 4] rfl
  have hDc := hD.sub (ws' := [(sl, .inr (5, [.ref sh, .int (zI lc), .ref ru, .ref tr, .ref se])), zQ cL sh 6 sf, (lv, .inr (1, [.int (zI w), .int (zI h), .ref ka, .ref ta, .int (zI sx), .int (zI sy), .int (zI fx), .int (zI fy), .int (zI lf), .int (zI un)])), zA cI ka 96 K]) [0, 1, 3, 4] (by decide) rfl
  have hFc := va_free (wc := [(sl, .inr (5, [.ref sh, .int (zI lc), .ref ru, .ref tr, .ref se])), zQ cL sh 6 sf, (lv, .inr (1, [.int (zI w), .int (zI h), .ref ka, .ref ta, .int (zI sx), .int (zI sy), .int (zI fx), .int (zI fy), .int (zI lf), .int (zI un)])), zA cI ka 96 K]) hD hS hA [0, 1, 3, 4] rfl
  refine va_callq (va_runV (As := [.int (zI L), .int (zI cx), .int (zI cy)]) (rest := []) ⟨hx, hb, hml, hown, hts⟩ (c_X5_levelWithoutBlockAt l dC dI cI cZ cL cT cJ s.heap.size sl sh lc ru tr se sf L k lv w h ka ta sx sy fx fy lf un K cx cy (by first | assumption | omega) (by first | assumption | omega) (by first | assumption | omega) (by first | assumption | omega) (by first | assumption | omega) (by first | assumption | omega) (by first | assumption | omega) (by first | assumption | omega)) (cwV 3 hts gX5_setStart_X5_levelWithoutBlockAt rfl rfl rfl (by decide +kernel) ⟨Nat.le_of_ble_eq_true rfl, Nat.le_of_ble_eq_true rfl⟩) ⟨zP_blind, va_recv hK hPc (ci := 5) (q0 := 0) rfl rfl, zP_pre hPc hDc hK⟩ rfl rfl hl.1 rfl (lv_room (Nat.le_of_ble_eq_true rfl)) dX5_setStart_4 ⟨Nat.le_of_ble_eq_true rfl, Nat.le_of_ble_eq_true rfl⟩) hS (fun q _ h => hFc q h) hFc (fun r_1 u_1 t H1 locs ht hvm hw hB hz1 hk1 hS => ?_)
  obtain ⟨hP1, hK1, hD1⟩ := hB
  rw [ht] at hP1
  have hP1 : va_P (dC, dI) vwCl [(sl, .inr (5, [.ref sh, .int (zI lc), .ref ru, .ref tr, .ref se])), zQ cL sh 6 sf, (lv, .inr (1, [.int (zI w), .int (zI h), .ref ka, .ref ta, .int (zI sx), .int (zI sy), .int (zI fx), .int (zI fy), .int (zI lf), .int (zI un)])), zA cI ka 96 K] H1 := hP1
  obtain ⟨hP, hD⟩ := va_join (wr := [(ru, .inr (2, [.ref rh, .ref rt, va_rf rl, .int (zI rp), .int (zI oc)])), zQ cT ta 4 tq, (tp 0, .inr (4, [.ref (ti 0), .int (zI (LN 0)), .int (zI (HF 0))])), (tp 1, .inr (4, [.ref (ti 1), .int (zI (LN 1)), .int (zI (HF 1))])), (tp 2, .inr (4, [.ref (ti 2), .int (zI (LN 2)), .int (zI (HF 2))])), (tp 3, .inr (4, [.ref (ti 3), .int (zI (LN 3)), .int (zI (HF 3))]))]) (w1 := [(sl, .inr (5, [.ref sh, .int (zI lc), .ref ru, .ref tr, .ref se])), zQ cL sh 6 sf, (lv, .inr (1, [.int (zI w), .int (zI h), .ref ka, .ref ta, .int (zI sx), .int (zI sy), .int (zI fx), .int (zI fy), .int (zI lf), .int (zI un)])), zA cI ka 96 K]) hP hD [0, 1, 3, 4] [2, 5, 6, 7, 8, 9] rfl rfl (by decide) (by decide) hk1 hFc hP1 hD1
  clear hP1 hD1 hk1 hFc hPc hDc hz1
  generalize H1 = H at hP hS ⊢
  have hP : va_P (dC, dI) vwCl [(sl, .inr (5, [.ref sh, .int (zI lc), .ref ru, .ref tr, .ref se])), zQ cL sh 6 sf, (ru, .inr (2, [.ref rh, .ref rt, va_rf rl, .int (zI rp), .int (zI oc)])), (lv, .inr (1, [.int (zI w), .int (zI h), .ref ka, .ref ta, .int (zI sx), .int (zI sy), .int (zI fx), .int (zI fy), .int (zI lf), .int (zI un)])), zA cI ka 96 K, zQ cT ta 4 tq, (tp 0, .inr (4, [.ref (ti 0), .int (zI (LN 0)), .int (zI (HF 0))])), (tp 1, .inr (4, [.ref (ti 1), .int (zI (LN 1)), .int (zI (HF 1))])), (tp 2, .inr (4, [.ref (ti 2), .int (zI (LN 2)), .int (zI (HF 2))])), (tp 3, .inr (4, [.ref (ti 3), .int (zI (LN 3)), .int (zI (HF 3))]))] H := hP.sub [6, 7, 0, 8, 9, 1, 2, 3, 4, 5] rfl
  have hD : va_D A [(sl, .inr (5, [.ref sh, .int (zI lc), .ref ru, .ref tr, .ref se])), zQ cL sh 6 sf, (ru, .inr (2, [.ref rh, .ref rt, va_rf rl, .int (zI rp), .int (zI oc)])), (lv, .inr (1, [.int (zI w), .int (zI h), .ref ka, .ref ta, .int (zI sx), .int (zI sy), .int (zI fx), .int (zI fy), .int (zI lf), .int (zI un)])), zA cI ka 96 K, zQ cT ta 4 tq, (tp 0, .inr (4, [.ref (ti 0), .int (zI (LN 0)), .int (zI (HF 0))])), (tp 1, .inr (4, [.ref (ti 1), .int (zI (LN 1)), .int (zI (HF 1))])), (tp 2, .inr (4, [.ref (ti 2), .int (zI (LN 2)), .int (zI (HF 2))])), (tp 3, .inr (4, [.ref (ti 3), .int (zI (LN 3)), .int (zI (HF 3))]))] := hD.sub [6, 7, 0, 8, 9, 1, 2, 3, 4, 5] (by decide) rfl
  clear hK1 hvm
  obtain ⟨rfl, po_2⟩ := hw
  refine W.eq (g2 := F0 m 7 ls [.ref lv]) rfl ?_
  refine lv_astore (lv' := [(4, .ref lv), (0, .ref sl), (1, .int (zI L)), (2, .int (zI cx)), (3, .int (zI cy))]) hx hb dX5_setStart_7 hl (by decide) rfl (fun ls hl => ?_)
  refine lv_aload hx hb dX5_setStart_9 (lv_at hl 0 rfl) ?_
  refine lv_iload_n hx hb dX5_setStart_11 rfl (lv_at hl 3 rfl) ?_
  refine va_put (D := (dC, dI)) (ci := 1) (v := .int (zI cx)) (ty := .int) (C := RX1) (T := TX1) (N := 10) hx hb hts i_1 tyX1 tyX1_ok nmX1 hown hK hP hD hS 3 rfl rfl 4 (by decide) f_85 (fun _ h9 => h9) rfl (by decide +kernel) rfl rfl (Nat.le_of_ble_eq_true rfl) dX5_setStart_12 (fun H locs hP hD hS => ?_)
  have hP : va_P (dC, dI) vwCl [(sl, .inr (5, [.ref sh, .int (zI lc), .ref ru, .ref tr, .ref se])), zQ cL sh 6 sf, (ru, .inr (2, [.ref rh, .ref rt, va_rf rl, .int (zI rp), .int (zI oc)])), (lv, .inr (1, [.int (zI w), .int (zI h), .ref ka, .ref ta, .int (zI cx), .int (zI sy), .int (zI fx), .int (zI fy), .int (zI lf), .int (zI un)])), zA cI ka 96 K, zQ cT ta 4 tq, (tp 0, .inr (4, [.ref (ti 0), .int (zI (LN 0)), .int (zI (HF 0))])), (tp 1, .inr (4, [.ref (ti 1), .int (zI (LN 1)), .int (zI (HF 1))])), (tp 2, .inr (4, [.ref (ti 2), .int (zI (LN 2)), .int (zI (HF 2))])), (tp 3, .inr (4, [.ref (ti 3), .int (zI (LN 3)), .int (zI (HF 3))]))] H := hP
  have hD : va_D A [(sl, .inr (5, [.ref sh, .int (zI lc), .ref ru, .ref tr, .ref se])), zQ cL sh 6 sf, (ru, .inr (2, [.ref rh, .ref rt, va_rf rl, .int (zI rp), .int (zI oc)])), (lv, .inr (1, [.int (zI w), .int (zI h), .ref ka, .ref ta, .int (zI cx), .int (zI sy), .int (zI fx), .int (zI fy), .int (zI lf), .int (zI un)])), zA cI ka 96 K, zQ cT ta 4 tq, (tp 0, .inr (4, [.ref (ti 0), .int (zI (LN 0)), .int (zI (HF 0))])), (tp 1, .inr (4, [.ref (ti 1), .int (zI (LN 1)), .int (zI (HF 1))])), (tp 2, .inr (4, [.ref (ti 2), .int (zI (LN 2)), .int (zI (HF 2))])), (tp 3, .inr (4, [.ref (ti 3), .int (zI (LN 3)), .int (zI (HF 3))]))] := hD
  refine lv_aload hx hb dX5_setStart_15 (lv_at hl 0 rfl) ?_
  refine lv_iload_n hx hb dX5_setStart_17 rfl (lv_at hl 4 rfl) ?_
  refine va_put (D := (dC, dI)) (ci := 1) (v := .int (zI cy)) (ty := .int) (C := RX1) (T := TX1) (N := 10) hx hb hts i_1 tyX1 tyX1_ok nmX1 hown hK hP hD hS 3 rfl rfl 5 (by decide) f_88 (fun _ h9 => h9) rfl (by decide +kernel) rfl rfl (Nat.le_of_ble_eq_true rfl) dX5_setStart_18 (fun H locs hP hD hS => ?_)
  have hP : va_P (dC, dI) vwCl [(sl, .inr (5, [.ref sh, .int (zI lc), .ref ru, .ref tr, .ref se])), zQ cL sh 6 sf, (ru, .inr (2, [.ref rh, .ref rt, va_rf rl, .int (zI rp), .int (zI oc)])), (lv, .inr (1, [.int (zI w), .int (zI h), .ref ka, .ref ta, .int (zI cx), .int (zI cy), .int (zI fx), .int (zI fy), .int (zI lf), .int (zI un)])), zA cI ka 96 K, zQ cT ta 4 tq, (tp 0, .inr (4, [.ref (ti 0), .int (zI (LN 0)), .int (zI (HF 0))])), (tp 1, .inr (4, [.ref (ti 1), .int (zI (LN 1)), .int (zI (HF 1))])), (tp 2, .inr (4, [.ref (ti 2), .int (zI (LN 2)), .int (zI (HF 2))])), (tp 3, .inr (4, [.ref (ti 3), .int (zI (LN 3)), .int (zI (HF 3))]))] H := hP
  have hD : va_D A [(sl, .inr (5, [.ref sh, .int (zI lc), .ref ru, .ref tr, .ref se])), zQ cL sh 6 sf, (ru, .inr (2, [.ref rh, .ref rt, va_rf rl, .int (zI rp), .int (zI oc)])), (lv, .inr (1, [.int (zI w), .int (zI h), .ref ka, .ref ta, .int (zI cx), .int (zI cy), .int (zI fx), .int (zI fy), .int (zI lf), .int (zI un)])), zA cI ka 96 K, zQ cT ta 4 tq, (tp 0, .inr (4, [.ref (ti 0), .int (zI (LN 0)), .int (zI (HF 0))])), (tp 1, .inr (4, [.ref (ti 1), .int (zI (LN 1)), .int (zI (HF 1))])), (tp 2, .inr (4, [.ref (ti 2), .int (zI (LN 2)), .int (zI (HF 2))])), (tp 3, .inr (4, [.ref (ti 3), .int (zI (LN 3)), .int (zI (HF 3))]))] := hD
  refine lv_aload_n hx hb dX5_setStart_21 rfl (lv_at hl 1 rfl) ?_
  refine lv_aload hx hb dX5_setStart_22 (lv_at hl 0 rfl) ?_
  have hPc := hP.sub (ws' := [(sl, .inr (5, [.ref sh, .int (zI lc), .ref ru, .ref tr, .ref se])), (ru, .inr (2, [.ref rh, .ref rt, va_rf rl, .int (zI rp), .int (zI oc)])), (lv, .inr (1, [.int (zI w), .int (zI h), .ref ka, .ref ta, .int (zI cx), .int (zI cy), .int (zI fx), .int (zI fy), .int (zI lf), .int (zI un)])), zQ cT ta 4 tq, (tp 0, .inr (4, [.ref (ti 0), .int (zI (LN 0)), .int (zI (HF 0))])), (tp 1, .inr (4, [.ref (ti 1), .int (zI (LN 1)), .int (zI (HF 1))])), (tp 2, .inr (4, [.ref (ti 2), .int (zI (LN 2)), .int (zI (HF 2))])), (tp 3, .inr (4, [.ref (ti 3), .int (zI (LN 3)), .int (zI (HF 3))]))]) [0, 2, 3, 5, 6, 7, 8, 9] rfl
  have hDc := hD.sub (ws' := [(sl, .inr (5, [.ref sh, .int (zI lc), .ref ru, .ref tr, .ref se])), (ru, .inr (2, [.ref rh, .ref rt, va_rf rl, .int (zI rp), .int (zI oc)])), (lv, .inr (1, [.int (zI w), .int (zI h), .ref ka, .ref ta, .int (zI cx), .int (zI cy), .int (zI fx), .int (zI fy), .int (zI lf), .int (zI un)])), zQ cT ta 4 tq, (tp 0, .inr (4, [.ref (ti 0), .int (zI (LN 0)), .int (zI (HF 0))])), (tp 1, .inr (4, [.ref (ti 1), .int (zI (LN 1)), .int (zI (HF 1))])), (tp 2, .inr (4, [.ref (ti 2), .int (zI (LN 2)), .int (zI (HF 2))])), (tp 3, .inr (4, [.ref (ti 3), .int (zI (LN 3)), .int (zI (HF 3))]))]) [0, 2, 3, 5, 6, 7, 8, 9] (by decide) rfl
  have hFc := va_free (wc := [(sl, .inr (5, [.ref sh, .int (zI lc), .ref ru, .ref tr, .ref se])), (ru, .inr (2, [.ref rh, .ref rt, va_rf rl, .int (zI rp), .int (zI oc)])), (lv, .inr (1, [.int (zI w), .int (zI h), .ref ka, .ref ta, .int (zI cx), .int (zI cy), .int (zI fx), .int (zI fy), .int (zI lf), .int (zI un)])), zQ cT ta 4 tq, (tp 0, .inr (4, [.ref (ti 0), .int (zI (LN 0)), .int (zI (HF 0))])), (tp 1, .inr (4, [.ref (ti 1), .int (zI (LN 1)), .int (zI (HF 1))])), (tp 2, .inr (4, [.ref (ti 2), .int (zI (LN 2)), .int (zI (HF 2))])), (tp 3, .inr (4, [.ref (ti 3), .int (zI (LN 3)), .int (zI (HF 3))]))]) hD hS hA [0, 2, 3, 5, 6, 7, 8, 9] rfl
  refine va_callv (va_runV (As := [.ref lv]) (rest := []) ⟨hx, hb, hml, hown, hts⟩ (c_X5_voidWhatWasFound l dC dI cI cZ cL cT cJ H.size sl sh lc ru tr se rh rt rp oc rl lv w h ka ta cx cy fx fy lf un tq tp ti LN HF (by first | assumption | omega)) (cwV 1 hts gX5_setStart_X5_voidWhatWasFound rfl rfl rfl (by decide +kernel) ⟨Nat.le_of_ble_eq_true rfl, Nat.le_of_ble_eq_true rfl⟩) ⟨zP_blind, va_recv hK hPc (ci := 5) (q0 := 0) rfl rfl, zP_pre hPc hDc hK⟩ rfl rfl hl.1 rfl (lv_room (Nat.le_of_ble_eq_true rfl)) dX5_setStart_24 ⟨Nat.le_of_ble_eq_true rfl, Nat.le_of_ble_eq_true rfl⟩) hS (fun q _ h => hFc q h) hFc (fun u_3 t H1 locs ht hvm hw hB hz1 hk1 hS => ?_)
  obtain ⟨rl1_4, rfl⟩ : ∃ z, z = u_3 := ⟨_, rfl⟩
  obtain ⟨hP1, hK1, hD1⟩ := hB
  rw [ht] at hP1
  have hP1 : va_P (dC, dI) vwCl [(sl, .inr (5, [.ref sh, .int (zI lc), .ref ru, .ref tr, .ref se])), (ru, .inr (2, [.ref rh, .ref rt, va_rf rl1_4, .int (zI rp), .int (zI oc)])), (lv, .inr (1, [.int (zI w), .int (zI h), .ref ka, .ref ta, .int (zI cx), .int (zI cy), .int (zI fx), .int (zI fy), .int (zI (-1)), .int (zI 0)])), zQ cT ta 4 tq, (tp 0, .inr (4, [.ref (ti 0), .int (zI (-1)), .int (zI (-1))])), (tp 1, .inr (4, [.ref (ti 1), .int (zI (-1)), .int (zI (-1))])), (tp 2, .inr (4, [.ref (ti 2), .int (zI (-1)), .int (zI (-1))])), (tp 3, .inr (4, [.ref (ti 3), .int (zI (-1)), .int (zI (-1))]))] H1 := hP1
  obtain ⟨hP, hD⟩ := va_join (wr := [zQ cL sh 6 sf, zA cI ka 96 K]) (w1 := [(sl, .inr (5, [.ref sh, .int (zI lc), .ref ru, .ref tr, .ref se])), (ru, .inr (2, [.ref rh, .ref rt, va_rf rl1_4, .int (zI rp), .int (zI oc)])), (lv, .inr (1, [.int (zI w), .int (zI h), .ref ka, .ref ta, .int (zI cx), .int (zI cy), .int (zI fx), .int (zI fy), .int (zI (-1)), .int (zI 0)])), zQ cT ta 4 tq, (tp 0, .inr (4, [.ref (ti 0), .int (zI (-1)), .int (zI (-1))])), (tp 1, .inr (4, [.ref (ti 1), .int (zI (-1)), .int (zI (-1))])), (tp 2, .inr (4, [.ref (ti 2), .int (zI (-1)), .int (zI (-1))])), (tp 3, .inr (4, [.ref (ti 3), .int (zI (-1)), .int (zI (-1))]))]) hP hD [0, 2, 3, 5, 6, 7, 8, 9] [1, 4] rfl rfl (by decide) (by decide) hk1 hFc hP1 hD1
  clear hP1 hD1 hk1 hFc hPc hDc hz1
  generalize H1 = H at hP hS ⊢
  have hP : va_P (dC, dI) vwCl [(sl, .inr (5, [.ref sh, .int (zI lc), .ref ru, .ref tr, .ref se])), zQ cL sh 6 sf, (ru, .inr (2, [.ref rh, .ref rt, va_rf rl1_4, .int (zI rp), .int (zI oc)])), (lv, .inr (1, [.int (zI w), .int (zI h), .ref ka, .ref ta, .int (zI cx), .int (zI cy), .int (zI fx), .int (zI fy), .int (zI (-1)), .int (zI 0)])), zA cI ka 96 K, zQ cT ta 4 tq, (tp 0, .inr (4, [.ref (ti 0), .int (zI (-1)), .int (zI (-1))])), (tp 1, .inr (4, [.ref (ti 1), .int (zI (-1)), .int (zI (-1))])), (tp 2, .inr (4, [.ref (ti 2), .int (zI (-1)), .int (zI (-1))])), (tp 3, .inr (4, [.ref (ti 3), .int (zI (-1)), .int (zI (-1))]))] H := hP.sub [2, 0, 3, 4, 1, 5, 6, 7, 8, 9] rfl
  have hD : va_D A [(sl, .inr (5, [.ref sh, .int (zI lc), .ref ru, .ref tr, .ref se])), zQ cL sh 6 sf, (ru, .inr (2, [.ref rh, .ref rt, va_rf rl1_4, .int (zI rp), .int (zI oc)])), (lv, .inr (1, [.int (zI w), .int (zI h), .ref ka, .ref ta, .int (zI cx), .int (zI cy), .int (zI fx), .int (zI fy), .int (zI (-1)), .int (zI 0)])), zA cI ka 96 K, zQ cT ta 4 tq, (tp 0, .inr (4, [.ref (ti 0), .int (zI (-1)), .int (zI (-1))])), (tp 1, .inr (4, [.ref (ti 1), .int (zI (-1)), .int (zI (-1))])), (tp 2, .inr (4, [.ref (ti 2), .int (zI (-1)), .int (zI (-1))])), (tp 3, .inr (4, [.ref (ti 3), .int (zI (-1)), .int (zI (-1))]))] := hD.sub [2, 0, 3, 4, 1, 5, 6, 7, 8, 9] (by decide) rfl
  clear hK1 hvm
  have po_5 : rl1_4 = (if rl = some lv then none else rl) := hw
  refine W.eq (g2 := F0 m 27 ls []) rfl ?_
  have hP9 := hP.sub (ws' := [(sl, .inr (5, [.ref sh, .int (zI lc), .ref ru, .ref tr, .ref se])), zQ cL sh 6 sf, (ru, .inr (2, [.ref rh, .ref rt, va_rf rl1_4, .int (zI rp), .int (zI oc)])), (lv, .inr (1, [.int (zI w), .int (zI h), .ref ka, .ref ta, .int (zI cx), .int (zI cy), .int (zI fx), .int (zI fy), .int (zI (-1)), .int (zI 0)])), zA cI ka 96 K, zQ cT ta 4 tq, (tp 0, .inr (4, [.ref (ti 0), .int (zI (-1)), .int (zI (-1))])), (tp 1, .inr (4, [.ref (ti 1), .int (zI (-1)), .int (zI (-1))])), (tp 2, .inr (4, [.ref (ti 2), .int (zI (-1)), .int (zI (-1))])), (tp 3, .inr (4, [.ref (ti 3), .int (zI (-1)), .int (zI (-1))]))]) [0, 1, 2, 3, 4, 5, 6, 7, 8, 9] rfl
  have hD9 := hD.sub (ws' := [(sl, .inr (5, [.ref sh, .int (zI lc), .ref ru, .ref tr, .ref se])), zQ cL sh 6 sf, (ru, .inr (2, [.ref rh, .ref rt, va_rf rl1_4, .int (zI rp), .int (zI oc)])), (lv, .inr (1, [.int (zI w), .int (zI h), .ref ka, .ref ta, .int (zI cx), .int (zI cy), .int (zI fx), .int (zI fy), .int (zI (-1)), .int (zI 0)])), zA cI ka 96 K, zQ cT ta 4 tq, (tp 0, .inr (4, [.ref (ti 0), .int (zI (-1)), .int (zI (-1))])), (tp 1, .inr (4, [.ref (ti 1), .int (zI (-1)), .int (zI (-1))])), (tp 2, .inr (4, [.ref (ti 2), .int (zI (-1)), .int (zI (-1))])), (tp 3, .inr (4, [.ref (ti 3), .int (zI (-1)), .int (zI (-1))]))]) [0, 1, 2, 3, 4, 5, 6, 7, 8, 9] (by decide) rfl
  have po : (rl1_4 = (if rl = some lv then none else rl)) := by
    exact po_5
  exact W.vret hx hb hr (fun t ht hW => ⟨⟨rl1_4, rfl, po, by rw [ht]; exact hP9, va_K.moved hW.alike hK, hD9⟩, hS.F ht⟩) hS.2.2 dX5_setStart_27
set_option maxHeartbeats 4000000 in
set_option maxRecDepth 100000 in
theorem c_X5_setFlag (l : Launch) (dC : Nat → ClassId) (dI : Nat → Nat → Nat) (cI cZ cL cT cJ : ClassId) (sz : Nat) (sl : Nat) (sh : Nat) (lc : Int) (ru : Nat) (tr : Nat) (se : Nat) (sf : Nat → Option Nat) (L : Int) (k : Nat) (rh : Nat) (rt : Nat) (rp : Int) (oc : Int) (rl : Option Nat) (lv : Nat) (w : Int) (h : Int) (ka : Nat) (ta : Nat) (sx : Int) (sy : Int) (fx : Int) (fy : Int) (lf : Int) (un : Int) (K : Int → Int) (tq : Nat → Option Nat) (tp : Nat → Nat) (ti : Nat → Nat) (LN : Nat → Int) (HF : Nat → Int) (cx : Int) (cy : Int) (gk : L = (k : Int) ∧ k < 6) (gf : sf k = some lv) (gw : 0 < w ∧ w ≤ 12) (gh : 0 < h ∧ h ≤ 8) (gK : Kin K) (gx : 0 ≤ cx ∧ cx < w) (gy : 0 ≤ cy ∧ cy < h) (gb : ¬ kd K w h cx cy = 1) (gt : ∀ k, k < 4 → tq k = some (tp k)) : Met l yX5_setFlag wsX5_setFlag ({ frames := 3, cells := 0, slots := 0, locals := 71 }) (zP (dC, dI) (zT cI cZ cL cT cJ) sz [.ref sl, .int (zI L), .int (zI cx), .int (zI cy)] [(sl, .inr (5, [.ref sh, .int (zI lc), .ref ru, .ref tr, .ref se])), zQ cL sh 6 sf, (ru, .inr (2, [.ref rh, .ref rt, va_rf rl, .int (zI rp), .int (zI oc)])), (lv, .inr (1, [.int (zI w), .int (zI h), .ref ka, .ref ta, .int (zI sx), .int (zI sy), .int (zI fx), .int (zI fy), .int (zI lf), .int (zI un)])), zA cI ka 96 K, zQ cT ta 4 tq, (tp 0, .inr (4, [.ref (ti 0), .int (zI (LN 0)), .int (zI (HF 0))])), (tp 1, .inr (4, [.ref (ti 1), .int (zI (LN 1)), .int (zI (HF 1))])), (tp 2, .inr (4, [.ref (ti 2), .int (zI (LN 2)), .int (zI (HF 2))])), (tp 3, .inr (4, [.ref (ti 3), .int (zI (LN 3)), .int (zI (HF 3))]))]) (va_Qv (fun (u9 : (Option Nat)) => match u9 with | rl1 => (rl1 = (if rl = some lv then none else rl))) (zB (dC, dI) (zT cI cZ cL cT cJ) (va_A [(sl, .inr (5, [.ref sh, .int (zI lc), .ref ru, .ref tr, .ref se])), zQ cL sh 6 sf, (ru, .inr (2, [.ref rh, .ref rt, va_rf rl, .int (zI rp), .int (zI oc)])), (lv, .inr (1, [.int (zI w), .int (zI h), .ref ka, .ref ta, .int (zI sx), .int (zI sy), .int (zI fx), .int (zI fy), .int (zI lf), .int (zI un)])), zA cI ka 96 K, zQ cT ta 4 tq, (tp 0, .inr (4, [.ref (ti 0), .int (zI (LN 0)), .int (zI (HF 0))])), (tp 1, .inr (4, [.ref (ti 1), .int (zI (LN 1)), .int (zI (HF 1))])), (tp 2, .inr (4, [.ref (ti 2), .int (zI (LN 2)), .int (zI (HF 2))])), (tp 3, .inr (4, [.ref (ti 3), .int (zI (LN 3)), .int (zI (HF 3))]))] sz) (fun (u9 : (Option Nat)) => match u9 with | rl1 => [(sl, .inr (5, [.ref sh, .int (zI lc), .ref ru, .ref tr, .ref se])), zQ cL sh 6 sf, (ru, .inr (2, [.ref rh, .ref rt, va_rf rl1, .int (zI rp), .int (zI oc)])), (lv, .inr (1, [.int (zI w), .int (zI h), .ref ka, .ref ta, .int (zI sx), .int (zI sy), .int (zI cx), .int (zI cy), .int (zI (-1)), .int (zI 0)])), zA cI ka 96 K, zQ cT ta 4 tq, (tp 0, .inr (4, [.ref (ti 0), .int (zI (-1)), .int (zI (-1))])), (tp 1, .inr (4, [.ref (ti 1), .int (zI (-1)), .int (zI (-1))])), (tp 2, .inr (4, [.ref (ti 2), .int (zI (-1)), .int (zI (-1))])), (tp 3, .inr (4, [.ref (ti 3), .int (zI (-1)), .int (zI (-1))]))])) (va_A [(sl, .inr (5, [.ref sh, .int (zI lc), .ref ru, .ref tr, .ref se])), zQ cL sh 6 sf, (ru, .inr (2, [.ref rh, .ref rt, va_rf rl, .int (zI rp), .int (zI oc)])), (lv, .inr (1, [.int (zI w), .int (zI h), .ref ka, .ref ta, .int (zI sx), .int (zI sy), .int (zI fx), .int (zI fy), .int (zI lf), .int (zI un)])), zA cI ka 96 K, zQ cT ta 4 tq, (tp 0, .inr (4, [.ref (ti 0), .int (zI (LN 0)), .int (zI (HF 0))])), (tp 1, .inr (4, [.ref (ti 1), .int (zI (LN 1)), .int (zI (HF 1))])), (tp 2, .inr (4, [.ref (ti 2), .int (zI (LN 2)), .int (zI (HF 2))])), (tp 3, .inr (4, [.ref (ti 3), .int (zI (LN 3)), .int (zI (HF 3))]))] sz)) 0 0 (va_A [(sl, .inr (5, [.ref sh, .int (zI lc), .ref ru, .ref tr, .ref se])), zQ cL sh 6 sf, (ru, .inr (2, [.ref rh, .ref rt, va_rf rl, .int (zI rp), .int (zI oc)])), (lv, .inr (1, [.int (zI w), .int (zI h), .ref ka, .ref ta, .int (zI sx), .int (zI sy), .int (zI fx), .int (zI fy), .int (zI lf), .int (zI un)])), zA cI ka 96 K, zQ cT ta 4 tq, (tp 0, .inr (4, [.ref (ti 0), .int (zI (LN 0)), .int (zI (HF 0))])), (tp 1, .inr (4, [.ref (ti 1), .int (zI (LN 1)), .int (zI (HF 1))])), (tp 2, .inr (4, [.ref (ti 2), .int (zI (LN 2)), .int (zI (HF 2))])), (tp 3, .inr (4, [.ref (ti 3), .int (zI (LN 3)), .int (zI (HF 3))]))] sz) := by
  refine Met.ofW (cc := cX5_setFlag) (maxL := 5) (ret := none) (by decide) rfl ?_
  intro p e s m args below meth c s₁ B hml hv
  obtain ⟨rfl, hsz, hP, hK, hD0⟩ := hv
  have hx := B.exec
  have hb := B.bytes
  have hr := B.returns
  have hts := atoms_spec (ws := wsX5_setFlag) B.pre
  have hown : s.vm.findClass RX5 = some m.cls := findClass_of_methodNamed B.named
  have hlocks := B.notSynchronized
  subst hsz
  have hD := hD0.self (sz := s.heap.size)
  generalize hAe : va_A [(sl, .inr (5, [.ref sh, .int (zI lc), .ref ru, .ref tr, .ref se])), zQ cL sh 6 sf, (ru, .inr (2, [.ref rh, .ref rt, va_rf rl, .int (zI rp), .int (zI oc)])), (lv, .inr (1, [.int (zI w), .int (zI h), .ref ka, .ref ta, .int (zI sx), .int (zI sy), .int (zI fx), .int (zI fy), .int (zI lf), .int (zI un)])), zA cI ka 96 K, zQ cT ta 4 tq, (tp 0, .inr (4, [.ref (ti 0), .int (zI (LN 0)), .int (zI (HF 0))])), (tp 1, .inr (4, [.ref (ti 1), .int (zI (LN 1)), .int (zI (HF 1))])), (tp 2, .inr (4, [.ref (ti 2), .int (zI (LN 2)), .int (zI (HF 2))])), (tp 3, .inr (4, [.ref (ti 3), .int (zI (LN 3)), .int (zI (HF 3))]))] s.heap.size = A at hD ⊢
  have hA : ∀ q : Nat, s.heap.size ≤ q → A q := fun q h => by rw [← hAe]; exact Or.inr h
  clear hAe hD0
  have hS : va_S A s.heap s.heap [] := va_S.rf
  have hP : va_P (dC, dI) vwCl [(sl, .inr (5, [.ref sh, .int (zI lc), .ref ru, .ref tr, .ref se])), zQ cL sh 6 sf, (ru, .inr (2, [.ref rh, .ref rt, va_rf rl, .int (zI rp), .int (zI oc)])), (lv, .inr (1, [.int (zI w), .int (zI h), .ref ka, .ref ta, .int (zI sx), .int (zI sy), .int (zI fx), .int (zI fy), .int (zI lf), .int (zI un)])), zA cI ka 96 K, zQ cT ta 4 tq, (tp 0, .inr (4, [.ref (ti 0), .int (zI (LN 0)), .int (zI (HF 0))])), (tp 1, .inr (4, [.ref (ti 1), .int (zI (LN 1)), .int (zI (HF 1))])), (tp 2, .inr (4, [.ref (ti 2), .int (zI (LN 2)), .int (zI (HF 2))])), (tp 3, .inr (4, [.ref (ti 3), .int (zI (LN 3)), .int (zI (HF 3))]))] s.heap := hP
  have f_91 := hts (.fieldLink RX5 91 "SpringLevels$Level" "flagX" "I") (by decide +kernel)
  have f_94 := hts (.fieldLink RX5 94 "SpringLevels$Level" "flagY" "I") (by decide +kernel)
  have i_1 : ∀ w ∈ wsX10, w ∈ wsX5_setFlag := by decide +kernel
  have hl := lv_entry ([.ref sl, .int (zI L), .int (zI cx), .int (zI cy)]) (n := 5) (Nat.le_of_ble_eq_true rfl)
  rw [lg_entry_eq]
  generalize (lg_sl ([.ref sl, .int (zI L), .int (zI cx), .int (zI cy)]) ++ List.replicate (5 - (lg_sl ([.ref sl, .int (zI L), .int (zI cx), .int (zI cy)])).length) Slot.unset).toArray = ls at hl ⊢
  have hl : lv_has ls 5 [(0, .ref sl), (1, .int (zI L)), (2, .int (zI cx)), (3, .int (zI cy))] := hl
  refine lv_aload_n hx hb dX5_setFlag_0 rfl (lv_at hl 0 rfl) ?_
  refine lv_iload_n hx hb dX5_setFlag_1 rfl (lv_at hl 1 rfl) ?_
  refine lv_iload_n hx hb dX5_setFlag_2 rfl (lv_at hl 2 rfl) ?_
  refine lv_iload_n hx hb dX5_setFlag_3 rfl (lv_at hl 3 rfl) ?_
  have hPc := hP.sub (ws' := [(sl, .inr (5, [.ref sh, .int (zI lc), .ref ru, .ref tr, .ref se])), zQ cL sh 6 sf, (lv, .inr (1, [.int (zI w), .int (zI h), .ref ka, .ref ta, .int (zI sx), .int (zI sy), .int (zI fx), .int (zI fy), .int (zI lf), .int (zI un)])), zA cI ka 96 K]) [0, 1, 3, 4] rfl
  have hDc := hD.sub (ws' := [(sl, .inr (5, [.ref sh, .int (zI lc), .ref ru, .ref tr, .ref se])), zQ cL sh 6 sf, (lv, .inr (1, [.int (zI w), .int (zI h), .ref ka, .ref ta, .int (zI sx), .int (zI sy), .int (zI fx), .int (zI fy), .int (zI lf), .int (zI un)])), zA cI ka 96 K]) [0, 1, 3, 4] (by decide) rfl
  have hFc := va_free (wc := [(sl, .inr (5, [.ref sh, .int (zI lc), .ref ru, .ref tr, .ref se])), zQ cL sh 6 sf, (lv, .inr (1, [.int (zI w), .int (zI h), .ref ka, .ref ta, .int (zI sx), .int (zI sy), .int (zI fx), .int (zI fy), .int (zI lf), .int (zI un)])), zA cI ka 96 K]) hD hS hA [0, 1, 3, 4] rfl
  refine va_callq (va_runV (As := [.int (zI L), .int (zI cx), .int (zI cy)]) (rest := []) ⟨hx, hb, hml, hown, hts⟩ (c_X5_levelWithoutBlockAt l dC dI cI cZ cL cT cJ s.heap.size sl sh lc ru tr se sf L k lv w h ka ta sx sy fx fy lf un K cx cy (by first | assumption | omega) (by first | assumption | omega) (by first | assumption | omega) (by first | assumption | omega) (by first | assumption | omega) (by first | assumption | omega) (by first | assumption | omega) (by first | assumption | omega)) (cwV 3 hts gX5_setFlag_X5_levelWithoutBlockAt rfl rfl rfl (by decide +kernel) ⟨Nat.le_of_ble_eq_true rfl, Nat.le_of_ble_eq_true rfl⟩) ⟨zP_blind, va_recv hK hPc (ci := 5) (q0 := 0) rfl rfl, zP_pre hPc hDc hK⟩ rfl rfl hl.1 rfl (lv_room (Nat.le_of_ble_eq_true rfl)) dX5_setFlag_4 ⟨Nat.le_of_ble_eq_true rfl, Nat.le_of_ble_eq_true rfl⟩) hS (fun q _ h => hFc q h) hFc (fun r_1 u_1 t H1 locs ht hvm hw hB hz1 hk1 hS => ?_)
  obtain ⟨hP1, hK1, hD1⟩ := hB
  rw [ht] at hP1
  have hP1 : va_P (dC, dI) vwCl [(sl, .inr (5, [.ref sh, .int (zI lc), .ref ru, .ref tr, .ref se])), zQ cL sh 6 sf, (lv, .inr (1, [.int (zI w), .int (zI h), .ref ka, .ref ta, .int (zI sx), .int (zI sy), .int (zI fx), .int (zI fy), .int (zI lf), .int (zI un)])), zA cI ka 96 K] H1 := hP1
  obtain ⟨hP, hD⟩ := va_join (wr := [(ru, .inr (2, [.ref rh, .ref rt, va_rf rl, .int (zI rp), .int (zI oc)])), zQ cT ta 4 tq, (tp 0, .inr (4, [.ref (ti 0), .int (zI (LN 0)), .int (zI (HF 0))])), (tp 1, .inr (4, [.ref (ti 1), .int (zI (LN 1)), .int (zI (HF 1))])), (tp 2, .inr (4, [.ref (ti 2), .int (zI (LN 2)), .int (zI (HF 2))])), (tp 3, .inr (4, [.ref (ti 3), .int (zI (LN 3)), .int (zI (HF 3))]))]) (w1 := [(sl, .inr (5, [.ref sh, .int (zI lc), .ref ru, .ref tr, .ref se])), zQ cL sh 6 sf, (lv, .inr (1, [.int (zI w), .int (zI h), .ref ka, .ref ta, .int (zI sx), .int (zI sy), .int (zI fx), .int (zI fy), .int (zI lf), .int (zI un)])), zA cI ka 96 K]) hP hD [0, 1, 3, 4] [2, 5, 6, 7, 8, 9] rfl rfl (by decide) (by decide) hk1 hFc hP1 hD1
  clear hP1 hD1 hk1 hFc hPc hDc hz1
  generalize H1 = H at hP hS ⊢
  have hP : va_P (dC, dI) vwCl [(sl, .inr (5, [.ref sh, .int (zI lc), .ref ru, .ref tr, .ref se])), zQ cL sh 6 sf, (ru, .inr (2, [.ref rh, .ref rt, va_rf rl, .int (zI rp), .int (zI oc)])), (lv, .inr (1, [.int (zI w), .int (zI h), .ref ka, .ref ta, .int (zI sx), .int (zI sy), .int (zI fx), .int (zI fy), .int (zI lf), .int (zI un)])), zA cI ka 96 K, zQ cT ta 4 tq, (tp 0, .inr (4, [.ref (ti 0), .int (zI (LN 0)), .int (zI (HF 0))])), (tp 1, .inr (4, [.ref (ti 1), .int (zI (LN 1)), .int (zI (HF 1))])), (tp 2, .inr (4, [.ref (ti 2), .int (zI (LN 2)), .int (zI (HF 2))])), (tp 3, .inr (4, [.ref (ti 3), .int (zI (LN 3)), .int (zI (HF 3))]))] H := hP.sub [6, 7, 0, 8, 9, 1, 2, 3, 4, 5] rfl
  have hD : va_D A [(sl, .inr (5, [.ref sh, .int (zI lc), .ref ru, .ref tr, .ref se])), zQ cL sh 6 sf, (ru, .inr (2, [.ref rh, .ref rt, va_rf rl, .int (zI rp), .int (zI oc)])), (lv, .inr (1, [.int (zI w), .int (zI h), .ref ka, .ref ta, .int (zI sx), .int (zI sy), .int (zI fx), .int (zI fy), .int (zI lf), .int (zI un)])), zA cI ka 96 K, zQ cT ta 4 tq, (tp 0, .inr (4, [.ref (ti 0), .int (zI (LN 0)), .int (zI (HF 0))])), (tp 1, .inr (4, [.ref (ti 1), .int (zI (LN 1)), .int (zI (HF 1))])), (tp 2, .inr (4, [.ref (ti 2), .int (zI (LN 2)), .int (zI (HF 2))])), (tp 3, .inr (4, [.ref (ti 3), .int (zI (LN 3)), .int (zI (HF 3))]))] := hD.sub [6, 7, 0, 8, 9, 1, 2, 3, 4, 5] (by decide) rfl
  clear hK1 hvm
  obtain ⟨rfl, po_2⟩ := hw
  refine W.eq (g2 := F0 m 7 ls [.ref lv]) rfl ?_
  refine lv_astore (lv' := [(4, .ref lv), (0, .ref sl), (1, .int (zI L)), (2, .int (zI cx)), (3, .int (zI cy))]) hx hb dX5_setFlag_7 hl (by decide) rfl (fun ls hl => ?_)
  refine lv_aload hx hb dX5_setFlag_9 (lv_at hl 0 rfl) ?_
  refine lv_iload_n hx hb dX5_setFlag_11 rfl (lv_at hl 3 rfl) ?_
  refine va_put (D := (dC, dI)) (ci := 1) (v := .int (zI cx)) (ty := .int) (C := RX1) (T := TX1) (N := 10) hx hb hts i_1 tyX1 tyX1_ok nmX1 hown hK hP hD hS 3 rfl rfl 6 (by decide) f_91 (fun _ h9 => h9) rfl (by decide +kernel) rfl rfl (Nat.le_of_ble_eq_true rfl) dX5_setFlag_12 (fun H locs hP hD hS => ?_)
  have hP : va_P (dC, dI) vwCl [(sl, .inr (5, [.ref sh, .int (zI lc), .ref ru, .ref tr, .ref se])), zQ cL sh 6 sf, (ru, .inr (2, [.ref rh, .ref rt, va_rf rl, .int (zI rp), .int (zI oc)])), (lv, .inr (1, [.int (zI w), .int (zI h), .ref ka, .ref ta, .int (zI sx), .int (zI sy), .int (zI cx), .int (zI fy), .int (zI lf), .int (zI un)])), zA cI ka 96 K, zQ cT ta 4 tq, (tp 0, .inr (4, [.ref (ti 0), .int (zI (LN 0)), .int (zI (HF 0))])), (tp 1, .inr (4, [.ref (ti 1), .int (zI (LN 1)), .int (zI (HF 1))])), (tp 2, .inr (4, [.ref (ti 2), .int (zI (LN 2)), .int (zI (HF 2))])), (tp 3, .inr (4, [.ref (ti 3), .int (zI (LN 3)), .int (zI (HF 3))]))] H := hP
  have hD : va_D A [(sl, .inr (5, [.ref sh, .int (zI lc), .ref ru, .ref tr, .ref se])), zQ cL sh 6 sf, (ru, .inr (2, [.ref rh, .ref rt, va_rf rl, .int (zI rp), .int (zI oc)])), (lv, .inr (1, [.int (zI w), .int (zI h), .ref ka, .ref ta, .int (zI sx), .int (zI sy), .int (zI cx), .int (zI fy), .int (zI lf), .int (zI un)])), zA cI ka 96 K, zQ cT ta 4 tq, (tp 0, .inr (4, [.ref (ti 0), .int (zI (LN 0)), .int (zI (HF 0))])), (tp 1, .inr (4, [.ref (ti 1), .int (zI (LN 1)), .int (zI (HF 1))])), (tp 2, .inr (4, [.ref (ti 2), .int (zI (LN 2)), .int (zI (HF 2))])), (tp 3, .inr (4, [.ref (ti 3), .int (zI (LN 3)), .int (zI (HF 3))]))] := hD
  refine lv_aload hx hb dX5_setFlag_15 (lv_at hl 0 rfl) ?_
  refine lv_iload_n hx hb dX5_setFlag_17 rfl (lv_at hl 4 rfl) ?_
  refine va_put (D := (dC, dI)) (ci := 1) (v := .int (zI cy)) (ty := .int) (C := RX1) (T := TX1) (N := 10) hx hb hts i_1 tyX1 tyX1_ok nmX1 hown hK hP hD hS 3 rfl rfl 7 (by decide) f_94 (fun _ h9 => h9) rfl (by decide +kernel) rfl rfl (Nat.le_of_ble_eq_true rfl) dX5_setFlag_18 (fun H locs hP hD hS => ?_)
  have hP : va_P (dC, dI) vwCl [(sl, .inr (5, [.ref sh, .int (zI lc), .ref ru, .ref tr, .ref se])), zQ cL sh 6 sf, (ru, .inr (2, [.ref rh, .ref rt, va_rf rl, .int (zI rp), .int (zI oc)])), (lv, .inr (1, [.int (zI w), .int (zI h), .ref ka, .ref ta, .int (zI sx), .int (zI sy), .int (zI cx), .int (zI cy), .int (zI lf), .int (zI un)])), zA cI ka 96 K, zQ cT ta 4 tq, (tp 0, .inr (4, [.ref (ti 0), .int (zI (LN 0)), .int (zI (HF 0))])), (tp 1, .inr (4, [.ref (ti 1), .int (zI (LN 1)), .int (zI (HF 1))])), (tp 2, .inr (4, [.ref (ti 2), .int (zI (LN 2)), .int (zI (HF 2))])), (tp 3, .inr (4, [.ref (ti 3), .int (zI (LN 3)), .int (zI (HF 3))]))] H := hP
  have hD : va_D A [(sl, .inr (5, [.ref sh, .int (zI lc), .ref ru, .ref tr, .ref se])), zQ cL sh 6 sf, (ru, .inr (2, [.ref rh, .ref rt, va_rf rl, .int (zI rp), .int (zI oc)])), (lv, .inr (1, [.int (zI w), .int (zI h), .ref ka, .ref ta, .int (zI sx), .int (zI sy), .int (zI cx), .int (zI cy), .int (zI lf), .int (zI un)])), zA cI ka 96 K, zQ cT ta 4 tq, (tp 0, .inr (4, [.ref (ti 0), .int (zI (LN 0)), .int (zI (HF 0))])), (tp 1, .inr (4, [.ref (ti 1), .int (zI (LN 1)), .int (zI (HF 1))])), (tp 2, .inr (4, [.ref (ti 2), .int (zI (LN 2)), .int (zI (HF 2))])), (tp 3, .inr (4, [.ref (ti 3), .int (zI (LN 3)), .int (zI (HF 3))]))] := hD
  refine lv_aload_n hx hb dX5_setFlag_21 rfl (lv_at hl 1 rfl) ?_
  refine lv_aload hx hb dX5_setFlag_22 (lv_at hl 0 rfl) ?_
  have hPc := hP.sub (ws' := [(sl, .inr (5, [.ref sh, .int (zI lc), .ref ru, .ref tr, .ref se])), (ru, .inr (2, [.ref rh, .ref rt, va_rf rl, .int (zI rp), .int (zI oc)])), (lv, .inr (1, [.int (zI w), .int (zI h), .ref ka, .ref ta, .int (zI sx), .int (zI sy), .int (zI cx), .int (zI cy), .int (zI lf), .int (zI un)])), zQ cT ta 4 tq, (tp 0, .inr (4, [.ref (ti 0), .int (zI (LN 0)), .int (zI (HF 0))])), (tp 1, .inr (4, [.ref (ti 1), .int (zI (LN 1)), .int (zI (HF 1))])), (tp 2, .inr (4, [.ref (ti 2), .int (zI (LN 2)), .int (zI (HF 2))])), (tp 3, .inr (4, [.ref (ti 3), .int (zI (LN 3)), .int (zI (HF 3))]))]) [0, 2, 3, 5, 6, 7, 8, 9] rfl
  have hDc := hD.sub (ws' := [(sl, .inr (5, [.ref sh, .int (zI lc), .ref ru, .ref tr, .ref se])), (ru, .inr (2, [.ref rh, .ref rt, va_rf rl, .int (zI rp), .int (zI oc)])), (lv, .inr (1, [.int (zI w), .int (zI h), .ref ka, .ref ta, .int (zI sx), .int (zI sy), .int (zI cx), .int (zI cy), .int (zI lf), .int (zI un)])), zQ cT ta 4 tq, (tp 0, .inr (4, [.ref (ti 0), .int (zI (LN 0)), .int (zI (HF 0))])), (tp 1, .inr (4, [.ref (ti 1), .int (zI (LN 1)), .int (zI (HF 1))])), (tp 2, .inr (4, [.ref (ti 2), .int (zI (LN 2)), .int (zI (HF 2))])), (tp 3, .inr (4, [.ref (ti 3), .int (zI (LN 3)), .int (zI (HF 3))]))]) [0, 2, 3, 5, 6, 7, 8, 9] (by decide) rfl
  have hFc := va_free (wc := [(sl, .inr (5, [.ref sh, .int (zI lc), .ref ru, .ref tr, .ref se])), (ru, .inr (2, [.ref rh, .ref rt, va_rf rl, .int (zI rp), .int (zI oc)])), (lv, .inr (1, [.int (zI w), .int (zI h), .ref ka, .ref ta, .int (zI sx), .int (zI sy), .int (zI cx), .int (zI cy), .int (zI lf), .int (zI un)])), zQ cT ta 4 tq, (tp 0, .inr (4, [.ref (ti 0), .int (zI (LN 0)), .int (zI (HF 0))])), (tp 1, .inr (4, [.ref (ti 1), .int (zI (LN 1)), .int (zI (HF 1))])), (tp 2, .inr (4, [.ref (ti 2), .int (zI (LN 2)), .int (zI (HF 2))])), (tp 3, .inr (4, [.ref (ti 3), .int (zI (LN 3)), .int (zI (HF 3))]))]) hD hS hA [0, 2, 3, 5, 6, 7, 8, 9] rfl
  refine va_callv (va_runV (As := [.ref lv]) (rest := []) ⟨hx, hb, hml, hown, hts⟩ (c_X5_voidWhatWasFound l dC dI cI cZ cL cT cJ H.size sl sh lc ru tr se rh rt rp oc rl lv w h ka ta sx sy cx cy lf un tq tp ti LN HF (by first | assumption | omega)) (cwV 1 hts gX5_setFlag_X5_voidWhatWasFound rfl rfl rfl (by decide +kernel) ⟨Nat.le_of_ble_eq_true rfl, Nat.le_of_ble_eq_true rfl⟩) ⟨zP_blind, va_recv hK hPc (ci := 5) (q0 := 0) rfl rfl, zP_pre hPc hDc hK⟩ rfl rfl hl.1 rfl (lv_room (Nat.le_of_ble_eq_true rfl)) dX5_setFlag_24 ⟨Nat.le_of_ble_eq_true rfl, Nat.le_of_ble_eq_true rfl⟩) hS (fun q _ h => hFc q h) hFc (fun u_3 t H1 locs ht hvm hw hB hz1 hk1 hS => ?_)
  obtain ⟨rl1_4, rfl⟩ : ∃ z, z = u_3 := ⟨_, rfl⟩
  obtain ⟨hP1, hK1, hD1⟩ := hB
  rw [ht] at hP1
  have hP1 : va_P (dC, dI) vwCl [(sl, .inr (5, [.ref sh, .int (zI lc), .ref ru, .ref tr, .ref se])), (ru, .inr (2, [.ref rh, .ref rt, va_rf rl1_4, .int (zI rp), .int (zI oc)])), (lv, .inr (1, [.int (zI w), .int (zI h), .ref ka, .ref ta, .int (zI sx), .int (zI sy), .int (zI cx), .int (zI cy), .int (zI (-1)), .int (zI 0)])), zQ cT ta 4 tq, (tp 0, .inr (4, [.ref (ti 0), .int (zI (-1)), .int (zI (-1))])), (tp 1, .inr (4, [.ref (ti 1), .int (zI (-1)), .int (zI (-1))])), (tp 2, .inr (4, [.ref (ti 2), .int (zI (-1)), .int (zI (-1))])), (tp 3, .inr (4, [.ref (ti 3), .int (zI (-1)), .int (zI (-1))]))] H1 := hP1
  obtain ⟨hP, hD⟩ := va_join (wr := [zQ cL sh 6 sf, zA cI ka 96 K]) (w1 := [(sl, .inr (5, [.ref sh, .int (zI lc), .ref ru, .ref tr, .ref se])), (ru, .inr (2, [.ref rh, .ref rt, va_rf rl1_4, .int (zI rp), .int (zI oc)])), (lv, .inr (1, [.int (zI w), .int (zI h), .ref ka, .ref ta, .int (zI sx), .int (zI sy), .int (zI cx), .int (zI cy), .int (zI (-1)), .int (zI 0)])), zQ cT ta 4 tq, (tp 0, .inr (4, [.ref (ti 0), .int (zI (-1)), .int (zI (-1))])), (tp 1, .inr (4, [.ref (ti 1), .int (zI (-1)), .int (zI (-1))])), (tp 2, .inr (4, [.ref (ti 2), .int (zI (-1)), .int (zI (-1))])), (tp 3, .inr (4, [.ref (ti 3), .int (zI (-1)), .int (zI (-1))]))]) hP hD [0, 2, 3, 5, 6, 7, 8, 9] [1, 4] rfl rfl (by decide) (by decide) hk1 hFc hP1 hD1
  clear hP1 hD1 hk1 hFc hPc hDc hz1
  generalize H1 = H at hP hS ⊢
  have hP : va_P (dC, dI) vwCl [(sl, .inr (5, [.ref sh, .int (zI lc), .ref ru, .ref tr, .ref se])), zQ cL sh 6 sf, (ru, .inr (2, [.ref rh, .ref rt, va_rf rl1_4, .int (zI rp), .int (zI oc)])), (lv, .inr (1, [.int (zI w), .int (zI h), .ref ka, .ref ta, .int (zI sx), .int (zI sy), .int (zI cx), .int (zI cy), .int (zI (-1)), .int (zI 0)])), zA cI ka 96 K, zQ cT ta 4 tq, (tp 0, .inr (4, [.ref (ti 0), .int (zI (-1)), .int (zI (-1))])), (tp 1, .inr (4, [.ref (ti 1), .int (zI (-1)), .int (zI (-1))])), (tp 2, .inr (4, [.ref (ti 2), .int (zI (-1)), .int (zI (-1))])), (tp 3, .inr (4, [.ref (ti 3), .int (zI (-1)), .int (zI (-1))]))] H := hP.sub [2, 0, 3, 4, 1, 5, 6, 7, 8, 9] rfl
  have hD : va_D A [(sl, .inr (5, [.ref sh, .int (zI lc), .ref ru, .ref tr, .ref se])), zQ cL sh 6 sf, (ru, .inr (2, [.ref rh, .ref rt, va_rf rl1_4, .int (zI rp), .int (zI oc)])), (lv, .inr (1, [.int (zI w), .int (zI h), .ref ka, .ref ta, .int (zI sx), .int (zI sy), .int (zI cx), .int (zI cy), .int (zI (-1)), .int (zI 0)])), zA cI ka 96 K, zQ cT ta 4 tq, (tp 0, .inr (4, [.ref (ti 0), .int (zI (-1)), .int (zI (-1))])), (tp 1, .inr (4, [.ref (ti 1), .int (zI (-1)), .int (zI (-1))])), (tp 2, .inr (4, [.ref (ti 2), .int (zI (-1)), .int (zI (-1))])), (tp 3, .inr (4, [.ref (ti 3), .int (zI (-1)), .int (zI (-1))]))] := hD.sub [2, 0, 3, 4, 1, 5, 6, 7, 8, 9] (by decide) rfl
  clear hK1 hvm
  have po_5 : rl1_4 = (if rl = some lv then none else rl) := hw
  refine W.eq (g2 := F0 m 27 ls []) rfl ?_
  have hP9 := hP.sub (ws' := [(sl, .inr (5, [.ref sh, .int (zI lc), .ref ru, .ref tr, .ref se])), zQ cL sh 6 sf, (ru, .inr (2, [.ref rh, .ref rt, va_rf rl1_4, .int (zI rp), .int (zI oc)])), (lv, .inr (1, [.int (zI w), .int (zI h), .ref ka, .ref ta, .int (zI sx), .int (zI sy), .int (zI cx), .int (zI cy), .int (zI (-1)), .int (zI 0)])), zA cI ka 96 K, zQ cT ta 4 tq, (tp 0, .inr (4, [.ref (ti 0), .int (zI (-1)), .int (zI (-1))])), (tp 1, .inr (4, [.ref (ti 1), .int (zI (-1)), .int (zI (-1))])), (tp 2, .inr (4, [.ref (ti 2), .int (zI (-1)), .int (zI (-1))])), (tp 3, .inr (4, [.ref (ti 3), .int (zI (-1)), .int (zI (-1))]))]) [0, 1, 2, 3, 4, 5, 6, 7, 8, 9] rfl
  have hD9 := hD.sub (ws' := [(sl, .inr (5, [.ref sh, .int (zI lc), .ref ru, .ref tr, .ref se])), zQ cL sh 6 sf, (ru, .inr (2, [.ref rh, .ref rt, va_rf rl1_4, .int (zI rp), .int (zI oc)])), (lv, .inr (1, [.int (zI w), .int (zI h), .ref ka, .ref ta, .int (zI sx), .int (zI sy), .int (zI cx), .int (zI cy), .int (zI (-1)), .int (zI 0)])), zA cI ka 96 K, zQ cT ta 4 tq, (tp 0, .inr (4, [.ref (ti 0), .int (zI (-1)), .int (zI (-1))])), (tp 1, .inr (4, [.ref (ti 1), .int (zI (-1)), .int (zI (-1))])), (tp 2, .inr (4, [.ref (ti 2), .int (zI (-1)), .int (zI (-1))])), (tp 3, .inr (4, [.ref (ti 3), .int (zI (-1)), .int (zI (-1))]))]) [0, 1, 2, 3, 4, 5, 6, 7, 8, 9] (by decide) rfl
  have po : (rl1_4 = (if rl = some lv then none else rl)) := by
    exact po_5
  exact W.vret hx hb hr (fun t ht hW => ⟨⟨rl1_4, rfl, po, by rw [ht]; exact hP9, va_K.moved hW.alike hK, hD9⟩, hS.F ht⟩) hS.2.2 dX5_setFlag_27
set_option maxHeartbeats 4000000 in
set_option maxRecDepth 100000 in
theorem c_X5_grow (l : Launch) (dC : Nat → ClassId) (dI : Nat → Nat → Nat) (cI cZ cL cT cJ : ClassId) (sz : Nat) (sl : Nat) (sh : Nat) (lc : Int) (ru : Nat) (tr : Nat) (se : Nat) (sf : Nat → Option Nat) (L : Int) (k : Nat) (rh : Nat) (rt : Nat) (rp : Int) (oc : Int) (rl : Option Nat) (lv : Nat) (w : Int) (h : Int) (ka : Nat) (ta : Nat) (sx : Int) (sy : Int) (fx : Int) (fy : Int) (lf : Int) (un : Int) (K : Int → Int) (tq : Nat → Option Nat) (tp : Nat → Nat) (ti : Nat → Nat) (LN : Nat → Int) (HF : Nat → Int) (sd : Int) (gk : L = (k : Int) ∧ k < 6) (gf : sf k = some lv) (gw : 0 < w ∧ w ≤ 12) (gh : 0 < h ∧ h ≤ 8) (gK : Kin K) (gsx : 0 ≤ sx ∧ sx < w) (gsy : 0 ≤ sy ∧ sy < h) (gfx : 0 ≤ fx ∧ fx < w) (gfy : 0 ≤ fy ∧ fy < h) (gt : ∀ k, k < 4 → tq k = some (tp k)) (gd : 0 ≤ sd ∧ sd ≤ 65535) : Met l yX5_grow wsX5_grow ({ frames := 3, cells := 0, slots := 0, locals := 70 }) (zP (dC, dI) (zT cI cZ cL cT cJ) sz [.ref sl, .int (zI L), .int (zI sd)] [(sl, .inr (5, [.ref sh, .int (zI lc), .ref ru, .ref tr, .ref se])), zQ cL sh 6 sf, (ru, .inr (2, [.ref rh, .ref rt, va_rf rl, .int (zI rp), .int (zI oc)])), (lv, .inr (1, [.int (zI w), .int (zI h), .ref ka, .ref ta, .int (zI sx), .int (zI sy), .int (zI fx), .int (zI fy), .int (zI lf), .int (zI un)])), zA cI ka 96 K, zQ cT ta 4 tq, (tp 0, .inr (4, [.ref (ti 0), .int (zI (LN 0)), .int (zI (HF 0))])), (tp 1, .inr (4, [.ref (ti 1), .int (zI (LN 1)), .int (zI (HF 1))])), (tp 2, .inr (4, [.ref (ti 2), .int (zI (LN 2)), .int (zI (HF 2))])), (tp 3, .inr (4, [.ref (ti 3), .int (zI (LN 3)), .int (zI (HF 3))]))]) (va_Qi (fun (r9 : Int32) (u9 : (Option Nat) × (Int → Int) × Int) => match u9 with | (rl1, K1, rr) => r9 = zI rr ∧ (rl1 = (if rl = some lv then none else rl) ∧ (Kin K1 ∧ ∀ x y, 0 ≤ x → x < w → 0 ≤ y → y < h → K1 (y * 12 + x) = if (x = sx ∧ y = sy) ∨ (x = fx ∧ y = fy) then 0 else gcl sd w h x y) ∧ rr = ctt (fun y x => K1 (y * 12 + x)) w.toNat h.toNat)) (zB (dC, dI) (zT cI cZ cL cT cJ) (va_A [(sl, .inr (5, [.ref sh, .int (zI lc), .ref ru, .ref tr, .ref se])), zQ cL sh 6 sf, (ru, .inr (2, [.ref rh, .ref rt, va_rf rl, .int (zI rp), .int (zI oc)])), (lv, .inr (1, [.int (zI w), .int (zI h), .ref ka, .ref ta, .int (zI sx), .int (zI sy), .int (zI fx), .int (zI fy), .int (zI lf), .int (zI un)])), zA cI ka 96 K, zQ cT ta 4 tq, (tp 0, .inr (4, [.ref (ti 0), .int (zI (LN 0)), .int (zI (HF 0))])), (tp 1, .inr (4, [.ref (ti 1), .int (zI (LN 1)), .int (zI (HF 1))])), (tp 2, .inr (4, [.ref (ti 2), .int (zI (LN 2)), .int (zI (HF 2))])), (tp 3, .inr (4, [.ref (ti 3), .int (zI (LN 3)), .int (zI (HF 3))]))] sz) (fun (u9 : (Option Nat) × (Int → Int) × Int) => match u9 with | (rl1, K1, rr) => [(sl, .inr (5, [.ref sh, .int (zI lc), .ref ru, .ref tr, .ref se])), zQ cL sh 6 sf, (ru, .inr (2, [.ref rh, .ref rt, va_rf rl1, .int (zI rp), .int (zI oc)])), (lv, .inr (1, [.int (zI w), .int (zI h), .ref ka, .ref ta, .int (zI sx), .int (zI sy), .int (zI fx), .int (zI fy), .int (zI (-1)), .int (zI 0)])), zA cI ka 96 K1, zQ cT ta 4 tq, (tp 0, .inr (4, [.ref (ti 0), .int (zI (-1)), .int (zI (-1))])), (tp 1, .inr (4, [.ref (ti 1), .int (zI (-1)), .int (zI (-1))])), (tp 2, .inr (4, [.ref (ti 2), .int (zI (-1)), .int (zI (-1))])), (tp 3, .inr (4, [.ref (ti 3), .int (zI (-1)), .int (zI (-1))]))])) (va_A [(sl, .inr (5, [.ref sh, .int (zI lc), .ref ru, .ref tr, .ref se])), zQ cL sh 6 sf, (ru, .inr (2, [.ref rh, .ref rt, va_rf rl, .int (zI rp), .int (zI oc)])), (lv, .inr (1, [.int (zI w), .int (zI h), .ref ka, .ref ta, .int (zI sx), .int (zI sy), .int (zI fx), .int (zI fy), .int (zI lf), .int (zI un)])), zA cI ka 96 K, zQ cT ta 4 tq, (tp 0, .inr (4, [.ref (ti 0), .int (zI (LN 0)), .int (zI (HF 0))])), (tp 1, .inr (4, [.ref (ti 1), .int (zI (LN 1)), .int (zI (HF 1))])), (tp 2, .inr (4, [.ref (ti 2), .int (zI (LN 2)), .int (zI (HF 2))])), (tp 3, .inr (4, [.ref (ti 3), .int (zI (LN 3)), .int (zI (HF 3))]))] sz)) 0 0 (va_A [(sl, .inr (5, [.ref sh, .int (zI lc), .ref ru, .ref tr, .ref se])), zQ cL sh 6 sf, (ru, .inr (2, [.ref rh, .ref rt, va_rf rl, .int (zI rp), .int (zI oc)])), (lv, .inr (1, [.int (zI w), .int (zI h), .ref ka, .ref ta, .int (zI sx), .int (zI sy), .int (zI fx), .int (zI fy), .int (zI lf), .int (zI un)])), zA cI ka 96 K, zQ cT ta 4 tq, (tp 0, .inr (4, [.ref (ti 0), .int (zI (LN 0)), .int (zI (HF 0))])), (tp 1, .inr (4, [.ref (ti 1), .int (zI (LN 1)), .int (zI (HF 1))])), (tp 2, .inr (4, [.ref (ti 2), .int (zI (LN 2)), .int (zI (HF 2))])), (tp 3, .inr (4, [.ref (ti 3), .int (zI (LN 3)), .int (zI (HF 3))]))] sz) := by
  refine Met.ofW (cc := cX5_grow) (maxL := 4) (ret := (some .int)) (by decide) rfl ?_
  intro p e s m args below meth c s₁ B hml hv
  obtain ⟨rfl, hsz, hP, hK, hD0⟩ := hv
  have hx := B.exec
  have hb := B.bytes
  have hr := B.returns
  have hts := atoms_spec (ws := wsX5_grow) B.pre
  have hown : s.vm.findClass RX5 = some m.cls := findClass_of_methodNamed B.named
  have hlocks := B.notSynchronized
  subst hsz
  have hD := hD0.self (sz := s.heap.size)
  generalize hAe : va_A [(sl, .inr (5, [.ref sh, .int (zI lc), .ref ru, .ref tr, .ref se])), zQ cL sh 6 sf, (ru, .inr (2, [.ref rh, .ref rt, va_rf rl, .int (zI rp), .int (zI oc)])), (lv, .inr (1, [.int (zI w), .int (zI h), .ref ka, .ref ta, .int (zI sx), .int (zI sy), .int (zI fx), .int (zI fy), .int (zI lf), .int (zI un)])), zA cI ka 96 K, zQ cT ta 4 tq, (tp 0, .inr (4, [.ref (ti 0), .int (zI (LN 0)), .int (zI (HF 0))])), (tp 1, .inr (4, [.ref (ti 1), .int (zI (LN 1)), .int (zI (HF 1))])), (tp 2, .inr (4, [.ref (ti 2), .int (zI (LN 2)), .int (zI (HF 2))])), (tp 3, .inr (4, [.ref (ti 3), .int (zI (LN 3)), .int (zI (HF 3))]))] s.heap.size = A at hD ⊢
  have hA : ∀ q : Nat, s.heap.size ≤ q → A q := fun q h => by rw [← hAe]; exact Or.inr h
  clear hAe hD0
  have hS : va_S A s.heap s.heap [] := va_S.rf
  have hP : va_P (dC, dI) vwCl [(sl, .inr (5, [.ref sh, .int (zI lc), .ref ru, .ref tr, .ref se])), zQ cL sh 6 sf, (ru, .inr (2, [.ref rh, .ref rt, va_rf rl, .int (zI rp), .int (zI oc)])), (lv, .inr (1, [.int (zI w), .int (zI h), .ref ka, .ref ta, .int (zI sx), .int (zI sy), .int (zI fx), .int (zI fy), .int (zI lf), .int (zI un)])), zA cI ka 96 K, zQ cT ta 4 tq, (tp 0, .inr (4, [.ref (ti 0), .int (zI (LN 0)), .int (zI (HF 0))])), (tp 1, .inr (4, [.ref (ti 1), .int (zI (LN 1)), .int (zI (HF 1))])), (tp 2, .inr (4, [.ref (ti 2), .int (zI (LN 2)), .int (zI (HF 2))])), (tp 3, .inr (4, [.ref (ti 3), .int (zI (LN 3)), .int (zI (HF 3))]))] s.heap := hP
  have hl := lv_entry ([.ref sl, .int (zI L), .int (zI sd)]) (n := 4) (Nat.le_of_ble_eq_true rfl)
  rw [lg_entry_eq]
  generalize (lg_sl ([.ref sl, .int (zI L), .int (zI sd)]) ++ List.replicate (4 - (lg_sl ([.ref sl, .int (zI L), .int (zI sd)])).length) Slot.unset).toArray = ls at hl ⊢
  have hl : lv_has ls 4 [(0, .ref sl), (1, .int (zI L)), (2, .int (zI sd))] := hl
  refine lv_aload_n hx hb dX5_grow_0 rfl (lv_at hl 0 rfl) ?_
  refine lv_iload_n hx hb dX5_grow_1 rfl (lv_at hl 1 rfl) ?_
  have hPc := hP.sub (ws' := [(sl, .inr (5, [.ref sh, .int (zI lc), .ref ru, .ref tr, .ref se])), zQ cL sh 6 sf]) [0, 1] rfl
  have hDc := hD.sub (ws' := [(sl, .inr (5, [.ref sh, .int (zI lc), .ref ru, .ref tr, .ref se])), zQ cL sh 6 sf]) [0, 1] (by decide) rfl
  have hFc := va_free (wc := [(sl, .inr (5, [.ref sh, .int (zI lc), .ref ru, .ref tr, .ref se])), zQ cL sh 6 sf]) hD hS hA [0, 1] rfl
  refine va_callq (va_runV (As := [.int (zI L)]) (rest := []) ⟨hx, hb, hml, hown, hts⟩ (c_X5_levelNumbered l dC dI cI cZ cL cT cJ s.heap.size sl sh lc ru tr se sf L k lv (by first | assumption | omega) (by first | assumption | omega)) (cwV 1 hts gX5_grow_X5_levelNumbered rfl rfl rfl (by decide +kernel) ⟨Nat.le_of_ble_eq_true rfl, Nat.le_of_ble_eq_true rfl⟩) ⟨zP_blind, va_recv hK hPc (ci := 5) (q0 := 0) rfl rfl, zP_pre hPc hDc hK⟩ rfl rfl hl.1 rfl (lv_room (Nat.le_of_ble_eq_true rfl)) dX5_grow_2 ⟨Nat.le_of_ble_eq_true rfl, Nat.le_of_ble_eq_true rfl⟩) hS (fun q _ h => hFc q h) hFc (fun r_1 u_1 t H1 locs ht hvm hw hB hz1 hk1 hS => ?_)
  obtain ⟨hP1, hK1, hD1⟩ := hB
  rw [ht] at hP1
  have hP1 : va_P (dC, dI) vwCl [(sl, .inr (5, [.ref sh, .int (zI lc), .ref ru, .ref tr, .ref se])), zQ cL sh 6 sf] H1 := hP1
  obtain ⟨hP, hD⟩ := va_join (wr := [(ru, .inr (2, [.ref rh, .ref rt, va_rf rl, .int (zI rp), .int (zI oc)])), (lv, .inr (1, [.int (zI w), .int (zI h), .ref ka, .ref ta, .int (zI sx), .int (zI sy), .int (zI fx), .int (zI fy), .int (zI lf), .int (zI un)])), zA cI ka 96 K, zQ cT ta 4 tq, (tp 0, .inr (4, [.ref (ti 0), .int (zI (LN 0)), .int (zI (HF 0))])), (tp 1, .inr (4, [.ref (ti 1), .int (zI (LN 1)), .int (zI (HF 1))])), (tp 2, .inr (4, [.ref (ti 2), .int (zI (LN 2)), .int (zI (HF 2))])), (tp 3, .inr (4, [.ref (ti 3), .int (zI (LN 3)), .int (zI (HF 3))]))]) (w1 := [(sl, .inr (5, [.ref sh, .int (zI lc), .ref ru, .ref tr, .ref se])), zQ cL sh 6 sf]) hP hD [0, 1] [2, 3, 4, 5, 6, 7, 8, 9] rfl rfl (by decide) (by decide) hk1 hFc hP1 hD1
  clear hP1 hD1 hk1 hFc hPc hDc hz1
  generalize H1 = H at hP hS ⊢
  have hP : va_P (dC, dI) vwCl [(sl, .inr (5, [.ref sh, .int (zI lc), .ref ru, .ref tr, .ref se])), zQ cL sh 6 sf, (ru, .inr (2, [.ref rh, .ref rt, va_rf rl, .int (zI rp), .int (zI oc)])), (lv, .inr (1, [.int (zI w), .int (zI h), .ref ka, .ref ta, .int (zI sx), .int (zI sy), .int (zI fx), .int (zI fy), .int (zI lf), .int (zI un)])), zA cI ka 96 K, zQ cT ta 4 tq, (tp 0, .inr (4, [.ref (ti 0), .int (zI (LN 0)), .int (zI (HF 0))])), (tp 1, .inr (4, [.ref (ti 1), .int (zI (LN 1)), .int (zI (HF 1))])), (tp 2, .inr (4, [.ref (ti 2), .int (zI (LN 2)), .int (zI (HF 2))])), (tp 3, .inr (4, [.ref (ti 3), .int (zI (LN 3)), .int (zI (HF 3))]))] H := hP.sub [8, 9, 0, 1, 2, 3, 4, 5, 6, 7] rfl
  have hD : va_D A [(sl, .inr (5, [.ref sh, .int (zI lc), .ref ru, .ref tr, .ref se])), zQ cL sh 6 sf, (ru, .inr (2, [.ref rh, .ref rt, va_rf rl, .int (zI rp), .int (zI oc)])), (lv, .inr (1, [.int (zI w), .int (zI h), .ref ka, .ref ta, .int (zI sx), .int (zI sy), .int (zI fx), .int (zI fy), .int (zI lf), .int (zI un)])), zA cI ka 96 K, zQ cT ta 4 tq, (tp 0, .inr (4, [.ref (ti 0), .int (zI (LN 0)), .int (zI (HF 0))])), (tp 1, .inr (4, [.ref (ti 1), .int (zI (LN 1)), .int (zI (HF 1))])), (tp 2, .inr (4, [.ref (ti 2), .int (zI (LN 2)), .int (zI (HF 2))])), (tp 3, .inr (4, [.ref (ti 3), .int (zI (LN 3)), .int (zI (HF 3))]))] := hD.sub [8, 9, 0, 1, 2, 3, 4, 5, 6, 7] (by decide) rfl
  clear hK1 hvm
  obtain ⟨rfl, po_2⟩ := hw
  refine W.eq (g2 := F0 m 5 ls [.ref lv]) rfl ?_
  refine lv_astore_n (lv' := [(3, .ref lv), (0, .ref sl), (1, .int (zI L)), (2, .int (zI sd))]) hx hb dX5_grow_5 rfl hl (by decide) rfl (fun ls hl => ?_)
  refine lv_iload_n hx hb dX5_grow_6 rfl (lv_at hl 3 rfl) ?_
  refine lz_if_lt (tgt := 16) hx hb dX5_grow_7 (by decide) (by omega) (fun c_3 => ?_) (fun c_3 => ?_)
  · exfalso; omega
  ·
    refine lv_iload_n hx hb dX5_grow_10 rfl (lv_at hl 3 rfl) ?_
    refine lv_ldc (v := zI 65535) hx hb hown (hts (.constant RX5 101 (65535)) (by decide +kernel)) dX5_grow_11 ?_
    refine lz_icmp_le (tgt := 26) hx hb dX5_grow_13 (by decide) (by omega) ⟨by decide, by decide⟩ (fun c_4 => ?_) (fun c_4 => ?_)
    ·
      refine lv_aload_n hx hb dX5_grow_26 rfl (lv_at hl 0 rfl) ?_
      refine lv_iload_n hx hb dX5_grow_27 rfl (lv_at hl 3 rfl) ?_
      have hPc := hP.sub (ws' := [(lv, .inr (1, [.int (zI w), .int (zI h), .ref ka, .ref ta, .int (zI sx), .int (zI sy), .int (zI fx), .int (zI fy), .int (zI lf), .int (zI un)])), zA cI ka 96 K]) [3, 4] rfl
      have hDc := hD.sub (ws' := [(lv, .inr (1, [.int (zI w), .int (zI h), .ref ka, .ref ta, .int (zI sx), .int (zI sy), .int (zI fx), .int (zI fy), .int (zI lf), .int (zI un)])), zA cI ka 96 K]) [3, 4] (by decide) rfl
      have hFc := va_free (wc := [(lv, .inr (1, [.int (zI w), .int (zI h), .ref ka, .ref ta, .int (zI sx), .int (zI sy), .int (zI fx), .int (zI fy), .int (zI lf), .int (zI un)])), zA cI ka 96 K]) hD hS hA [3, 4] rfl
      refine va_callv (va_runV (As := [.int (zI sd)]) (rest := []) ⟨hx, hb, hml, hown, hts⟩ (c_X1_fillBySeed l dC dI cI cZ cL cT cJ H.size lv w h ka ta sx sy fx fy lf un K sd (by first | assumption | omega) (by first | assumption | omega) (by first | assumption | omega) (by first | assumption | omega) (by first | assumption | omega) (by first | assumption | omega) (by first | assumption | omega) (by first | assumption | omega)) (cwV 1 hts gX5_grow_X1_fillBySeed rfl rfl rfl (by decide +kernel) ⟨Nat.le_of_ble_eq_true rfl, Nat.le_of_ble_eq_true rfl⟩) ⟨zP_blind, va_recv hK hPc (ci := 1) (q0 := 0) rfl rfl, zP_pre hPc hDc hK⟩ rfl rfl hl.1 rfl (lv_room (Nat.le_of_ble_eq_true rfl)) dX5_grow_28 ⟨Nat.le_of_ble_eq_true rfl, Nat.le_of_ble_eq_true rfl⟩) hS (fun q _ h => hFc q h) hFc (fun u_5 t H1 locs ht hvm hw hB hz1 hk1 hS => ?_)
      obtain ⟨K1_6, rfl⟩ : ∃ z, z = u_5 := ⟨_, rfl⟩
      obtain ⟨hP1, hK1, hD1⟩ := hB
      rw [ht] at hP1
      have hP1 : va_P (dC, dI) vwCl [(lv, .inr (1, [.int (zI w), .int (zI h), .ref ka, .ref ta, .int (zI sx), .int (zI sy), .int (zI fx), .int (zI fy), .int (zI lf), .int (zI un)])), zA cI ka 96 K1_6] H1 := hP1
      obtain ⟨hP, hD⟩ := va_join (wr := [(sl, .inr (5, [.ref sh, .int (zI lc), .ref ru, .ref tr, .ref se])), zQ cL sh 6 sf, (ru, .inr (2, [.ref rh, .ref rt, va_rf rl, .int (zI rp), .int (zI oc)])), zQ cT ta 4 tq, (tp 0, .inr (4, [.ref (ti 0), .int (zI (LN 0)), .int (zI (HF 0))])), (tp 1, .inr (4, [.ref (ti 1), .int (zI (LN 1)), .int (zI (HF 1))])), (tp 2, .inr (4, [.ref (ti 2), .int (zI (LN 2)), .int (zI (HF 2))])), (tp 3, .inr (4, [.ref (ti 3), .int (zI (LN 3)), .int (zI (HF 3))]))]) (w1 := [(lv, .inr (1, [.int (zI w), .int (zI h), .ref ka, .ref ta, .int (zI sx), .int (zI sy), .int (zI fx), .int (zI fy), .int (zI lf), .int (zI un)])), zA cI ka 96 K1_6]) hP hD [3, 4] [0, 1, 2, 5, 6, 7, 8, 9] rfl rfl (by decide) (by decide) hk1 hFc hP1 hD1
      clear hP1 hD1 hk1 hFc hPc hDc hz1
      generalize H1 = H at hP hS ⊢
      have hP : va_P (dC, dI) vwCl [(sl, .inr (5, [.ref sh, .int (zI lc), .ref ru, .ref tr, .ref se])), zQ cL sh 6 sf, (ru, .inr (2, [.ref rh, .ref rt, va_rf rl, .int (zI rp), .int (zI oc)])), (lv, .inr (1, [.int (zI w), .int (zI h), .ref ka, .ref ta, .int (zI sx), .int (zI sy), .int (zI fx), .int (zI fy), .int (zI lf), .int (zI un)])), zA cI ka 96 K1_6, zQ cT ta 4 tq, (tp 0, .inr (4, [.ref (ti 0), .int (zI (LN 0)), .int (zI (HF 0))])), (tp 1, .inr (4, [.ref (ti 1), .int (zI (LN 1)), .int (zI (HF 1))])), (tp 2, .inr (4, [.ref (ti 2), .int (zI (LN 2)), .int (zI (HF 2))])), (tp 3, .inr (4, [.ref (ti 3), .int (zI (LN 3)), .int (zI (HF 3))]))] H := hP.sub [0, 1, 2, 8, 9, 3, 4, 5, 6, 7] rfl
      have hD : va_D A [(sl, .inr (5, [.ref sh, .int (zI lc), .ref ru, .ref tr, .ref se])), zQ cL sh 6 sf, (ru, .inr (2, [.ref rh, .ref rt, va_rf rl, .int (zI rp), .int (zI oc)])), (lv, .inr (1, [.int (zI w), .int (zI h), .ref ka, .ref ta, .int (zI sx), .int (zI sy), .int (zI fx), .int (zI fy), .int (zI lf), .int (zI un)])), zA cI ka 96 K1_6, zQ cT ta 4 tq, (tp 0, .inr (4, [.ref (ti 0), .int (zI (LN 0)), .int (zI (HF 0))])), (tp 1, .inr (4, [.ref (ti 1), .int (zI (LN 1)), .int (zI (HF 1))])), (tp 2, .inr (4, [.ref (ti 2), .int (zI (LN 2)), .int (zI (HF 2))])), (tp 3, .inr (4, [.ref (ti 3), .int (zI (LN 3)), .int (zI (HF 3))]))] := hD.sub [0, 1, 2, 8, 9, 3, 4, 5, 6, 7] (by decide) rfl
      clear hK1 hvm
      have po_7 : Kin K1_6 ∧ ∀ x y, 0 ≤ x → x < w → 0 ≤ y → y < h → K1_6 (y * 12 + x) = if (x = sx ∧ y = sy) ∨ (x = fx ∧ y = fy) then 0 else gcl sd w h x y := hw
      refine W.eq (g2 := F0 m 31 ls []) rfl ?_
      refine lv_aload_n hx hb dX5_grow_31 rfl (lv_at hl 1 rfl) ?_
      refine lv_aload_n hx hb dX5_grow_32 rfl (lv_at hl 0 rfl) ?_
      have hPc := hP.sub (ws' := [(sl, .inr (5, [.ref sh, .int (zI lc), .ref ru, .ref tr, .ref se])), (ru, .inr (2, [.ref rh, .ref rt, va_rf rl, .int (zI rp), .int (zI oc)])), (lv, .inr (1, [.int (zI w), .int (zI h), .ref ka, .ref ta, .int (zI sx), .int (zI sy), .int (zI fx), .int (zI fy), .int (zI lf), .int (zI un)])), zQ cT ta 4 tq, (tp 0, .inr (4, [.ref (ti 0), .int (zI (LN 0)), .int (zI (HF 0))])), (tp 1, .inr (4, [.ref (ti 1), .int (zI (LN 1)), .int (zI (HF 1))])), (tp 2, .inr (4, [.ref (ti 2), .int (zI (LN 2)), .int (zI (HF 2))])), (tp 3, .inr (4, [.ref (ti 3), .int (zI (LN 3)), .int (zI (HF 3))]))]) [0, 2, 3, 5, 6, 7, 8, 9] rfl
      have hDc := hD.sub (ws' := [(sl, .inr (5, [.ref sh, .int (zI lc), .ref ru, .ref tr, .ref se])), (ru, .inr (2, [.ref rh, .ref rt, va_rf rl, .int (zI rp), .int (zI oc)])), (lv, .inr (1, [.int (zI w), .int (zI h), .ref ka, .ref ta, .int (zI sx), .int (zI sy), .int (zI fx), .int (zI fy), .int (zI lf), .int (zI un)])), zQ cT ta 4 tq, (tp 0, .inr (4, [.ref (ti 0), .int (zI (LN 0)), .int (zI (HF 0))])), (tp 1, .inr (4, [.ref (ti 1), .int (zI (LN 1)), .int (zI (HF 1))])), (tp 2, .inr (4, [.ref (ti 2), .int (zI (LN 2)), .int (zI (HF 2))])), (tp 3, .inr (4, [.ref (ti 3), .int (zI (LN 3)), .int (zI (HF 3))]))]) [0, 2, 3, 5, 6, 7, 8, 9] (by decide) rfl
      have hFc := va_free (wc := [(sl, .inr (5, [.ref sh, .int (zI lc), .ref ru, .ref tr, .ref se])), (ru, .inr (2, [.ref rh, .ref rt, va_rf rl, .int (zI rp), .int (zI oc)])), (lv, .inr (1, [.int (zI w), .int (zI h), .ref ka, .ref ta, .int (zI sx), .int (zI sy), .int (zI fx), .int (zI fy), .int (zI lf), .int (zI un)])), zQ cT ta 4 tq, (tp 0, .inr (4, [.ref (ti 0), .int (zI (LN 0)), .int (zI (HF 0))])), (tp 1, .inr (4, [.ref (ti 1), .int (zI (LN 1)), .int (zI (HF 1))])), (tp 2, .inr (4, [.ref (ti 2), .int (zI (LN 2)), .int (zI (HF 2))])), (tp 3, .inr (4, [.ref (ti 3), .int (zI (LN 3)), .int (zI (HF 3))]))]) hD hS hA [0, 2, 3, 5, 6, 7, 8, 9] rfl
      refine va_callv (va_runV (As := [.ref lv]) (rest := []) ⟨hx, hb, hml, hown, hts⟩ (c_X5_voidWhatWasFound l dC dI cI cZ cL cT cJ H.size sl sh lc ru tr se rh rt rp oc rl lv w h ka ta sx sy fx fy lf un tq tp ti LN HF (by first | assumption | omega)) (cwV 1 hts gX5_grow_X5_voidWhatWasFound rfl rfl rfl (by decide +kernel) ⟨Nat.le_of_ble_eq_true rfl, Nat.le_of_ble_eq_true rfl⟩) ⟨zP_blind, va_recv hK hPc (ci := 5) (q0 := 0) rfl rfl, zP_pre hPc hDc hK⟩ rfl rfl hl.1 rfl (lv_room (Nat.le_of_ble_eq_true rfl)) dX5_grow_33 ⟨Nat.le_of_ble_eq_true rfl, Nat.le_of_ble_eq_true rfl⟩) hS (fun q _ h => hFc q h) hFc (fun u_8 t H1 locs ht hvm hw hB hz1 hk1 hS => ?_)
      obtain ⟨rl1_9, rfl⟩ : ∃ z, z = u_8 := ⟨_, rfl⟩
      obtain ⟨hP1, hK1, hD1⟩ := hB
      rw [ht] at hP1
      have hP1 : va_P (dC, dI) vwCl [(sl, .inr (5, [.ref sh, .int (zI lc), .ref ru, .ref tr, .ref se])), (ru, .inr (2, [.ref rh, .ref rt, va_rf rl1_9, .int (zI rp), .int (zI oc)])), (lv, .inr (1, [.int (zI w), .int (zI h), .ref ka, .ref ta, .int (zI sx), .int (zI sy), .int (zI fx), .int (zI fy), .int (zI (-1)), .int (zI 0)])), zQ cT ta 4 tq, (tp 0, .inr (4, [.ref (ti 0), .int (zI (-1)), .int (zI (-1))])), (tp 1, .inr (4, [.ref (ti 1), .int (zI (-1)), .int (zI (-1))])), (tp 2, .inr (4, [.ref (ti 2), .int (zI (-1)), .int (zI (-1))])), (tp 3, .inr (4, [.ref (ti 3), .int (zI (-1)), .int (zI (-1))]))] H1 := hP1
      obtain ⟨hP, hD⟩ := va_join (wr := [zQ cL sh 6 sf, zA cI ka 96 K1_6]) (w1 := [(sl, .inr (5, [.ref sh, .int (zI lc), .ref ru, .ref tr, .ref se])), (ru, .inr (2, [.ref rh, .ref rt, va_rf rl1_9, .int (zI rp), .int (zI oc)])), (lv, .inr (1, [.int (zI w), .int (zI h), .ref ka, .ref ta, .int (zI sx), .int (zI sy), .int (zI fx), .int (zI fy), .int (zI (-1)), .int (zI 0)])), zQ cT ta 4 tq, (tp 0, .inr (4, [.ref (ti 0), .int (zI (-1)), .int (zI (-1))])), (tp 1, .inr (4, [.ref (ti 1), .int (zI (-1)), .int (zI (-1))])), (tp 2, .inr (4, [.ref (ti 2), .int (zI (-1)), .int (zI (-1))])), (tp 3, .inr (4, [.ref (ti 3), .int (zI (-1)), .int (zI (-1))]))]) hP hD [0, 2, 3, 5, 6, 7, 8, 9] [1, 4] rfl rfl (by decide) (by decide) hk1 hFc hP1 hD1
      clear hP1 hD1 hk1 hFc hPc hDc hz1
      generalize H1 = H at hP hS ⊢
      have hP : va_P (dC, dI) vwCl [(sl, .inr (5, [.ref sh, .int (zI lc), .ref ru, .ref tr, .ref se])), zQ cL sh 6 sf, (ru, .inr (2, [.ref rh, .ref rt, va_rf rl1_9, .int (zI rp), .int (zI oc)])), (lv, .inr (1, [.int (zI w), .int (zI h), .ref ka, .ref ta, .int (zI sx), .int (zI sy), .int (zI fx), .int (zI fy), .int (zI (-1)), .int (zI 0)])), zA cI ka 96 K1_6, zQ cT ta 4 tq, (tp 0, .inr (4, [.ref (ti 0), .int (zI (-1)), .int (zI (-1))])), (tp 1, .inr (4, [.ref (ti 1), .int (zI (-1)), .int (zI (-1))])), (tp 2, .inr (4, [.ref (ti 2), .int (zI (-1)), .int (zI (-1))])), (tp 3, .inr (4, [.ref (ti 3), .int (zI (-1)), .int (zI (-1))]))] H := hP.sub [2, 0, 3, 4, 1, 5, 6, 7, 8, 9] rfl
      have hD : va_D A [(sl, .inr (5, [.ref sh, .int (zI lc), .ref ru, .ref tr, .ref se])), zQ cL sh 6 sf, (ru, .inr (2, [.ref rh, .ref rt, va_rf rl1_9, .int (zI rp), .int (zI oc)])), (lv, .inr (1, [.int (zI w), .int (zI h), .ref ka, .ref ta, .int (zI sx), .int (zI sy), .int (zI fx), .int (zI fy), .int (zI (-1)), .int (zI 0)])), zA cI ka 96 K1_6, zQ cT ta 4 tq, (tp 0, .inr (4, [.ref (ti 0), .int (zI (-1)), .int (zI (-1))])), (tp 1, .inr (4, [.ref (ti 1), .int (zI (-1)), .int (zI (-1))])), (tp 2, .inr (4, [.ref (ti 2), .int (zI (-1)), .int (zI (-1))])), (tp 3, .inr (4, [.ref (ti 3), .int (zI (-1)), .int (zI (-1))]))] := hD.sub [2, 0, 3, 4, 1, 5, 6, 7, 8, 9] (by decide) rfl
      clear hK1 hvm
      have po_10 : rl1_9 = (if rl = some lv then none else rl) := hw
      refine W.eq (g2 := F0 m 36 ls []) rfl ?_
      refine lv_aload_n hx hb dX5_grow_36 rfl (lv_at hl 0 rfl) ?_
      have hPc := hP.sub (ws' := [(lv, .inr (1, [.int (zI w), .int (zI h), .ref ka, .ref ta, .int (zI sx), .int (zI sy), .int (zI fx), .int (zI fy), .int (zI (-1)), .int (zI 0)])), zA cI ka 96 K1_6]) [3, 4] rfl
      have hDc := hD.sub (ws' := [(lv, .inr (1, [.int (zI w), .int (zI h), .ref ka, .ref ta, .int (zI sx), .int (zI sy), .int (zI fx), .int (zI fy), .int (zI (-1)), .int (zI 0)])), zA cI ka 96 K1_6]) [3, 4] (by decide) rfl
      have hFc := va_free (wc := [(lv, .inr (1, [.int (zI w), .int (zI h), .ref ka, .ref ta, .int (zI sx), .int (zI sy), .int (zI fx), .int (zI fy), .int (zI (-1)), .int (zI 0)])), zA cI ka 96 K1_6]) hD hS hA [3, 4] rfl
      refine va_calli (va_runV (As := []) (rest := []) ⟨hx, hb, hml, hown, hts⟩ (c_X1_countBlocks l dC dI cI cZ cL cT cJ H.size lv w h ka ta sx sy fx fy (-1) 0 K1_6 (by first | assumption | omega) (by first | assumption | omega) (by exact po_7.1)) (cwV 0 hts gX5_grow_X1_countBlocks rfl rfl rfl (by decide +kernel) ⟨Nat.le_of_ble_eq_true rfl, Nat.le_of_ble_eq_true rfl⟩) ⟨zP_blind, va_recv hK hPc (ci := 1) (q0 := 0) rfl rfl, zP_pre hPc hDc hK⟩ rfl rfl hl.1 rfl (lv_room (Nat.le_of_ble_eq_true rfl)) dX5_grow_37 ⟨Nat.le_of_ble_eq_true rfl, Nat.le_of_ble_eq_true rfl⟩) hS (fun q _ h => hFc q h) hFc (fun r_11 u_11 t H1 locs ht hvm hw hB hz1 hk1 hS => ?_)
      obtain ⟨r_12, rfl⟩ : ∃ z, z = u_11 := ⟨_, rfl⟩
      obtain ⟨hP1, hK1, hD1⟩ := hB
      rw [ht] at hP1
      have hP1 : va_P (dC, dI) vwCl [(lv, .inr (1, [.int (zI w), .int (zI h), .ref ka, .ref ta, .int (zI sx), .int (zI sy), .int (zI fx), .int (zI fy), .int (zI (-1)), .int (zI 0)])), zA cI ka 96 K1_6] H1 := hP1
      obtain ⟨hP, hD⟩ := va_join (wr := [(sl, .inr (5, [.ref sh, .int (zI lc), .ref ru, .ref tr, .ref se])), zQ cL sh 6 sf, (ru, .inr (2, [.ref rh, .ref rt, va_rf rl1_9, .int (zI rp), .int (zI oc)])), zQ cT ta 4 tq, (tp 0, .inr (4, [.ref (ti 0), .int (zI (-1)), .int (zI (-1))])), (tp 1, .inr (4, [.ref (ti 1), .int (zI (-1)), .int (zI (-1))])), (tp 2, .inr (4, [.ref (ti 2), .int (zI (-1)), .int (zI (-1))])), (tp 3, .inr (4, [.ref (ti 3), .int (zI (-1)), .int (zI (-1))]))]) (w1 := [(lv, .inr (1, [.int (zI w), .int (zI h), .ref ka, .ref ta, .int (zI sx), .int (zI sy), .int (zI fx), .int (zI fy), .int (zI (-1)), .int (zI 0)])), zA cI ka 96 K1_6]) hP hD [3, 4] [0, 1, 2, 5, 6, 7, 8, 9] rfl rfl (by decide) (by decide) hk1 hFc hP1 hD1
      clear hP1 hD1 hk1 hFc hPc hDc hz1
      generalize H1 = H at hP hS ⊢
      have hP : va_P (dC, dI) vwCl [(sl, .inr (5, [.ref sh, .int (zI lc), .ref ru, .ref tr, .ref se])), zQ cL sh 6 sf, (ru, .inr (2, [.ref rh, .ref rt, va_rf rl1_9, .int (zI rp), .int (zI oc)])), (lv, .inr (1, [.int (zI w), .int (zI h), .ref ka, .ref ta, .int (zI sx), .int (zI sy), .int (zI fx), .int (zI fy), .int (zI (-1)), .int (zI 0)])), zA cI ka 96 K1_6, zQ cT ta 4 tq, (tp 0, .inr (4, [.ref (ti 0), .int (zI (-1)), .int (zI (-1))])), (tp 1, .inr (4, [.ref (ti 1), .int (zI (-1)), .int (zI (-1))])), (tp 2, .inr (4, [.ref (ti 2), .int (zI (-1)), .int (zI (-1))])), (tp 3, .inr (4, [.ref (ti 3), .int (zI (-1)), .int (zI (-1))]))] H := hP.sub [0, 1, 2, 8, 9, 3, 4, 5, 6, 7] rfl
      have hD : va_D A [(sl, .inr (5, [.ref sh, .int (zI lc), .ref ru, .ref tr, .ref se])), zQ cL sh 6 sf, (ru, .inr (2, [.ref rh, .ref rt, va_rf rl1_9, .int (zI rp), .int (zI oc)])), (lv, .inr (1, [.int (zI w), .int (zI h), .ref ka, .ref ta, .int (zI sx), .int (zI sy), .int (zI fx), .int (zI fy), .int (zI (-1)), .int (zI 0)])), zA cI ka 96 K1_6, zQ cT ta 4 tq, (tp 0, .inr (4, [.ref (ti 0), .int (zI (-1)), .int (zI (-1))])), (tp 1, .inr (4, [.ref (ti 1), .int (zI (-1)), .int (zI (-1))])), (tp 2, .inr (4, [.ref (ti 2), .int (zI (-1)), .int (zI (-1))])), (tp 3, .inr (4, [.ref (ti 3), .int (zI (-1)), .int (zI (-1))]))] := hD.sub [0, 1, 2, 8, 9, 3, 4, 5, 6, 7] (by decide) rfl
      clear hK1 hvm
      obtain ⟨rfl, po_13⟩ := hw
      have po_13 : r_12 = ctt (fun y x => K1_6 (y * 12 + x)) w.toNat h.toNat := po_13
      refine W.eq (g2 := F0 m 40 ls [.int (zI r_12)]) rfl ?_
      have hP9 := hP.sub (ws' := [(sl, .inr (5, [.ref sh, .int (zI lc), .ref ru, .ref tr, .ref se])), zQ cL sh 6 sf, (ru, .inr (2, [.ref rh, .ref rt, va_rf rl1_9, .int (zI rp), .int (zI oc)])), (lv, .inr (1, [.int (zI w), .int (zI h), .ref ka, .ref ta, .int (zI sx), .int (zI sy), .int (zI fx), .int (zI fy), .int (zI (-1)), .int (zI 0)])), zA cI ka 96 K1_6, zQ cT ta 4 tq, (tp 0, .inr (4, [.ref (ti 0), .int (zI (-1)), .int (zI (-1))])), (tp 1, .inr (4, [.ref (ti 1), .int (zI (-1)), .int (zI (-1))])), (tp 2, .inr (4, [.ref (ti 2), .int (zI (-1)), .int (zI (-1))])), (tp 3, .inr (4, [.ref (ti 3), .int (zI (-1)), .int (zI (-1))]))]) [0, 1, 2, 3, 4, 5, 6, 7, 8, 9] rfl
      have hD9 := hD.sub (ws' := [(sl, .inr (5, [.ref sh, .int (zI lc), .ref ru, .ref tr, .ref se])), zQ cL sh 6 sf, (ru, .inr (2, [.ref rh, .ref rt, va_rf rl1_9, .int (zI rp), .int (zI oc)])), (lv, .inr (1, [.int (zI w), .int (zI h), .ref ka, .ref ta, .int (zI sx), .int (zI sy), .int (zI fx), .int (zI fy), .int (zI (-1)), .int (zI 0)])), zA cI ka 96 K1_6, zQ cT ta 4 tq, (tp 0, .inr (4, [.ref (ti 0), .int (zI (-1)), .int (zI (-1))])), (tp 1, .inr (4, [.ref (ti 1), .int (zI (-1)), .int (zI (-1))])), (tp 2, .inr (4, [.ref (ti 2), .int (zI (-1)), .int (zI (-1))])), (tp 3, .inr (4, [.ref (ti 3), .int (zI (-1)), .int (zI (-1))]))]) [0, 1, 2, 3, 4, 5, 6, 7, 8, 9] (by decide) rfl
      have po : zI r_12 = zI r_12 ∧ (rl1_9 = (if rl = some lv then none else rl) ∧ (Kin K1_6 ∧ ∀ x y, 0 ≤ x → x < w → 0 ≤ y → y < h → K1_6 (y * 12 + x) = if (x = sx ∧ y = sy) ∨ (x = fx ∧ y = fy) then 0 else gcl sd w h x y) ∧ r_12 = ctt (fun y x => K1_6 (y * 12 + x)) w.toNat h.toNat) := by
        refine ⟨by first | rfl | (congr 1; omega) | (congr 1; simp [*]), ?_⟩
        exact ⟨po_10, po_7, po_13⟩
      exact W.iret (v := zI r_12) hx hb hr (fun t ht hW => ⟨⟨zI r_12, (rl1_9, K1_6, r_12), rfl, po, by rw [ht]; exact hP9, va_K.moved hW.alike hK, hD9⟩, hS.F ht⟩) hS.2.2 dX5_grow_40
    · exfalso; omega
set_option maxHeartbeats 4000000 in
set_option maxRecDepth 100000 in
theorem c_X5_cell (l : Launch) (dC : Nat → ClassId) (dI : Nat → Nat → Nat) (cI cZ cL cT cJ : ClassId) (sz : Nat) (sl : Nat) (sh : Nat) (lc : Int) (ru : Nat) (tr : Nat) (se : Nat) (sf : Nat → Option Nat) (L : Int) (k : Nat) (lv : Nat) (w : Int) (h : Int) (ka : Nat) (ta : Nat) (sx : Int) (sy : Int) (fx : Int) (fy : Int) (lf : Int) (un : Int) (K : Int → Int) (cx : Int) (cy : Int) (gk : L = (k : Int) ∧ k < 6) (gf : sf k = some lv) (gw : 0 < w ∧ w ≤ 12) (gh : 0 < h ∧ h ≤ 8) (gK : Kin K) (gx : 0 ≤ cx ∧ cx < w) (gy : 0 ≤ cy ∧ cy < h) : Met l yX5_cell wsX5_cell ({ frames := 2, cells := 0, slots := 0, locals := 47 }) (zP (dC, dI) (zT cI cZ cL cT cJ) sz [.ref sl, .int (zI L), .int (zI cx), .int (zI cy)] [(sl, .inr (5, [.ref sh, .int (zI lc), .ref ru, .ref tr, .ref se])), zQ cL sh 6 sf, (lv, .inr (1, [.int (zI w), .int (zI h), .ref ka, .ref ta, .int (zI sx), .int (zI sy), .int (zI fx), .int (zI fy), .int (zI lf), .int (zI un)])), zA cI ka 96 K]) (va_Qi (fun (r9 : Int32) (u9 : Int) => match u9 with | rr => r9 = zI rr ∧ (rr = K (cy * 12 + cx))) (zB (dC, dI) (zT cI cZ cL cT cJ) (va_A [(sl, .inr (5, [.ref sh, .int (zI lc), .ref ru, .ref tr, .ref se])), zQ cL sh 6 sf, (lv, .inr (1, [.int (zI w), .int (zI h), .ref ka, .ref ta, .int (zI sx), .int (zI sy), .int (zI fx), .int (zI fy), .int (zI lf), .int (zI un)])), zA cI ka 96 K] sz) (fun (u9 : Int) => match u9 with | rr => [(sl, .inr (5, [.ref sh, .int (zI lc), .ref ru, .ref tr, .ref se])), zQ cL sh 6 sf, (lv, .inr (1, [.int (zI w), .int (zI h), .ref ka, .ref ta, .int (zI sx), .int (zI sy), .int (zI fx), .int (zI fy), .int (zI lf), .int (zI un)])), zA cI ka 96 K])) (va_A [(sl, .inr (5, [.ref sh, .int (zI lc), .ref ru, .ref tr, .ref se])), zQ cL sh 6 sf, (lv, .inr (1, [.int (zI w), .int (zI h), .ref ka, .ref ta, .int (zI sx), .int (zI sy), .int (zI fx), .int (zI fy), .int (zI lf), .int (zI un)])), zA cI ka 96 K] sz)) 0 0 (va_A [(sl, .inr (5, [.ref sh, .int (zI lc), .ref ru, .ref tr, .ref se])), zQ cL sh 6 sf, (lv, .inr (1, [.int (zI w), .int (zI h), .ref ka, .ref ta, .int (zI sx), .int (zI sy), .int (zI fx), .int (zI fy), .int (zI lf), .int (zI un)])), zA cI ka 96 K] sz) := by
  refine Met.ofW (cc := cX5_cell) (maxL := 4) (ret := (some .int)) (by decide) rfl ?_
  intro p e s m args below meth c s₁ B hml hv
  obtain ⟨rfl, hsz, hP, hK, hD0⟩ := hv
  have hx := B.exec
  have hb := B.bytes
  have hr := B.returns
  have hts := atoms_spec (ws := wsX5_cell) B.pre
  have hown : s.vm.findClass RX5 = some m.cls := findClass_of_methodNamed B.named
  have hlocks := B.notSynchronized
  subst hsz
  have hD := hD0.self (sz := s.heap.size)
  generalize hAe : va_A [(sl, .inr (5, [.ref sh, .int (zI lc), .ref ru, .ref tr, .ref se])), zQ cL sh 6 sf, (lv, .inr (1, [.int (zI w), .int (zI h), .ref ka, .ref ta, .int (zI sx), .int (zI sy), .int (zI fx), .int (zI fy), .int (zI lf), .int (zI un)])), zA cI ka 96 K] s.heap.size = A at hD ⊢
  have hA : ∀ q : Nat, s.heap.size ≤ q → A q := fun q h => by rw [← hAe]; exact Or.inr h
  clear hAe hD0
  have hS : va_S A s.heap s.heap [] := va_S.rf
  have hP : va_P (dC, dI) vwCl [(sl, .inr (5, [.ref sh, .int (zI lc), .ref ru, .ref tr, .ref se])), zQ cL sh 6 sf, (lv, .inr (1, [.int (zI w), .int (zI h), .ref ka, .ref ta, .int (zI sx), .int (zI sy), .int (zI fx), .int (zI fy), .int (zI lf), .int (zI un)])), zA cI ka 96 K] s.heap := hP
  have hl := lv_entry ([.ref sl, .int (zI L), .int (zI cx), .int (zI cy)]) (n := 4) (Nat.le_of_ble_eq_true rfl)
  rw [lg_entry_eq]
  generalize (lg_sl ([.ref sl, .int (zI L), .int (zI cx), .int (zI cy)]) ++ List.replicate (4 - (lg_sl ([.ref sl, .int (zI L), .int (zI cx), .int (zI cy)])).length) Slot.unset).toArray = ls at hl ⊢
  have hl : lv_has ls 4 [(0, .ref sl), (1, .int (zI L)), (2, .int (zI cx)), (3, .int (zI cy))] := hl
  refine lv_aload_n hx hb dX5_cell_0 rfl (lv_at hl 0 rfl) ?_
  refine lv_iload_n hx hb dX5_cell_1 rfl (lv_at hl 1 rfl) ?_
  refine lv_iload_n hx hb dX5_cell_2 rfl (lv_at hl 2 rfl) ?_
  refine lv_iload_n hx hb dX5_cell_3 rfl (lv_at hl 3 rfl) ?_
  have hPc := hP.sub (ws' := [(sl, .inr (5, [.ref sh, .int (zI lc), .ref ru, .ref tr, .ref se])), zQ cL sh 6 sf, (lv, .inr (1, [.int (zI w), .int (zI h), .ref ka, .ref ta, .int (zI sx), .int (zI sy), .int (zI fx), .int (zI fy), .int (zI lf), .int (zI un)])), zA cI ka 96 K]) [0, 1, 2, 3] rfl
  have hDc := hD.sub (ws' := [(sl, .inr (5, [.ref sh, .int (zI lc), .ref ru, .ref tr, .ref se])), zQ cL sh 6 sf, (lv, .inr (1, [.int (zI w), .int (zI h), .ref ka, .ref ta, .int (zI sx), .int (zI sy), .int (zI fx), .int (zI fy), .int (zI lf), .int (zI un)])), zA cI ka 96 K]) [0, 1, 2, 3] (by decide) rfl
  have hFc := va_free (wc := [(sl, .inr (5, [.ref sh, .int (zI lc), .ref ru, .ref tr, .ref se])), zQ cL sh 6 sf, (lv, .inr (1, [.int (zI w), .int (zI h), .ref ka, .ref ta, .int (zI sx), .int (zI sy), .int (zI fx), .int (zI fy), .int (zI lf), .int (zI un)])), zA cI ka 96 K]) hD hS hA [0, 1, 2, 3] rfl
  refine va_callq (va_runV (As := [.int (zI L), .int (zI cx), .int (zI cy)]) (rest := []) ⟨hx, hb, hml, hown, hts⟩ (c_X5_levelWithCell l dC dI cI cZ cL cT cJ s.heap.size sl sh lc ru tr se sf L k lv w h ka ta sx sy fx fy lf un K cx cy (by first | assumption | omega) (by first | assumption | omega) (by first | assumption | omega) (by first | assumption | omega) (by first | assumption | omega) (by first | assumption | omega) (by first | assumption | omega)) (cwV 3 hts gX5_cell_X5_levelWithCell rfl rfl rfl (by decide +kernel) ⟨Nat.le_of_ble_eq_true rfl, Nat.le_of_ble_eq_true rfl⟩) ⟨zP_blind, va_recv hK hPc (ci := 5) (q0 := 0) rfl rfl, zP_pre hPc hDc hK⟩ rfl rfl hl.1 rfl (lv_room (Nat.le_of_ble_eq_true rfl)) dX5_cell_4 ⟨Nat.le_of_ble_eq_true rfl, Nat.le_of_ble_eq_true rfl⟩) hS (fun q _ h => hFc q h) hFc (fun r_1 u_1 t H1 locs ht hvm hw hB hz1 hk1 hS => ?_)
  obtain ⟨hP1, hK1, hD1⟩ := hB
  rw [ht] at hP1
  have hP1 : va_P (dC, dI) vwCl [(sl, .inr (5, [.ref sh, .int (zI lc), .ref ru, .ref tr, .ref se])), zQ cL sh 6 sf, (lv, .inr (1, [.int (zI w), .int (zI h), .ref ka, .ref ta, .int (zI sx), .int (zI sy), .int (zI fx), .int (zI fy), .int (zI lf), .int (zI un)])), zA cI ka 96 K] H1 := hP1
  obtain ⟨hP, hD⟩ := va_join (wr := []) (w1 := [(sl, .inr (5, [.ref sh, .int (zI lc), .ref ru, .ref tr, .ref se])), zQ cL sh 6 sf, (lv, .inr (1, [.int (zI w), .int (zI h), .ref ka, .ref ta, .int (zI sx), .int (zI sy), .int (zI fx), .int (zI fy), .int (zI lf), .int (zI un)])), zA cI ka 96 K]) hP hD [0, 1, 2, 3] [] rfl rfl (by decide) (by decide) hk1 hFc hP1 hD1
  clear hP1 hD1 hk1 hFc hPc hDc hz1
  generalize H1 = H at hP hS ⊢
  have hP : va_P (dC, dI) vwCl [(sl, .inr (5, [.ref sh, .int (zI lc), .ref ru, .ref tr, .ref se])), zQ cL sh 6 sf, (lv, .inr (1, [.int (zI w), .int (zI h), .ref ka, .ref ta, .int (zI sx), .int (zI sy), .int (zI fx), .int (zI fy), .int (zI lf), .int (zI un)])), zA cI ka 96 K] H := hP.sub [0, 1, 2, 3] rfl
  have hD : va_D A [(sl, .inr (5, [.ref sh, .int (zI lc), .ref ru, .ref tr, .ref se])), zQ cL sh 6 sf, (lv, .inr (1, [.int (zI w), .int (zI h), .ref ka, .ref ta, .int (zI sx), .int (zI sy), .int (zI fx), .int (zI fy), .int (zI lf), .int (zI un)])), zA cI ka 96 K] := hD.sub [0, 1, 2, 3] (by decide) rfl
  clear hK1 hvm
  obtain ⟨rfl, po_2⟩ := hw
  refine W.eq (g2 := F0 m 7 ls [.ref lv]) rfl ?_
  refine lv_iload_n hx hb dX5_cell_7 rfl (lv_at hl 2 rfl) ?_
  refine lv_iload_n hx hb dX5_cell_8 rfl (lv_at hl 3 rfl) ?_
  have hPc := hP.sub (ws' := [(lv, .inr (1, [.int (zI w), .int (zI h), .ref ka, .ref ta, .int (zI sx), .int (zI sy), .int (zI fx), .int (zI fy), .int (zI lf), .int (zI un)])), zA cI ka 96 K]) [2, 3] rfl
  have hDc := hD.sub (ws' := [(lv, .inr (1, [.int (zI w), .int (zI h), .ref ka, .ref ta, .int (zI sx), .int (zI sy), .int (zI fx), .int (zI fy), .int (zI lf), .int (zI un)])), zA cI ka 96 K]) [2, 3] (by decide) rfl
  have hFc := va_free (wc := [(lv, .inr (1, [.int (zI w), .int (zI h), .ref ka, .ref ta, .int (zI sx), .int (zI sy), .int (zI fx), .int (zI fy), .int (zI lf), .int (zI un)])), zA cI ka 96 K]) hD hS hA [2, 3] rfl
  refine va_calli (va_runV (As := [.int (zI cx), .int (zI cy)]) (rest := []) ⟨hx, hb, hml, hown, hts⟩ (c_X1_kindAt l dC dI cI cZ cL cT cJ H.size lv w h ka (.ref ta) sx sy fx fy lf un K cx cy (by first | assumption | omega) (by first | assumption | omega) (by first | assumption | omega) (by first | assumption | omega) (by first | assumption | omega)) (cwV 2 hts gX5_cell_X1_kindAt rfl rfl rfl (by decide +kernel) ⟨Nat.le_of_ble_eq_true rfl, Nat.le_of_ble_eq_true rfl⟩) ⟨zP_blind, va_recv hK hPc (ci := 1) (q0 := 0) rfl rfl, zP_pre hPc hDc hK⟩ rfl rfl hl.1 rfl (lv_room (Nat.le_of_ble_eq_true rfl)) dX5_cell_9 ⟨Nat.le_of_ble_eq_true rfl, Nat.le_of_ble_eq_true rfl⟩) hS (fun q _ h => hFc q h) hFc (fun r_3 u_3 t H1 locs ht hvm hw hB hz1 hk1 hS => ?_)
  obtain ⟨r_4, rfl⟩ : ∃ z, z = u_3 := ⟨_, rfl⟩
  obtain ⟨hP1, hK1, hD1⟩ := hB
  rw [ht] at hP1
  have hP1 : va_P (dC, dI) vwCl [(lv, .inr (1, [.int (zI w), .int (zI h), .ref ka, .ref ta, .int (zI sx), .int (zI sy), .int (zI fx), .int (zI fy), .int (zI lf), .int (zI un)])), zA cI ka 96 K] H1 := hP1
  obtain ⟨hP, hD⟩ := va_join (wr := [(sl, .inr (5, [.ref sh, .int (zI lc), .ref ru, .ref tr, .ref se])), zQ cL sh 6 sf]) (w1 := [(lv, .inr (1, [.int (zI w), .int (zI h), .ref ka, .ref ta, .int (zI sx), .int (zI sy), .int (zI fx), .int (zI fy), .int (zI lf), .int (zI un)])), zA cI ka 96 K]) hP hD [2, 3] [0, 1] rfl rfl (by decide) (by decide) hk1 hFc hP1 hD1
  clear hP1 hD1 hk1 hFc hPc hDc hz1
  generalize H1 = H at hP hS ⊢
  have hP : va_P (dC, dI) vwCl [(sl, .inr (5, [.ref sh, .int (zI lc), .ref ru, .ref tr, .ref se])), zQ cL sh 6 sf, (lv, .inr (1, [.int (zI w), .int (zI h), .ref ka, .ref ta, .int (zI sx), .int (zI sy), .int (zI fx), .int (zI fy), .int (zI lf), .int (zI un)])), zA cI ka 96 K] H := hP.sub [0, 1, 2, 3] rfl
  have hD : va_D A [(sl, .inr (5, [.ref sh, .int (zI lc), .ref ru, .ref tr, .ref se])), zQ cL sh 6 sf, (lv, .inr (1, [.int (zI w), .int (zI h), .ref ka, .ref ta, .int (zI sx), .int (zI sy), .int (zI fx), .int (zI fy), .int (zI lf), .int (zI un)])), zA cI ka 96 K] := hD.sub [0, 1, 2, 3] (by decide) rfl
  clear hK1 hvm
  obtain ⟨rfl, po_5⟩ := hw
  have po_5 : r_4 = kd K w h cx cy ∧ -1 ≤ r_4 ∧ r_4 ≤ 3 := po_5
  refine W.eq (g2 := F0 m 12 ls [.int (zI r_4)]) rfl ?_
  have hP9 := hP.sub (ws' := [(sl, .inr (5, [.ref sh, .int (zI lc), .ref ru, .ref tr, .ref se])), zQ cL sh 6 sf, (lv, .inr (1, [.int (zI w), .int (zI h), .ref ka, .ref ta, .int (zI sx), .int (zI sy), .int (zI fx), .int (zI fy), .int (zI lf), .int (zI un)])), zA cI ka 96 K]) [0, 1, 2, 3] rfl
  have hD9 := hD.sub (ws' := [(sl, .inr (5, [.ref sh, .int (zI lc), .ref ru, .ref tr, .ref se])), zQ cL sh 6 sf, (lv, .inr (1, [.int (zI w), .int (zI h), .ref ka, .ref ta, .int (zI sx), .int (zI sy), .int (zI fx), .int (zI fy), .int (zI lf), .int (zI un)])), zA cI ka 96 K]) [0, 1, 2, 3] (by decide) rfl
  have po : zI r_4 = zI r_4 ∧ (r_4 = K (cy * 12 + cx)) := by
    refine ⟨by first | rfl | (congr 1; omega) | (congr 1; simp [*]), ?_⟩
    rw [po_5.1, kd_at gx gy]
  exact W.iret (v := zI r_4) hx hb hr (fun t ht hW => ⟨⟨zI r_4, r_4, rfl, po, by rw [ht]; exact hP9, va_K.moved hW.alike hK, hD9⟩, hS.F ht⟩) hS.2.2 dX5_cell_12
set_option maxHeartbeats 4000000 in
set_option maxRecDepth 100000 in
theorem c_X5_levels (l : Launch) (dC : Nat → ClassId) (dI : Nat → Nat → Nat) (cI cZ cL cT cJ : ClassId) (sz : Nat) (sl : Nat) (sh : Nat) (lc : Int) (ru : Nat) (tr : Nat) (se : Nat)  : Met l yX5_levels wsX5_levels ({ frames := 0, cells := 0, slots := 0, locals := 0 }) (zP (dC, dI) (zT cI cZ cL cT cJ) sz [.ref sl] [(sl, .inr (5, [.ref sh, .int (zI lc), .ref ru, .ref tr, .ref se]))]) (va_Qi (fun (r9 : Int32) (u9 : Unit) => match u9 with | _ => r9 = zI lc ∧ (True)) (zB (dC, dI) (zT cI cZ cL cT cJ) (va_A [(sl, .inr (5, [.ref sh, .int (zI lc), .ref ru, .ref tr, .ref se]))] sz) (fun (u9 : Unit) => match u9 with | _ => [(sl, .inr (5, [.ref sh, .int (zI lc), .ref ru, .ref tr, .ref se]))])) (va_A [(sl, .inr (5, [.ref sh, .int (zI lc), .ref ru, .ref tr, .ref se]))] sz)) 0 0 (va_A [(sl, .inr (5, [.ref sh, .int (zI lc), .ref ru, .ref tr, .ref se]))] sz) := by
  refine Met.ofW (cc := cX5_levels) (maxL := 1) (ret := (some .int)) (by decide) rfl ?_
  intro p e s m args below meth c s₁ B hml hv
  obtain ⟨rfl, hsz, hP, hK, hD0⟩ := hv
  have hx := B.exec
  have hb := B.bytes
  have hr := B.returns
  have hts := atoms_spec (ws := wsX5_levels) B.pre
  have hown : s.vm.findClass RX5 = some m.cls := findClass_of_methodNamed B.named
  have hlocks := B.notSynchronized
  subst hsz
  have hD := hD0.self (sz := s.heap.size)
  generalize hAe : va_A [(sl, .inr (5, [.ref sh, .int (zI lc), .ref ru, .ref tr, .ref se]))] s.heap.size = A at hD ⊢
  have hA : ∀ q : Nat, s.heap.size ≤ q → A q := fun q h => by rw [← hAe]; exact Or.inr h
  clear hAe hD0
  have hS : va_S A s.heap s.heap [] := va_S.rf
  have hP : va_P (dC, dI) vwCl [(sl, .inr (5, [.ref sh, .int (zI lc), .ref ru, .ref tr, .ref se]))] s.heap := hP
  have f_15 := hts (.fieldLink RX5 15 "SpringLevels" "levelCount" "I") (by decide +kernel)
  have i_5 : ∀ w ∈ wsX50, w ∈ wsX5_levels := by decide +kernel
  have hl := lv_entry ([.ref sl]) (n := 1) (Nat.le_of_ble_eq_true rfl)
  rw [lg_entry_eq]
  generalize (lg_sl ([.ref sl]) ++ List.replicate (1 - (lg_sl ([.ref sl])).length) Slot.unset).toArray = ls at hl ⊢
  have hl : lv_has ls 1 [(0, .ref sl)] := hl
  refine lv_aload_n hx hb dX5_levels_0 rfl (lv_at hl 0 rfl) ?_
  refine va_get (D := (dC, dI)) (ci := 5) (v := .int (zI lc)) (C := RX5) (T := TX5) (N := 5) hx hb hts i_5 hown hK hP 0 rfl rfl 1 (by decide) f_15 (fun _ h9 => h9) rfl dX5_levels_1 ?_
  have hP9 := hP.sub (ws' := [(sl, .inr (5, [.ref sh, .int (zI lc), .ref ru, .ref tr, .ref se]))]) [0] rfl
  have hD9 := hD.sub (ws' := [(sl, .inr (5, [.ref sh, .int (zI lc), .ref ru, .ref tr, .ref se]))]) [0] (by decide) rfl
  have po : zI lc = zI lc ∧ (True) := by
    refine ⟨by first | rfl | (congr 1; omega) | (congr 1; simp [*]), ?_⟩
    trivial
  exact W.iret (v := zI lc) hx hb hr (fun t ht hW => ⟨⟨zI lc, (), rfl, po, by rw [ht]; exact hP9, va_K.moved hW.alike hK, hD9⟩, hS.F ht⟩) hS.2.2 dX5_levels_4
set_option maxHeartbeats 4000000 in
set_option maxRecDepth 100000 in
theorem c_X5_solve (l : Launch) (dC : Nat → ClassId) (dI : Nat → Nat → Nat) (cI cZ cL cT cJ : ClassId) (sz : Nat) (sl : Nat) (sh : Nat) (lc : Int) (ru : Nat) (tr : Nat) (se : Nat) (sf : Nat → Option Nat) (L : Int) (k : Nat) (lv : Nat) (w : Int) (h : Int) (ka : Nat) (ta : Nat) (sx : Int) (sy : Int) (fx : Int) (fy : Int) (lf : Int) (un : Int) (K : Int → Int) (tx : Int) (ty : Int) (tl : Int) (de : Nat) (fi : Nat) (qu : Nat) (pr : Nat) (qd : Int) (s1 : Int) (s2 : Int) (DD : Int → Int) (FF : Int → Int) (QQ : Int → Int) (qx : Int) (qy : Int) (ql : Int) (gk : L = (k : Int) ∧ k < 6) (gf : sf k = some lv) (gw : 0 < w ∧ w ≤ 12) (gh : 0 < h ∧ h ≤ 8) (gK : Kin K) (gsx : 0 ≤ sx ∧ sx < w) (gsy : 0 ≤ sy ∧ sy < h) (gfx : 0 ≤ fx ∧ fx < w) (gfy : 0 ≤ fy ∧ fy < h) (gD : Din DD) (gFF : Fin6 FF) : Met l yX5_solve wsX5_solve ({ frames := 5, cells := 0, slots := 0, locals := 122 }) (zP (dC, dI) (zT cI cZ cL cT cJ) sz [.ref sl, .int (zI L)] [(sl, .inr (5, [.ref sh, .int (zI lc), .ref ru, .ref tr, .ref se])), zQ cL sh 6 sf, (lv, .inr (1, [.int (zI w), .int (zI h), .ref ka, .ref ta, .int (zI sx), .int (zI sy), .int (zI fx), .int (zI fy), .int (zI lf), .int (zI un)])), zA cI ka 96 K, (tr, .inr (0, [.int (zI tx), .int (zI ty), .int (zI tl)])), (se, .inr (3, [.ref de, .ref fi, .ref qu, .ref pr, .int (zI qd), .int (zI s1), .int (zI s2)])), (pr, .inr (0, [.int (zI qx), .int (zI qy), .int (zI ql)])), zA cI de 480 DD, zA cI fi 480 FF, zA cI qu 480 QQ]) (va_Qi (fun (r9 : Int32) (u9 : Int × Int × Int × (Int → Int) × (Int → Int) × (Int → Int) × Int × Int × Int) => match u9 with | (n1, s11, s21, D1, F1, Q1, qx1, qy1, ql1) => r9 = zI s11 ∧ (Din D1 ∧ Fin6 F1 ∧ ∃ D0 F0 Q0, Din D0 ∧ Fin6 F0 ∧ (∀ j, 0 ≤ j → j < 480 → D0 j = -1) ∧ (s11, s21) = fwT K w h fx fy 100 (plc sx sy 0) D0 F0 Q0)) (zB (dC, dI) (zT cI cZ cL cT cJ) (va_A [(sl, .inr (5, [.ref sh, .int (zI lc), .ref ru, .ref tr, .ref se])), zQ cL sh 6 sf, (lv, .inr (1, [.int (zI w), .int (zI h), .ref ka, .ref ta, .int (zI sx), .int (zI sy), .int (zI fx), .int (zI fy), .int (zI lf), .int (zI un)])), zA cI ka 96 K, (tr, .inr (0, [.int (zI tx), .int (zI ty), .int (zI tl)])), (se, .inr (3, [.ref de, .ref fi, .ref qu, .ref pr, .int (zI qd), .int (zI s1), .int (zI s2)])), (pr, .inr (0, [.int (zI qx), .int (zI qy), .int (zI ql)])), zA cI de 480 DD, zA cI fi 480 FF, zA cI qu 480 QQ] sz) (fun (u9 : Int × Int × Int × (Int → Int) × (Int → Int) × (Int → Int) × Int × Int × Int) => match u9 with | (n1, s11, s21, D1, F1, Q1, qx1, qy1, ql1) => [(sl, .inr (5, [.ref sh, .int (zI lc), .ref ru, .ref tr, .ref se])), zQ cL sh 6 sf, (lv, .inr (1, [.int (zI w), .int (zI h), .ref ka, .ref ta, .int (zI sx), .int (zI sy), .int (zI fx), .int (zI fy), .int (zI s11), .int (zI un)])), zA cI ka 96 K, (tr, .inr (0, [.int (zI sx), .int (zI sy), .int (zI 0)])), (se, .inr (3, [.ref de, .ref fi, .ref qu, .ref pr, .int (zI n1), .int (zI s11), .int (zI s21)])), (pr, .inr (0, [.int (zI qx1), .int (zI qy1), .int (zI ql1)])), zA cI de 480 D1, zA cI fi 480 F1, zA cI qu 480 Q1])) (va_A [(sl, .inr (5, [.ref sh, .int (zI lc), .ref ru, .ref tr, .ref se])), zQ cL sh 6 sf, (lv, .inr (1, [.int (zI w), .int (zI h), .ref ka, .ref ta, .int (zI sx), .int (zI sy), .int (zI fx), .int (zI fy), .int (zI lf), .int (zI un)])), zA cI ka 96 K, (tr, .inr (0, [.int (zI tx), .int (zI ty), .int (zI tl)])), (se, .inr (3, [.ref de, .ref fi, .ref qu, .ref pr, .int (zI qd), .int (zI s1), .int (zI s2)])), (pr, .inr (0, [.int (zI qx), .int (zI qy), .int (zI ql)])), zA cI de 480 DD, zA cI fi 480 FF, zA cI qu 480 QQ] sz)) 0 0 (va_A [(sl, .inr (5, [.ref sh, .int (zI lc), .ref ru, .ref tr, .ref se])), zQ cL sh 6 sf, (lv, .inr (1, [.int (zI w), .int (zI h), .ref ka, .ref ta, .int (zI sx), .int (zI sy), .int (zI fx), .int (zI fy), .int (zI lf), .int (zI un)])), zA cI ka 96 K, (tr, .inr (0, [.int (zI tx), .int (zI ty), .int (zI tl)])), (se, .inr (3, [.ref de, .ref fi, .ref qu, .ref pr, .int (zI qd), .int (zI s1), .int (zI s2)])), (pr, .inr (0, [.int (zI qx), .int (zI qy), .int (zI ql)])), zA cI de 480 DD, zA cI fi 480 FF, zA cI qu 480 QQ] sz) := by
  refine Met.ofW (cc := cX5_solve) (maxL := 3) (ret := (some .int)) (by decide) rfl ?_
  intro p e s m args below meth c s₁ B hml hv
  obtain ⟨rfl, hsz, hP, hK, hD0⟩ := hv
  have hx := B.exec
  have hb := B.bytes
  have hr := B.returns
  have hts := atoms_spec (ws := wsX5_solve) B.pre
  have hown : s.vm.findClass RX5 = some m.cls := findClass_of_methodNamed B.named
  have hlocks := B.notSynchronized
  subst hsz
  have hD := hD0.self (sz := s.heap.size)
  generalize hAe : va_A [(sl, .inr (5, [.ref sh, .int (zI lc), .ref ru, .ref tr, .ref se])), zQ cL sh 6 sf, (lv, .inr (1, [.int (zI w), .int (zI h), .ref ka, .ref ta, .int (zI sx), .int (zI sy), .int (zI fx), .int (zI fy), .int (zI lf), .int (zI un)])), zA cI ka 96 K, (tr, .inr (0, [.int (zI tx), .int (zI ty), .int (zI tl)])), (se, .inr (3, [.ref de, .ref fi, .ref qu, .ref pr, .int (zI qd), .int (zI s1), .int (zI s2)])), (pr, .inr (0, [.int (zI qx), .int (zI qy), .int (zI ql)])), zA cI de 480 DD, zA cI fi 480 FF, zA cI qu 480 QQ] s.heap.size = A at hD ⊢
  have hA : ∀ q : Nat, s.heap.size ≤ q → A q := fun q h => by rw [← hAe]; exact Or.inr h
  clear hAe hD0
  have hS : va_S A s.heap s.heap [] := va_S.rf
  have hP : va_P (dC, dI) vwCl [(sl, .inr (5, [.ref sh, .int (zI lc), .ref ru, .ref tr, .ref se])), zQ cL sh 6 sf, (lv, .inr (1, [.int (zI w), .int (zI h), .ref ka, .ref ta, .int (zI sx), .int (zI sy), .int (zI fx), .int (zI fy), .int (zI lf), .int (zI un)])), zA cI ka 96 K, (tr, .inr (0, [.int (zI tx), .int (zI ty), .int (zI tl)])), (se, .inr (3, [.ref de, .ref fi, .ref qu, .ref pr, .int (zI qd), .int (zI s1), .int (zI s2)])), (pr, .inr (0, [.int (zI qx), .int (zI qy), .int (zI ql)])), zA cI de 480 DD, zA cI fi 480 FF, zA cI qu 480 QQ] s.heap := hP
  have f_29 := hts (.fieldLink RX5 29 "SpringLevels" "trial" "LSpringLevels$Hero;") (by decide +kernel)
  have f_36 := hts (.fieldLink RX5 36 "SpringLevels" "search" "LSpringLevels$Search;") (by decide +kernel)
  have f_119 := hts (.fieldLink RX5 119 "SpringLevels$Search" "leastFrames" "I") (by decide +kernel)
  have f_122 := hts (.fieldLink RX5 122 "SpringLevels$Level" "leastFrames" "I") (by decide +kernel)
  have i_1 : ∀ w ∈ wsX10, w ∈ wsX5_solve := by decide +kernel
  have i_3 : ∀ w ∈ wsX30, w ∈ wsX5_solve := by decide +kernel
  have i_5 : ∀ w ∈ wsX50, w ∈ wsX5_solve := by decide +kernel
  have hl := lv_entry ([.ref sl, .int (zI L)]) (n := 3) (Nat.le_of_ble_eq_true rfl)
  rw [lg_entry_eq]
  generalize (lg_sl ([.ref sl, .int (zI L)]) ++ List.replicate (3 - (lg_sl ([.ref sl, .int (zI L)])).length) Slot.unset).toArray = ls at hl ⊢
  have hl : lv_has ls 3 [(0, .ref sl), (1, .int (zI L))] := hl
  refine lv_aload_n hx hb dX5_solve_0 rfl (lv_at hl 0 rfl) ?_
  refine lv_iload_n hx hb dX5_solve_1 rfl (lv_at hl 1 rfl) ?_
  have hPc := hP.sub (ws' := [(sl, .inr (5, [.ref sh, .int (zI lc), .ref ru, .ref tr, .ref se])), zQ cL sh 6 sf]) [0, 1] rfl
  have hDc := hD.sub (ws' := [(sl, .inr (5, [.ref sh, .int (zI lc), .ref ru, .ref tr, .ref se])), zQ cL sh 6 sf]) [0, 1] (by decide) rfl
  have hFc := va_free (wc := [(sl, .inr (5, [.ref sh, .int (zI lc), .ref ru, .ref tr, .ref se])), zQ cL sh 6 sf]) hD hS hA [0, 1] rfl
  refine va_callq (va_runV (As := [.int (zI L)]) (rest := []) ⟨hx, hb, hml, hown, hts⟩ (c_X5_levelNumbered l dC dI cI cZ cL cT cJ s.heap.size sl sh lc ru tr se sf L k lv (by first | assumption | omega) (by first | assumption | omega)) (cwV 1 hts gX5_solve_X5_levelNumbered rfl rfl rfl (by decide +kernel) ⟨Nat.le_of_ble_eq_true rfl, Nat.le_of_ble_eq_true rfl⟩) ⟨zP_blind, va_recv hK hPc (ci := 5) (q0 := 0) rfl rfl, zP_pre hPc hDc hK⟩ rfl rfl hl.1 rfl (lv_room (Nat.le_of_ble_eq_true rfl)) dX5_solve_2 ⟨Nat.le_of_ble_eq_true rfl, Nat.le_of_ble_eq_true rfl⟩) hS (fun q _ h => hFc q h) hFc (fun r_1 u_1 t H1 locs ht hvm hw hB hz1 hk1 hS => ?_)
  obtain ⟨hP1, hK1, hD1⟩ := hB
  rw [ht] at hP1
  have hP1 : va_P (dC, dI) vwCl [(sl, .inr (5, [.ref sh, .int (zI lc), .ref ru, .ref tr, .ref se])), zQ cL sh 6 sf] H1 := hP1
  obtain ⟨hP, hD⟩ := va_join (wr := [(lv, .inr (1, [.int (zI w), .int (zI h), .ref ka, .ref ta, .int (zI sx), .int (zI sy), .int (zI fx), .int (zI fy), .int (zI lf), .int (zI un)])), zA cI ka 96 K, (tr, .inr (0, [.int (zI tx), .int (zI ty), .int (zI tl)])), (se, .inr (3, [.ref de, .ref fi, .ref qu, .ref pr, .int (zI qd), .int (zI s1), .int (zI s2)])), (pr, .inr (0, [.int (zI qx), .int (zI qy), .int (zI ql)])), zA cI de 480 DD, zA cI fi 480 FF, zA cI qu 480 QQ]) (w1 := [(sl, .inr (5, [.ref sh, .int (zI lc), .ref ru, .ref tr, .ref se])), zQ cL sh 6 sf]) hP hD [0, 1] [2, 3, 4, 5, 6, 7, 8, 9] rfl rfl (by decide) (by decide) hk1 hFc hP1 hD1
  clear hP1 hD1 hk1 hFc hPc hDc hz1
  generalize H1 = H at hP hS ⊢
  have hP : va_P (dC, dI) vwCl [(sl, .inr (5, [.ref sh, .int (zI lc), .ref ru, .ref tr, .ref se])), zQ cL sh 6 sf, (lv, .inr (1, [.int (zI w), .int (zI h), .ref ka, .ref ta, .int (zI sx), .int (zI sy), .int (zI fx), .int (zI fy), .int (zI lf), .int (zI un)])), zA cI ka 96 K, (tr, .inr (0, [.int (zI tx), .int (zI ty), .int (zI tl)])), (se, .inr (3, [.ref de, .ref fi, .ref qu, .ref pr, .int (zI qd), .int (zI s1), .int (zI s2)])), (pr, .inr (0, [.int (zI qx), .int (zI qy), .int (zI ql)])), zA cI de 480 DD, zA cI fi 480 FF, zA cI qu 480 QQ] H := hP.sub [8, 9, 0, 1, 2, 3, 4, 5, 6, 7] rfl
  have hD : va_D A [(sl, .inr (5, [.ref sh, .int (zI lc), .ref ru, .ref tr, .ref se])), zQ cL sh 6 sf, (lv, .inr (1, [.int (zI w), .int (zI h), .ref ka, .ref ta, .int (zI sx), .int (zI sy), .int (zI fx), .int (zI fy), .int (zI lf), .int (zI un)])), zA cI ka 96 K, (tr, .inr (0, [.int (zI tx), .int (zI ty), .int (zI tl)])), (se, .inr (3, [.ref de, .ref fi, .ref qu, .ref pr, .int (zI qd), .int (zI s1), .int (zI s2)])), (pr, .inr (0, [.int (zI qx), .int (zI qy), .int (zI ql)])), zA cI de 480 DD, zA cI fi 480 FF, zA cI qu 480 QQ] := hD.sub [8, 9, 0, 1, 2, 3, 4, 5, 6, 7] (by decide) rfl
  clear hK1 hvm
  obtain ⟨rfl, po_2⟩ := hw
  refine W.eq (g2 := F0 m 5 ls [.ref lv]) rfl ?_
  refine lv_astore_n (lv' := [(2, .ref lv), (0, .ref sl), (1, .int (zI L))]) hx hb dX5_solve_5 rfl hl (by decide) rfl (fun ls hl => ?_)
  refine lv_aload_n hx hb dX5_solve_6 rfl (lv_at hl 1 rfl) ?_
  refine va_get (D := (dC, dI)) (ci := 5) (v := .ref tr) (C := RX5) (T := TX5) (N := 5) hx hb hts i_5 hown hK hP 0 rfl rfl 3 (by decide) f_29 (fun _ h9 => h9) rfl dX5_solve_7 ?_
  refine lv_aload_n hx hb dX5_solve_10 rfl (lv_at hl 0 rfl) ?_
  have hPc := hP.sub (ws' := [(tr, .inr (0, [.int (zI tx), .int (zI ty), .int (zI tl)])), (lv, .inr (1, [.int (zI w), .int (zI h), .ref ka, .ref ta, .int (zI sx), .int (zI sy), .int (zI fx), .int (zI fy), .int (zI lf), .int (zI un)]))]) [4, 2] rfl
  have hDc := hD.sub (ws' := [(tr, .inr (0, [.int (zI tx), .int (zI ty), .int (zI tl)])), (lv, .inr (1, [.int (zI w), .int (zI h), .ref ka, .ref ta, .int (zI sx), .int (zI sy), .int (zI fx), .int (zI fy), .int (zI lf), .int (zI un)]))]) [4, 2] (by decide) rfl
  have hFc := va_free (wc := [(tr, .inr (0, [.int (zI tx), .int (zI ty), .int (zI tl)])), (lv, .inr (1, [.int (zI w), .int (zI h), .ref ka, .ref ta, .int (zI sx), .int (zI sy), .int (zI fx), .int (zI fy), .int (zI lf), .int (zI un)]))]) hD hS hA [4, 2] rfl
  refine va_callv (va_runV (As := [.ref lv]) (rest := []) ⟨hx, hb, hml, hown, hts⟩ (c_X0_toStart l dC dI cI cZ cL cT cJ H.size tr tx ty tl lv w h ka ta sx sy fx fy lf un ) (cwV 1 hts gX5_solve_X0_toStart rfl rfl rfl (by decide +kernel) ⟨Nat.le_of_ble_eq_true rfl, Nat.le_of_ble_eq_true rfl⟩) ⟨zP_blind, va_recv hK hPc (ci := 0) (q0 := 0) rfl rfl, zP_pre hPc hDc hK⟩ rfl rfl hl.1 rfl (lv_room (Nat.le_of_ble_eq_true rfl)) dX5_solve_11 ⟨Nat.le_of_ble_eq_true rfl, Nat.le_of_ble_eq_true rfl⟩) hS (fun q _ h => hFc q h) hFc (fun u_3 t H1 locs ht hvm hw hB hz1 hk1 hS => ?_)
  obtain ⟨hP1, hK1, hD1⟩ := hB
  rw [ht] at hP1
  have hP1 : va_P (dC, dI) vwCl [(tr, .inr (0, [.int (zI sx), .int (zI sy), .int (zI 0)])), (lv, .inr (1, [.int (zI w), .int (zI h), .ref ka, .ref ta, .int (zI sx), .int (zI sy), .int (zI fx), .int (zI fy), .int (zI lf), .int (zI un)]))] H1 := hP1
  obtain ⟨hP, hD⟩ := va_join (wr := [(sl, .inr (5, [.ref sh, .int (zI lc), .ref ru, .ref tr, .ref se])), zQ cL sh 6 sf, zA cI ka 96 K, (se, .inr (3, [.ref de, .ref fi, .ref qu, .ref pr, .int (zI qd), .int (zI s1), .int (zI s2)])), (pr, .inr (0, [.int (zI qx), .int (zI qy), .int (zI ql)])), zA cI de 480 DD, zA cI fi 480 FF, zA cI qu 480 QQ]) (w1 := [(tr, .inr (0, [.int (zI sx), .int (zI sy), .int (zI 0)])), (lv, .inr (1, [.int (zI w), .int (zI h), .ref ka, .ref ta, .int (zI sx), .int (zI sy), .int (zI fx), .int (zI fy), .int (zI lf), .int (zI un)]))]) hP hD [4, 2] [0, 1, 3, 5, 6, 7, 8, 9] rfl rfl (by decide) (by decide) hk1 hFc hP1 hD1
  clear hP1 hD1 hk1 hFc hPc hDc hz1
  generalize H1 = H at hP hS ⊢
  have hP : va_P (dC, dI) vwCl [(sl, .inr (5, [.ref sh, .int (zI lc), .ref ru, .ref tr, .ref se])), zQ cL sh 6 sf, (lv, .inr (1, [.int (zI w), .int (zI h), .ref ka, .ref ta, .int (zI sx), .int (zI sy), .int (zI fx), .int (zI fy), .int (zI lf), .int (zI un)])), zA cI ka 96 K, (tr, .inr (0, [.int (zI sx), .int (zI sy), .int (zI 0)])), (se, .inr (3, [.ref de, .ref fi, .ref qu, .ref pr, .int (zI qd), .int (zI s1), .int (zI s2)])), (pr, .inr (0, [.int (zI qx), .int (zI qy), .int (zI ql)])), zA cI de 480 DD, zA cI fi 480 FF, zA cI qu 480 QQ] H := hP.sub [0, 1, 9, 2, 8, 3, 4, 5, 6, 7] rfl
  have hD : va_D A [(sl, .inr (5, [.ref sh, .int (zI lc), .ref ru, .ref tr, .ref se])), zQ cL sh 6 sf, (lv, .inr (1, [.int (zI w), .int (zI h), .ref ka, .ref ta, .int (zI sx), .int (zI sy), .int (zI fx), .int (zI fy), .int (zI lf), .int (zI un)])), zA cI ka 96 K, (tr, .inr (0, [.int (zI sx), .int (zI sy), .int (zI 0)])), (se, .inr (3, [.ref de, .ref fi, .ref qu, .ref pr, .int (zI qd), .int (zI s1), .int (zI s2)])), (pr, .inr (0, [.int (zI qx), .int (zI qy), .int (zI ql)])), zA cI de 480 DD, zA cI fi 480 FF, zA cI qu 480 QQ] := hD.sub [0, 1, 9, 2, 8, 3, 4, 5, 6, 7] (by decide) rfl
  clear hK1 hvm
  refine W.eq (g2 := F0 m 14 ls []) rfl ?_
  refine lv_aload_n hx hb dX5_solve_14 rfl (lv_at hl 1 rfl) ?_
  refine va_get (D := (dC, dI)) (ci := 5) (v := .ref se) (C := RX5) (T := TX5) (N := 5) hx hb hts i_5 hown hK hP 0 rfl rfl 4 (by decide) f_36 (fun _ h9 => h9) rfl dX5_solve_15 ?_
  refine lv_aload_n hx hb dX5_solve_18 rfl (lv_at hl 0 rfl) ?_
  refine lv_aload_n hx hb dX5_solve_19 rfl (lv_at hl 1 rfl) ?_
  refine va_get (D := (dC, dI)) (ci := 5) (v := .ref tr) (C := RX5) (T := TX5) (N := 5) hx hb hts i_5 hown hK hP 0 rfl rfl 3 (by decide) f_29 (fun _ h9 => h9) rfl dX5_solve_20 ?_
  refine lv_bipush (v := zI 100) hx hb dX5_solve_23 (by decide) ?_
  have hPc := hP.sub (ws' := [(se, .inr (3, [.ref de, .ref fi, .ref qu, .ref pr, .int (zI qd), .int (zI s1), .int (zI s2)])), (pr, .inr (0, [.int (zI qx), .int (zI qy), .int (zI ql)])), (lv, .inr (1, [.int (zI w), .int (zI h), .ref ka, .ref ta, .int (zI sx), .int (zI sy), .int (zI fx), .int (zI fy), .int (zI lf), .int (zI un)])), zA cI ka 96 K, zA cI de 480 DD, zA cI fi 480 FF, zA cI qu 480 QQ, (tr, .inr (0, [.int (zI sx), .int (zI sy), .int (zI 0)]))]) [5, 6, 2, 3, 7, 8, 9, 4] rfl
  have hDc := hD.sub (ws' := [(se, .inr (3, [.ref de, .ref fi, .ref qu, .ref pr, .int (zI qd), .int (zI s1), .int (zI s2)])), (pr, .inr (0, [.int (zI qx), .int (zI qy), .int (zI ql)])), (lv, .inr (1, [.int (zI w), .int (zI h), .ref ka, .ref ta, .int (zI sx), .int (zI sy), .int (zI fx), .int (zI fy), .int (zI lf), .int (zI un)])), zA cI ka 96 K, zA cI de 480 DD, zA cI fi 480 FF, zA cI qu 480 QQ, (tr, .inr (0, [.int (zI sx), .int (zI sy), .int (zI 0)]))]) [5, 6, 2, 3, 7, 8, 9, 4] (by decide) rfl
  have hFc := va_free (wc := [(se, .inr (3, [.ref de, .ref fi, .ref qu, .ref pr, .int (zI qd), .int (zI s1), .int (zI s2)])), (pr, .inr (0, [.int (zI qx), .int (zI qy), .int (zI ql)])), (lv, .inr (1, [.int (zI w), .int (zI h), .ref ka, .ref ta, .int (zI sx), .int (zI sy), .int (zI fx), .int (zI fy), .int (zI lf), .int (zI un)])), zA cI ka 96 K, zA cI de 480 DD, zA cI fi 480 FF, zA cI qu 480 QQ, (tr, .inr (0, [.int (zI sx), .int (zI sy), .int (zI 0)]))]) hD hS hA [5, 6, 2, 3, 7, 8, 9, 4] rfl
  refine va_callv (va_runV (As := [.ref lv, .ref tr, .int (zI 100)]) (rest := []) ⟨hx, hb, hml, hown, hts⟩ (c_X3_findWin l dC dI cI cZ cL cT cJ H.size se de fi qu pr qd s1 s2 DD FF QQ lv w h ka ta sx sy fx fy lf un K tr sx sy 0 qx qy ql 100 (by first | assumption | omega) (by first | assumption | omega) (by first | assumption | omega) (by first | assumption | omega) (by first | assumption | omega) (by first | assumption | omega) (by first | assumption | omega) (by first | assumption | omega) (by first | assumption | omega) (by first | assumption | omega) (by first | assumption | omega)) (cwV 3 hts gX5_solve_X3_findWin rfl rfl rfl (by decide +kernel) ⟨Nat.le_of_ble_eq_true rfl, Nat.le_of_ble_eq_true rfl⟩) ⟨zP_blind, va_recv hK hPc (ci := 3) (q0 := 0) rfl rfl, zP_pre hPc hDc hK⟩ rfl rfl hl.1 rfl (lv_room (Nat.le_of_ble_eq_true rfl)) dX5_solve_25 ⟨Nat.le_of_ble_eq_true rfl, Nat.le_of_ble_eq_true rfl⟩) hS (fun q _ h => hFc q h) hFc (fun u_5 t H1 locs ht hvm hw hB hz1 hk1 hS => ?_)
  obtain ⟨n1_6, s11_7, s21_8, D1_9, F1_10, Q1_11, qx1_12, qy1_13, ql1_14⟩ := u_5
  obtain ⟨hP1, hK1, hD1⟩ := hB
  rw [ht] at hP1
  have hP1 : va_P (dC, dI) vwCl [(se, .inr (3, [.ref de, .ref fi, .ref qu, .ref pr, .int (zI n1_6), .int (zI s11_7), .int (zI s21_8)])), (pr, .inr (0, [.int (zI qx1_12), .int (zI qy1_13), .int (zI ql1_14)])), (lv, .inr (1, [.int (zI w), .int (zI h), .ref ka, .ref ta, .int (zI sx), .int (zI sy), .int (zI fx), .int (zI fy), .int (zI lf), .int (zI un)])), zA cI ka 96 K, zA cI de 480 D1_9, zA cI fi 480 F1_10, zA cI qu 480 Q1_11, (tr, .inr (0, [.int (zI sx), .int (zI sy), .int (zI 0)]))] H1 := hP1
  obtain ⟨hP, hD⟩ := va_join (wr := [(sl, .inr (5, [.ref sh, .int (zI lc), .ref ru, .ref tr, .ref se])), zQ cL sh 6 sf]) (w1 := [(se, .inr (3, [.ref de, .ref fi, .ref qu, .ref pr, .int (zI n1_6), .int (zI s11_7), .int (zI s21_8)])), (pr, .inr (0, [.int (zI qx1_12), .int (zI qy1_13), .int (zI ql1_14)])), (lv, .inr (1, [.int (zI w), .int (zI h), .ref ka, .ref ta, .int (zI sx), .int (zI sy), .int (zI fx), .int (zI fy), .int (zI lf), .int (zI un)])), zA cI ka 96 K, zA cI de 480 D1_9, zA cI fi 480 F1_10, zA cI qu 480 Q1_11, (tr, .inr (0, [.int (zI sx), .int (zI sy), .int (zI 0)]))]) hP hD [5, 6, 2, 3, 7, 8, 9, 4] [0, 1] rfl rfl (by decide) (by decide) hk1 hFc hP1 hD1
  clear hP1 hD1 hk1 hFc hPc hDc hz1
  generalize H1 = H at hP hS ⊢
  have hP : va_P (dC, dI) vwCl [(sl, .inr (5, [.ref sh, .int (zI lc), .ref ru, .ref tr, .ref se])), zQ cL sh 6 sf, (lv, .inr (1, [.int (zI w), .int (zI h), .ref ka, .ref ta, .int (zI sx), .int (zI sy), .int (zI fx), .int (zI fy), .int (zI lf), .int (zI un)])), zA cI ka 96 K, (tr, .inr (0, [.int (zI sx), .int (zI sy), .int (zI 0)])), (se, .inr (3, [.ref de, .ref fi, .ref qu, .ref pr, .int (zI n1_6), .int (zI s11_7), .int (zI s21_8)])), (pr, .inr (0, [.int (zI qx1_12), .int (zI qy1_13), .int (zI ql1_14)])), zA cI de 480 D1_9, zA cI fi 480 F1_10, zA cI qu 480 Q1_11] H := hP.sub [0, 1, 4, 5, 9, 2, 3, 6, 7, 8] rfl
  have hD : va_D A [(sl, .inr (5, [.ref sh, .int (zI lc), .ref ru, .ref tr, .ref se])), zQ cL sh 6 sf, (lv, .inr (1, [.int (zI w), .int (zI h), .ref ka, .ref ta, .int (zI sx), .int (zI sy), .int (zI fx), .int (zI fy), .int (zI lf), .int (zI un)])), zA cI ka 96 K, (tr, .inr (0, [.int (zI sx), .int (zI sy), .int (zI 0)])), (se, .inr (3, [.ref de, .ref fi, .ref qu, .ref pr, .int (zI n1_6), .int (zI s11_7), .int (zI s21_8)])), (pr, .inr (0, [.int (zI qx1_12), .int (zI qy1_13), .int (zI ql1_14)])), zA cI de 480 D1_9, zA cI fi 480 F1_10, zA cI qu 480 Q1_11] := hD.sub [0, 1, 4, 5, 9, 2, 3, 6, 7, 8] (by decide) rfl
  clear hK1 hvm
  have po_15 : Din D1_9 ∧ Fin6 F1_10 ∧ ∃ D0 F0 Q0, Din D0 ∧ Fin6 F0 ∧ (∀ j, 0 ≤ j → j < 480 → D0 j = -1) ∧ (s11_7, s21_8) = fwT K w h fx fy (100 : Int) (plc sx sy (0 : Int)) D0 F0 Q0 := hw
  refine W.eq (g2 := F0 m 28 ls []) rfl ?_
  refine lv_aload_n hx hb dX5_solve_28 rfl (lv_at hl 0 rfl) ?_
  refine lv_aload_n hx hb dX5_solve_29 rfl (lv_at hl 1 rfl) ?_
  refine va_get (D := (dC, dI)) (ci := 5) (v := .ref se) (C := RX5) (T := TX5) (N := 5) hx hb hts i_5 hown hK hP 0 rfl rfl 4 (by decide) f_36 (fun _ h9 => h9) rfl dX5_solve_30 ?_
  refine va_get (D := (dC, dI)) (ci := 3) (v := .int (zI s11_7)) (C := RX3) (T := TX3) (N := 7) hx hb hts i_3 hown hK hP 5 rfl rfl 5 (by decide) f_119 (fun _ h9 => h9) rfl dX5_solve_33 ?_
  refine va_put (D := (dC, dI)) (ci := 1) (v := .int (zI s11_7)) (ty := .int) (C := RX1) (T := TX1) (N := 10) hx hb hts i_1 tyX1 tyX1_ok nmX1 hown hK hP hD hS 2 rfl rfl 8 (by decide) f_122 (fun _ h9 => h9) rfl (by decide +kernel) rfl rfl (Nat.le_of_ble_eq_true rfl) dX5_solve_36 (fun H locs hP hD hS => ?_)
  have hP : va_P (dC, dI) vwCl [(sl, .inr (5, [.ref sh, .int (zI lc), .ref ru, .ref tr, .ref se])), zQ cL sh 6 sf, (lv, .inr (1, [.int (zI w), .int (zI h), .ref ka, .ref ta, .int (zI sx), .int (zI sy), .int (zI fx), .int (zI fy), .int (zI s11_7), .int (zI un)])), zA cI ka 96 K, (tr, .inr (0, [.int (zI sx), .int (zI sy), .int (zI 0)])), (se, .inr (3, [.ref de, .ref fi, .ref qu, .ref pr, .int (zI n1_6), .int (zI s11_7), .int (zI s21_8)])), (pr, .inr (0, [.int (zI qx1_12), .int (zI qy1_13), .int (zI ql1_14)])), zA cI de 480 D1_9, zA cI fi 480 F1_10, zA cI qu 480 Q1_11] H := hP
  have hD : va_D A [(sl, .inr (5, [.ref sh, .int (zI lc), .ref ru, .ref tr, .ref se])), zQ cL sh 6 sf, (lv, .inr (1, [.int (zI w), .int (zI h), .ref ka, .ref ta, .int (zI sx), .int (zI sy), .int (zI fx), .int (zI fy), .int (zI s11_7), .int (zI un)])), zA cI ka 96 K, (tr, .inr (0, [.int (zI sx), .int (zI sy), .int (zI 0)])), (se, .inr (3, [.ref de, .ref fi, .ref qu, .ref pr, .int (zI n1_6), .int (zI s11_7), .int (zI s21_8)])), (pr, .inr (0, [.int (zI qx1_12), .int (zI qy1_13), .int (zI ql1_14)])), zA cI de 480 D1_9, zA cI fi 480 F1_10, zA cI qu 480 Q1_11] := hD
  refine lv_aload_n hx hb dX5_solve_39 rfl (lv_at hl 0 rfl) ?_
  refine va_get (D := (dC, dI)) (ci := 1) (v := .int (zI s11_7)) (C := RX1) (T := TX1) (N := 10) hx hb hts i_1 hown hK hP 2 rfl rfl 8 (by decide) f_122 (fun _ h9 => h9) rfl dX5_solve_40 ?_
  have hP9 := hP.sub (ws' := [(sl, .inr (5, [.ref sh, .int (zI lc), .ref ru, .ref tr, .ref se])), zQ cL sh 6 sf, (lv, .inr (1, [.int (zI w), .int (zI h), .ref ka, .ref ta, .int (zI sx), .int (zI sy), .int (zI fx), .int (zI fy), .int (zI s11_7), .int (zI un)])), zA cI ka 96 K, (tr, .inr (0, [.int (zI sx), .int (zI sy), .int (zI 0)])), (se, .inr (3, [.ref de, .ref fi, .ref qu, .ref pr, .int (zI n1_6), .int (zI s11_7), .int (zI s21_8)])), (pr, .inr (0, [.int (zI qx1_12), .int (zI qy1_13), .int (zI ql1_14)])), zA cI de 480 D1_9, zA cI fi 480 F1_10, zA cI qu 480 Q1_11]) [0, 1, 2, 3, 4, 5, 6, 7, 8, 9] rfl
  have hD9 := hD.sub (ws' := [(sl, .inr (5, [.ref sh, .int (zI lc), .ref ru, .ref tr, .ref se])), zQ cL sh 6 sf, (lv, .inr (1, [.int (zI w), .int (zI h), .ref ka, .ref ta, .int (zI sx), .int (zI sy), .int (zI fx), .int (zI fy), .int (zI s11_7), .int (zI un)])), zA cI ka 96 K, (tr, .inr (0, [.int (zI sx), .int (zI sy), .int (zI 0)])), (se, .inr (3, [.ref de, .ref fi, .ref qu, .ref pr, .int (zI n1_6), .int (zI s11_7), .int (zI s21_8)])), (pr, .inr (0, [.int (zI qx1_12), .int (zI qy1_13), .int (zI ql1_14)])), zA cI de 480 D1_9, zA cI fi 480 F1_10, zA cI qu 480 Q1_11]) [0, 1, 2, 3, 4, 5, 6, 7, 8, 9] (by decide) rfl
  have po : zI s11_7 = zI s11_7 ∧ (Din D1_9 ∧ Fin6 F1_10 ∧ ∃ D0 F0 Q0, Din D0 ∧ Fin6 F0 ∧ (∀ j, 0 ≤ j → j < 480 → D0 j = -1) ∧ (s11_7, s21_8) = fwT K w h fx fy 100 (plc sx sy 0) D0 F0 Q0) := by
    refine ⟨by first | rfl | (congr 1; omega) | (congr 1; simp [*]), ?_⟩
    exact po_15
  exact W.iret (v := zI s11_7) hx hb hr (fun t ht hW => ⟨⟨zI s11_7, (n1_6, s11_7, s21_8, D1_9, F1_10, Q1_11, qx1_12, qy1_13, ql1_14), rfl, po, by rw [ht]; exact hP9, va_K.moved hW.alike hK, hD9⟩, hS.F ht⟩) hS.2.2 dX5_solve_43
set_option maxHeartbeats 4000000 in
set_option maxRecDepth 100000 in
theorem c_X5_way (l : Launch) (dC : Nat → ClassId) (dI : Nat → Nat → Nat) (cI cZ cL cT cJ : ClassId) (sz : Nat) (sl : Nat) (sh : Nat) (lc : Int) (ru : Nat) (tr : Nat) (se : Nat) (sf : Nat → Option Nat) (L : Int) (k : Nat) (lv : Nat) (w : Int) (h : Int) (ka : Nat) (ta : Nat) (sx : Int) (sy : Int) (fx : Int) (fy : Int) (lf : Int) (un : Int) (gk : L = (k : Int) ∧ k < 6) (gf : sf k = some lv) : Met l yX5_way wsX5_way ({ frames := 1, cells := 0, slots := 0, locals := 22 }) (zP (dC, dI) (zT cI cZ cL cT cJ) sz [.ref sl, .int (zI L)] [(sl, .inr (5, [.ref sh, .int (zI lc), .ref ru, .ref tr, .ref se])), zQ cL sh 6 sf, (lv, .inr (1, [.int (zI w), .int (zI h), .ref ka, .ref ta, .int (zI sx), .int (zI sy), .int (zI fx), .int (zI fy), .int (zI lf), .int (zI un)]))]) (va_Qi (fun (r9 : Int32) (u9 : Unit) => match u9 with | _ => r9 = zI lf ∧ (True)) (zB (dC, dI) (zT cI cZ cL cT cJ) (va_A [(sl, .inr (5, [.ref sh, .int (zI lc), .ref ru, .ref tr, .ref se])), zQ cL sh 6 sf, (lv, .inr (1, [.int (zI w), .int (zI h), .ref ka, .ref ta, .int (zI sx), .int (zI sy), .int (zI fx), .int (zI fy), .int (zI lf), .int (zI un)]))] sz) (fun (u9 : Unit) => match u9 with | _ => [(sl, .inr (5, [.ref sh, .int (zI lc), .ref ru, .ref tr, .ref se])), zQ cL sh 6 sf, (lv, .inr (1, [.int (zI w), .int (zI h), .ref ka, .ref ta, .int (zI sx), .int (zI sy), .int (zI fx), .int (zI fy), .int (zI lf), .int (zI un)]))])) (va_A [(sl, .inr (5, [.ref sh, .int (zI lc), .ref ru, .ref tr, .ref se])), zQ cL sh 6 sf, (lv, .inr (1, [.int (zI w), .int (zI h), .ref ka, .ref ta, .int (zI sx), .int (zI sy), .int (zI fx), .int (zI fy), .int (zI lf), .int (zI un)]))] sz)) 0 0 (va_A [(sl, .inr (5, [.ref sh, .int (zI lc), .ref ru, .ref tr, .ref se])), zQ cL sh 6 sf, (lv, .inr (1, [.int (zI w), .int (zI h), .ref ka, .ref ta, .int (zI sx), .int (zI sy), .int (zI fx), .int (zI fy), .int (zI lf), .int (zI un)]))] sz) := by
  refine Met.ofW (cc := cX5_way) (maxL := 2) (ret := (some .int)) (by decide) rfl ?_
  intro p e s m args below meth c s₁ B hml hv
  obtain ⟨rfl, hsz, hP, hK, hD0⟩ := hv
  have hx := B.exec
  have hb := B.bytes
  have hr := B.returns
  have hts := atoms_spec (ws := wsX5_way) B.pre
  have hown : s.vm.findClass RX5 = some m.cls := findClass_of_methodNamed B.named
  have hlocks := B.notSynchronized
  subst hsz
  have hD := hD0.self (sz := s.heap.size)
  generalize hAe : va_A [(sl, .inr (5, [.ref sh, .int (zI lc), .ref ru, .ref tr, .ref se])), zQ cL sh 6 sf, (lv, .inr (1, [.int (zI w), .int (zI h), .ref ka, .ref ta, .int (zI sx), .int (zI sy), .int (zI fx), .int (zI fy), .int (zI lf), .int (zI un)]))] s.heap.size = A at hD ⊢
  have hA : ∀ q : Nat, s.heap.size ≤ q → A q := fun q h => by rw [← hAe]; exact Or.inr h
  clear hAe hD0
  have hS : va_S A s.heap s.heap [] := va_S.rf
  have hP : va_P (dC, dI) vwCl [(sl, .inr (5, [.ref sh, .int (zI lc), .ref ru, .ref tr, .ref se])), zQ cL sh 6 sf, (lv, .inr (1, [.int (zI w), .int (zI h), .ref ka, .ref ta, .int (zI sx), .int (zI sy), .int (zI fx), .int (zI fy), .int (zI lf), .int (zI un)]))] s.heap := hP
  have f_122 := hts (.fieldLink RX5 122 "SpringLevels$Level" "leastFrames" "I") (by decide +kernel)
  have i_1 : ∀ w ∈ wsX10, w ∈ wsX5_way := by decide +kernel
  have hl := lv_entry ([.ref sl, .int (zI L)]) (n := 2) (Nat.le_of_ble_eq_true rfl)
  rw [lg_entry_eq]
  generalize (lg_sl ([.ref sl, .int (zI L)]) ++ List.replicate (2 - (lg_sl ([.ref sl, .int (zI L)])).length) Slot.unset).toArray = ls at hl ⊢
  have hl : lv_has ls 2 [(0, .ref sl), (1, .int (zI L))] := hl
  refine lv_aload_n hx hb dX5_way_0 rfl (lv_at hl 0 rfl) ?_
  refine lv_iload_n hx hb dX5_way_1 rfl (lv_at hl 1 rfl) ?_
  have hPc := hP.sub (ws' := [(sl, .inr (5, [.ref sh, .int (zI lc), .ref ru, .ref tr, .ref se])), zQ cL sh 6 sf]) [0, 1] rfl
  have hDc := hD.sub (ws' := [(sl, .inr (5, [.ref sh, .int (zI lc), .ref ru, .ref tr, .ref se])), zQ cL sh 6 sf]) [0, 1] (by decide) rfl
  have hFc := va_free (wc := [(sl, .inr (5, [.ref sh, .int (zI lc), .ref ru, .ref tr, .ref se])), zQ cL sh 6 sf]) hD hS hA [0, 1] rfl
  refine va_callq (va_runV (As := [.int (zI L)]) (rest := []) ⟨hx, hb, hml, hown, hts⟩ (c_X5_levelNumbered l dC dI cI cZ cL cT cJ s.heap.size sl sh lc ru tr se sf L k lv (by first | assumption | omega) (by first | assumption | omega)) (cwV 1 hts gX5_way_X5_levelNumbered rfl rfl rfl (by decide +kernel) ⟨Nat.le_of_ble_eq_true rfl, Nat.le_of_ble_eq_true rfl⟩) ⟨zP_blind, va_recv hK hPc (ci := 5) (q0 := 0) rfl rfl, zP_pre hPc hDc hK⟩ rfl rfl hl.1 rfl (lv_room (Nat.le_of_ble_eq_true rfl)) dX5_way_2 ⟨Nat.le_of_ble_eq_true rfl, Nat.le_of_ble_eq_true rfl⟩) hS (fun q _ h => hFc q h) hFc (fun r_1 u_1 t H1 locs ht hvm hw hB hz1 hk1 hS => ?_)
  obtain ⟨hP1, hK1, hD1⟩ := hB
  rw [ht] at hP1
  have hP1 : va_P (dC, dI) vwCl [(sl, .inr (5, [.ref sh, .int (zI lc), .ref ru, .ref tr, .ref se])), zQ cL sh 6 sf] H1 := hP1
  obtain ⟨hP, hD⟩ := va_join (wr := [(lv, .inr (1, [.int (zI w), .int (zI h), .ref ka, .ref ta, .int (zI sx), .int (zI sy), .int (zI fx), .int (zI fy), .int (zI lf), .int (zI un)]))]) (w1 := [(sl, .inr (5, [.ref sh, .int (zI lc), .ref ru, .ref tr, .ref se])), zQ cL sh 6 sf]) hP hD [0, 1] [2] rfl rfl (by decide) (by decide) hk1 hFc hP1 hD1
  clear hP1 hD1 hk1 hFc hPc hDc hz1
  generalize H1 = H at hP hS ⊢
  have hP : va_P (dC, dI) vwCl [(sl, .inr (5, [.ref sh, .int (zI lc), .ref ru, .ref tr, .ref se])), zQ cL sh 6 sf, (lv, .inr (1, [.int (zI w), .int (zI h), .ref ka, .ref ta, .int (zI sx), .int (zI sy), .int (zI fx), .int (zI fy), .int (zI lf), .int (zI un)]))] H := hP.sub [1, 2, 0] rfl
  have hD : va_D A [(sl, .inr (5, [.ref sh, .int (zI lc), .ref ru, .ref tr, .ref se])), zQ cL sh 6 sf, (lv, .inr (1, [.int (zI w), .int (zI h), .ref ka, .ref ta, .int (zI sx), .int (zI sy), .int (zI fx), .int (zI fy), .int (zI lf), .int (zI un)]))] := hD.sub [1, 2, 0] (by decide) rfl
  clear hK1 hvm
  obtain ⟨rfl, po_2⟩ := hw
  refine W.eq (g2 := F0 m 5 ls [.ref lv]) rfl ?_
  refine va_get (D := (dC, dI)) (ci := 1) (v := .int (zI lf)) (C := RX1) (T := TX1) (N := 10) hx hb hts i_1 hown hK hP 2 rfl rfl 8 (by decide) f_122 (fun _ h9 => h9) rfl dX5_way_5 ?_
  have hP9 := hP.sub (ws' := [(sl, .inr (5, [.ref sh, .int (zI lc), .ref ru, .ref tr, .ref se])), zQ cL sh 6 sf, (lv, .inr (1, [.int (zI w), .int (zI h), .ref ka, .ref ta, .int (zI sx), .int (zI sy), .int (zI fx), .int (zI fy), .int (zI lf), .int (zI un)]))]) [0, 1, 2] rfl
  have hD9 := hD.sub (ws' := [(sl, .inr (5, [.ref sh, .int (zI lc), .ref ru, .ref tr, .ref se])), zQ cL sh 6 sf, (lv, .inr (1, [.int (zI w), .int (zI h), .ref ka, .ref ta, .int (zI sx), .int (zI sy), .int (zI fx), .int (zI fy), .int (zI lf), .int (zI un)]))]) [0, 1, 2] (by decide) rfl
  have po : zI lf = zI lf ∧ (True) := by
    refine ⟨by first | rfl | (congr 1; omega) | (congr 1; simp [*]), ?_⟩
    trivial
  exact W.iret (v := zI lf) hx hb hr (fun t ht hW => ⟨⟨zI lf, (), rfl, po, by rw [ht]; exact hP9, va_K.moved hW.alike hK, hD9⟩, hS.F ht⟩) hS.2.2 dX5_way_8
set_option maxHeartbeats 4000000 in
set_option maxRecDepth 100000 in
theorem c_X5_open (l : Launch) (dC : Nat → ClassId) (dI : Nat → Nat → Nat) (cI cZ cL cT cJ : ClassId) (sz : Nat) (sl : Nat) (sh : Nat) (lc : Int) (ru : Nat) (tr : Nat) (se : Nat) (sf : Nat → Option Nat) (L : Int) (k : Nat) (lv : Nat) (w : Int) (h : Int) (ka : Nat) (ta : Nat) (sx : Int) (sy : Int) (fx : Int) (fy : Int) (lf : Int) (un : Int) (gk : L = (k : Int) ∧ k < 6) (gf : sf k = some lv) (gy : ¬ lf = -1) (gr : -1 ≤ lf ∧ lf ≤ 100) (gu : un = 0 ∨ un = 1) : Met l yX5_open wsX5_open ({ frames := 1, cells := 0, slots := 0, locals := 22 }) (zP (dC, dI) (zT cI cZ cL cT cJ) sz [.ref sl, .int (zI L)] [(sl, .inr (5, [.ref sh, .int (zI lc), .ref ru, .ref tr, .ref se])), zQ cL sh 6 sf, (lv, .inr (1, [.int (zI w), .int (zI h), .ref ka, .ref ta, .int (zI sx), .int (zI sy), .int (zI fx), .int (zI fy), .int (zI lf), .int (zI un)]))]) (va_Qi (fun (r9 : Int32) (u9 : Unit) => match u9 with | _ => r9 = zI un ∧ (True)) (zB (dC, dI) (zT cI cZ cL cT cJ) (va_A [(sl, .inr (5, [.ref sh, .int (zI lc), .ref ru, .ref tr, .ref se])), zQ cL sh 6 sf, (lv, .inr (1, [.int (zI w), .int (zI h), .ref ka, .ref ta, .int (zI sx), .int (zI sy), .int (zI fx), .int (zI fy), .int (zI lf), .int (zI un)]))] sz) (fun (u9 : Unit) => match u9 with | _ => [(sl, .inr (5, [.ref sh, .int (zI lc), .ref ru, .ref tr, .ref se])), zQ cL sh 6 sf, (lv, .inr (1, [.int (zI w), .int (zI h), .ref ka, .ref ta, .int (zI sx), .int (zI sy), .int (zI fx), .int (zI fy), .int (zI lf), .int (zI 1)]))])) (va_A [(sl, .inr (5, [.ref sh, .int (zI lc), .ref ru, .ref tr, .ref se])), zQ cL sh 6 sf, (lv, .inr (1, [.int (zI w), .int (zI h), .ref ka, .ref ta, .int (zI sx), .int (zI sy), .int (zI fx), .int (zI fy), .int (zI lf), .int (zI un)]))] sz)) 0 0 (va_A [(sl, .inr (5, [.ref sh, .int (zI lc), .ref ru, .ref tr, .ref se])), zQ cL sh 6 sf, (lv, .inr (1, [.int (zI w), .int (zI h), .ref ka, .ref ta, .int (zI sx), .int (zI sy), .int (zI fx), .int (zI fy), .int (zI lf), .int (zI un)]))] sz) := by
  refine Met.ofW (cc := cX5_open) (maxL := 4) (ret := (some .boolean)) (by decide) rfl ?_
  intro p e s m args below meth c s₁ B hml hv
  obtain ⟨rfl, hsz, hP, hK, hD0⟩ := hv
  have hx := B.exec
  have hb := B.bytes
  have hr := B.returns
  have hts := atoms_spec (ws := wsX5_open) B.pre
  have hown : s.vm.findClass RX5 = some m.cls := findClass_of_methodNamed B.named
  have hlocks := B.notSynchronized
  subst hsz
  have hD := hD0.self (sz := s.heap.size)
  generalize hAe : va_A [(sl, .inr (5, [.ref sh, .int (zI lc), .ref ru, .ref tr, .ref se])), zQ cL sh 6 sf, (lv, .inr (1, [.int (zI w), .int (zI h), .ref ka, .ref ta, .int (zI sx), .int (zI sy), .int (zI fx), .int (zI fy), .int (zI lf), .int (zI un)]))] s.heap.size = A at hD ⊢
  have hA : ∀ q : Nat, s.heap.size ≤ q → A q := fun q h => by rw [← hAe]; exact Or.inr h
  clear hAe hD0
  have hS : va_S A s.heap s.heap [] := va_S.rf
  have hP : va_P (dC, dI) vwCl [(sl, .inr (5, [.ref sh, .int (zI lc), .ref ru, .ref tr, .ref se])), zQ cL sh 6 sf, (lv, .inr (1, [.int (zI w), .int (zI h), .ref ka, .ref ta, .int (zI sx), .int (zI sy), .int (zI fx), .int (zI fy), .int (zI lf), .int (zI un)]))] s.heap := hP
  have f_122 := hts (.fieldLink RX5 122 "SpringLevels$Level" "leastFrames" "I") (by decide +kernel)
  have f_125 := hts (.fieldLink RX5 125 "SpringLevels$Level" "unlocked" "Z") (by decide +kernel)
  have i_1 : ∀ w ∈ wsX10, w ∈ wsX5_open := by decide +kernel
  have hl := lv_entry ([.ref sl, .int (zI L)]) (n := 4) (Nat.le_of_ble_eq_true rfl)
  rw [lg_entry_eq]
  generalize (lg_sl ([.ref sl, .int (zI L)]) ++ List.replicate (4 - (lg_sl ([.ref sl, .int (zI L)])).length) Slot.unset).toArray = ls at hl ⊢
  have hl : lv_has ls 4 [(0, .ref sl), (1, .int (zI L))] := hl
  refine lv_aload_n hx hb dX5_open_0 rfl (lv_at hl 0 rfl) ?_
  refine lv_iload_n hx hb dX5_open_1 rfl (lv_at hl 1 rfl) ?_
  have hPc := hP.sub (ws' := [(sl, .inr (5, [.ref sh, .int (zI lc), .ref ru, .ref tr, .ref se])), zQ cL sh 6 sf]) [0, 1] rfl
  have hDc := hD.sub (ws' := [(sl, .inr (5, [.ref sh, .int (zI lc), .ref ru, .ref tr, .ref se])), zQ cL sh 6 sf]) [0, 1] (by decide) rfl
  have hFc := va_free (wc := [(sl, .inr (5, [.ref sh, .int (zI lc), .ref ru, .ref tr, .ref se])), zQ cL sh 6 sf]) hD hS hA [0, 1] rfl
  refine va_callq (va_runV (As := [.int (zI L)]) (rest := []) ⟨hx, hb, hml, hown, hts⟩ (c_X5_levelNumbered l dC dI cI cZ cL cT cJ s.heap.size sl sh lc ru tr se sf L k lv (by first | assumption | omega) (by first | assumption | omega)) (cwV 1 hts gX5_open_X5_levelNumbered rfl rfl rfl (by decide +kernel) ⟨Nat.le_of_ble_eq_true rfl, Nat.le_of_ble_eq_true rfl⟩) ⟨zP_blind, va_recv hK hPc (ci := 5) (q0 := 0) rfl rfl, zP_pre hPc hDc hK⟩ rfl rfl hl.1 rfl (lv_room (Nat.le_of_ble_eq_true rfl)) dX5_open_2 ⟨Nat.le_of_ble_eq_true rfl, Nat.le_of_ble_eq_true rfl⟩) hS (fun q _ h => hFc q h) hFc (fun r_1 u_1 t H1 locs ht hvm hw hB hz1 hk1 hS => ?_)
  obtain ⟨hP1, hK1, hD1⟩ := hB
  rw [ht] at hP1
  have hP1 : va_P (dC, dI) vwCl [(sl, .inr (5, [.ref sh, .int (zI lc), .ref ru, .ref tr, .ref se])), zQ cL sh 6 sf] H1 := hP1
  obtain ⟨hP, hD⟩ := va_join (wr := [(lv, .inr (1, [.int (zI w), .int (zI h), .ref ka, .ref ta, .int (zI sx), .int (zI sy), .int (zI fx), .int (zI fy), .int (zI lf), .int (zI un)]))]) (w1 := [(sl, .inr (5, [.ref sh, .int (zI lc), .ref ru, .ref tr, .ref se])), zQ cL sh 6 sf]) hP hD [0, 1] [2] rfl rfl (by decide) (by decide) hk1 hFc hP1 hD1
  clear hP1 hD1 hk1 hFc hPc hDc hz1
  generalize H1 = H at hP hS ⊢
  have hP : va_P (dC, dI) vwCl [(sl, .inr (5, [.ref sh, .int (zI lc), .ref ru, .ref tr, .ref se])), zQ cL sh 6 sf, (lv, .inr (1, [.int (zI w), .int (zI h), .ref ka, .ref ta, .int (zI sx), .int (zI sy), .int (zI fx), .int (zI fy), .int (zI lf), .int (zI un)]))] H := hP.sub [1, 2, 0] rfl
  have hD : va_D A [(sl, .inr (5, [.ref sh, .int (zI lc), .ref ru, .ref tr, .ref se])), zQ cL sh 6 sf, (lv, .inr (1, [.int (zI w), .int (zI h), .ref ka, .ref ta, .int (zI sx), .int (zI sy), .int (zI fx), .int (zI fy), .int (zI lf), .int (zI un)]))] := hD.sub [1, 2, 0] (by decide) rfl
  clear hK1 hvm
  obtain ⟨rfl, po_2⟩ := hw
  refine W.eq (g2 := F0 m 5 ls [.ref lv]) rfl ?_
  refine lv_astore_n (lv' := [(2, .ref lv), (0, .ref sl), (1, .int (zI L))]) hx hb dX5_open_5 rfl hl (by decide) rfl (fun ls hl => ?_)
  refine lv_aload_n hx hb dX5_open_6 rfl (lv_at hl 0 rfl) ?_
  refine va_get (D := (dC, dI)) (ci := 1) (v := .int (zI lf)) (C := RX1) (T := TX1) (N := 10) hx hb hts i_1 hown hK hP 2 rfl rfl 8 (by decide) f_122 (fun _ h9 => h9) rfl dX5_open_7 ?_
  refine lv_iconst (v := zI (-1)) hx hb dX5_open_10 (rfl) ?_
  refine lz_icmp_ne (tgt := 24) hx hb dX5_open_11 (by decide) (by omega) ⟨by decide, by decide⟩ (fun c_3 => ?_) (fun c_3 => ?_)
  ·
    refine lv_aload_n hx hb dX5_open_24 rfl (lv_at hl 0 rfl) ?_
    refine va_get (D := (dC, dI)) (ci := 1) (v := .int (zI un)) (C := RX1) (T := TX1) (N := 10) hx hb hts i_1 hown hK hP 2 rfl rfl 9 (by decide) f_125 (fun _ h9 => h9) rfl dX5_open_25 ?_
    refine lv_istore_n (lv' := [(3, .int (zI un)), (2, .ref lv), (0, .ref sl), (1, .int (zI L))]) hx hb dX5_open_28 rfl hl (by decide) rfl (fun ls hl => ?_)
    refine lv_aload_n hx hb dX5_open_29 rfl (lv_at hl 1 rfl) ?_
    refine lv_iconst (v := zI 1) hx hb dX5_open_30 (rfl) ?_
    refine va_put (D := (dC, dI)) (ci := 1) (v := .int (zI 1)) (ty := .boolean) (C := RX1) (T := TX1) (N := 10) hx hb hts i_1 tyX1 tyX1_ok nmX1 hown hK hP hD hS 2 rfl rfl 9 (by decide) f_125 (fun _ h9 => h9) rfl (by decide +kernel) (by first | rfl | decide) (by first | rfl | decide) (Nat.le_of_ble_eq_true rfl) dX5_open_31 (fun H locs hP hD hS => ?_)
    have hP : va_P (dC, dI) vwCl [(sl, .inr (5, [.ref sh, .int (zI lc), .ref ru, .ref tr, .ref se])), zQ cL sh 6 sf, (lv, .inr (1, [.int (zI w), .int (zI h), .ref ka, .ref ta, .int (zI sx), .int (zI sy), .int (zI fx), .int (zI fy), .int (zI lf), .int (zI 1)]))] H := hP
    have hD : va_D A [(sl, .inr (5, [.ref sh, .int (zI lc), .ref ru, .ref tr, .ref se])), zQ cL sh 6 sf, (lv, .inr (1, [.int (zI w), .int (zI h), .ref ka, .ref ta, .int (zI sx), .int (zI sy), .int (zI fx), .int (zI fy), .int (zI lf), .int (zI 1)]))] := hD
    refine lv_iload_n hx hb dX5_open_34 rfl (lv_at hl 0 rfl) ?_
    have hP9 := hP.sub (ws' := [(sl, .inr (5, [.ref sh, .int (zI lc), .ref ru, .ref tr, .ref se])), zQ cL sh 6 sf, (lv, .inr (1, [.int (zI w), .int (zI h), .ref ka, .ref ta, .int (zI sx), .int (zI sy), .int (zI fx), .int (zI fy), .int (zI lf), .int (zI 1)]))]) [0, 1, 2] rfl
    have hD9 := hD.sub (ws' := [(sl, .inr (5, [.ref sh, .int (zI lc), .ref ru, .ref tr, .ref se])), zQ cL sh 6 sf, (lv, .inr (1, [.int (zI w), .int (zI h), .ref ka, .ref ta, .int (zI sx), .int (zI sy), .int (zI fx), .int (zI fy), .int (zI lf), .int (zI 1)]))]) [0, 1, 2] (by decide) rfl
    have po : zI un = zI un ∧ (True) := by
      refine ⟨by first | rfl | (congr 1; omega) | (congr 1; simp [*]), ?_⟩
      trivial
    exact W.zret (v := zI un) hx hb hr (by first | rfl | decide | exact zI_nz (by omega)) (fun t ht hW => ⟨⟨zI un, (), rfl, po, by rw [ht]; exact hP9, va_K.moved hW.alike hK, hD9⟩, hS.F ht⟩) hS.2.2 dX5_open_35
  · exfalso; omega
set_option maxHeartbeats 4000000 in
set_option maxRecDepth 100000 in
theorem c_X5_isOpen (l : Launch) (dC : Nat → ClassId) (dI : Nat → Nat → Nat) (cI cZ cL cT cJ : ClassId) (sz : Nat) (sl : Nat) (sh : Nat) (lc : Int) (ru : Nat) (tr : Nat) (se : Nat) (sf : Nat → Option Nat) (L : Int) (k : Nat) (lv : Nat) (w : Int) (h : Int) (ka : Nat) (ta : Nat) (sx : Int) (sy : Int) (fx : Int) (fy : Int) (lf : Int) (un : Int) (gk : L = (k : Int) ∧ k < 6) (gf : sf k = some lv) (gu : un = 0 ∨ un = 1) : Met l yX5_isOpen wsX5_isOpen ({ frames := 1, cells := 0, slots := 0, locals := 22 }) (zP (dC, dI) (zT cI cZ cL cT cJ) sz [.ref sl, .int (zI L)] [(sl, .inr (5, [.ref sh, .int (zI lc), .ref ru, .ref tr, .ref se])), zQ cL sh 6 sf, (lv, .inr (1, [.int (zI w), .int (zI h), .ref ka, .ref ta, .int (zI sx), .int (zI sy), .int (zI fx), .int (zI fy), .int (zI lf), .int (zI un)]))]) (va_Qi (fun (r9 : Int32) (u9 : Unit) => match u9 with | _ => r9 = zI un ∧ (True)) (zB (dC, dI) (zT cI cZ cL cT cJ) (va_A [(sl, .inr (5, [.ref sh, .int (zI lc), .ref ru, .ref tr, .ref se])), zQ cL sh 6 sf, (lv, .inr (1, [.int (zI w), .int (zI h), .ref ka, .ref ta, .int (zI sx), .int (zI sy), .int (zI fx), .int (zI fy), .int (zI lf), .int (zI un)]))] sz) (fun (u9 : Unit) => match u9 with | _ => [(sl, .inr (5, [.ref sh, .int (zI lc), .ref ru, .ref tr, .ref se])), zQ cL sh 6 sf, (lv, .inr (1, [.int (zI w), .int (zI h), .ref ka, .ref ta, .int (zI sx), .int (zI sy), .int (zI fx), .int (zI fy), .int (zI lf), .int (zI un)]))])) (va_A [(sl, .inr (5, [.ref sh, .int (zI lc), .ref ru, .ref tr, .ref se])), zQ cL sh 6 sf, (lv, .inr (1, [.int (zI w), .int (zI h), .ref ka, .ref ta, .int (zI sx), .int (zI sy), .int (zI fx), .int (zI fy), .int (zI lf), .int (zI un)]))] sz)) 0 0 (va_A [(sl, .inr (5, [.ref sh, .int (zI lc), .ref ru, .ref tr, .ref se])), zQ cL sh 6 sf, (lv, .inr (1, [.int (zI w), .int (zI h), .ref ka, .ref ta, .int (zI sx), .int (zI sy), .int (zI fx), .int (zI fy), .int (zI lf), .int (zI un)]))] sz) := by
  refine Met.ofW (cc := cX5_isOpen) (maxL := 2) (ret := (some .boolean)) (by decide) rfl ?_
  intro p e s m args below meth c s₁ B hml hv
  obtain ⟨rfl, hsz, hP, hK, hD0⟩ := hv
  have hx := B.exec
  have hb := B.bytes
  have hr := B.returns
  have hts := atoms_spec (ws := wsX5_isOpen) B.pre
  have hown : s.vm.findClass RX5 = some m.cls := findClass_of_methodNamed B.named
  have hlocks := B.notSynchronized
  subst hsz
  have hD := hD0.self (sz := s.heap.size)
  generalize hAe : va_A [(sl, .inr (5, [.ref sh, .int (zI lc), .ref ru, .ref tr, .ref se])), zQ cL sh 6 sf, (lv, .inr (1, [.int (zI w), .int (zI h), .ref ka, .ref ta, .int (zI sx), .int (zI sy), .int (zI fx), .int (zI fy), .int (zI lf), .int (zI un)]))] s.heap.size = A at hD ⊢
  have hA : ∀ q : Nat, s.heap.size ≤ q → A q := fun q h => by rw [← hAe]; exact Or.inr h
  clear hAe hD0
  have hS : va_S A s.heap s.heap [] := va_S.rf
  have hP : va_P (dC, dI) vwCl [(sl, .inr (5, [.ref sh, .int (zI lc), .ref ru, .ref tr, .ref se])), zQ cL sh 6 sf, (lv, .inr (1, [.int (zI w), .int (zI h), .ref ka, .ref ta, .int (zI sx), .int (zI sy), .int (zI fx), .int (zI fy), .int (zI lf), .int (zI un)]))] s.heap := hP
  have f_125 := hts (.fieldLink RX5 125 "SpringLevels$Level" "unlocked" "Z") (by decide +kernel)
  have i_1 : ∀ w ∈ wsX10, w ∈ wsX5_isOpen := by decide +kernel
  have hl := lv_entry ([.ref sl, .int (zI L)]) (n := 2) (Nat.le_of_ble_eq_true rfl)
  rw [lg_entry_eq]
  generalize (lg_sl ([.ref sl, .int (zI L)]) ++ List.replicate (2 - (lg_sl ([.ref sl, .int (zI L)])).length) Slot.unset).toArray = ls at hl ⊢
  have hl : lv_has ls 2 [(0, .ref sl), (1, .int (zI L))] := hl
  refine lv_aload_n hx hb dX5_isOpen_0 rfl (lv_at hl 0 rfl) ?_
  refine lv_iload_n hx hb dX5_isOpen_1 rfl (lv_at hl 1 rfl) ?_
  have hPc := hP.sub (ws' := [(sl, .inr (5, [.ref sh, .int (zI lc), .ref ru, .ref tr, .ref se])), zQ cL sh 6 sf]) [0, 1] rfl
  have hDc := hD.sub (ws' := [(sl, .inr (5, [.ref sh, .int (zI lc), .ref ru, .ref tr, .ref se])), zQ cL sh 6 sf]) [0, 1] (by decide) rfl
  have hFc := va_free (wc := [(sl, .inr (5, [.ref sh, .int (zI lc), .ref ru, .ref tr, .ref se])), zQ cL sh 6 sf]) hD hS hA [0, 1] rfl
  refine va_callq (va_runV (As := [.int (zI L)]) (rest := []) ⟨hx, hb, hml, hown, hts⟩ (c_X5_levelNumbered l dC dI cI cZ cL cT cJ s.heap.size sl sh lc ru tr se sf L k lv (by first | assumption | omega) (by first | assumption | omega)) (cwV 1 hts gX5_isOpen_X5_levelNumbered rfl rfl rfl (by decide +kernel) ⟨Nat.le_of_ble_eq_true rfl, Nat.le_of_ble_eq_true rfl⟩) ⟨zP_blind, va_recv hK hPc (ci := 5) (q0 := 0) rfl rfl, zP_pre hPc hDc hK⟩ rfl rfl hl.1 rfl (lv_room (Nat.le_of_ble_eq_true rfl)) dX5_isOpen_2 ⟨Nat.le_of_ble_eq_true rfl, Nat.le_of_ble_eq_true rfl⟩) hS (fun q _ h => hFc q h) hFc (fun r_1 u_1 t H1 locs ht hvm hw hB hz1 hk1 hS => ?_)
  obtain ⟨hP1, hK1, hD1⟩ := hB
  rw [ht] at hP1
  have hP1 : va_P (dC, dI) vwCl [(sl, .inr (5, [.ref sh, .int (zI lc), .ref ru, .ref tr, .ref se])), zQ cL sh 6 sf] H1 := hP1
  obtain ⟨hP, hD⟩ := va_join (wr := [(lv, .inr (1, [.int (zI w), .int (zI h), .ref ka, .ref ta, .int (zI sx), .int (zI sy), .int (zI fx), .int (zI fy), .int (zI lf), .int (zI un)]))]) (w1 := [(sl, .inr (5, [.ref sh, .int (zI lc), .ref ru, .ref tr, .ref se])), zQ cL sh 6 sf]) hP hD [0, 1] [2] rfl rfl (by decide) (by decide) hk1 hFc hP1 hD1
  clear hP1 hD1 hk1 hFc hPc hDc hz1
  generalize H1 = H at hP hS ⊢
  have hP : va_P (dC, dI) vwCl [(sl, .inr (5, [.ref sh, .int (zI lc), .ref ru, .ref tr, .ref se])), zQ cL sh 6 sf, (lv, .inr (1, [.int (zI w), .int (zI h), .ref ka, .ref ta, .int (zI sx), .int (zI sy), .int (zI fx), .int (zI fy), .int (zI lf), .int (zI un)]))] H := hP.sub [1, 2, 0] rfl
  have hD : va_D A [(sl, .inr (5, [.ref sh, .int (zI lc), .ref ru, .ref tr, .ref se])), zQ cL sh 6 sf, (lv, .inr (1, [.int (zI w), .int (zI h), .ref ka, .ref ta, .int (zI sx), .int (zI sy), .int (zI fx), .int (zI fy), .int (zI lf), .int (zI un)]))] := hD.sub [1, 2, 0] (by decide) rfl
  clear hK1 hvm
  obtain ⟨rfl, po_2⟩ := hw
  refine W.eq (g2 := F0 m 5 ls [.ref lv]) rfl ?_
  refine va_get (D := (dC, dI)) (ci := 1) (v := .int (zI un)) (C := RX1) (T := TX1) (N := 10) hx hb hts i_1 hown hK hP 2 rfl rfl 9 (by decide) f_125 (fun _ h9 => h9) rfl dX5_isOpen_5 ?_
  have hP9 := hP.sub (ws' := [(sl, .inr (5, [.ref sh, .int (zI lc), .ref ru, .ref tr, .ref se])), zQ cL sh 6 sf, (lv, .inr (1, [.int (zI w), .int (zI h), .ref ka, .ref ta, .int (zI sx), .int (zI sy), .int (zI fx), .int (zI fy), .int (zI lf), .int (zI un)]))]) [0, 1, 2] rfl
  have hD9 := hD.sub (ws' := [(sl, .inr (5, [.ref sh, .int (zI lc), .ref ru, .ref tr, .ref se])), zQ cL sh 6 sf, (lv, .inr (1, [.int (zI w), .int (zI h), .ref ka, .ref ta, .int (zI sx), .int (zI sy), .int (zI fx), .int (zI fy), .int (zI lf), .int (zI un)]))]) [0, 1, 2] (by decide) rfl
  have po : zI un = zI un ∧ (True) := by
    refine ⟨by first | rfl | (congr 1; omega) | (congr 1; simp [*]), ?_⟩
    trivial
  exact W.zret (v := zI un) hx hb hr (by first | rfl | decide | exact zI_nz (by omega)) (fun t ht hW => ⟨⟨zI un, (), rfl, po, by rw [ht]; exact hP9, va_K.moved hW.alike hK, hD9⟩, hS.F ht⟩) hS.2.2 dX5_isOpen_8
set_option maxHeartbeats 4000000 in
set_option maxRecDepth 100000 in
theorem c_X5_begin (l : Launch) (dC : Nat → ClassId) (dI : Nat → Nat → Nat) (cI cZ cL cT cJ : ClassId) (sz : Nat) (sl : Nat) (sh : Nat) (lc : Int) (ru : Nat) (tr : Nat) (se : Nat) (sf : Nat → Option Nat) (L : Int) (k : Nat) (rh : Nat) (rt : Nat) (rp : Int) (oc : Int) (rl : Option Nat) (hx9 : Int) (hy9 : Int) (hl9 : Int) (ri : Nat) (rln : Int) (rhf : Int) (lv : Nat) (w : Int) (h : Int) (ka : Nat) (ta : Nat) (sx : Int) (sy : Int) (fx : Int) (fy : Int) (lf : Int) (un : Int) (pl : Int) (gk : L = (k : Int) ∧ k < 6) (gf : sf k = some lv) (gp : 0 ≤ pl ∧ pl ≤ 3) (gu : un = 1) (gw : 0 ≤ w ∧ w ≤ 100) (gs : 0 ≤ sx ∧ sx ≤ 100) : Met l yX5_begin wsX5_begin ({ frames := 3, cells := 0, slots := 0, locals := 66 }) (zP (dC, dI) (zT cI cZ cL cT cJ) sz [.ref sl, .int (zI pl), .int (zI L)] [(sl, .inr (5, [.ref sh, .int (zI lc), .ref ru, .ref tr, .ref se])), zQ cL sh 6 sf, (ru, .inr (2, [.ref rh, .ref rt, va_rf rl, .int (zI rp), .int (zI oc)])), (rh, .inr (0, [.int (zI hx9), .int (zI hy9), .int (zI hl9)])), (rt, .inr (4, [.ref ri, .int (zI rln), .int (zI rhf)])), (lv, .inr (1, [.int (zI w), .int (zI h), .ref ka, .ref ta, .int (zI sx), .int (zI sy), .int (zI fx), .int (zI fy), .int (zI lf), .int (zI un)]))]) (va_Qi (fun (r9 : Int32) (u9 : Int) => match u9 with | h1 => r9 = zI sx ∧ (h1 = ncF (-1) 0 sx w)) (zB (dC, dI) (zT cI cZ cL cT cJ) (va_A [(sl, .inr (5, [.ref sh, .int (zI lc), .ref ru, .ref tr, .ref se])), zQ cL sh 6 sf, (ru, .inr (2, [.ref rh, .ref rt, va_rf rl, .int (zI rp), .int (zI oc)])), (rh, .inr (0, [.int (zI hx9), .int (zI hy9), .int (zI hl9)])), (rt, .inr (4, [.ref ri, .int (zI rln), .int (zI rhf)])), (lv, .inr (1, [.int (zI w), .int (zI h), .ref ka, .ref ta, .int (zI sx), .int (zI sy), .int (zI fx), .int (zI fy), .int (zI lf), .int (zI un)]))] sz) (fun (u9 : Int) => match u9 with | h1 => [(sl, .inr (5, [.ref sh, .int (zI lc), .ref ru, .ref tr, .ref se])), zQ cL sh 6 sf, (ru, .inr (2, [.ref rh, .ref rt, .ref lv, .int (zI pl), .int (zI 0)])), (rh, .inr (0, [.int (zI sx), .int (zI sy), .int (zI 0)])), (rt, .inr (4, [.ref ri, .int (zI 0), .int (zI h1)])), (lv, .inr (1, [.int (zI w), .int (zI h), .ref ka, .ref ta, .int (zI sx), .int (zI sy), .int (zI fx), .int (zI fy), .int (zI lf), .int (zI un)]))])) (va_A [(sl, .inr (5, [.ref sh, .int (zI lc), .ref ru, .ref tr, .ref se])), zQ cL sh 6 sf, (ru, .inr (2, [.ref rh, .ref rt, va_rf rl, .int (zI rp), .int (zI oc)])), (rh, .inr (0, [.int (zI hx9), .int (zI hy9), .int (zI hl9)])), (rt, .inr (4, [.ref ri, .int (zI rln), .int (zI rhf)])), (lv, .inr (1, [.int (zI w), .int (zI h), .ref ka, .ref ta, .int (zI sx), .int (zI sy), .int (zI fx), .int (zI fy), .int (zI lf), .int (zI un)]))] sz)) 0 0 (va_A [(sl, .inr (5, [.ref sh, .int (zI lc), .ref ru, .ref tr, .ref se])), zQ cL sh 6 sf, (ru, .inr (2, [.ref rh, .ref rt, va_rf rl, .int (zI rp), .int (zI oc)])), (rh, .inr (0, [.int (zI hx9), .int (zI hy9), .int (zI hl9)])), (rt, .inr (4, [.ref ri, .int (zI rln), .int (zI rhf)])), (lv, .inr (1, [.int (zI w), .int (zI h), .ref ka, .ref ta, .int (zI sx), .int (zI sy), .int (zI fx), .int (zI fy), .int (zI lf), .int (zI un)]))] sz) := by
  refine Met.ofW (cc := cX5_begin) (maxL := 4) (ret := (some .int)) (by decide) rfl ?_
  intro p e s m args below meth c s₁ B hml hv
  obtain ⟨rfl, hsz, hP, hK, hD0⟩ := hv
  have hx := B.exec
  have hb := B.bytes
  have hr := B.returns
  have hts := atoms_spec (ws := wsX5_begin) B.pre
  have hown : s.vm.findClass RX5 = some m.cls := findClass_of_methodNamed B.named
  have hlocks := B.notSynchronized
  subst hsz
  have hD := hD0.self (sz := s.heap.size)
  generalize hAe : va_A [(sl, .inr (5, [.ref sh, .int (zI lc), .ref ru, .ref tr, .ref se])), zQ cL sh 6 sf, (ru, .inr (2, [.ref rh, .ref rt, va_rf rl, .int (zI rp), .int (zI oc)])), (rh, .inr (0, [.int (zI hx9), .int (zI hy9), .int (zI hl9)])), (rt, .inr (4, [.ref ri, .int (zI rln), .int (zI rhf)])), (lv, .inr (1, [.int (zI w), .int (zI h), .ref ka, .ref ta, .int (zI sx), .int (zI sy), .int (zI fx), .int (zI fy), .int (zI lf), .int (zI un)]))] s.heap.size = A at hD ⊢
  have hA : ∀ q : Nat, s.heap.size ≤ q → A q := fun q h => by rw [← hAe]; exact Or.inr h
  clear hAe hD0
  have hS : va_S A s.heap s.heap [] := va_S.rf
  have hP : va_P (dC, dI) vwCl [(sl, .inr (5, [.ref sh, .int (zI lc), .ref ru, .ref tr, .ref se])), zQ cL sh 6 sf, (ru, .inr (2, [.ref rh, .ref rt, va_rf rl, .int (zI rp), .int (zI oc)])), (rh, .inr (0, [.int (zI hx9), .int (zI hy9), .int (zI hl9)])), (rt, .inr (4, [.ref ri, .int (zI rln), .int (zI rhf)])), (lv, .inr (1, [.int (zI w), .int (zI h), .ref ka, .ref ta, .int (zI sx), .int (zI sy), .int (zI fx), .int (zI fy), .int (zI lf), .int (zI un)]))] s.heap := hP
  have f_22 := hts (.fieldLink RX5 22 "SpringLevels" "run" "LSpringLevels$Run;") (by decide +kernel)
  have f_125 := hts (.fieldLink RX5 125 "SpringLevels$Level" "unlocked" "Z") (by decide +kernel)
  have f_140 := hts (.fieldLink RX5 140 "SpringLevels$Run" "hero" "LSpringLevels$Hero;") (by decide +kernel)
  have f_143 := hts (.fieldLink RX5 143 "SpringLevels$Hero" "x" "I") (by decide +kernel)
  have i_0 : ∀ w ∈ wsX00, w ∈ wsX5_begin := by decide +kernel
  have i_1 : ∀ w ∈ wsX10, w ∈ wsX5_begin := by decide +kernel
  have i_2 : ∀ w ∈ wsX20, w ∈ wsX5_begin := by decide +kernel
  have i_5 : ∀ w ∈ wsX50, w ∈ wsX5_begin := by decide +kernel
  have hl := lv_entry ([.ref sl, .int (zI pl), .int (zI L)]) (n := 4) (Nat.le_of_ble_eq_true rfl)
  rw [lg_entry_eq]
  generalize (lg_sl ([.ref sl, .int (zI pl), .int (zI L)]) ++ List.replicate (4 - (lg_sl ([.ref sl, .int (zI pl), .int (zI L)])).length) Slot.unset).toArray = ls at hl ⊢
  have hl : lv_has ls 4 [(0, .ref sl), (1, .int (zI pl)), (2, .int (zI L))] := hl
  refine lv_iload_n hx hb dX5_begin_0 rfl (lv_at hl 1 rfl) ?_
  refine lz_if_lt (tgt := 9) hx hb dX5_begin_1 (by decide) (by omega) (fun c_1 => ?_) (fun c_1 => ?_)
  · exfalso; omega
  ·
    refine lv_iload_n hx hb dX5_begin_4 rfl (lv_at hl 1 rfl) ?_
    refine lv_iconst (v := zI 4) hx hb dX5_begin_5 (rfl) ?_
    refine lz_icmp_lt (tgt := 19) hx hb dX5_begin_6 (by decide) (by omega) ⟨by decide, by decide⟩ (fun c_2 => ?_) (fun c_2 => ?_)
    ·
      refine lv_aload_n hx hb dX5_begin_19 rfl (lv_at hl 0 rfl) ?_
      refine lv_iload_n hx hb dX5_begin_20 rfl (lv_at hl 2 rfl) ?_
      have hPc := hP.sub (ws' := [(sl, .inr (5, [.ref sh, .int (zI lc), .ref ru, .ref tr, .ref se])), zQ cL sh 6 sf]) [0, 1] rfl
      have hDc := hD.sub (ws' := [(sl, .inr (5, [.ref sh, .int (zI lc), .ref ru, .ref tr, .ref se])), zQ cL sh 6 sf]) [0, 1] (by decide) rfl
      have hFc := va_free (wc := [(sl, .inr (5, [.ref sh, .int (zI lc), .ref ru, .ref tr, .ref se])), zQ cL sh 6 sf]) hD hS hA [0, 1] rfl
      refine va_callq (va_runV (As := [.int (zI L)]) (rest := []) ⟨hx, hb, hml, hown, hts⟩ (c_X5_levelNumbered l dC dI cI cZ cL cT cJ s.heap.size sl sh lc ru tr se sf L k lv (by first | assumption | omega) (by first | assumption | omega)) (cwV 1 hts gX5_begin_X5_levelNumbered rfl rfl rfl (by decide +kernel) ⟨Nat.le_of_ble_eq_true rfl, Nat.le_of_ble_eq_true rfl⟩) ⟨zP_blind, va_recv hK hPc (ci := 5) (q0 := 0) rfl rfl, zP_pre hPc hDc hK⟩ rfl rfl hl.1 rfl (lv_room (Nat.le_of_ble_eq_true rfl)) dX5_begin_21 ⟨Nat.le_of_ble_eq_true rfl, Nat.le_of_ble_eq_true rfl⟩) hS (fun q _ h => hFc q h) hFc (fun r_3 u_3 t H1 locs ht hvm hw hB hz1 hk1 hS => ?_)
      obtain ⟨hP1, hK1, hD1⟩ := hB
      rw [ht] at hP1
      have hP1 : va_P (dC, dI) vwCl [(sl, .inr (5, [.ref sh, .int (zI lc), .ref ru, .ref tr, .ref se])), zQ cL sh 6 sf] H1 := hP1
      obtain ⟨hP, hD⟩ := va_join (wr := [(ru, .inr (2, [.ref rh, .ref rt, va_rf rl, .int (zI rp), .int (zI oc)])), (rh, .inr (0, [.int (zI hx9), .int (zI hy9), .int (zI hl9)])), (rt, .inr (4, [.ref ri, .int (zI rln), .int (zI rhf)])), (lv, .inr (1, [.int (zI w), .int (zI h), .ref ka, .ref ta, .int (zI sx), .int (zI sy), .int (zI fx), .int (zI fy), .int (zI lf), .int (zI un)]))]) (w1 := [(sl, .inr (5, [.ref sh, .int (zI lc), .ref ru, .ref tr, .ref se])), zQ cL sh 6 sf]) hP hD [0, 1] [2, 3, 4, 5] rfl rfl (by decide) (by decide) hk1 hFc hP1 hD1
      clear hP1 hD1 hk1 hFc hPc hDc hz1
      generalize H1 = H at hP hS ⊢
      have hP : va_P (dC, dI) vwCl [(sl, .inr (5, [.ref sh, .int (zI lc), .ref ru, .ref tr, .ref se])), zQ cL sh 6 sf, (ru, .inr (2, [.ref rh, .ref rt, va_rf rl, .int (zI rp), .int (zI oc)])), (rh, .inr (0, [.int (zI hx9), .int (zI hy9), .int (zI hl9)])), (rt, .inr (4, [.ref ri, .int (zI rln), .int (zI rhf)])), (lv, .inr (1, [.int (zI w), .int (zI h), .ref ka, .ref ta, .int (zI sx), .int (zI sy), .int (zI fx), .int (zI fy), .int (zI lf), .int (zI un)]))] H := hP.sub [4, 5, 0, 1, 2, 3] rfl
      have hD : va_D A [(sl, .inr (5, [.ref sh, .int (zI lc), .ref ru, .ref tr, .ref se])), zQ cL sh 6 sf, (ru, .inr (2, [.ref rh, .ref rt, va_rf rl, .int (zI rp), .int (zI oc)])), (rh, .inr (0, [.int (zI hx9), .int (zI hy9), .int (zI hl9)])), (rt, .inr (4, [.ref ri, .int (zI rln), .int (zI rhf)])), (lv, .inr (1, [.int (zI w), .int (zI h), .ref ka, .ref ta, .int (zI sx), .int (zI sy), .int (zI fx), .int (zI fy), .int (zI lf), .int (zI un)]))] := hD.sub [4, 5, 0, 1, 2, 3] (by decide) rfl
      clear hK1 hvm
      obtain ⟨rfl, po_4⟩ := hw
      refine W.eq (g2 := F0 m 24 ls [.ref lv]) rfl ?_
      refine lv_astore_n (lv' := [(3, .ref lv), (0, .ref sl), (1, .int (zI pl)), (2, .int (zI L))]) hx hb dX5_begin_24 rfl hl (by decide) rfl (fun ls hl => ?_)
      refine lv_aload_n hx hb dX5_begin_25 rfl (lv_at hl 0 rfl) ?_
      refine va_get (D := (dC, dI)) (ci := 1) (v := .int (zI un)) (C := RX1) (T := TX1) (N := 10) hx hb hts i_1 hown hK hP 5 rfl rfl 9 (by decide) f_125 (fun _ h9 => h9) rfl dX5_begin_26 ?_
      refine lz_if_ne (tgt := 42) hx hb dX5_begin_29 (by decide) (by omega) (fun c_5 => ?_) (fun c_5 => ?_)
      ·
        refine lv_aload_n hx hb dX5_begin_42 rfl (lv_at hl 1 rfl) ?_
        refine va_get (D := (dC, dI)) (ci := 5) (v := .ref ru) (C := RX5) (T := TX5) (N := 5) hx hb hts i_5 hown hK hP 0 rfl rfl 2 (by decide) f_22 (fun _ h9 => h9) rfl dX5_begin_43 ?_
        refine lv_iload_n hx hb dX5_begin_46 rfl (lv_at hl 2 rfl) ?_
        refine lv_aload_n hx hb dX5_begin_47 rfl (lv_at hl 0 rfl) ?_
        have hPc := hP.sub (ws' := [(ru, .inr (2, [.ref rh, .ref rt, va_rf rl, .int (zI rp), .int (zI oc)])), (rh, .inr (0, [.int (zI hx9), .int (zI hy9), .int (zI hl9)])), (rt, .inr (4, [.ref ri, .int (zI rln), .int (zI rhf)])), (lv, .inr (1, [.int (zI w), .int (zI h), .ref ka, .ref ta, .int (zI sx), .int (zI sy), .int (zI fx), .int (zI fy), .int (zI lf), .int (zI un)]))]) [2, 3, 4, 5] rfl
        have hDc := hD.sub (ws' := [(ru, .inr (2, [.ref rh, .ref rt, va_rf rl, .int (zI rp), .int (zI oc)])), (rh, .inr (0, [.int (zI hx9), .int (zI hy9), .int (zI hl9)])), (rt, .inr (4, [.ref ri, .int (zI rln), .int (zI rhf)])), (lv, .inr (1, [.int (zI w), .int (zI h), .ref ka, .ref ta, .int (zI sx), .int (zI sy), .int (zI fx), .int (zI fy), .int (zI lf), .int (zI un)]))]) [2, 3, 4, 5] (by decide) rfl
        have hFc := va_free (wc := [(ru, .inr (2, [.ref rh, .ref rt, va_rf rl, .int (zI rp), .int (zI oc)])), (rh, .inr (0, [.int (zI hx9), .int (zI hy9), .int (zI hl9)])), (rt, .inr (4, [.ref ri, .int (zI rln), .int (zI rhf)])), (lv, .inr (1, [.int (zI w), .int (zI h), .ref ka, .ref ta, .int (zI sx), .int (zI sy), .int (zI fx), .int (zI fy), .int (zI lf), .int (zI un)]))]) hD hS hA [2, 3, 4, 5] rfl
        refine va_callv (va_runV (As := [.int (zI pl), .ref lv]) (rest := []) ⟨hx, hb, hml, hown, hts⟩ (c_X2_start l dC dI cI cZ cL cT cJ H.size ru rh rl rp oc hx9 hy9 hl9 rt ri rln rhf lv w h ka ta sx sy fx fy lf un pl (by first | assumption | omega) (by first | assumption | omega)) (cwV 2 hts gX5_begin_X2_start rfl rfl rfl (by decide +kernel) ⟨Nat.le_of_ble_eq_true rfl, Nat.le_of_ble_eq_true rfl⟩) ⟨zP_blind, va_recv hK hPc (ci := 2) (q0 := 0) rfl rfl, zP_pre hPc hDc hK⟩ rfl rfl hl.1 rfl (lv_room (Nat.le_of_ble_eq_true rfl)) dX5_begin_48 ⟨Nat.le_of_ble_eq_true rfl, Nat.le_of_ble_eq_true rfl⟩) hS (fun q _ h => hFc q h) hFc (fun u_6 t H1 locs ht hvm hw hB hz1 hk1 hS => ?_)
        obtain ⟨h1_7, rfl⟩ : ∃ z, z = u_6 := ⟨_, rfl⟩
        obtain ⟨hP1, hK1, hD1⟩ := hB
        rw [ht] at hP1
        have hP1 : va_P (dC, dI) vwCl [(ru, .inr (2, [.ref rh, .ref rt, va_rf (some lv), .int (zI pl), .int (zI 0)])), (rh, .inr (0, [.int (zI sx), .int (zI sy), .int (zI 0)])), (rt, .inr (4, [.ref ri, .int (zI 0), .int (zI h1_7)])), (lv, .inr (1, [.int (zI w), .int (zI h), .ref ka, .ref ta, .int (zI sx), .int (zI sy), .int (zI fx), .int (zI fy), .int (zI lf), .int (zI un)]))] H1 := hP1
        obtain ⟨hP, hD⟩ := va_join (wr := [(sl, .inr (5, [.ref sh, .int (zI lc), .ref ru, .ref tr, .ref se])), zQ cL sh 6 sf]) (w1 := [(ru, .inr (2, [.ref rh, .ref rt, va_rf (some lv), .int (zI pl), .int (zI 0)])), (rh, .inr (0, [.int (zI sx), .int (zI sy), .int (zI 0)])), (rt, .inr (4, [.ref ri, .int (zI 0), .int (zI h1_7)])), (lv, .inr (1, [.int (zI w), .int (zI h), .ref ka, .ref ta, .int (zI sx), .int (zI sy), .int (zI fx), .int (zI fy), .int (zI lf), .int (zI un)]))]) hP hD [2, 3, 4, 5] [0, 1] rfl rfl (by decide) (by decide) hk1 hFc hP1 hD1
        clear hP1 hD1 hk1 hFc hPc hDc hz1
        generalize H1 = H at hP hS ⊢
        have hP : va_P (dC, dI) vwCl [(sl, .inr (5, [.ref sh, .int (zI lc), .ref ru, .ref tr, .ref se])), zQ cL sh 6 sf, (ru, .inr (2, [.ref rh, .ref rt, va_rf (some lv), .int (zI pl), .int (zI 0)])), (rh, .inr (0, [.int (zI sx), .int (zI sy), .int (zI 0)])), (rt, .inr (4, [.ref ri, .int (zI 0), .int (zI h1_7)])), (lv, .inr (1, [.int (zI w), .int (zI h), .ref ka, .ref ta, .int (zI sx), .int (zI sy), .int (zI fx), .int (zI fy), .int (zI lf), .int (zI un)]))] H := hP.sub [0, 1, 2, 3, 4, 5] rfl
        have hD : va_D A [(sl, .inr (5, [.ref sh, .int (zI lc), .ref ru, .ref tr, .ref se])), zQ cL sh 6 sf, (ru, .inr (2, [.ref rh, .ref rt, va_rf (some lv), .int (zI pl), .int (zI 0)])), (rh, .inr (0, [.int (zI sx), .int (zI sy), .int (zI 0)])), (rt, .inr (4, [.ref ri, .int (zI 0), .int (zI h1_7)])), (lv, .inr (1, [.int (zI w), .int (zI h), .ref ka, .ref ta, .int (zI sx), .int (zI sy), .int (zI fx), .int (zI fy), .int (zI lf), .int (zI un)]))] := hD.sub [0, 1, 2, 3, 4, 5] (by decide) rfl
        clear hK1 hvm
        have po_8 : h1_7 = ncF (-1) 0 sx w := hw
        refine W.eq (g2 := F0 m 51 ls []) rfl ?_
        refine lv_aload_n hx hb dX5_begin_51 rfl (lv_at hl 1 rfl) ?_
        refine va_get (D := (dC, dI)) (ci := 5) (v := .ref ru) (C := RX5) (T := TX5) (N := 5) hx hb hts i_5 hown hK hP 0 rfl rfl 2 (by decide) f_22 (fun _ h9 => h9) rfl dX5_begin_52 ?_
        refine va_get (D := (dC, dI)) (ci := 2) (v := .ref rh) (C := RX2) (T := TX2) (N := 5) hx hb hts i_2 hown hK hP 2 rfl rfl 0 (by decide) f_140 (fun _ h9 => h9) rfl dX5_begin_55 ?_
        refine va_get (D := (dC, dI)) (ci := 0) (v := .int (zI sx)) (C := RX0) (T := TX0) (N := 3) hx hb hts i_0 hown hK hP 3 rfl rfl 0 (by decide) f_143 (fun _ h9 => h9) rfl dX5_begin_58 ?_
        have hP9 := hP.sub (ws' := [(sl, .inr (5, [.ref sh, .int (zI lc), .ref ru, .ref tr, .ref se])), zQ cL sh 6 sf, (ru, .inr (2, [.ref rh, .ref rt, va_rf (some lv), .int (zI pl), .int (zI 0)])), (rh, .inr (0, [.int (zI sx), .int (zI sy), .int (zI 0)])), (rt, .inr (4, [.ref ri, .int (zI 0), .int (zI h1_7)])), (lv, .inr (1, [.int (zI w), .int (zI h), .ref ka, .ref ta, .int (zI sx), .int (zI sy), .int (zI fx), .int (zI fy), .int (zI lf), .int (zI un)]))]) [0, 1, 2, 3, 4, 5] rfl
        have hD9 := hD.sub (ws' := [(sl, .inr (5, [.ref sh, .int (zI lc), .ref ru, .ref tr, .ref se])), zQ cL sh 6 sf, (ru, .inr (2, [.ref rh, .ref rt, va_rf (some lv), .int (zI pl), .int (zI 0)])), (rh, .inr (0, [.int (zI sx), .int (zI sy), .int (zI 0)])), (rt, .inr (4, [.ref ri, .int (zI 0), .int (zI h1_7)])), (lv, .inr (1, [.int (zI w), .int (zI h), .ref ka, .ref ta, .int (zI sx), .int (zI sy), .int (zI fx), .int (zI fy), .int (zI lf), .int (zI un)]))]) [0, 1, 2, 3, 4, 5] (by decide) rfl
        have po : zI sx = zI sx ∧ (h1_7 = ncF (-1) 0 sx w) := by
          refine ⟨by first | rfl | (congr 1; omega) | (congr 1; simp [*]), ?_⟩
          exact po_8
        exact W.iret (v := zI sx) hx hb hr (fun t ht hW => ⟨⟨zI sx, h1_7, rfl, po, by rw [ht]; exact hP9, va_K.moved hW.alike hK, hD9⟩, hS.F ht⟩) hS.2.2 dX5_begin_61
      · exfalso; omega
    · exfalso; omega
set_option maxHeartbeats 4000000 in
set_option maxRecDepth 100000 in
theorem c_X5_play (l : Launch) (dC : Nat → ClassId) (dI : Nat → Nat → Nat) (cI cZ cL cT cJ : ClassId) (sz : Nat) (sl : Nat) (sh : Nat) (lc : Int) (ru : Nat) (tr : Nat) (se : Nat) (rh : Nat) (rt : Nat) (rp : Int) (oc : Int) (hx9 : Int) (hy9 : Int) (hl9 : Int) (ri : Nat) (rln : Int) (rhf : Int) (RI : Int → Int) (lv : Nat) (w : Int) (h : Int) (ka : Nat) (ta : Nat) (sx : Int) (sy : Int) (fx : Int) (fy : Int) (lf : Int) (un : Int) (K : Int → Int) (tq : Nat → Option Nat) (tp : Nat → Nat) (kp : Nat) (ti : Nat) (ln : Int) (hf : Int) (FI : Int → Int) (i : Int) (gw : 0 < w ∧ w ≤ 12) (gh : 0 < h ∧ h ≤ 8) (gK : Kin K) (gsx : 0 ≤ sx ∧ sx < w) (gsy : 0 ≤ sy ∧ sy < h) (gfx : 0 ≤ fx ∧ fx < w) (gfy : 0 ≤ fy ∧ fy < h) (gt : ∀ k, k < 4 → tq k = some (tp k)) (gkp : rp = (kp : Int) ∧ kp < 4) (goc : oc = 0) (gi : 0 ≤ i ∧ i ≤ 5) (grx : 0 ≤ hx9 ∧ hx9 < w) (gry : 0 ≤ hy9 ∧ hy9 < h) (grl : 0 ≤ hl9 ∧ hl9 ≤ 4) (gn : 0 ≤ rln ∧ rln < 100) (ghf : -1 ≤ rhf ∧ rhf ≤ 100) (gl : -1 ≤ ln ∧ ln ≤ 100) : Met l yX5_play wsX5_play ({ frames := 4, cells := 0, slots := 0, locals := 91 }) (zP (dC, dI) (zT cI cZ cL cT cJ) sz [.ref sl, .int (zI i)] [(sl, .inr (5, [.ref sh, .int (zI lc), .ref ru, .ref tr, .ref se])), (ru, .inr (2, [.ref rh, .ref rt, .ref lv, .int (zI rp), .int (zI oc)])), (rh, .inr (0, [.int (zI hx9), .int (zI hy9), .int (zI hl9)])), (rt, .inr (4, [.ref ri, .int (zI rln), .int (zI rhf)])), zA cI ri 100 RI, (lv, .inr (1, [.int (zI w), .int (zI h), .ref ka, .ref ta, .int (zI sx), .int (zI sy), .int (zI fx), .int (zI fy), .int (zI lf), .int (zI un)])), zA cI ka 96 K, zQ cT ta 4 tq, (tp kp, .inr (4, [.ref ti, .int (zI ln), .int (zI hf)])), zA cI ti 100 FI]) (va_Qi (fun (r9 : Int32) (u9 : Int × Int × Int × Int × Int × Int × Int × (Int → Int)) => match u9 with | (x1, y1, l1, o1, h1, ln1, hf1, F1) => r9 = zI o1 ∧ (x1 = mvX K w h hx9 hy9 i ∧ y1 = mvY K w h hx9 hy9 hl9 i ∧ l1 = mvL K w h hx9 hy9 hl9 i ∧ o1 = (if mvO K w h fx fy hx9 hy9 hl9 i = 0 ∧ 100 ≤ rln + 1 then 1 else mvO K w h fx fy hx9 hy9 hl9 i) ∧ h1 = ncF rhf (rln + 1) x1 w ∧ ((o1 = 2 ∧ (ln = -1 ∨ rln + 1 < ln) ∧ ln1 = rln + 1 ∧ hf1 = h1 ∧ (∀ j, 0 ≤ j → j < 100 → F1 j = zu RI rln i j)) ∨ (¬ (o1 = 2 ∧ (ln = -1 ∨ rln + 1 < ln)) ∧ ln1 = ln ∧ hf1 = hf ∧ F1 = FI)))) (zB (dC, dI) (zT cI cZ cL cT cJ) (va_A [(sl, .inr (5, [.ref sh, .int (zI lc), .ref ru, .ref tr, .ref se])), (ru, .inr (2, [.ref rh, .ref rt, .ref lv, .int (zI rp), .int (zI oc)])), (rh, .inr (0, [.int (zI hx9), .int (zI hy9), .int (zI hl9)])), (rt, .inr (4, [.ref ri, .int (zI rln), .int (zI rhf)])), zA cI ri 100 RI, (lv, .inr (1, [.int (zI w), .int (zI h), .ref ka, .ref ta, .int (zI sx), .int (zI sy), .int (zI fx), .int (zI fy), .int (zI lf), .int (zI un)])), zA cI ka 96 K, zQ cT ta 4 tq, (tp kp, .inr (4, [.ref ti, .int (zI ln), .int (zI hf)])), zA cI ti 100 FI] sz) (fun (u9 : Int × Int × Int × Int × Int × Int × Int × (Int → Int)) => match u9 with | (x1, y1, l1, o1, h1, ln1, hf1, F1) => [(sl, .inr (5, [.ref sh, .int (zI lc), .ref ru, .ref tr, .ref se])), (ru, .inr (2, [.ref rh, .ref rt, .ref lv, .int (zI rp), .int (zI o1)])), (rh, .inr (0, [.int (zI x1), .int (zI y1), .int (zI l1)])), (rt, .inr (4, [.ref ri, .int (zI (rln + 1)), .int (zI h1)])), zA cI ri 100 (zu RI rln i), (lv, .inr (1, [.int (zI w), .int (zI h), .ref ka, .ref ta, .int (zI sx), .int (zI sy), .int (zI fx), .int (zI fy), .int (zI lf), .int (zI un)])), zA cI ka 96 K, zQ cT ta 4 tq, (tp kp, .inr (4, [.ref ti, .int (zI ln1), .int (zI hf1)])), zA cI ti 100 F1])) (va_A [(sl, .inr (5, [.ref sh, .int (zI lc), .ref ru, .ref tr, .ref se])), (ru, .inr (2, [.ref rh, .ref rt, .ref lv, .int (zI rp), .int (zI oc)])), (rh, .inr (0, [.int (zI hx9), .int (zI hy9), .int (zI hl9)])), (rt, .inr (4, [.ref ri, .int (zI rln), .int (zI rhf)])), zA cI ri 100 RI, (lv, .inr (1, [.int (zI w), .int (zI h), .ref ka, .ref ta, .int (zI sx), .int (zI sy), .int (zI fx), .int (zI fy), .int (zI lf), .int (zI un)])), zA cI ka 96 K, zQ cT ta 4 tq, (tp kp, .inr (4, [.ref ti, .int (zI ln), .int (zI hf)])), zA cI ti 100 FI] sz)) 0 0 (va_A [(sl, .inr (5, [.ref sh, .int (zI lc), .ref ru, .ref tr, .ref se])), (ru, .inr (2, [.ref rh, .ref rt, .ref lv, .int (zI rp), .int (zI oc)])), (rh, .inr (0, [.int (zI hx9), .int (zI hy9), .int (zI hl9)])), (rt, .inr (4, [.ref ri, .int (zI rln), .int (zI rhf)])), zA cI ri 100 RI, (lv, .inr (1, [.int (zI w), .int (zI h), .ref ka, .ref ta, .int (zI sx), .int (zI sy), .int (zI fx), .int (zI fy), .int (zI lf), .int (zI un)])), zA cI ka 96 K, zQ cT ta 4 tq, (tp kp, .inr (4, [.ref ti, .int (zI ln), .int (zI hf)])), zA cI ti 100 FI] sz) := by
  refine Met.ofW (cc := cX5_play) (maxL := 3) (ret := (some .int)) (by decide) rfl ?_
  intro p e s m args below meth c s₁ B hml hv
  obtain ⟨rfl, hsz, hP, hK, hD0⟩ := hv
  have hx := B.exec
  have hb := B.bytes
  have hr := B.returns
  have hts := atoms_spec (ws := wsX5_play) B.pre
  have hown : s.vm.findClass RX5 = some m.cls := findClass_of_methodNamed B.named
  have hlocks := B.notSynchronized
  subst hsz
  have hD := hD0.self (sz := s.heap.size)
  generalize hAe : va_A [(sl, .inr (5, [.ref sh, .int (zI lc), .ref ru, .ref tr, .ref se])), (ru, .inr (2, [.ref rh, .ref rt, .ref lv, .int (zI rp), .int (zI oc)])), (rh, .inr (0, [.int (zI hx9), .int (zI hy9), .int (zI hl9)])), (rt, .inr (4, [.ref ri, .int (zI rln), .int (zI rhf)])), zA cI ri 100 RI, (lv, .inr (1, [.int (zI w), .int (zI h), .ref ka, .ref ta, .int (zI sx), .int (zI sy), .int (zI fx), .int (zI fy), .int (zI lf), .int (zI un)])), zA cI ka 96 K, zQ cT ta 4 tq, (tp kp, .inr (4, [.ref ti, .int (zI ln), .int (zI hf)])), zA cI ti 100 FI] s.heap.size = A at hD ⊢
  have hA : ∀ q : Nat, s.heap.size ≤ q → A q := fun q h => by rw [← hAe]; exact Or.inr h
  clear hAe hD0
  have hS : va_S A s.heap s.heap [] := va_S.rf
  have hP : va_P (dC, dI) vwCl [(sl, .inr (5, [.ref sh, .int (zI lc), .ref ru, .ref tr, .ref se])), (ru, .inr (2, [.ref rh, .ref rt, .ref lv, .int (zI rp), .int (zI oc)])), (rh, .inr (0, [.int (zI hx9), .int (zI hy9), .int (zI hl9)])), (rt, .inr (4, [.ref ri, .int (zI rln), .int (zI rhf)])), zA cI ri 100 RI, (lv, .inr (1, [.int (zI w), .int (zI h), .ref ka, .ref ta, .int (zI sx), .int (zI sy), .int (zI fx), .int (zI fy), .int (zI lf), .int (zI un)])), zA cI ka 96 K, zQ cT ta 4 tq, (tp kp, .inr (4, [.ref ti, .int (zI ln), .int (zI hf)])), zA cI ti 100 FI] s.heap := hP
  have f_22 := hts (.fieldLink RX5 22 "SpringLevels" "run" "LSpringLevels$Run;") (by decide +kernel)
  have f_148 := hts (.fieldLink RX5 148 "SpringLevels$Run" "level" "LSpringLevels$Level;") (by decide +kernel)
  have f_152 := hts (.fieldLink RX5 152 "SpringLevels$Run" "outcome" "I") (by decide +kernel)
  have f_161 := hts (.fieldLink RX5 161 "SpringLevels$Run" "player" "I") (by decide +kernel)
  have f_164 := hts (.fieldLink RX5 164 "SpringLevels$Run" "tape" "LSpringLevels$Tape;") (by decide +kernel)
  have i_2 : ∀ w ∈ wsX20, w ∈ wsX5_play := by decide +kernel
  have i_5 : ∀ w ∈ wsX50, w ∈ wsX5_play := by decide +kernel
  have hl := lv_entry ([.ref sl, .int (zI i)]) (n := 3) (Nat.le_of_ble_eq_true rfl)
  rw [lg_entry_eq]
  generalize (lg_sl ([.ref sl, .int (zI i)]) ++ List.replicate (3 - (lg_sl ([.ref sl, .int (zI i)])).length) Slot.unset).toArray = ls at hl ⊢
  have hl : lv_has ls 3 [(0, .ref sl), (1, .int (zI i))] := hl
  refine lv_iload_n hx hb dX5_play_0 rfl (lv_at hl 1 rfl) ?_
  refine lz_if_lt (tgt := 10) hx hb dX5_play_1 (by decide) (by omega) (fun c_1 => ?_) (fun c_1 => ?_)
  · exfalso; omega
  ·
    refine lv_iload_n hx hb dX5_play_4 rfl (lv_at hl 1 rfl) ?_
    refine lv_bipush (v := zI 6) hx hb dX5_play_5 (by decide) ?_
    refine lz_icmp_lt (tgt := 20) hx hb dX5_play_7 (by decide) (by omega) ⟨by decide, by decide⟩ (fun c_2 => ?_) (fun c_2 => ?_)
    ·
      refine lv_aload_n hx hb dX5_play_20 rfl (lv_at hl 0 rfl) ?_
      refine va_get (D := (dC, dI)) (ci := 5) (v := .ref ru) (C := RX5) (T := TX5) (N := 5) hx hb hts i_5 hown hK hP 0 rfl rfl 2 (by decide) f_22 (fun _ h9 => h9) rfl dX5_play_21 ?_
      refine va_get (D := (dC, dI)) (ci := 2) (v := .ref lv) (C := RX2) (T := TX2) (N := 5) hx hb hts i_2 hown hK hP 1 rfl rfl 2 (by decide) f_148 (fun _ h9 => h9) rfl dX5_play_24 ?_
      refine lv_astore_n (lv' := [(2, .ref lv), (0, .ref sl), (1, .int (zI i))]) hx hb dX5_play_27 rfl hl (by decide) rfl (fun ls hl => ?_)
      refine lv_aload_n hx hb dX5_play_28 rfl (lv_at hl 0 rfl) ?_
      refine lv_ifnull hx hb dX5_play_29 ?_
      refine lv_aload_n hx hb dX5_play_32 rfl (lv_at hl 1 rfl) ?_
      refine va_get (D := (dC, dI)) (ci := 5) (v := .ref ru) (C := RX5) (T := TX5) (N := 5) hx hb hts i_5 hown hK hP 0 rfl rfl 2 (by decide) f_22 (fun _ h9 => h9) rfl dX5_play_33 ?_
      refine va_get (D := (dC, dI)) (ci := 2) (v := .int (zI oc)) (C := RX2) (T := TX2) (N := 5) hx hb hts i_2 hown hK hP 1 rfl rfl 4 (by decide) f_152 (fun _ h9 => h9) rfl dX5_play_36 ?_
      refine lz_if_eq (tgt := 52) hx hb dX5_play_39 (by decide) (by omega) (fun c_3 => ?_) (fun c_3 => ?_)
      ·
        refine lv_aload_n hx hb dX5_play_52 rfl (lv_at hl 1 rfl) ?_
        refine va_get (D := (dC, dI)) (ci := 5) (v := .ref ru) (C := RX5) (T := TX5) (N := 5) hx hb hts i_5 hown hK hP 0 rfl rfl 2 (by decide) f_22 (fun _ h9 => h9) rfl dX5_play_53 ?_
        refine lv_aload_n hx hb dX5_play_56 rfl (lv_at hl 0 rfl) ?_
        refine lv_iload_n hx hb dX5_play_57 rfl (lv_at hl 2 rfl) ?_
        have hPc := hP.sub (ws' := [(ru, .inr (2, [.ref rh, .ref rt, .ref lv, .int (zI rp), .int (zI oc)])), (rh, .inr (0, [.int (zI hx9), .int (zI hy9), .int (zI hl9)])), (rt, .inr (4, [.ref ri, .int (zI rln), .int (zI rhf)])), zA cI ri 100 RI, (lv, .inr (1, [.int (zI w), .int (zI h), .ref ka, .ref ta, .int (zI sx), .int (zI sy), .int (zI fx), .int (zI fy), .int (zI lf), .int (zI un)])), zA cI ka 96 K]) [1, 2, 3, 4, 5, 6] rfl
        have hDc := hD.sub (ws' := [(ru, .inr (2, [.ref rh, .ref rt, .ref lv, .int (zI rp), .int (zI oc)])), (rh, .inr (0, [.int (zI hx9), .int (zI hy9), .int (zI hl9)])), (rt, .inr (4, [.ref ri, .int (zI rln), .int (zI rhf)])), zA cI ri 100 RI, (lv, .inr (1, [.int (zI w), .int (zI h), .ref ka, .ref ta, .int (zI sx), .int (zI sy), .int (zI fx), .int (zI fy), .int (zI lf), .int (zI un)])), zA cI ka 96 K]) [1, 2, 3, 4, 5, 6] (by decide) rfl
        have hFc := va_free (wc := [(ru, .inr (2, [.ref rh, .ref rt, .ref lv, .int (zI rp), .int (zI oc)])), (rh, .inr (0, [.int (zI hx9), .int (zI hy9), .int (zI hl9)])), (rt, .inr (4, [.ref ri, .int (zI rln), .int (zI rhf)])), zA cI ri 100 RI, (lv, .inr (1, [.int (zI w), .int (zI h), .ref ka, .ref ta, .int (zI sx), .int (zI sy), .int (zI fx), .int (zI fy), .int (zI lf), .int (zI un)])), zA cI ka 96 K]) hD hS hA [1, 2, 3, 4, 5, 6] rfl
        refine va_callv (va_runV (As := [.ref lv, .int (zI i)]) (rest := []) ⟨hx, hb, hml, hown, hts⟩ (c_X2_advance l dC dI cI cZ cL cT cJ s.heap.size ru rh (some lv) rp oc hx9 hy9 hl9 rt ri rln rhf RI lv w h ka ta sx sy fx fy lf un K i (by first | assumption | omega) (by first | assumption | omega) (by first | assumption | omega) (by first | assumption | omega) (by first | assumption | omega) (by first | assumption | omega) (by first | assumption | omega) (by first | assumption | omega) (by first | assumption | omega) (by first | assumption | omega) (by first | assumption | omega)) (cwV 2 hts gX5_play_X2_advance rfl rfl rfl (by decide +kernel) ⟨Nat.le_of_ble_eq_true rfl, Nat.le_of_ble_eq_true rfl⟩) ⟨zP_blind, va_recv hK hPc (ci := 2) (q0 := 0) rfl rfl, zP_pre hPc hDc hK⟩ rfl rfl hl.1 rfl (lv_room (Nat.le_of_ble_eq_true rfl)) dX5_play_58 ⟨Nat.le_of_ble_eq_true rfl, Nat.le_of_ble_eq_true rfl⟩) hS (fun q _ h => hFc q h) hFc (fun u_4 t H1 locs ht hvm hw hB hz1 hk1 hS => ?_)
        obtain ⟨x1_5, y1_6, l1_7, o1_8, h1_9⟩ := u_4
        obtain ⟨hP1, hK1, hD1⟩ := hB
        rw [ht] at hP1
        have hP1 : va_P (dC, dI) vwCl [(ru, .inr (2, [.ref rh, .ref rt, va_rf (some lv), .int (zI rp), .int (zI o1_8)])), (rh, .inr (0, [.int (zI x1_5), .int (zI y1_6), .int (zI l1_7)])), (rt, .inr (4, [.ref ri, .int (zI (rln + 1)), .int (zI h1_9)])), zA cI ri 100 (zu RI rln i), (lv, .inr (1, [.int (zI w), .int (zI h), .ref ka, .ref ta, .int (zI sx), .int (zI sy), .int (zI fx), .int (zI fy), .int (zI lf), .int (zI un)])), zA cI ka 96 K] H1 := hP1
        obtain ⟨hP, hD⟩ := va_join (wr := [(sl, .inr (5, [.ref sh, .int (zI lc), .ref ru, .ref tr, .ref se])), zQ cT ta 4 tq, (tp kp, .inr (4, [.ref ti, .int (zI ln), .int (zI hf)])), zA cI ti 100 FI]) (w1 := [(ru, .inr (2, [.ref rh, .ref rt, va_rf (some lv), .int (zI rp), .int (zI o1_8)])), (rh, .inr (0, [.int (zI x1_5), .int (zI y1_6), .int (zI l1_7)])), (rt, .inr (4, [.ref ri, .int (zI (rln + 1)), .int (zI h1_9)])), zA cI ri 100 (zu RI rln i), (lv, .inr (1, [.int (zI w), .int (zI h), .ref ka, .ref ta, .int (zI sx), .int (zI sy), .int (zI fx), .int (zI fy), .int (zI lf), .int (zI un)])), zA cI ka 96 K]) hP hD [1, 2, 3, 4, 5, 6] [0, 7, 8, 9] rfl rfl (by decide) (by decide) hk1 hFc hP1 hD1
        clear hP1 hD1 hk1 hFc hPc hDc hz1
        generalize H1 = H at hP hS ⊢
        have hP : va_P (dC, dI) vwCl [(sl, .inr (5, [.ref sh, .int (zI lc), .ref ru, .ref tr, .ref se])), (ru, .inr (2, [.ref rh, .ref rt, va_rf (some lv), .int (zI rp), .int (zI o1_8)])), (rh, .inr (0, [.int (zI x1_5), .int (zI y1_6), .int (zI l1_7)])), (rt, .inr (4, [.ref ri, .int (zI (rln + 1)), .int (zI h1_9)])), zA cI ri 100 (zu RI rln i), (lv, .inr (1, [.int (zI w), .int (zI h), .ref ka, .ref ta, .int (zI sx), .int (zI sy), .int (zI fx), .int (zI fy), .int (zI lf), .int (zI un)])), zA cI ka 96 K, zQ cT ta 4 tq, (tp kp, .inr (4, [.ref ti, .int (zI ln), .int (zI hf)])), zA cI ti 100 FI] H := hP.sub [0, 4, 5, 6, 7, 8, 9, 1, 2, 3] rfl
        have hD : va_D A [(sl, .inr (5, [.ref sh, .int (zI lc), .ref ru, .ref tr, .ref se])), (ru, .inr (2, [.ref rh, .ref rt, va_rf (some lv), .int (zI rp), .int (zI o1_8)])), (rh, .inr (0, [.int (zI x1_5), .int (zI y1_6), .int (zI l1_7)])), (rt, .inr (4, [.ref ri, .int (zI (rln + 1)), .int (zI h1_9)])), zA cI ri 100 (zu RI rln i), (lv, .inr (1, [.int (zI w), .int (zI h), .ref ka, .ref ta, .int (zI sx), .int (zI sy), .int (zI fx), .int (zI fy), .int (zI lf), .int (zI un)])), zA cI ka 96 K, zQ cT ta 4 tq, (tp kp, .inr (4, [.ref ti, .int (zI ln), .int (zI hf)])), zA cI ti 100 FI] := hD.sub [0, 4, 5, 6, 7, 8, 9, 1, 2, 3] (by decide) rfl
        clear hK1 hvm
        have po_10 : x1_5 = mvX K w h hx9 hy9 i ∧ y1_6 = mvY K w h hx9 hy9 hl9 i ∧ l1_7 = mvL K w h hx9 hy9 hl9 i ∧ o1_8 = (if mvO K w h fx fy hx9 hy9 hl9 i = 0 ∧ 100 ≤ rln + 1 then 1 else mvO K w h fx fy hx9 hy9 hl9 i) ∧ h1_9 = ncF rhf (rln + 1) x1_5 w := hw
        refine W.eq (g2 := F0 m 61 ls []) rfl ?_
        have m9 := po_10
        have o9 := (mv_rng (K := K) (w := w) (h := h) (fx := fx) (fy := fy) (x := hx9) (y := hy9) (li := hl9) (i := i) grx gry grl).2.2.2.1
        have o8 : 0 ≤ o1_8 ∧ o1_8 ≤ 2 := by rw [m9.2.2.2.1]; split <;> omega
        refine lv_aload_n hx hb dX5_play_61 rfl (lv_at hl 1 rfl) ?_
        refine va_get (D := (dC, dI)) (ci := 5) (v := .ref ru) (C := RX5) (T := TX5) (N := 5) hx hb hts i_5 hown hK hP 0 rfl rfl 2 (by decide) f_22 (fun _ h9 => h9) rfl dX5_play_62 ?_
        refine va_get (D := (dC, dI)) (ci := 2) (v := .int (zI o1_8)) (C := RX2) (T := TX2) (N := 5) hx hb hts i_2 hown hK hP 1 rfl rfl 4 (by decide) f_152 (fun _ h9 => h9) rfl dX5_play_65 ?_
        refine lv_iconst (v := zI 2) hx hb dX5_play_68 (rfl) ?_
        refine lz_icmp_ne (tgt := 90) hx hb dX5_play_69 (by decide) (by omega) ⟨by decide, by decide⟩ (fun c_11 => ?_) (fun c_11 => ?_)
        ·
          refine lv_aload_n hx hb dX5_play_90 rfl (lv_at hl 1 rfl) ?_
          refine va_get (D := (dC, dI)) (ci := 5) (v := .ref ru) (C := RX5) (T := TX5) (N := 5) hx hb hts i_5 hown hK hP 0 rfl rfl 2 (by decide) f_22 (fun _ h9 => h9) rfl dX5_play_91 ?_
          refine va_get (D := (dC, dI)) (ci := 2) (v := .int (zI o1_8)) (C := RX2) (T := TX2) (N := 5) hx hb hts i_2 hown hK hP 1 rfl rfl 4 (by decide) f_152 (fun _ h9 => h9) rfl dX5_play_94 ?_
          have hP9 := hP.sub (ws' := [(sl, .inr (5, [.ref sh, .int (zI lc), .ref ru, .ref tr, .ref se])), (ru, .inr (2, [.ref rh, .ref rt, va_rf (some lv), .int (zI rp), .int (zI o1_8)])), (rh, .inr (0, [.int (zI x1_5), .int (zI y1_6), .int (zI l1_7)])), (rt, .inr (4, [.ref ri, .int (zI (rln + 1)), .int (zI h1_9)])), zA cI ri 100 (zu RI rln i), (lv, .inr (1, [.int (zI w), .int (zI h), .ref ka, .ref ta, .int (zI sx), .int (zI sy), .int (zI fx), .int (zI fy), .int (zI lf), .int (zI un)])), zA cI ka 96 K, zQ cT ta 4 tq, (tp kp, .inr (4, [.ref ti, .int (zI ln), .int (zI hf)])), zA cI ti 100 FI]) [0, 1, 2, 3, 4, 5, 6, 7, 8, 9] rfl
          have hD9 := hD.sub (ws' := [(sl, .inr (5, [.ref sh, .int (zI lc), .ref ru, .ref tr, .ref se])), (ru, .inr (2, [.ref rh, .ref rt, va_rf (some lv), .int (zI rp), .int (zI o1_8)])), (rh, .inr (0, [.int (zI x1_5), .int (zI y1_6), .int (zI l1_7)])), (rt, .inr (4, [.ref ri, .int (zI (rln + 1)), .int (zI h1_9)])), zA cI ri 100 (zu RI rln i), (lv, .inr (1, [.int (zI w), .int (zI h), .ref ka, .ref ta, .int (zI sx), .int (zI sy), .int (zI fx), .int (zI fy), .int (zI lf), .int (zI un)])), zA cI ka 96 K, zQ cT ta 4 tq, (tp kp, .inr (4, [.ref ti, .int (zI ln), .int (zI hf)])), zA cI ti 100 FI]) [0, 1, 2, 3, 4, 5, 6, 7, 8, 9] (by decide) rfl
          have po : zI o1_8 = zI o1_8 ∧ (x1_5 = mvX K w h hx9 hy9 i ∧ y1_6 = mvY K w h hx9 hy9 hl9 i ∧ l1_7 = mvL K w h hx9 hy9 hl9 i ∧ o1_8 = (if mvO K w h fx fy hx9 hy9 hl9 i = 0 ∧ 100 ≤ rln + 1 then 1 else mvO K w h fx fy hx9 hy9 hl9 i) ∧ h1_9 = ncF rhf (rln + 1) x1_5 w ∧ ((o1_8 = 2 ∧ (ln = -1 ∨ rln + 1 < ln) ∧ ln = rln + 1 ∧ hf = h1_9 ∧ (∀ j, 0 ≤ j → j < 100 → FI j = zu RI rln i j)) ∨ (¬ (o1_8 = 2 ∧ (ln = -1 ∨ rln + 1 < ln)) ∧ ln = ln ∧ hf = hf ∧ FI = FI))) := by
            refine ⟨by first | rfl | (congr 1; omega) | (congr 1; simp [*]), ?_⟩
            refine ⟨m9.1, m9.2.1, m9.2.2.1, m9.2.2.2.1, m9.2.2.2.2, ?_⟩
            exact Or.inr ⟨by omega, rfl, rfl, rfl⟩
          exact W.iret (v := zI o1_8) hx hb hr (fun t ht hW => ⟨⟨zI o1_8, (x1_5, y1_6, l1_7, o1_8, h1_9, ln, hf, FI), rfl, po, by rw [ht]; exact hP9, va_K.moved hW.alike hK, hD9⟩, hS.F ht⟩) hS.2.2 dX5_play_97
        ·
          refine lv_aload_n hx hb dX5_play_72 rfl (lv_at hl 0 rfl) ?_
          refine lv_aload_n hx hb dX5_play_73 rfl (lv_at hl 1 rfl) ?_
          refine va_get (D := (dC, dI)) (ci := 5) (v := .ref ru) (C := RX5) (T := TX5) (N := 5) hx hb hts i_5 hown hK hP 0 rfl rfl 2 (by decide) f_22 (fun _ h9 => h9) rfl dX5_play_74 ?_
          refine va_get (D := (dC, dI)) (ci := 2) (v := .int (zI rp)) (C := RX2) (T := TX2) (N := 5) hx hb hts i_2 hown hK hP 1 rfl rfl 3 (by decide) f_161 (fun _ h9 => h9) rfl dX5_play_77 ?_
          refine lv_aload_n hx hb dX5_play_80 rfl (lv_at hl 1 rfl) ?_
          refine va_get (D := (dC, dI)) (ci := 5) (v := .ref ru) (C := RX5) (T := TX5) (N := 5) hx hb hts i_5 hown hK hP 0 rfl rfl 2 (by decide) f_22 (fun _ h9 => h9) rfl dX5_play_81 ?_
          refine va_get (D := (dC, dI)) (ci := 2) (v := .ref rt) (C := RX2) (T := TX2) (N := 5) hx hb hts i_2 hown hK hP 1 rfl rfl 1 (by decide) f_164 (fun _ h9 => h9) rfl dX5_play_84 ?_
          have hPc := hP.sub (ws' := [(lv, .inr (1, [.int (zI w), .int (zI h), .ref ka, .ref ta, .int (zI sx), .int (zI sy), .int (zI fx), .int (zI fy), .int (zI lf), .int (zI un)])), zQ cT ta 4 tq, (tp kp, .inr (4, [.ref ti, .int (zI ln), .int (zI hf)])), zA cI ti 100 FI, (rt, .inr (4, [.ref ri, .int (zI (rln + 1)), .int (zI h1_9)])), zA cI ri 100 (zu RI rln i)]) [5, 7, 8, 9, 3, 4] rfl
          have hDc := hD.sub (ws' := [(lv, .inr (1, [.int (zI w), .int (zI h), .ref ka, .ref ta, .int (zI sx), .int (zI sy), .int (zI fx), .int (zI fy), .int (zI lf), .int (zI un)])), zQ cT ta 4 tq, (tp kp, .inr (4, [.ref ti, .int (zI ln), .int (zI hf)])), zA cI ti 100 FI, (rt, .inr (4, [.ref ri, .int (zI (rln + 1)), .int (zI h1_9)])), zA cI ri 100 (zu RI rln i)]) [5, 7, 8, 9, 3, 4] (by decide) rfl
          have hFc := va_free (wc := [(lv, .inr (1, [.int (zI w), .int (zI h), .ref ka, .ref ta, .int (zI sx), .int (zI sy), .int (zI fx), .int (zI fy), .int (zI lf), .int (zI un)])), zQ cT ta 4 tq, (tp kp, .inr (4, [.ref ti, .int (zI ln), .int (zI hf)])), zA cI ti 100 FI, (rt, .inr (4, [.ref ri, .int (zI (rln + 1)), .int (zI h1_9)])), zA cI ri 100 (zu RI rln i)]) hD hS hA [5, 7, 8, 9, 3, 4] rfl
          refine va_callv (va_runV (As := [.int (zI rp), .ref rt]) (rest := []) ⟨hx, hb, hml, hown, hts⟩ (c_X1_keepIfBetter l dC dI cI cZ cL cT cJ H.size lv w h ka ta sx sy fx fy lf un tq tp rp kp ti ln hf FI rt ri (rln + 1) h1_9 (zu RI rln i) (by first | assumption | omega) (by first | assumption | omega) (by first | assumption | omega) (by first | assumption | omega)) (cwV 2 hts gX5_play_X1_keepIfBetter rfl rfl rfl (by decide +kernel) ⟨Nat.le_of_ble_eq_true rfl, Nat.le_of_ble_eq_true rfl⟩) ⟨zP_blind, va_recv hK hPc (ci := 1) (q0 := 0) rfl rfl, zP_pre hPc hDc hK⟩ rfl rfl hl.1 rfl (lv_room (Nat.le_of_ble_eq_true rfl)) dX5_play_87 ⟨Nat.le_of_ble_eq_true rfl, Nat.le_of_ble_eq_true rfl⟩) hS (fun q _ h => hFc q h) hFc (fun u_12 t H1 locs ht hvm hw hB hz1 hk1 hS => ?_)
          obtain ⟨l1_13, h1_14, F1_15⟩ := u_12
          obtain ⟨hP1, hK1, hD1⟩ := hB
          rw [ht] at hP1
          have hP1 : va_P (dC, dI) vwCl [(lv, .inr (1, [.int (zI w), .int (zI h), .ref ka, .ref ta, .int (zI sx), .int (zI sy), .int (zI fx), .int (zI fy), .int (zI lf), .int (zI un)])), zQ cT ta 4 tq, (tp kp, .inr (4, [.ref ti, .int (zI l1_13), .int (zI h1_14)])), zA cI ti 100 F1_15, (rt, .inr (4, [.ref ri, .int (zI (rln + 1)), .int (zI h1_9)])), zA cI ri 100 (zu RI rln i)] H1 := hP1
          obtain ⟨hP, hD⟩ := va_join (wr := [(sl, .inr (5, [.ref sh, .int (zI lc), .ref ru, .ref tr, .ref se])), (ru, .inr (2, [.ref rh, .ref rt, va_rf (some lv), .int (zI rp), .int (zI o1_8)])), (rh, .inr (0, [.int (zI x1_5), .int (zI y1_6), .int (zI l1_7)])), zA cI ka 96 K]) (w1 := [(lv, .inr (1, [.int (zI w), .int (zI h), .ref ka, .ref ta, .int (zI sx), .int (zI sy), .int (zI fx), .int (zI fy), .int (zI lf), .int (zI un)])), zQ cT ta 4 tq, (tp kp, .inr (4, [.ref ti, .int (zI l1_13), .int (zI h1_14)])), zA cI ti 100 F1_15, (rt, .inr (4, [.ref ri, .int (zI (rln + 1)), .int (zI h1_9)])), zA cI ri 100 (zu RI rln i)]) hP hD [5, 7, 8, 9, 3, 4] [0, 1, 2, 6] rfl rfl (by decide) (by decide) hk1 hFc hP1 hD1
          clear hP1 hD1 hk1 hFc hPc hDc hz1
          generalize H1 = H at hP hS ⊢
          have hP : va_P (dC, dI) vwCl [(sl, .inr (5, [.ref sh, .int (zI lc), .ref ru, .ref tr, .ref se])), (ru, .inr (2, [.ref rh, .ref rt, va_rf (some lv), .int (zI rp), .int (zI o1_8)])), (rh, .inr (0, [.int (zI x1_5), .int (zI y1_6), .int (zI l1_7)])), (rt, .inr (4, [.ref ri, .int (zI (rln + 1)), .int (zI h1_9)])), zA cI ri 100 (zu RI rln i), (lv, .inr (1, [.int (zI w), .int (zI h), .ref ka, .ref ta, .int (zI sx), .int (zI sy), .int (zI fx), .int (zI fy), .int (zI lf), .int (zI un)])), zA cI ka 96 K, zQ cT ta 4 tq, (tp kp, .inr (4, [.ref ti, .int (zI l1_13), .int (zI h1_14)])), zA cI ti 100 F1_15] H := hP.sub [0, 1, 2, 8, 9, 4, 3, 5, 6, 7] rfl
          have hD : va_D A [(sl, .inr (5, [.ref sh, .int (zI lc), .ref ru, .ref tr, .ref se])), (ru, .inr (2, [.ref rh, .ref rt, va_rf (some lv), .int (zI rp), .int (zI o1_8)])), (rh, .inr (0, [.int (zI x1_5), .int (zI y1_6), .int (zI l1_7)])), (rt, .inr (4, [.ref ri, .int (zI (rln + 1)), .int (zI h1_9)])), zA cI ri 100 (zu RI rln i), (lv, .inr (1, [.int (zI w), .int (zI h), .ref ka, .ref ta, .int (zI sx), .int (zI sy), .int (zI fx), .int (zI fy), .int (zI lf), .int (zI un)])), zA cI ka 96 K, zQ cT ta 4 tq, (tp kp, .inr (4, [.ref ti, .int (zI l1_13), .int (zI h1_14)])), zA cI ti 100 F1_15] := hD.sub [0, 1, 2, 8, 9, 4, 3, 5, 6, 7] (by decide) rfl
          clear hK1 hvm
          have po_16 : (ln = -1 ∨ (rln + 1) < ln) ∧ l1_13 = (rln + 1) ∧ h1_14 = h1_9 ∧ (∀ j, 0 ≤ j → j < 100 → F1_15 j = (zu RI rln i) j) ∨ ¬ (ln = -1 ∨ (rln + 1) < ln) ∧ l1_13 = ln ∧ h1_14 = hf ∧ F1_15 = FI := hw
          refine W.eq (g2 := F0 m 90 ls []) rfl ?_
          refine lv_aload_n hx hb dX5_play_90 rfl (lv_at hl 1 rfl) ?_
          refine va_get (D := (dC, dI)) (ci := 5) (v := .ref ru) (C := RX5) (T := TX5) (N := 5) hx hb hts i_5 hown hK hP 0 rfl rfl 2 (by decide) f_22 (fun _ h9 => h9) rfl dX5_play_91 ?_
          refine va_get (D := (dC, dI)) (ci := 2) (v := .int (zI o1_8)) (C := RX2) (T := TX2) (N := 5) hx hb hts i_2 hown hK hP 1 rfl rfl 4 (by decide) f_152 (fun _ h9 => h9) rfl dX5_play_94 ?_
          have hP9 := hP.sub (ws' := [(sl, .inr (5, [.ref sh, .int (zI lc), .ref ru, .ref tr, .ref se])), (ru, .inr (2, [.ref rh, .ref rt, va_rf (some lv), .int (zI rp), .int (zI o1_8)])), (rh, .inr (0, [.int (zI x1_5), .int (zI y1_6), .int (zI l1_7)])), (rt, .inr (4, [.ref ri, .int (zI (rln + 1)), .int (zI h1_9)])), zA cI ri 100 (zu RI rln i), (lv, .inr (1, [.int (zI w), .int (zI h), .ref ka, .ref ta, .int (zI sx), .int (zI sy), .int (zI fx), .int (zI fy), .int (zI lf), .int (zI un)])), zA cI ka 96 K, zQ cT ta 4 tq, (tp kp, .inr (4, [.ref ti, .int (zI l1_13), .int (zI h1_14)])), zA cI ti 100 F1_15]) [0, 1, 2, 3, 4, 5, 6, 7, 8, 9] rfl
          have hD9 := hD.sub (ws' := [(sl, .inr (5, [.ref sh, .int (zI lc), .ref ru, .ref tr, .ref se])), (ru, .inr (2, [.ref rh, .ref rt, va_rf (some lv), .int (zI rp), .int (zI o1_8)])), (rh, .inr (0, [.int (zI x1_5), .int (zI y1_6), .int (zI l1_7)])), (rt, .inr (4, [.ref ri, .int (zI (rln + 1)), .int (zI h1_9)])), zA cI ri 100 (zu RI rln i), (lv, .inr (1, [.int (zI w), .int (zI h), .ref ka, .ref ta, .int (zI sx), .int (zI sy), .int (zI fx), .int (zI fy), .int (zI lf), .int (zI un)])), zA cI ka 96 K, zQ cT ta 4 tq, (tp kp, .inr (4, [.ref ti, .int (zI l1_13), .int (zI h1_14)])), zA cI ti 100 F1_15]) [0, 1, 2, 3, 4, 5, 6, 7, 8, 9] (by decide) rfl
          have po : zI o1_8 = zI o1_8 ∧ (x1_5 = mvX K w h hx9 hy9 i ∧ y1_6 = mvY K w h hx9 hy9 hl9 i ∧ l1_7 = mvL K w h hx9 hy9 hl9 i ∧ o1_8 = (if mvO K w h fx fy hx9 hy9 hl9 i = 0 ∧ 100 ≤ rln + 1 then 1 else mvO K w h fx fy hx9 hy9 hl9 i) ∧ h1_9 = ncF rhf (rln + 1) x1_5 w ∧ ((o1_8 = 2 ∧ (ln = -1 ∨ rln + 1 < ln) ∧ l1_13 = rln + 1 ∧ h1_14 = h1_9 ∧ (∀ j, 0 ≤ j → j < 100 → F1_15 j = zu RI rln i j)) ∨ (¬ (o1_8 = 2 ∧ (ln = -1 ∨ rln + 1 < ln)) ∧ l1_13 = ln ∧ h1_14 = hf ∧ F1_15 = FI))) := by
            refine ⟨by first | rfl | (congr 1; omega) | (congr 1; simp [*]), ?_⟩
            refine ⟨m9.1, m9.2.1, m9.2.2.1, m9.2.2.2.1, m9.2.2.2.2, ?_⟩
            rcases po_16 with ⟨a1, a2, a3, a4⟩ | ⟨a1, a2, a3, a4⟩
            · exact Or.inl ⟨by omega, a1, a2, a3, a4⟩
            · exact Or.inr ⟨by omega, a2, a3, a4⟩
          exact W.iret (v := zI o1_8) hx hb hr (fun t ht hW => ⟨⟨zI o1_8, (x1_5, y1_6, l1_7, o1_8, h1_9, l1_13, h1_14, F1_15), rfl, po, by rw [ht]; exact hP9, va_K.moved hW.alike hK, hD9⟩, hS.F ht⟩) hS.2.2 dX5_play_97
      · exfalso; omega
    · exfalso; omega
set_option maxHeartbeats 4000000 in
set_option maxRecDepth 100000 in
theorem c_X5_state (l : Launch) (dC : Nat → ClassId) (dI : Nat → Nat → Nat) (cI cZ cL cT cJ : ClassId) (sz : Nat) (sl : Nat) (sh : Nat) (lc : Int) (ru : Nat) (tr : Nat) (se : Nat) (rh : Nat) (rt : Nat) (rp : Int) (oc : Int) (lv : Nat)  : Met l yX5_state wsX5_state ({ frames := 0, cells := 0, slots := 0, locals := 0 }) (zP (dC, dI) (zT cI cZ cL cT cJ) sz [.ref sl] [(sl, .inr (5, [.ref sh, .int (zI lc), .ref ru, .ref tr, .ref se])), (ru, .inr (2, [.ref rh, .ref rt, .ref lv, .int (zI rp), .int (zI oc)]))]) (va_Qi (fun (r9 : Int32) (u9 : Unit) => match u9 with | _ => r9 = zI oc ∧ (True)) (zB (dC, dI) (zT cI cZ cL cT cJ) (va_A [(sl, .inr (5, [.ref sh, .int (zI lc), .ref ru, .ref tr, .ref se])), (ru, .inr (2, [.ref rh, .ref rt, .ref lv, .int (zI rp), .int (zI oc)]))] sz) (fun (u9 : Unit) => match u9 with | _ => [(sl, .inr (5, [.ref sh, .int (zI lc), .ref ru, .ref tr, .ref se])), (ru, .inr (2, [.ref rh, .ref rt, .ref lv, .int (zI rp), .int (zI oc)]))])) (va_A [(sl, .inr (5, [.ref sh, .int (zI lc), .ref ru, .ref tr, .ref se])), (ru, .inr (2, [.ref rh, .ref rt, .ref lv, .int (zI rp), .int (zI oc)]))] sz)) 0 0 (va_A [(sl, .inr (5, [.ref sh, .int (zI lc), .ref ru, .ref tr, .ref se])), (ru, .inr (2, [.ref rh, .ref rt, .ref lv, .int (zI rp), .int (zI oc)]))] sz) := by
  refine Met.ofW (cc := cX5_state) (maxL := 1) (ret := (some .int)) (by decide) rfl ?_
  intro p e s m args below meth c s₁ B hml hv
  obtain ⟨rfl, hsz, hP, hK, hD0⟩ := hv
  have hx := B.exec
  have hb := B.bytes
  have hr := B.returns
  have hts := atoms_spec (ws := wsX5_state) B.pre
  have hown : s.vm.findClass RX5 = some m.cls := findClass_of_methodNamed B.named
  have hlocks := B.notSynchronized
  subst hsz
  have hD := hD0.self (sz := s.heap.size)
  generalize hAe : va_A [(sl, .inr (5, [.ref sh, .int (zI lc), .ref ru, .ref tr, .ref se])), (ru, .inr (2, [.ref rh, .ref rt, .ref lv, .int (zI rp), .int (zI oc)]))] s.heap.size = A at hD ⊢
  have hA : ∀ q : Nat, s.heap.size ≤ q → A q := fun q h => by rw [← hAe]; exact Or.inr h
  clear hAe hD0
  have hS : va_S A s.heap s.heap [] := va_S.rf
  have hP : va_P (dC, dI) vwCl [(sl, .inr (5, [.ref sh, .int (zI lc), .ref ru, .ref tr, .ref se])), (ru, .inr (2, [.ref rh, .ref rt, .ref lv, .int (zI rp), .int (zI oc)]))] s.heap := hP
  have f_22 := hts (.fieldLink RX5 22 "SpringLevels" "run" "LSpringLevels$Run;") (by decide +kernel)
  have f_148 := hts (.fieldLink RX5 148 "SpringLevels$Run" "level" "LSpringLevels$Level;") (by decide +kernel)
  have f_152 := hts (.fieldLink RX5 152 "SpringLevels$Run" "outcome" "I") (by decide +kernel)
  have i_2 : ∀ w ∈ wsX20, w ∈ wsX5_state := by decide +kernel
  have i_5 : ∀ w ∈ wsX50, w ∈ wsX5_state := by decide +kernel
  have hl := lv_entry ([.ref sl]) (n := 1) (Nat.le_of_ble_eq_true rfl)
  rw [lg_entry_eq]
  generalize (lg_sl ([.ref sl]) ++ List.replicate (1 - (lg_sl ([.ref sl])).length) Slot.unset).toArray = ls at hl ⊢
  have hl : lv_has ls 1 [(0, .ref sl)] := hl
  refine lv_aload_n hx hb dX5_state_0 rfl (lv_at hl 0 rfl) ?_
  refine va_get (D := (dC, dI)) (ci := 5) (v := .ref ru) (C := RX5) (T := TX5) (N := 5) hx hb hts i_5 hown hK hP 0 rfl rfl 2 (by decide) f_22 (fun _ h9 => h9) rfl dX5_state_1 ?_
  refine va_get (D := (dC, dI)) (ci := 2) (v := .ref lv) (C := RX2) (T := TX2) (N := 5) hx hb hts i_2 hown hK hP 1 rfl rfl 2 (by decide) f_148 (fun _ h9 => h9) rfl dX5_state_4 ?_
  refine lv_ifnonnull (tgt := 14) hx hb dX5_state_7 (by decide) ?_
  refine lv_aload_n hx hb dX5_state_14 rfl (lv_at hl 0 rfl) ?_
  refine va_get (D := (dC, dI)) (ci := 5) (v := .ref ru) (C := RX5) (T := TX5) (N := 5) hx hb hts i_5 hown hK hP 0 rfl rfl 2 (by decide) f_22 (fun _ h9 => h9) rfl dX5_state_15 ?_
  refine va_get (D := (dC, dI)) (ci := 2) (v := .int (zI oc)) (C := RX2) (T := TX2) (N := 5) hx hb hts i_2 hown hK hP 1 rfl rfl 4 (by decide) f_152 (fun _ h9 => h9) rfl dX5_state_18 ?_
  have hP9 := hP.sub (ws' := [(sl, .inr (5, [.ref sh, .int (zI lc), .ref ru, .ref tr, .ref se])), (ru, .inr (2, [.ref rh, .ref rt, .ref lv, .int (zI rp), .int (zI oc)]))]) [0, 1] rfl
  have hD9 := hD.sub (ws' := [(sl, .inr (5, [.ref sh, .int (zI lc), .ref ru, .ref tr, .ref se])), (ru, .inr (2, [.ref rh, .ref rt, .ref lv, .int (zI rp), .int (zI oc)]))]) [0, 1] (by decide) rfl
  have po : zI oc = zI oc ∧ (True) := by
    refine ⟨by first | rfl | (congr 1; omega) | (congr 1; simp [*]), ?_⟩
    trivial
  exact W.iret (v := zI oc) hx hb hr (fun t ht hW => ⟨⟨zI oc, (), rfl, po, by rw [ht]; exact hP9, va_K.moved hW.alike hK, hD9⟩, hS.F ht⟩) hS.2.2 dX5_state_21
set_option maxHeartbeats 4000000 in
set_option maxRecDepth 100000 in
theorem c_X5_state_no (l : Launch) (dC : Nat → ClassId) (dI : Nat → Nat → Nat) (cI cZ cL cT cJ : ClassId) (sz : Nat) (sl : Nat) (sh : Nat) (lc : Int) (ru : Nat) (tr : Nat) (se : Nat) (rh : Nat) (rt : Nat) (rp : Int) (oc : Int)  : Met l yX5_state wsX5_state ({ frames := 0, cells := 0, slots := 0, locals := 0 }) (zP (dC, dI) (zT cI cZ cL cT cJ) sz [.ref sl] [(sl, .inr (5, [.ref sh, .int (zI lc), .ref ru, .ref tr, .ref se])), (ru, .inr (2, [.ref rh, .ref rt, .null, .int (zI rp), .int (zI oc)]))]) (va_Qi (fun (r9 : Int32) (u9 : Unit) => match u9 with | _ => r9 = zI (-1) ∧ (True)) (zB (dC, dI) (zT cI cZ cL cT cJ) (va_A [(sl, .inr (5, [.ref sh, .int (zI lc), .ref ru, .ref tr, .ref se])), (ru, .inr (2, [.ref rh, .ref rt, .null, .int (zI rp), .int (zI oc)]))] sz) (fun (u9 : Unit) => match u9 with | _ => [(sl, .inr (5, [.ref sh, .int (zI lc), .ref ru, .ref tr, .ref se])), (ru, .inr (2, [.ref rh, .ref rt, .null, .int (zI rp), .int (zI oc)]))])) (va_A [(sl, .inr (5, [.ref sh, .int (zI lc), .ref ru, .ref tr, .ref se])), (ru, .inr (2, [.ref rh, .ref rt, .null, .int (zI rp), .int (zI oc)]))] sz)) 0 0 (va_A [(sl, .inr (5, [.ref sh, .int (zI lc), .ref ru, .ref tr, .ref se])), (ru, .inr (2, [.ref rh, .ref rt, .null, .int (zI rp), .int (zI oc)]))] sz) := by
  refine Met.ofW (cc := cX5_state) (maxL := 1) (ret := (some .int)) (by decide) rfl ?_
  intro p e s m args below meth c s₁ B hml hv
  obtain ⟨rfl, hsz, hP, hK, hD0⟩ := hv
  have hx := B.exec
  have hb := B.bytes
  have hr := B.returns
  have hts := atoms_spec (ws := wsX5_state) B.pre
  have hown : s.vm.findClass RX5 = some m.cls := findClass_of_methodNamed B.named
  have hlocks := B.notSynchronized
  subst hsz
  have hD := hD0.self (sz := s.heap.size)
  generalize hAe : va_A [(sl, .inr (5, [.ref sh, .int (zI lc), .ref ru, .ref tr, .ref se])), (ru, .inr (2, [.ref rh, .ref rt, .null, .int (zI rp), .int (zI oc)]))] s.heap.size = A at hD ⊢
  have hA : ∀ q : Nat, s.heap.size ≤ q → A q := fun q h => by rw [← hAe]; exact Or.inr h
  clear hAe hD0
  have hS : va_S A s.heap s.heap [] := va_S.rf
  have hP : va_P (dC, dI) vwCl [(sl, .inr (5, [.ref sh, .int (zI lc), .ref ru, .ref tr, .ref se])), (ru, .inr (2, [.ref rh, .ref rt, .null, .int (zI rp), .int (zI oc)]))] s.heap := hP
  have f_22 := hts (.fieldLink RX5 22 "SpringLevels" "run" "LSpringLevels$Run;") (by decide +kernel)
  have f_148 := hts (.fieldLink RX5 148 "SpringLevels$Run" "level" "LSpringLevels$Level;") (by decide +kernel)
  have f_152 := hts (.fieldLink RX5 152 "SpringLevels$Run" "outcome" "I") (by decide +kernel)
  have i_2 : ∀ w ∈ wsX20, w ∈ wsX5_state := by decide +kernel
  have i_5 : ∀ w ∈ wsX50, w ∈ wsX5_state := by decide +kernel
  have hl := lv_entry ([.ref sl]) (n := 1) (Nat.le_of_ble_eq_true rfl)
  rw [lg_entry_eq]
  generalize (lg_sl ([.ref sl]) ++ List.replicate (1 - (lg_sl ([.ref sl])).length) Slot.unset).toArray = ls at hl ⊢
  have hl : lv_has ls 1 [(0, .ref sl)] := hl
  refine lv_aload_n hx hb dX5_state_0 rfl (lv_at hl 0 rfl) ?_
  refine va_get (D := (dC, dI)) (ci := 5) (v := .ref ru) (C := RX5) (T := TX5) (N := 5) hx hb hts i_5 hown hK hP 0 rfl rfl 2 (by decide) f_22 (fun _ h9 => h9) rfl dX5_state_1 ?_
  refine va_get (D := (dC, dI)) (ci := 2) (v := .null) (C := RX2) (T := TX2) (N := 5) hx hb hts i_2 hown hK hP 1 rfl rfl 2 (by decide) f_148 (fun _ h9 => h9) rfl dX5_state_4 ?_
  refine lv_ifnonnullN hx hb dX5_state_7 ?_
  refine lv_iconst (v := zI (-1)) hx hb dX5_state_10 (rfl) ?_
  refine lv_goto (tgt := 21) hx hb dX5_state_11 (by decide) ?_
  have hP9 := hP.sub (ws' := [(sl, .inr (5, [.ref sh, .int (zI lc), .ref ru, .ref tr, .ref se])), (ru, .inr (2, [.ref rh, .ref rt, .null, .int (zI rp), .int (zI oc)]))]) [0, 1] rfl
  have hD9 := hD.sub (ws' := [(sl, .inr (5, [.ref sh, .int (zI lc), .ref ru, .ref tr, .ref se])), (ru, .inr (2, [.ref rh, .ref rt, .null, .int (zI rp), .int (zI oc)]))]) [0, 1] (by decide) rfl
  have po : zI (-1) = zI (-1) ∧ (True) := by
    refine ⟨by first | rfl | (congr 1; omega) | (congr 1; simp [*]), ?_⟩
    trivial
  exact W.iret (v := zI (-1)) hx hb hr (fun t ht hW => ⟨⟨zI (-1), (), rfl, po, by rw [ht]; exact hP9, va_K.moved hW.alike hK, hD9⟩, hS.F ht⟩) hS.2.2 dX5_state_21
set_option maxHeartbeats 4000000 in
set_option maxRecDepth 100000 in
theorem c_X5_frames (l : Launch) (dC : Nat → ClassId) (dI : Nat → Nat → Nat) (cI cZ cL cT cJ : ClassId) (sz : Nat) (sl : Nat) (sh : Nat) (lc : Int) (ru : Nat) (tr : Nat) (se : Nat) (rh : Nat) (rt : Nat) (rp : Int) (oc : Int) (lv : Nat) (ri : Nat) (rln : Int) (rhf : Int)  : Met l yX5_frames wsX5_frames ({ frames := 0, cells := 0, slots := 0, locals := 0 }) (zP (dC, dI) (zT cI cZ cL cT cJ) sz [.ref sl] [(sl, .inr (5, [.ref sh, .int (zI lc), .ref ru, .ref tr, .ref se])), (ru, .inr (2, [.ref rh, .ref rt, .ref lv, .int (zI rp), .int (zI oc)])), (rt, .inr (4, [.ref ri, .int (zI rln), .int (zI rhf)]))]) (va_Qi (fun (r9 : Int32) (u9 : Unit) => match u9 with | _ => r9 = zI rln ∧ (True)) (zB (dC, dI) (zT cI cZ cL cT cJ) (va_A [(sl, .inr (5, [.ref sh, .int (zI lc), .ref ru, .ref tr, .ref se])), (ru, .inr (2, [.ref rh, .ref rt, .ref lv, .int (zI rp), .int (zI oc)])), (rt, .inr (4, [.ref ri, .int (zI rln), .int (zI rhf)]))] sz) (fun (u9 : Unit) => match u9 with | _ => [(sl, .inr (5, [.ref sh, .int (zI lc), .ref ru, .ref tr, .ref se])), (ru, .inr (2, [.ref rh, .ref rt, .ref lv, .int (zI rp), .int (zI oc)])), (rt, .inr (4, [.ref ri, .int (zI rln), .int (zI rhf)]))])) (va_A [(sl, .inr (5, [.ref sh, .int (zI lc), .ref ru, .ref tr, .ref se])), (ru, .inr (2, [.ref rh, .ref rt, .ref lv, .int (zI rp), .int (zI oc)])), (rt, .inr (4, [.ref ri, .int (zI rln), .int (zI rhf)]))] sz)) 0 0 (va_A [(sl, .inr (5, [.ref sh, .int (zI lc), .ref ru, .ref tr, .ref se])), (ru, .inr (2, [.ref rh, .ref rt, .ref lv, .int (zI rp), .int (zI oc)])), (rt, .inr (4, [.ref ri, .int (zI rln), .int (zI rhf)]))] sz) := by
  refine Met.ofW (cc := cX5_frames) (maxL := 1) (ret := (some .int)) (by decide) rfl ?_
  intro p e s m args below meth c s₁ B hml hv
  obtain ⟨rfl, hsz, hP, hK, hD0⟩ := hv
  have hx := B.exec
  have hb := B.bytes
  have hr := B.returns
  have hts := atoms_spec (ws := wsX5_frames) B.pre
  have hown : s.vm.findClass RX5 = some m.cls := findClass_of_methodNamed B.named
  have hlocks := B.notSynchronized
  subst hsz
  have hD := hD0.self (sz := s.heap.size)
  generalize hAe : va_A [(sl, .inr (5, [.ref sh, .int (zI lc), .ref ru, .ref tr, .ref se])), (ru, .inr (2, [.ref rh, .ref rt, .ref lv, .int (zI rp), .int (zI oc)])), (rt, .inr (4, [.ref ri, .int (zI rln), .int (zI rhf)]))] s.heap.size = A at hD ⊢
  have hA : ∀ q : Nat, s.heap.size ≤ q → A q := fun q h => by rw [← hAe]; exact Or.inr h
  clear hAe hD0
  have hS : va_S A s.heap s.heap [] := va_S.rf
  have hP : va_P (dC, dI) vwCl [(sl, .inr (5, [.ref sh, .int (zI lc), .ref ru, .ref tr, .ref se])), (ru, .inr (2, [.ref rh, .ref rt, .ref lv, .int (zI rp), .int (zI oc)])), (rt, .inr (4, [.ref ri, .int (zI rln), .int (zI rhf)]))] s.heap := hP
  have f_22 := hts (.fieldLink RX5 22 "SpringLevels" "run" "LSpringLevels$Run;") (by decide +kernel)
  have f_148 := hts (.fieldLink RX5 148 "SpringLevels$Run" "level" "LSpringLevels$Level;") (by decide +kernel)
  have f_164 := hts (.fieldLink RX5 164 "SpringLevels$Run" "tape" "LSpringLevels$Tape;") (by decide +kernel)
  have f_172 := hts (.fieldLink RX5 172 "SpringLevels$Tape" "length" "I") (by decide +kernel)
  have i_2 : ∀ w ∈ wsX20, w ∈ wsX5_frames := by decide +kernel
  have i_4 : ∀ w ∈ wsX40, w ∈ wsX5_frames := by decide +kernel
  have i_5 : ∀ w ∈ wsX50, w ∈ wsX5_frames := by decide +kernel
  have hl := lv_entry ([.ref sl]) (n := 1) (Nat.le_of_ble_eq_true rfl)
  rw [lg_entry_eq]
  generalize (lg_sl ([.ref sl]) ++ List.replicate (1 - (lg_sl ([.ref sl])).length) Slot.unset).toArray = ls at hl ⊢
  have hl : lv_has ls 1 [(0, .ref sl)] := hl
  refine lv_aload_n hx hb dX5_frames_0 rfl (lv_at hl 0 rfl) ?_
  refine va_get (D := (dC, dI)) (ci := 5) (v := .ref ru) (C := RX5) (T := TX5) (N := 5) hx hb hts i_5 hown hK hP 0 rfl rfl 2 (by decide) f_22 (fun _ h9 => h9) rfl dX5_frames_1 ?_
  refine va_get (D := (dC, dI)) (ci := 2) (v := .ref lv) (C := RX2) (T := TX2) (N := 5) hx hb hts i_2 hown hK hP 1 rfl rfl 2 (by decide) f_148 (fun _ h9 => h9) rfl dX5_frames_4 ?_
  refine lv_ifnonnull (tgt := 14) hx hb dX5_frames_7 (by decide) ?_
  refine lv_aload_n hx hb dX5_frames_14 rfl (lv_at hl 0 rfl) ?_
  refine va_get (D := (dC, dI)) (ci := 5) (v := .ref ru) (C := RX5) (T := TX5) (N := 5) hx hb hts i_5 hown hK hP 0 rfl rfl 2 (by decide) f_22 (fun _ h9 => h9) rfl dX5_frames_15 ?_
  refine va_get (D := (dC, dI)) (ci := 2) (v := .ref rt) (C := RX2) (T := TX2) (N := 5) hx hb hts i_2 hown hK hP 1 rfl rfl 1 (by decide) f_164 (fun _ h9 => h9) rfl dX5_frames_18 ?_
  refine va_get (D := (dC, dI)) (ci := 4) (v := .int (zI rln)) (C := RX4) (T := TX4) (N := 3) hx hb hts i_4 hown hK hP 2 rfl rfl 1 (by decide) f_172 (fun _ h9 => h9) rfl dX5_frames_21 ?_
  have hP9 := hP.sub (ws' := [(sl, .inr (5, [.ref sh, .int (zI lc), .ref ru, .ref tr, .ref se])), (ru, .inr (2, [.ref rh, .ref rt, .ref lv, .int (zI rp), .int (zI oc)])), (rt, .inr (4, [.ref ri, .int (zI rln), .int (zI rhf)]))]) [0, 1, 2] rfl
  have hD9 := hD.sub (ws' := [(sl, .inr (5, [.ref sh, .int (zI lc), .ref ru, .ref tr, .ref se])), (ru, .inr (2, [.ref rh, .ref rt, .ref lv, .int (zI rp), .int (zI oc)])), (rt, .inr (4, [.ref ri, .int (zI rln), .int (zI rhf)]))]) [0, 1, 2] (by decide) rfl
  have po : zI rln = zI rln ∧ (True) := by
    refine ⟨by first | rfl | (congr 1; omega) | (congr 1; simp [*]), ?_⟩
    trivial
  exact W.iret (v := zI rln) hx hb hr (fun t ht hW => ⟨⟨zI rln, (), rfl, po, by rw [ht]; exact hP9, va_K.moved hW.alike hK, hD9⟩, hS.F ht⟩) hS.2.2 dX5_frames_24
set_option maxHeartbeats 4000000 in
set_option maxRecDepth 100000 in
theorem c_X5_frames_no (l : Launch) (dC : Nat → ClassId) (dI : Nat → Nat → Nat) (cI cZ cL cT cJ : ClassId) (sz : Nat) (sl : Nat) (sh : Nat) (lc : Int) (ru : Nat) (tr : Nat) (se : Nat) (rh : Nat) (rt : Nat) (rp : Int) (oc : Int)  : Met l yX5_frames wsX5_frames ({ frames := 0, cells := 0, slots := 0, locals := 0 }) (zP (dC, dI) (zT cI cZ cL cT cJ) sz [.ref sl] [(sl, .inr (5, [.ref sh, .int (zI lc), .ref ru, .ref tr, .ref se])), (ru, .inr (2, [.ref rh, .ref rt, .null, .int (zI rp), .int (zI oc)]))]) (va_Qi (fun (r9 : Int32) (u9 : Unit) => match u9 with | _ => r9 = zI (-1) ∧ (True)) (zB (dC, dI) (zT cI cZ cL cT cJ) (va_A [(sl, .inr (5, [.ref sh, .int (zI lc), .ref ru, .ref tr, .ref se])), (ru, .inr (2, [.ref rh, .ref rt, .null, .int (zI rp), .int (zI oc)]))] sz) (fun (u9 : Unit) => match u9 with | _ => [(sl, .inr (5, [.ref sh, .int (zI lc), .ref ru, .ref tr, .ref se])), (ru, .inr (2, [.ref rh, .ref rt, .null, .int (zI rp), .int (zI oc)]))])) (va_A [(sl, .inr (5, [.ref sh, .int (zI lc), .ref ru, .ref tr, .ref se])), (ru, .inr (2, [.ref rh, .ref rt, .null, .int (zI rp), .int (zI oc)]))] sz)) 0 0 (va_A [(sl, .inr (5, [.ref sh, .int (zI lc), .ref ru, .ref tr, .ref se])), (ru, .inr (2, [.ref rh, .ref rt, .null, .int (zI rp), .int (zI oc)]))] sz) := by
  refine Met.ofW (cc := cX5_frames) (maxL := 1) (ret := (some .int)) (by decide) rfl ?_
  intro p e s m args below meth c s₁ B hml hv
  obtain ⟨rfl, hsz, hP, hK, hD0⟩ := hv
  have hx := B.exec
  have hb := B.bytes
  have hr := B.returns
  have hts := atoms_spec (ws := wsX5_frames) B.pre
  have hown : s.vm.findClass RX5 = some m.cls := findClass_of_methodNamed B.named
  have hlocks := B.notSynchronized
  subst hsz
  have hD := hD0.self (sz := s.heap.size)
  generalize hAe : va_A [(sl, .inr (5, [.ref sh, .int (zI lc), .ref ru, .ref tr, .ref se])), (ru, .inr (2, [.ref rh, .ref rt, .null, .int (zI rp), .int (zI oc)]))] s.heap.size = A at hD ⊢
  have hA : ∀ q : Nat, s.heap.size ≤ q → A q := fun q h => by rw [← hAe]; exact Or.inr h
  clear hAe hD0
  have hS : va_S A s.heap s.heap [] := va_S.rf
  have hP : va_P (dC, dI) vwCl [(sl, .inr (5, [.ref sh, .int (zI lc), .ref ru, .ref tr, .ref se])), (ru, .inr (2, [.ref rh, .ref rt, .null, .int (zI rp), .int (zI oc)]))] s.heap := hP
  have f_22 := hts (.fieldLink RX5 22 "SpringLevels" "run" "LSpringLevels$Run;") (by decide +kernel)
  have f_148 := hts (.fieldLink RX5 148 "SpringLevels$Run" "level" "LSpringLevels$Level;") (by decide +kernel)
  have f_164 := hts (.fieldLink RX5 164 "SpringLevels$Run" "tape" "LSpringLevels$Tape;") (by decide +kernel)
  have f_172 := hts (.fieldLink RX5 172 "SpringLevels$Tape" "length" "I") (by decide +kernel)
  have i_2 : ∀ w ∈ wsX20, w ∈ wsX5_frames := by decide +kernel
  have i_4 : ∀ w ∈ wsX40, w ∈ wsX5_frames := by decide +kernel
  have i_5 : ∀ w ∈ wsX50, w ∈ wsX5_frames := by decide +kernel
  have hl := lv_entry ([.ref sl]) (n := 1) (Nat.le_of_ble_eq_true rfl)
  rw [lg_entry_eq]
  generalize (lg_sl ([.ref sl]) ++ List.replicate (1 - (lg_sl ([.ref sl])).length) Slot.unset).toArray = ls at hl ⊢
  have hl : lv_has ls 1 [(0, .ref sl)] := hl
  refine lv_aload_n hx hb dX5_frames_0 rfl (lv_at hl 0 rfl) ?_
  refine va_get (D := (dC, dI)) (ci := 5) (v := .ref ru) (C := RX5) (T := TX5) (N := 5) hx hb hts i_5 hown hK hP 0 rfl rfl 2 (by decide) f_22 (fun _ h9 => h9) rfl dX5_frames_1 ?_
  refine va_get (D := (dC, dI)) (ci := 2) (v := .null) (C := RX2) (T := TX2) (N := 5) hx hb hts i_2 hown hK hP 1 rfl rfl 2 (by decide) f_148 (fun _ h9 => h9) rfl dX5_frames_4 ?_
  refine lv_ifnonnullN hx hb dX5_frames_7 ?_
  refine lv_iconst (v := zI (-1)) hx hb dX5_frames_10 (rfl) ?_
  refine lv_goto (tgt := 24) hx hb dX5_frames_11 (by decide) ?_
  have hP9 := hP.sub (ws' := [(sl, .inr (5, [.ref sh, .int (zI lc), .ref ru, .ref tr, .ref se])), (ru, .inr (2, [.ref rh, .ref rt, .null, .int (zI rp), .int (zI oc)]))]) [0, 1] rfl
  have hD9 := hD.sub (ws' := [(sl, .inr (5, [.ref sh, .int (zI lc), .ref ru, .ref tr, .ref se])), (ru, .inr (2, [.ref rh, .ref rt, .null, .int (zI rp), .int (zI oc)]))]) [0, 1] (by decide) rfl
  have po : zI (-1) = zI (-1) ∧ (True) := by
    refine ⟨by first | rfl | (congr 1; omega) | (congr 1; simp [*]), ?_⟩
    trivial
  exact W.iret (v := zI (-1)) hx hb hr (fun t ht hW => ⟨⟨zI (-1), (), rfl, po, by rw [ht]; exact hP9, va_K.moved hW.alike hK, hD9⟩, hS.F ht⟩) hS.2.2 dX5_frames_24
set_option maxHeartbeats 4000000 in
set_option maxRecDepth 100000 in
theorem c_X5_heroX (l : Launch) (dC : Nat → ClassId) (dI : Nat → Nat → Nat) (cI cZ cL cT cJ : ClassId) (sz : Nat) (sl : Nat) (sh : Nat) (lc : Int) (ru : Nat) (tr : Nat) (se : Nat) (rh : Nat) (rt : Nat) (rp : Int) (oc : Int) (lv : Nat) (hx9 : Int) (hy9 : Int) (hl9 : Int)  : Met l yX5_heroX wsX5_heroX ({ frames := 0, cells := 0, slots := 0, locals := 0 }) (zP (dC, dI) (zT cI cZ cL cT cJ) sz [.ref sl] [(sl, .inr (5, [.ref sh, .int (zI lc), .ref ru, .ref tr, .ref se])), (ru, .inr (2, [.ref rh, .ref rt, .ref lv, .int (zI rp), .int (zI oc)])), (rh, .inr (0, [.int (zI hx9), .int (zI hy9), .int (zI hl9)]))]) (va_Qi (fun (r9 : Int32) (u9 : Unit) => match u9 with | _ => r9 = zI hx9 ∧ (True)) (zB (dC, dI) (zT cI cZ cL cT cJ) (va_A [(sl, .inr (5, [.ref sh, .int (zI lc), .ref ru, .ref tr, .ref se])), (ru, .inr (2, [.ref rh, .ref rt, .ref lv, .int (zI rp), .int (zI oc)])), (rh, .inr (0, [.int (zI hx9), .int (zI hy9), .int (zI hl9)]))] sz) (fun (u9 : Unit) => match u9 with | _ => [(sl, .inr (5, [.ref sh, .int (zI lc), .ref ru, .ref tr, .ref se])), (ru, .inr (2, [.ref rh, .ref rt, .ref lv, .int (zI rp), .int (zI oc)])), (rh, .inr (0, [.int (zI hx9), .int (zI hy9), .int (zI hl9)]))])) (va_A [(sl, .inr (5, [.ref sh, .int (zI lc), .ref ru, .ref tr, .ref se])), (ru, .inr (2, [.ref rh, .ref rt, .ref lv, .int (zI rp), .int (zI oc)])), (rh, .inr (0, [.int (zI hx9), .int (zI hy9), .int (zI hl9)]))] sz)) 0 0 (va_A [(sl, .inr (5, [.ref sh, .int (zI lc), .ref ru, .ref tr, .ref se])), (ru, .inr (2, [.ref rh, .ref rt, .ref lv, .int (zI rp), .int (zI oc)])), (rh, .inr (0, [.int (zI hx9), .int (zI hy9), .int (zI hl9)]))] sz) := by
  refine Met.ofW (cc := cX5_heroX) (maxL := 1) (ret := (some .int)) (by decide) rfl ?_
  intro p e s m args below meth c s₁ B hml hv
  obtain ⟨rfl, hsz, hP, hK, hD0⟩ := hv
  have hx := B.exec
  have hb := B.bytes
  have hr := B.returns
  have hts := atoms_spec (ws := wsX5_heroX) B.pre
  have hown : s.vm.findClass RX5 = some m.cls := findClass_of_methodNamed B.named
  have hlocks := B.notSynchronized
  subst hsz
  have hD := hD0.self (sz := s.heap.size)
  generalize hAe : va_A [(sl, .inr (5, [.ref sh, .int (zI lc), .ref ru, .ref tr, .ref se])), (ru, .inr (2, [.ref rh, .ref rt, .ref lv, .int (zI rp), .int (zI oc)])), (rh, .inr (0, [.int (zI hx9), .int (zI hy9), .int (zI hl9)]))] s.heap.size = A at hD ⊢
  have hA : ∀ q : Nat, s.heap.size ≤ q → A q := fun q h => by rw [← hAe]; exact Or.inr h
  clear hAe hD0
  have hS : va_S A s.heap s.heap [] := va_S.rf
  have hP : va_P (dC, dI) vwCl [(sl, .inr (5, [.ref sh, .int (zI lc), .ref ru, .ref tr, .ref se])), (ru, .inr (2, [.ref rh, .ref rt, .ref lv, .int (zI rp), .int (zI oc)])), (rh, .inr (0, [.int (zI hx9), .int (zI hy9), .int (zI hl9)]))] s.heap := hP
  have f_22 := hts (.fieldLink RX5 22 "SpringLevels" "run" "LSpringLevels$Run;") (by decide +kernel)
  have f_140 := hts (.fieldLink RX5 140 "SpringLevels$Run" "hero" "LSpringLevels$Hero;") (by decide +kernel)
  have f_143 := hts (.fieldLink RX5 143 "SpringLevels$Hero" "x" "I") (by decide +kernel)
  have f_148 := hts (.fieldLink RX5 148 "SpringLevels$Run" "level" "LSpringLevels$Level;") (by decide +kernel)
  have i_0 : ∀ w ∈ wsX00, w ∈ wsX5_heroX := by decide +kernel
  have i_2 : ∀ w ∈ wsX20, w ∈ wsX5_heroX := by decide +kernel
  have i_5 : ∀ w ∈ wsX50, w ∈ wsX5_heroX := by decide +kernel
  have hl := lv_entry ([.ref sl]) (n := 1) (Nat.le_of_ble_eq_true rfl)
  rw [lg_entry_eq]
  generalize (lg_sl ([.ref sl]) ++ List.replicate (1 - (lg_sl ([.ref sl])).length) Slot.unset).toArray = ls at hl ⊢
  have hl : lv_has ls 1 [(0, .ref sl)] := hl
  refine lv_aload_n hx hb dX5_heroX_0 rfl (lv_at hl 0 rfl) ?_
  refine va_get (D := (dC, dI)) (ci := 5) (v := .ref ru) (C := RX5) (T := TX5) (N := 5) hx hb hts i_5 hown hK hP 0 rfl rfl 2 (by decide) f_22 (fun _ h9 => h9) rfl dX5_heroX_1 ?_
  refine va_get (D := (dC, dI)) (ci := 2) (v := .ref lv) (C := RX2) (T := TX2) (N := 5) hx hb hts i_2 hown hK hP 1 rfl rfl 2 (by decide) f_148 (fun _ h9 => h9) rfl dX5_heroX_4 ?_
  refine lv_ifnonnull (tgt := 14) hx hb dX5_heroX_7 (by decide) ?_
  refine lv_aload_n hx hb dX5_heroX_14 rfl (lv_at hl 0 rfl) ?_
  refine va_get (D := (dC, dI)) (ci := 5) (v := .ref ru) (C := RX5) (T := TX5) (N := 5) hx hb hts i_5 hown hK hP 0 rfl rfl 2 (by decide) f_22 (fun _ h9 => h9) rfl dX5_heroX_15 ?_
  refine va_get (D := (dC, dI)) (ci := 2) (v := .ref rh) (C := RX2) (T := TX2) (N := 5) hx hb hts i_2 hown hK hP 1 rfl rfl 0 (by decide) f_140 (fun _ h9 => h9) rfl dX5_heroX_18 ?_
  refine va_get (D := (dC, dI)) (ci := 0) (v := .int (zI hx9)) (C := RX0) (T := TX0) (N := 3) hx hb hts i_0 hown hK hP 2 rfl rfl 0 (by decide) f_143 (fun _ h9 => h9) rfl dX5_heroX_21 ?_
  have hP9 := hP.sub (ws' := [(sl, .inr (5, [.ref sh, .int (zI lc), .ref ru, .ref tr, .ref se])), (ru, .inr (2, [.ref rh, .ref rt, .ref lv, .int (zI rp), .int (zI oc)])), (rh, .inr (0, [.int (zI hx9), .int (zI hy9), .int (zI hl9)]))]) [0, 1, 2] rfl
  have hD9 := hD.sub (ws' := [(sl, .inr (5, [.ref sh, .int (zI lc), .ref ru, .ref tr, .ref se])), (ru, .inr (2, [.ref rh, .ref rt, .ref lv, .int (zI rp), .int (zI oc)])), (rh, .inr (0, [.int (zI hx9), .int (zI hy9), .int (zI hl9)]))]) [0, 1, 2] (by decide) rfl
  have po : zI hx9 = zI hx9 ∧ (True) := by
    refine ⟨by first | rfl | (congr 1; omega) | (congr 1; simp [*]), ?_⟩
    trivial
  exact W.iret (v := zI hx9) hx hb hr (fun t ht hW => ⟨⟨zI hx9, (), rfl, po, by rw [ht]; exact hP9, va_K.moved hW.alike hK, hD9⟩, hS.F ht⟩) hS.2.2 dX5_heroX_24
set_option maxHeartbeats 4000000 in
set_option maxRecDepth 100000 in
theorem c_X5_heroX_no (l : Launch) (dC : Nat → ClassId) (dI : Nat → Nat → Nat) (cI cZ cL cT cJ : ClassId) (sz : Nat) (sl : Nat) (sh : Nat) (lc : Int) (ru : Nat) (tr : Nat) (se : Nat) (rh : Nat) (rt : Nat) (rp : Int) (oc : Int)  : Met l yX5_heroX wsX5_heroX ({ frames := 0, cells := 0, slots := 0, locals := 0 }) (zP (dC, dI) (zT cI cZ cL cT cJ) sz [.ref sl] [(sl, .inr (5, [.ref sh, .int (zI lc), .ref ru, .ref tr, .ref se])), (ru, .inr (2, [.ref rh, .ref rt, .null, .int (zI rp), .int (zI oc)]))]) (va_Qi (fun (r9 : Int32) (u9 : Unit) => match u9 with | _ => r9 = zI (-1) ∧ (True)) (zB (dC, dI) (zT cI cZ cL cT cJ) (va_A [(sl, .inr (5, [.ref sh, .int (zI lc), .ref ru, .ref tr, .ref se])), (ru, .inr (2, [.ref rh, .ref rt, .null, .int (zI rp), .int (zI oc)]))] sz) (fun (u9 : Unit) => match u9 with | _ => [(sl, .inr (5, [.ref sh, .int (zI lc), .ref ru, .ref tr, .ref se])), (ru, .inr (2, [.ref rh, .ref rt, .null, .int (zI rp), .int (zI oc)]))])) (va_A [(sl, .inr (5, [.ref sh, .int (zI lc), .ref ru, .ref tr, .ref se])), (ru, .inr (2, [.ref rh, .ref rt, .null, .int (zI rp), .int (zI oc)]))] sz)) 0 0 (va_A [(sl, .inr (5, [.ref sh, .int (zI lc), .ref ru, .ref tr, .ref se])), (ru, .inr (2, [.ref rh, .ref rt, .null, .int (zI rp), .int (zI oc)]))] sz) := by
  refine Met.ofW (cc := cX5_heroX) (maxL := 1) (ret := (some .int)) (by decide) rfl ?_
  intro p e s m args below meth c s₁ B hml hv
  obtain ⟨rfl, hsz, hP, hK, hD0⟩ := hv
  have hx := B.exec
  have hb := B.bytes
  have hr := B.returns
  have hts := atoms_spec (ws := wsX5_heroX) B.pre
  have hown : s.vm.findClass RX5 = some m.cls := findClass_of_methodNamed B.named
  have hlocks := B.notSynchronized
  subst hsz
  have hD := hD0.self (sz := s.heap.size)
  generalize hAe : va_A [(sl, .inr (5, [.ref sh, .int (zI lc), .ref ru, .ref tr, .ref se])), (ru, .inr (2, [.ref rh, .ref rt, .null, .int (zI rp), .int (zI oc)]))] s.heap.size = A at hD ⊢
  have hA : ∀ q : Nat, s.heap.size ≤ q → A q := fun q h => by rw [← hAe]; exact Or.inr h
  clear hAe hD0
  have hS : va_S A s.heap s.heap [] := va_S.rf
  have hP : va_P (dC, dI) vwCl [(sl, .inr (5, [.ref sh, .int (zI lc), .ref ru, .ref tr, .ref se])), (ru, .inr (2, [.ref rh, .ref rt, .null, .int (zI rp), .int (zI oc)]))] s.heap := hP
  have f_22 := hts (.fieldLink RX5 22 "SpringLevels" "run" "LSpringLevels$Run;") (by decide +kernel)
  have f_140 := hts (.fieldLink RX5 140 "SpringLevels$Run" "hero" "LSpringLevels$Hero;") (by decide +kernel)
  have f_143 := hts (.fieldLink RX5 143 "SpringLevels$Hero" "x" "I") (by decide +kernel)
  have f_148 := hts (.fieldLink RX5 148 "SpringLevels$Run" "level" "LSpringLevels$Level;") (by decide +kernel)
  have i_0 : ∀ w ∈ wsX00, w ∈ wsX5_heroX := by decide +kernel
  have i_2 : ∀ w ∈ wsX20, w ∈ wsX5_heroX := by decide +kernel
  have i_5 : ∀ w ∈ wsX50, w ∈ wsX5_heroX := by decide +kernel
  have hl := lv_entry ([.ref sl]) (n := 1) (Nat.le_of_ble_eq_true rfl)
  rw [lg_entry_eq]
  generalize (lg_sl ([.ref sl]) ++ List.replicate (1 - (lg_sl ([.ref sl])).length) Slot.unset).toArray = ls at hl ⊢
  have hl : lv_has ls 1 [(0, .ref sl)] := hl
  refine lv_aload_n hx hb dX5_heroX_0 rfl (lv_at hl 0 rfl) ?_
  refine va_get (D := (dC, dI)) (ci := 5) (v := .ref ru) (C := RX5) (T := TX5) (N := 5) hx hb hts i_5 hown hK hP 0 rfl rfl 2 (by decide) f_22 (fun _ h9 => h9) rfl dX5_heroX_1 ?_
  refine va_get (D := (dC, dI)) (ci := 2) (v := .null) (C := RX2) (T := TX2) (N := 5) hx hb hts i_2 hown hK hP 1 rfl rfl 2 (by decide) f_148 (fun _ h9 => h9) rfl dX5_heroX_4 ?_
  refine lv_ifnonnullN hx hb dX5_heroX_7 ?_
  refine lv_iconst (v := zI (-1)) hx hb dX5_heroX_10 (rfl) ?_
  refine lv_goto (tgt := 24) hx hb dX5_heroX_11 (by decide) ?_
  have hP9 := hP.sub (ws' := [(sl, .inr (5, [.ref sh, .int (zI lc), .ref ru, .ref tr, .ref se])), (ru, .inr (2, [.ref rh, .ref rt, .null, .int (zI rp), .int (zI oc)]))]) [0, 1] rfl
  have hD9 := hD.sub (ws' := [(sl, .inr (5, [.ref sh, .int (zI lc), .ref ru, .ref tr, .ref se])), (ru, .inr (2, [.ref rh, .ref rt, .null, .int (zI rp), .int (zI oc)]))]) [0, 1] (by decide) rfl
  have po : zI (-1) = zI (-1) ∧ (True) := by
    refine ⟨by first | rfl | (congr 1; omega) | (congr 1; simp [*]), ?_⟩
    trivial
  exact W.iret (v := zI (-1)) hx hb hr (fun t ht hW => ⟨⟨zI (-1), (), rfl, po, by rw [ht]; exact hP9, va_K.moved hW.alike hK, hD9⟩, hS.F ht⟩) hS.2.2 dX5_heroX_24
set_option maxHeartbeats 4000000 in
set_option maxRecDepth 100000 in
theorem c_X5_heroY (l : Launch) (dC : Nat → ClassId) (dI : Nat → Nat → Nat) (cI cZ cL cT cJ : ClassId) (sz : Nat) (sl : Nat) (sh : Nat) (lc : Int) (ru : Nat) (tr : Nat) (se : Nat) (rh : Nat) (rt : Nat) (rp : Int) (oc : Int) (lv : Nat) (hx9 : Int) (hy9 : Int) (hl9 : Int)  : Met l yX5_heroY wsX5_heroY ({ frames := 0, cells := 0, slots := 0, locals := 0 }) (zP (dC, dI) (zT cI cZ cL cT cJ) sz [.ref sl] [(sl, .inr (5, [.ref sh, .int (zI lc), .ref ru, .ref tr, .ref se])), (ru, .inr (2, [.ref rh, .ref rt, .ref lv, .int (zI rp), .int (zI oc)])), (rh, .inr (0, [.int (zI hx9), .int (zI hy9), .int (zI hl9)]))]) (va_Qi (fun (r9 : Int32) (u9 : Unit) => match u9 with | _ => r9 = zI hy9 ∧ (True)) (zB (dC, dI) (zT cI cZ cL cT cJ) (va_A [(sl, .inr (5, [.ref sh, .int (zI lc), .ref ru, .ref tr, .ref se])), (ru, .inr (2, [.ref rh, .ref rt, .ref lv, .int (zI rp), .int (zI oc)])), (rh, .inr (0, [.int (zI hx9), .int (zI hy9), .int (zI hl9)]))] sz) (fun (u9 : Unit) => match u9 with | _ => [(sl, .inr (5, [.ref sh, .int (zI lc), .ref ru, .ref tr, .ref se])), (ru, .inr (2, [.ref rh, .ref rt, .ref lv, .int (zI rp), .int (zI oc)])), (rh, .inr (0, [.int (zI hx9), .int (zI hy9), .int (zI hl9)]))])) (va_A [(sl, .inr (5, [.ref sh, .int (zI lc), .ref ru, .ref tr, .ref se])), (ru, .inr (2, [.ref rh, .ref rt, .ref lv, .int (zI rp), .int (zI oc)])), (rh, .inr (0, [.int (zI hx9), .int (zI hy9), .int (zI hl9)]))] sz)) 0 0 (va_A [(sl, .inr (5, [.ref sh, .int (zI lc), .ref ru, .ref tr, .ref se])), (ru, .inr (2, [.ref rh, .ref rt, .ref lv, .int (zI rp), .int (zI oc)])), (rh, .inr (0, [.int (zI hx9), .int (zI hy9), .int (zI hl9)]))] sz) := by
  refine Met.ofW (cc := cX5_heroY) (maxL := 1) (ret := (some .int)) (by decide) rfl ?_
  intro p e s m args below meth c s₁ B hml hv
  obtain ⟨rfl, hsz, hP, hK, hD0⟩ := hv
  have hx := B.exec
  have hb := B.bytes
  have hr := B.returns
  have hts := atoms_spec (ws := wsX5_heroY) B.pre
  have hown : s.vm.findClass RX5 = some m.cls := findClass_of_methodNamed B.named
  have hlocks := B.notSynchronized
  subst hsz
  have hD := hD0.self (sz := s.heap.size)
  generalize hAe : va_A [(sl, .inr (5, [.ref sh, .int (zI lc), .ref ru, .ref tr, .ref se])), (ru, .inr (2, [.ref rh, .ref rt, .ref lv, .int (zI rp), .int (zI oc)])), (rh, .inr (0, [.int (zI hx9), .int (zI hy9), .int (zI hl9)]))] s.heap.size = A at hD ⊢
  have hA : ∀ q : Nat, s.heap.size ≤ q → A q := fun q h => by rw [← hAe]; exact Or.inr h
  clear hAe hD0
  have hS : va_S A s.heap s.heap [] := va_S.rf
  have hP : va_P (dC, dI) vwCl [(sl, .inr (5, [.ref sh, .int (zI lc), .ref ru, .ref tr, .ref se])), (ru, .inr (2, [.ref rh, .ref rt, .ref lv, .int (zI rp), .int (zI oc)])), (rh, .inr (0, [.int (zI hx9), .int (zI hy9), .int (zI hl9)]))] s.heap := hP
  have f_22 := hts (.fieldLink RX5 22 "SpringLevels" "run" "LSpringLevels$Run;") (by decide +kernel)
  have f_140 := hts (.fieldLink RX5 140 "SpringLevels$Run" "hero" "LSpringLevels$Hero;") (by decide +kernel)
  have f_148 := hts (.fieldLink RX5 148 "SpringLevels$Run" "level" "LSpringLevels$Level;") (by decide +kernel)
  have f_177 := hts (.fieldLink RX5 177 "SpringLevels$Hero" "y" "I") (by decide +kernel)
  have i_0 : ∀ w ∈ wsX00, w ∈ wsX5_heroY := by decide +kernel
  have i_2 : ∀ w ∈ wsX20, w ∈ wsX5_heroY := by decide +kernel
  have i_5 : ∀ w ∈ wsX50, w ∈ wsX5_heroY := by decide +kernel
  have hl := lv_entry ([.ref sl]) (n := 1) (Nat.le_of_ble_eq_true rfl)
  rw [lg_entry_eq]
  generalize (lg_sl ([.ref sl]) ++ List.replicate (1 - (lg_sl ([.ref sl])).length) Slot.unset).toArray = ls at hl ⊢
  have hl : lv_has ls 1 [(0, .ref sl)] := hl
  refine lv_aload_n hx hb dX5_heroY_0 rfl (lv_at hl 0 rfl) ?_
  refine va_get (D := (dC, dI)) (ci := 5) (v := .ref ru) (C := RX5) (T := TX5) (N := 5) hx hb hts i_5 hown hK hP 0 rfl rfl 2 (by decide) f_22 (fun _ h9 => h9) rfl dX5_heroY_1 ?_
  refine va_get (D := (dC, dI)) (ci := 2) (v := .ref lv) (C := RX2) (T := TX2) (N := 5) hx hb hts i_2 hown hK hP 1 rfl rfl 2 (by decide) f_148 (fun _ h9 => h9) rfl dX5_heroY_4 ?_
  refine lv_ifnonnull (tgt := 14) hx hb dX5_heroY_7 (by decide) ?_
  refine lv_aload_n hx hb dX5_heroY_14 rfl (lv_at hl 0 rfl) ?_
  refine va_get (D := (dC, dI)) (ci := 5) (v := .ref ru) (C := RX5) (T := TX5) (N := 5) hx hb hts i_5 hown hK hP 0 rfl rfl 2 (by decide) f_22 (fun _ h9 => h9) rfl dX5_heroY_15 ?_
  refine va_get (D := (dC, dI)) (ci := 2) (v := .ref rh) (C := RX2) (T := TX2) (N := 5) hx hb hts i_2 hown hK hP 1 rfl rfl 0 (by decide) f_140 (fun _ h9 => h9) rfl dX5_heroY_18 ?_
  refine va_get (D := (dC, dI)) (ci := 0) (v := .int (zI hy9)) (C := RX0) (T := TX0) (N := 3) hx hb hts i_0 hown hK hP 2 rfl rfl 1 (by decide) f_177 (fun _ h9 => h9) rfl dX5_heroY_21 ?_
  have hP9 := hP.sub (ws' := [(sl, .inr (5, [.ref sh, .int (zI lc), .ref ru, .ref tr, .ref se])), (ru, .inr (2, [.ref rh, .ref rt, .ref lv, .int (zI rp), .int (zI oc)])), (rh, .inr (0, [.int (zI hx9), .int (zI hy9), .int (zI hl9)]))]) [0, 1, 2] rfl
  have hD9 := hD.sub (ws' := [(sl, .inr (5, [.ref sh, .int (zI lc), .ref ru, .ref tr, .ref se])), (ru, .inr (2, [.ref rh, .ref rt, .ref lv, .int (zI rp), .int (zI oc)])), (rh, .inr (0, [.int (zI hx9), .int (zI hy9), .int (zI hl9)]))]) [0, 1, 2] (by decide) rfl
  have po : zI hy9 = zI hy9 ∧ (True) := by
    refine ⟨by first | rfl | (congr 1; omega) | (congr 1; simp [*]), ?_⟩
    trivial
  exact W.iret (v := zI hy9) hx hb hr (fun t ht hW => ⟨⟨zI hy9, (), rfl, po, by rw [ht]; exact hP9, va_K.moved hW.alike hK, hD9⟩, hS.F ht⟩) hS.2.2 dX5_heroY_24
set_option maxHeartbeats 4000000 in
set_option maxRecDepth 100000 in
theorem c_X5_heroY_no (l : Launch) (dC : Nat → ClassId) (dI : Nat → Nat → Nat) (cI cZ cL cT cJ : ClassId) (sz : Nat) (sl : Nat) (sh : Nat) (lc : Int) (ru : Nat) (tr : Nat) (se : Nat) (rh : Nat) (rt : Nat) (rp : Int) (oc : Int)  : Met l yX5_heroY wsX5_heroY ({ frames := 0, cells := 0, slots := 0, locals := 0 }) (zP (dC, dI) (zT cI cZ cL cT cJ) sz [.ref sl] [(sl, .inr (5, [.ref sh, .int (zI lc), .ref ru, .ref tr, .ref se])), (ru, .inr (2, [.ref rh, .ref rt, .null, .int (zI rp), .int (zI oc)]))]) (va_Qi (fun (r9 : Int32) (u9 : Unit) => match u9 with | _ => r9 = zI (-1) ∧ (True)) (zB (dC, dI) (zT cI cZ cL cT cJ) (va_A [(sl, .inr (5, [.ref sh, .int (zI lc), .ref ru, .ref tr, .ref se])), (ru, .inr (2, [.ref rh, .ref rt, .null, .int (zI rp), .int (zI oc)]))] sz) (fun (u9 : Unit) => match u9 with | _ => [(sl, .inr (5, [.ref sh, .int (zI lc), .ref ru, .ref tr, .ref se])), (ru, .inr (2, [.ref rh, .ref rt, .null, .int (zI rp), .int (zI oc)]))])) (va_A [(sl, .inr (5, [.ref sh, .int (zI lc), .ref ru, .ref tr, .ref se])), (ru, .inr (2, [.ref rh, .ref rt, .null, .int (zI rp), .int (zI oc)]))] sz)) 0 0 (va_A [(sl, .inr (5, [.ref sh, .int (zI lc), .ref ru, .ref tr, .ref se])), (ru, .inr (2, [.ref rh, .ref rt, .null, .int (zI rp), .int (zI oc)]))] sz) := by
  refine Met.ofW (cc := cX5_heroY) (maxL := 1) (ret := (some .int)) (by decide) rfl ?_
  intro p e s m args below meth c s₁ B hml hv
  obtain ⟨rfl, hsz, hP, hK, hD0⟩ := hv
  have hx := B.exec
  have hb := B.bytes
  have hr := B.returns
  have hts := atoms_spec (ws := wsX5_heroY) B.pre
  have hown : s.vm.findClass RX5 = some m.cls := findClass_of_methodNamed B.named
  have hlocks := B.notSynchronized
  subst hsz
  have hD := hD0.self (sz := s.heap.size)
  generalize hAe : va_A [(sl, .inr (5, [.ref sh, .int (zI lc), .ref ru, .ref tr, .ref se])), (ru, .inr (2, [.ref rh, .ref rt, .null, .int (zI rp), .int (zI oc)]))] s.heap.size = A at hD ⊢
  have hA : ∀ q : Nat, s.heap.size ≤ q → A q := fun q h => by rw [← hAe]; exact Or.inr h
  clear hAe hD0
  have hS : va_S A s.heap s.heap [] := va_S.rf
  have hP : va_P (dC, dI) vwCl [(sl, .inr (5, [.ref sh, .int (zI lc), .ref ru, .ref tr, .ref se])), (ru, .inr (2, [.ref rh, .ref rt, .null, .int (zI rp), .int (zI oc)]))] s.heap := hP
  have f_22 := hts (.fieldLink RX5 22 "SpringLevels" "run" "LSpringLevels$Run;") (by decide +kernel)
  have f_140 := hts (.fieldLink RX5 140 "SpringLevels$Run" "hero" "LSpringLevels$Hero;") (by decide +kernel)
  have f_148 := hts (.fieldLink RX5 148 "SpringLevels$Run" "level" "LSpringLevels$Level;") (by decide +kernel)
  have f_177 := hts (.fieldLink RX5 177 "SpringLevels$Hero" "y" "I") (by decide +kernel)
  have i_0 : ∀ w ∈ wsX00, w ∈ wsX5_heroY := by decide +kernel
  have i_2 : ∀ w ∈ wsX20, w ∈ wsX5_heroY := by decide +kernel
  have i_5 : ∀ w ∈ wsX50, w ∈ wsX5_heroY := by decide +kernel
  have hl := lv_entry ([.ref sl]) (n := 1) (Nat.le_of_ble_eq_true rfl)
  rw [lg_entry_eq]
  generalize (lg_sl ([.ref sl]) ++ List.replicate (1 - (lg_sl ([.ref sl])).length) Slot.unset).toArray = ls at hl ⊢
  have hl : lv_has ls 1 [(0, .ref sl)] := hl
  refine lv_aload_n hx hb dX5_heroY_0 rfl (lv_at hl 0 rfl) ?_
  refine va_get (D := (dC, dI)) (ci := 5) (v := .ref ru) (C := RX5) (T := TX5) (N := 5) hx hb hts i_5 hown hK hP 0 rfl rfl 2 (by decide) f_22 (fun _ h9 => h9) rfl dX5_heroY_1 ?_
  refine va_get (D := (dC, dI)) (ci := 2) (v := .null) (C := RX2) (T := TX2) (N := 5) hx hb hts i_2 hown hK hP 1 rfl rfl 2 (by decide) f_148 (fun _ h9 => h9) rfl dX5_heroY_4 ?_
  refine lv_ifnonnullN hx hb dX5_heroY_7 ?_
  refine lv_iconst (v := zI (-1)) hx hb dX5_heroY_10 (rfl) ?_
  refine lv_goto (tgt := 24) hx hb dX5_heroY_11 (by decide) ?_
  have hP9 := hP.sub (ws' := [(sl, .inr (5, [.ref sh, .int (zI lc), .ref ru, .ref tr, .ref se])), (ru, .inr (2, [.ref rh, .ref rt, .null, .int (zI rp), .int (zI oc)]))]) [0, 1] rfl
  have hD9 := hD.sub (ws' := [(sl, .inr (5, [.ref sh, .int (zI lc), .ref ru, .ref tr, .ref se])), (ru, .inr (2, [.ref rh, .ref rt, .null, .int (zI rp), .int (zI oc)]))]) [0, 1] (by decide) rfl
  have po : zI (-1) = zI (-1) ∧ (True) := by
    refine ⟨by first | rfl | (congr 1; omega) | (congr 1; simp [*]), ?_⟩
    trivial
  exact W.iret (v := zI (-1)) hx hb hr (fun t ht hW => ⟨⟨zI (-1), (), rfl, po, by rw [ht]; exact hP9, va_K.moved hW.alike hK, hD9⟩, hS.F ht⟩) hS.2.2 dX5_heroY_24
set_option maxHeartbeats 4000000 in
set_option maxRecDepth 100000 in
theorem c_X5_lift (l : Launch) (dC : Nat → ClassId) (dI : Nat → Nat → Nat) (cI cZ cL cT cJ : ClassId) (sz : Nat) (sl : Nat) (sh : Nat) (lc : Int) (ru : Nat) (tr : Nat) (se : Nat) (rh : Nat) (rt : Nat) (rp : Int) (oc : Int) (lv : Nat) (hx9 : Int) (hy9 : Int) (hl9 : Int)  : Met l yX5_lift wsX5_lift ({ frames := 0, cells := 0, slots := 0, locals := 0 }) (zP (dC, dI) (zT cI cZ cL cT cJ) sz [.ref sl] [(sl, .inr (5, [.ref sh, .int (zI lc), .ref ru, .ref tr, .ref se])), (ru, .inr (2, [.ref rh, .ref rt, .ref lv, .int (zI rp), .int (zI oc)])), (rh, .inr (0, [.int (zI hx9), .int (zI hy9), .int (zI hl9)]))]) (va_Qi (fun (r9 : Int32) (u9 : Unit) => match u9 with | _ => r9 = zI hl9 ∧ (True)) (zB (dC, dI) (zT cI cZ cL cT cJ) (va_A [(sl, .inr (5, [.ref sh, .int (zI lc), .ref ru, .ref tr, .ref se])), (ru, .inr (2, [.ref rh, .ref rt, .ref lv, .int (zI rp), .int (zI oc)])), (rh, .inr (0, [.int (zI hx9), .int (zI hy9), .int (zI hl9)]))] sz) (fun (u9 : Unit) => match u9 with | _ => [(sl, .inr (5, [.ref sh, .int (zI lc), .ref ru, .ref tr, .ref se])), (ru, .inr (2, [.ref rh, .ref rt, .ref lv, .int (zI rp), .int (zI oc)])), (rh, .inr (0, [.int (zI hx9), .int (zI hy9), .int (zI hl9)]))])) (va_A [(sl, .inr (5, [.ref sh, .int (zI lc), .ref ru, .ref tr, .ref se])), (ru, .inr (2, [.ref rh, .ref rt, .ref lv, .int (zI rp), .int (zI oc)])), (rh, .inr (0, [.int (zI hx9), .int (zI hy9), .int (zI hl9)]))] sz)) 0 0 (va_A [(sl, .inr (5, [.ref sh, .int (zI lc), .ref ru, .ref tr, .ref se])), (ru, .inr (2, [.ref rh, .ref rt, .ref lv, .int (zI rp), .int (zI oc)])), (rh, .inr (0, [.int (zI hx9), .int (zI hy9), .int (zI hl9)]))] sz) := by
  refine Met.ofW (cc := cX5_lift) (maxL := 1) (ret := (some .int)) (by decide) rfl ?_
  intro p e s m args below meth c s₁ B hml hv
  obtain ⟨rfl, hsz, hP, hK, hD0⟩ := hv
  have hx := B.exec
  have hb := B.bytes
  have hr := B.returns
  have hts := atoms_spec (ws := wsX5_lift) B.pre
  have hown : s.vm.findClass RX5 = some m.cls := findClass_of_methodNamed B.named
  have hlocks := B.notSynchronized
  subst hsz
  have hD := hD0.self (sz := s.heap.size)
  generalize hAe : va_A [(sl, .inr (5, [.ref sh, .int (zI lc), .ref ru, .ref tr, .ref se])), (ru, .inr (2, [.ref rh, .ref rt, .ref lv, .int (zI rp), .int (zI oc)])), (rh, .inr (0, [.int (zI hx9), .int (zI hy9), .int (zI hl9)]))] s.heap.size = A at hD ⊢
  have hA : ∀ q : Nat, s.heap.size ≤ q → A q := fun q h => by rw [← hAe]; exact Or.inr h
  clear hAe hD0
  have hS : va_S A s.heap s.heap [] := va_S.rf
  have hP : va_P (dC, dI) vwCl [(sl, .inr (5, [.ref sh, .int (zI lc), .ref ru, .ref tr, .ref se])), (ru, .inr (2, [.ref rh, .ref rt, .ref lv, .int (zI rp), .int (zI oc)])), (rh, .inr (0, [.int (zI hx9), .int (zI hy9), .int (zI hl9)]))] s.heap := hP
  have f_22 := hts (.fieldLink RX5 22 "SpringLevels" "run" "LSpringLevels$Run;") (by decide +kernel)
  have f_140 := hts (.fieldLink RX5 140 "SpringLevels$Run" "hero" "LSpringLevels$Hero;") (by decide +kernel)
  have f_148 := hts (.fieldLink RX5 148 "SpringLevels$Run" "level" "LSpringLevels$Level;") (by decide +kernel)
  have f_180 := hts (.fieldLink RX5 180 "SpringLevels$Hero" "lift" "I") (by decide +kernel)
  have i_0 : ∀ w ∈ wsX00, w ∈ wsX5_lift := by decide +kernel
  have i_2 : ∀ w ∈ wsX20, w ∈ wsX5_lift := by decide +kernel
  have i_5 : ∀ w ∈ wsX50, w ∈ wsX5_lift := by decide +kernel
  have hl := lv_entry ([.ref sl]) (n := 1) (Nat.le_of_ble_eq_true rfl)
  rw [lg_entry_eq]
  generalize (lg_sl ([.ref sl]) ++ List.replicate (1 - (lg_sl ([.ref sl])).length) Slot.unset).toArray = ls at hl ⊢
  have hl : lv_has ls 1 [(0, .ref sl)] := hl
  refine lv_aload_n hx hb dX5_lift_0 rfl (lv_at hl 0 rfl) ?_
  refine va_get (D := (dC, dI)) (ci := 5) (v := .ref ru) (C := RX5) (T := TX5) (N := 5) hx hb hts i_5 hown hK hP 0 rfl rfl 2 (by decide) f_22 (fun _ h9 => h9) rfl dX5_lift_1 ?_
  refine va_get (D := (dC, dI)) (ci := 2) (v := .ref lv) (C := RX2) (T := TX2) (N := 5) hx hb hts i_2 hown hK hP 1 rfl rfl 2 (by decide) f_148 (fun _ h9 => h9) rfl dX5_lift_4 ?_
  refine lv_ifnonnull (tgt := 14) hx hb dX5_lift_7 (by decide) ?_
  refine lv_aload_n hx hb dX5_lift_14 rfl (lv_at hl 0 rfl) ?_
  refine va_get (D := (dC, dI)) (ci := 5) (v := .ref ru) (C := RX5) (T := TX5) (N := 5) hx hb hts i_5 hown hK hP 0 rfl rfl 2 (by decide) f_22 (fun _ h9 => h9) rfl dX5_lift_15 ?_
  refine va_get (D := (dC, dI)) (ci := 2) (v := .ref rh) (C := RX2) (T := TX2) (N := 5) hx hb hts i_2 hown hK hP 1 rfl rfl 0 (by decide) f_140 (fun _ h9 => h9) rfl dX5_lift_18 ?_
  refine va_get (D := (dC, dI)) (ci := 0) (v := .int (zI hl9)) (C := RX0) (T := TX0) (N := 3) hx hb hts i_0 hown hK hP 2 rfl rfl 2 (by decide) f_180 (fun _ h9 => h9) rfl dX5_lift_21 ?_
  have hP9 := hP.sub (ws' := [(sl, .inr (5, [.ref sh, .int (zI lc), .ref ru, .ref tr, .ref se])), (ru, .inr (2, [.ref rh, .ref rt, .ref lv, .int (zI rp), .int (zI oc)])), (rh, .inr (0, [.int (zI hx9), .int (zI hy9), .int (zI hl9)]))]) [0, 1, 2] rfl
  have hD9 := hD.sub (ws' := [(sl, .inr (5, [.ref sh, .int (zI lc), .ref ru, .ref tr, .ref se])), (ru, .inr (2, [.ref rh, .ref rt, .ref lv, .int (zI rp), .int (zI oc)])), (rh, .inr (0, [.int (zI hx9), .int (zI hy9), .int (zI hl9)]))]) [0, 1, 2] (by decide) rfl
  have po : zI hl9 = zI hl9 ∧ (True) := by
    refine ⟨by first | rfl | (congr 1; omega) | (congr 1; simp [*]), ?_⟩
    trivial
  exact W.iret (v := zI hl9) hx hb hr (fun t ht hW => ⟨⟨zI hl9, (), rfl, po, by rw [ht]; exact hP9, va_K.moved hW.alike hK, hD9⟩, hS.F ht⟩) hS.2.2 dX5_lift_24
set_option maxHeartbeats 4000000 in
set_option maxRecDepth 100000 in
theorem c_X5_lift_no (l : Launch) (dC : Nat → ClassId) (dI : Nat → Nat → Nat) (cI cZ cL cT cJ : ClassId) (sz : Nat) (sl : Nat) (sh : Nat) (lc : Int) (ru : Nat) (tr : Nat) (se : Nat) (rh : Nat) (rt : Nat) (rp : Int) (oc : Int)  : Met l yX5_lift wsX5_lift ({ frames := 0, cells := 0, slots := 0, locals := 0 }) (zP (dC, dI) (zT cI cZ cL cT cJ) sz [.ref sl] [(sl, .inr (5, [.ref sh, .int (zI lc), .ref ru, .ref tr, .ref se])), (ru, .inr (2, [.ref rh, .ref rt, .null, .int (zI rp), .int (zI oc)]))]) (va_Qi (fun (r9 : Int32) (u9 : Unit) => match u9 with | _ => r9 = zI (-1) ∧ (True)) (zB (dC, dI) (zT cI cZ cL cT cJ) (va_A [(sl, .inr (5, [.ref sh, .int (zI lc), .ref ru, .ref tr, .ref se])), (ru, .inr (2, [.ref rh, .ref rt, .null, .int (zI rp), .int (zI oc)]))] sz) (fun (u9 : Unit) => match u9 with | _ => [(sl, .inr (5, [.ref sh, .int (zI lc), .ref ru, .ref tr, .ref se])), (ru, .inr (2, [.ref rh, .ref rt, .null, .int (zI rp), .int (zI oc)]))])) (va_A [(sl, .inr (5, [.ref sh, .int (zI lc), .ref ru, .ref tr, .ref se])), (ru, .inr (2, [.ref rh, .ref rt, .null, .int (zI rp), .int (zI oc)]))] sz)) 0 0 (va_A [(sl, .inr (5, [.ref sh, .int (zI lc), .ref ru, .ref tr, .ref se])), (ru, .inr (2, [.ref rh, .ref rt, .null, .int (zI rp), .int (zI oc)]))] sz) := by
  refine Met.ofW (cc := cX5_lift) (maxL := 1) (ret := (some .int)) (by decide) rfl ?_
  intro p e s m args below meth c s₁ B hml hv
  obtain ⟨rfl, hsz, hP, hK, hD0⟩ := hv
  have hx := B.exec
  have hb := B.bytes
  have hr := B.returns
  have hts := atoms_spec (ws := wsX5_lift) B.pre
  have hown : s.vm.findClass RX5 = some m.cls := findClass_of_methodNamed B.named
  have hlocks := B.notSynchronized
  subst hsz
  have hD := hD0.self (sz := s.heap.size)
  generalize hAe : va_A [(sl, .inr (5, [.ref sh, .int (zI lc), .ref ru, .ref tr, .ref se])), (ru, .inr (2, [.ref rh, .ref rt, .null, .int (zI rp), .int (zI oc)]))] s.heap.size = A at hD ⊢
  have hA : ∀ q : Nat, s.heap.size ≤ q → A q := fun q h => by rw [← hAe]; exact Or.inr h
  clear hAe hD0
  have hS : va_S A s.heap s.heap [] := va_S.rf
  have hP : va_P (dC, dI) vwCl [(sl, .inr (5, [.ref sh, .int (zI lc), .ref ru, .ref tr, .ref se])), (ru, .inr (2, [.ref rh, .ref rt, .null, .int (zI rp), .int (zI oc)]))] s.heap := hP
  have f_22 := hts (.fieldLink RX5 22 "SpringLevels" "run" "LSpringLevels$Run;") (by decide +kernel)
  have f_140 := hts (.fieldLink RX5 140 "SpringLevels$Run" "hero" "LSpringLevels$Hero;") (by decide +kernel)
  have f_148 := hts (.fieldLink RX5 148 "SpringLevels$Run" "level" "LSpringLevels$Level;") (by decide +kernel)
  have f_180 := hts (.fieldLink RX5 180 "SpringLevels$Hero" "lift" "I") (by decide +kernel)
  have i_0 : ∀ w ∈ wsX00, w ∈ wsX5_lift := by decide +kernel
  have i_2 : ∀ w ∈ wsX20, w ∈ wsX5_lift := by decide +kernel
  have i_5 : ∀ w ∈ wsX50, w ∈ wsX5_lift := by decide +kernel
  have hl := lv_entry ([.ref sl]) (n := 1) (Nat.le_of_ble_eq_true rfl)
  rw [lg_entry_eq]
  generalize (lg_sl ([.ref sl]) ++ List.replicate (1 - (lg_sl ([.ref sl])).length) Slot.unset).toArray = ls at hl ⊢
  have hl : lv_has ls 1 [(0, .ref sl)] := hl
  refine lv_aload_n hx hb dX5_lift_0 rfl (lv_at hl 0 rfl) ?_
  refine va_get (D := (dC, dI)) (ci := 5) (v := .ref ru) (C := RX5) (T := TX5) (N := 5) hx hb hts i_5 hown hK hP 0 rfl rfl 2 (by decide) f_22 (fun _ h9 => h9) rfl dX5_lift_1 ?_
  refine va_get (D := (dC, dI)) (ci := 2) (v := .null) (C := RX2) (T := TX2) (N := 5) hx hb hts i_2 hown hK hP 1 rfl rfl 2 (by decide) f_148 (fun _ h9 => h9) rfl dX5_lift_4 ?_
  refine lv_ifnonnullN hx hb dX5_lift_7 ?_
  refine lv_iconst (v := zI (-1)) hx hb dX5_lift_10 (rfl) ?_
  refine lv_goto (tgt := 24) hx hb dX5_lift_11 (by decide) ?_
  have hP9 := hP.sub (ws' := [(sl, .inr (5, [.ref sh, .int (zI lc), .ref ru, .ref tr, .ref se])), (ru, .inr (2, [.ref rh, .ref rt, .null, .int (zI rp), .int (zI oc)]))]) [0, 1] rfl
  have hD9 := hD.sub (ws' := [(sl, .inr (5, [.ref sh, .int (zI lc), .ref ru, .ref tr, .ref se])), (ru, .inr (2, [.ref rh, .ref rt, .null, .int (zI rp), .int (zI oc)]))]) [0, 1] (by decide) rfl
  have po : zI (-1) = zI (-1) ∧ (True) := by
    refine ⟨by first | rfl | (congr 1; omega) | (congr 1; simp [*]), ?_⟩
    trivial
  exact W.iret (v := zI (-1)) hx hb hr (fun t ht hW => ⟨⟨zI (-1), (), rfl, po, by rw [ht]; exact hP9, va_K.moved hW.alike hK, hD9⟩, hS.F ht⟩) hS.2.2 dX5_lift_24
set_option maxHeartbeats 4000000 in
set_option maxRecDepth 100000 in
theorem c_X5_findWinOfRun (l : Launch) (dC : Nat → ClassId) (dI : Nat → Nat → Nat) (cI cZ cL cT cJ : ClassId) (sz : Nat) (sl : Nat) (sh : Nat) (lc : Int) (ru : Nat) (tr : Nat) (se : Nat) (rh : Nat) (rt : Nat) (rp : Int) (oc : Int) (hx9 : Int) (hy9 : Int) (hl9 : Int) (ri : Nat) (rln : Int) (rhf : Int) (lv : Nat) (w : Int) (h : Int) (ka : Nat) (ta : Nat) (sx : Int) (sy : Int) (fx : Int) (fy : Int) (lf : Int) (un : Int) (K : Int → Int) (de : Nat) (fi : Nat) (qu : Nat) (pr : Nat) (qd : Int) (s1 : Int) (s2 : Int) (DD : Int → Int) (FF : Int → Int) (QQ : Int → Int) (qx : Int) (qy : Int) (ql : Int) (gw : 0 < w ∧ w ≤ 12) (gh : 0 < h ∧ h ≤ 8) (gK : Kin K) (gf : -2147483648 ≤ fx ∧ fx < 2147483648) (gf2 : -2147483648 ≤ fy ∧ fy < 2147483648) (goc : oc = 0) (grx : 0 ≤ hx9 ∧ hx9 < w) (gry : 0 ≤ hy9 ∧ hy9 < h) (grl : 0 ≤ hl9 ∧ hl9 ≤ 4) (gn : 0 ≤ rln ∧ rln ≤ 100) (gD : Din DD) (gFF : Fin6 FF) : Met l yX5_findWinOfRun wsX5_findWinOfRun ({ frames := 5, cells := 0, slots := 0, locals := 122 }) (zP (dC, dI) (zT cI cZ cL cT cJ) sz [.ref sl] [(sl, .inr (5, [.ref sh, .int (zI lc), .ref ru, .ref tr, .ref se])), (ru, .inr (2, [.ref rh, .ref rt, .ref lv, .int (zI rp), .int (zI oc)])), (rh, .inr (0, [.int (zI hx9), .int (zI hy9), .int (zI hl9)])), (rt, .inr (4, [.ref ri, .int (zI rln), .int (zI rhf)])), (lv, .inr (1, [.int (zI w), .int (zI h), .ref ka, .ref ta, .int (zI sx), .int (zI sy), .int (zI fx), .int (zI fy), .int (zI lf), .int (zI un)])), zA cI ka 96 K, (se, .inr (3, [.ref de, .ref fi, .ref qu, .ref pr, .int (zI qd), .int (zI s1), .int (zI s2)])), (pr, .inr (0, [.int (zI qx), .int (zI qy), .int (zI ql)])), zA cI de 480 DD, zA cI fi 480 FF, zA cI qu 480 QQ]) (va_Qv (fun (u9 : Int × Int × Int × (Int → Int) × (Int → Int) × (Int → Int) × Int × Int × Int) => match u9 with | (n1, s11, s21, D1, F1, Q1, qx1, qy1, ql1) => (Din D1 ∧ Fin6 F1 ∧ ∃ D0 F0 Q0, Din D0 ∧ Fin6 F0 ∧ (∀ j, 0 ≤ j → j < 480 → D0 j = -1) ∧ (s11, s21) = fwT K w h fx fy (100 - rln) (plc hx9 hy9 hl9) D0 F0 Q0)) (zB (dC, dI) (zT cI cZ cL cT cJ) (va_A [(sl, .inr (5, [.ref sh, .int (zI lc), .ref ru, .ref tr, .ref se])), (ru, .inr (2, [.ref rh, .ref rt, .ref lv, .int (zI rp), .int (zI oc)])), (rh, .inr (0, [.int (zI hx9), .int (zI hy9), .int (zI hl9)])), (rt, .inr (4, [.ref ri, .int (zI rln), .int (zI rhf)])), (lv, .inr (1, [.int (zI w), .int (zI h), .ref ka, .ref ta, .int (zI sx), .int (zI sy), .int (zI fx), .int (zI fy), .int (zI lf), .int (zI un)])), zA cI ka 96 K, (se, .inr (3, [.ref de, .ref fi, .ref qu, .ref pr, .int (zI qd), .int (zI s1), .int (zI s2)])), (pr, .inr (0, [.int (zI qx), .int (zI qy), .int (zI ql)])), zA cI de 480 DD, zA cI fi 480 FF, zA cI qu 480 QQ] sz) (fun (u9 : Int × Int × Int × (Int → Int) × (Int → Int) × (Int → Int) × Int × Int × Int) => match u9 with | (n1, s11, s21, D1, F1, Q1, qx1, qy1, ql1) => [(sl, .inr (5, [.ref sh, .int (zI lc), .ref ru, .ref tr, .ref se])), (ru, .inr (2, [.ref rh, .ref rt, .ref lv, .int (zI rp), .int (zI oc)])), (rh, .inr (0, [.int (zI hx9), .int (zI hy9), .int (zI hl9)])), (rt, .inr (4, [.ref ri, .int (zI rln), .int (zI rhf)])), (lv, .inr (1, [.int (zI w), .int (zI h), .ref ka, .ref ta, .int (zI sx), .int (zI sy), .int (zI fx), .int (zI fy), .int (zI lf), .int (zI un)])), zA cI ka 96 K, (se, .inr (3, [.ref de, .ref fi, .ref qu, .ref pr, .int (zI n1), .int (zI s11), .int (zI s21)])), (pr, .inr (0, [.int (zI qx1), .int (zI qy1), .int (zI ql1)])), zA cI de 480 D1, zA cI fi 480 F1, zA cI qu 480 Q1])) (va_A [(sl, .inr (5, [.ref sh, .int (zI lc), .ref ru, .ref tr, .ref se])), (ru, .inr (2, [.ref rh, .ref rt, .ref lv, .int (zI rp), .int (zI oc)])), (rh, .inr (0, [.int (zI hx9), .int (zI hy9), .int (zI hl9)])), (rt, .inr (4, [.ref ri, .int (zI rln), .int (zI rhf)])), (lv, .inr (1, [.int (zI w), .int (zI h), .ref ka, .ref ta, .int (zI sx), .int (zI sy), .int (zI fx), .int (zI fy), .int (zI lf), .int (zI un)])), zA cI ka 96 K, (se, .inr (3, [.ref de, .ref fi, .ref qu, .ref pr, .int (zI qd), .int (zI s1), .int (zI s2)])), (pr, .inr (0, [.int (zI qx), .int (zI qy), .int (zI ql)])), zA cI de 480 DD, zA cI fi 480 FF, zA cI qu 480 QQ] sz)) 0 0 (va_A [(sl, .inr (5, [.ref sh, .int (zI lc), .ref ru, .ref tr, .ref se])), (ru, .inr (2, [.ref rh, .ref rt, .ref lv, .int (zI rp), .int (zI oc)])), (rh, .inr (0, [.int (zI hx9), .int (zI hy9), .int (zI hl9)])), (rt, .inr (4, [.ref ri, .int (zI rln), .int (zI rhf)])), (lv, .inr (1, [.int (zI w), .int (zI h), .ref ka, .ref ta, .int (zI sx), .int (zI sy), .int (zI fx), .int (zI fy), .int (zI lf), .int (zI un)])), zA cI ka 96 K, (se, .inr (3, [.ref de, .ref fi, .ref qu, .ref pr, .int (zI qd), .int (zI s1), .int (zI s2)])), (pr, .inr (0, [.int (zI qx), .int (zI qy), .int (zI ql)])), zA cI de 480 DD, zA cI fi 480 FF, zA cI qu 480 QQ] sz) := by
  refine Met.ofW (cc := cX5_findWinOfRun) (maxL := 2) (ret := none) (by decide) rfl ?_
  intro p e s m args below meth c s₁ B hml hv
  obtain ⟨rfl, hsz, hP, hK, hD0⟩ := hv
  have hx := B.exec
  have hb := B.bytes
  have hr := B.returns
  have hts := atoms_spec (ws := wsX5_findWinOfRun) B.pre
  have hown : s.vm.findClass RX5 = some m.cls := findClass_of_methodNamed B.named
  have hlocks := B.notSynchronized
  subst hsz
  have hD := hD0.self (sz := s.heap.size)
  generalize hAe : va_A [(sl, .inr (5, [.ref sh, .int (zI lc), .ref ru, .ref tr, .ref se])), (ru, .inr (2, [.ref rh, .ref rt, .ref lv, .int (zI rp), .int (zI oc)])), (rh, .inr (0, [.int (zI hx9), .int (zI hy9), .int (zI hl9)])), (rt, .inr (4, [.ref ri, .int (zI rln), .int (zI rhf)])), (lv, .inr (1, [.int (zI w), .int (zI h), .ref ka, .ref ta, .int (zI sx), .int (zI sy), .int (zI fx), .int (zI fy), .int (zI lf), .int (zI un)])), zA cI ka 96 K, (se, .inr (3, [.ref de, .ref fi, .ref qu, .ref pr, .int (zI qd), .int (zI s1), .int (zI s2)])), (pr, .inr (0, [.int (zI qx), .int (zI qy), .int (zI ql)])), zA cI de 480 DD, zA cI fi 480 FF, zA cI qu 480 QQ] s.heap.size = A at hD ⊢
  have hA : ∀ q : Nat, s.heap.size ≤ q → A q := fun q h => by rw [← hAe]; exact Or.inr h
  clear hAe hD0
  have hS : va_S A s.heap s.heap [] := va_S.rf
  have hP : va_P (dC, dI) vwCl [(sl, .inr (5, [.ref sh, .int (zI lc), .ref ru, .ref tr, .ref se])), (ru, .inr (2, [.ref rh, .ref rt, .ref lv, .int (zI rp), .int (zI oc)])), (rh, .inr (0, [.int (zI hx9), .int (zI hy9), .int (zI hl9)])), (rt, .inr (4, [.ref ri, .int (zI rln), .int (zI rhf)])), (lv, .inr (1, [.int (zI w), .int (zI h), .ref ka, .ref ta, .int (zI sx), .int (zI sy), .int (zI fx), .int (zI fy), .int (zI lf), .int (zI un)])), zA cI ka 96 K, (se, .inr (3, [.ref de, .ref fi, .ref qu, .ref pr, .int (zI qd), .int (zI s1), .int (zI s2)])), (pr, .inr (0, [.int (zI qx), .int (zI qy), .int (zI ql)])), zA cI de 480 DD, zA cI fi 480 FF, zA cI qu 480 QQ] s.heap := hP
  have f_22 := hts (.fieldLink RX5 22 "SpringLevels" "run" "LSpringLevels$Run;") (by decide +kernel)
  have f_36 := hts (.fieldLink RX5 36 "SpringLevels" "search" "LSpringLevels$Search;") (by decide +kernel)
  have f_140 := hts (.fieldLink RX5 140 "SpringLevels$Run" "hero" "LSpringLevels$Hero;") (by decide +kernel)
  have f_148 := hts (.fieldLink RX5 148 "SpringLevels$Run" "level" "LSpringLevels$Level;") (by decide +kernel)
  have f_152 := hts (.fieldLink RX5 152 "SpringLevels$Run" "outcome" "I") (by decide +kernel)
  have f_164 := hts (.fieldLink RX5 164 "SpringLevels$Run" "tape" "LSpringLevels$Tape;") (by decide +kernel)
  have f_172 := hts (.fieldLink RX5 172 "SpringLevels$Tape" "length" "I") (by decide +kernel)
  have i_2 : ∀ w ∈ wsX20, w ∈ wsX5_findWinOfRun := by decide +kernel
  have i_4 : ∀ w ∈ wsX40, w ∈ wsX5_findWinOfRun := by decide +kernel
  have i_5 : ∀ w ∈ wsX50, w ∈ wsX5_findWinOfRun := by decide +kernel
  have hl := lv_entry ([.ref sl]) (n := 2) (Nat.le_of_ble_eq_true rfl)
  rw [lg_entry_eq]
  generalize (lg_sl ([.ref sl]) ++ List.replicate (2 - (lg_sl ([.ref sl])).length) Slot.unset).toArray = ls at hl ⊢
  have hl : lv_has ls 2 [(0, .ref sl)] := hl
  refine lv_aload_n hx hb dX5_findWinOfRun_0 rfl (lv_at hl 0 rfl) ?_
  refine va_get (D := (dC, dI)) (ci := 5) (v := .ref ru) (C := RX5) (T := TX5) (N := 5) hx hb hts i_5 hown hK hP 0 rfl rfl 2 (by decide) f_22 (fun _ h9 => h9) rfl dX5_findWinOfRun_1 ?_
  refine va_get (D := (dC, dI)) (ci := 2) (v := .ref lv) (C := RX2) (T := TX2) (N := 5) hx hb hts i_2 hown hK hP 1 rfl rfl 2 (by decide) f_148 (fun _ h9 => h9) rfl dX5_findWinOfRun_4 ?_
  refine lv_astore_n (lv' := [(1, .ref lv), (0, .ref sl)]) hx hb dX5_findWinOfRun_7 rfl hl (by decide) rfl (fun ls hl => ?_)
  refine lv_aload_n hx hb dX5_findWinOfRun_8 rfl (lv_at hl 0 rfl) ?_
  refine lv_ifnull hx hb dX5_findWinOfRun_9 ?_
  refine lv_aload_n hx hb dX5_findWinOfRun_12 rfl (lv_at hl 1 rfl) ?_
  refine va_get (D := (dC, dI)) (ci := 5) (v := .ref ru) (C := RX5) (T := TX5) (N := 5) hx hb hts i_5 hown hK hP 0 rfl rfl 2 (by decide) f_22 (fun _ h9 => h9) rfl dX5_findWinOfRun_13 ?_
  refine va_get (D := (dC, dI)) (ci := 2) (v := .int (zI oc)) (C := RX2) (T := TX2) (N := 5) hx hb hts i_2 hown hK hP 1 rfl rfl 4 (by decide) f_152 (fun _ h9 => h9) rfl dX5_findWinOfRun_16 ?_
  refine lz_if_eq (tgt := 32) hx hb dX5_findWinOfRun_19 (by decide) (by omega) (fun c_1 => ?_) (fun c_1 => ?_)
  ·
    refine lv_aload_n hx hb dX5_findWinOfRun_32 rfl (lv_at hl 1 rfl) ?_
    refine va_get (D := (dC, dI)) (ci := 5) (v := .ref se) (C := RX5) (T := TX5) (N := 5) hx hb hts i_5 hown hK hP 0 rfl rfl 4 (by decide) f_36 (fun _ h9 => h9) rfl dX5_findWinOfRun_33 ?_
    refine lv_aload_n hx hb dX5_findWinOfRun_36 rfl (lv_at hl 0 rfl) ?_
    refine lv_aload_n hx hb dX5_findWinOfRun_37 rfl (lv_at hl 1 rfl) ?_
    refine va_get (D := (dC, dI)) (ci := 5) (v := .ref ru) (C := RX5) (T := TX5) (N := 5) hx hb hts i_5 hown hK hP 0 rfl rfl 2 (by decide) f_22 (fun _ h9 => h9) rfl dX5_findWinOfRun_38 ?_
    refine va_get (D := (dC, dI)) (ci := 2) (v := .ref rh) (C := RX2) (T := TX2) (N := 5) hx hb hts i_2 hown hK hP 1 rfl rfl 0 (by decide) f_140 (fun _ h9 => h9) rfl dX5_findWinOfRun_41 ?_
    refine lv_bipush (v := zI 100) hx hb dX5_findWinOfRun_44 (by decide) ?_
    refine lv_aload_n hx hb dX5_findWinOfRun_46 rfl (lv_at hl 1 rfl) ?_
    refine va_get (D := (dC, dI)) (ci := 5) (v := .ref ru) (C := RX5) (T := TX5) (N := 5) hx hb hts i_5 hown hK hP 0 rfl rfl 2 (by decide) f_22 (fun _ h9 => h9) rfl dX5_findWinOfRun_47 ?_
    refine va_get (D := (dC, dI)) (ci := 2) (v := .ref rt) (C := RX2) (T := TX2) (N := 5) hx hb hts i_2 hown hK hP 1 rfl rfl 1 (by decide) f_164 (fun _ h9 => h9) rfl dX5_findWinOfRun_50 ?_
    refine va_get (D := (dC, dI)) (ci := 4) (v := .int (zI rln)) (C := RX4) (T := TX4) (N := 3) hx hb hts i_4 hown hK hP 3 rfl rfl 1 (by decide) f_172 (fun _ h9 => h9) rfl dX5_findWinOfRun_53 ?_
    refine lz_isub (z := 100 - rln) hx hb dX5_findWinOfRun_56 (by rfl) ?_
    have hPc := hP.sub (ws' := [(se, .inr (3, [.ref de, .ref fi, .ref qu, .ref pr, .int (zI qd), .int (zI s1), .int (zI s2)])), (pr, .inr (0, [.int (zI qx), .int (zI qy), .int (zI ql)])), (lv, .inr (1, [.int (zI w), .int (zI h), .ref ka, .ref ta, .int (zI sx), .int (zI sy), .int (zI fx), .int (zI fy), .int (zI lf), .int (zI un)])), zA cI ka 96 K, zA cI de 480 DD, zA cI fi 480 FF, zA cI qu 480 QQ, (rh, .inr (0, [.int (zI hx9), .int (zI hy9), .int (zI hl9)]))]) [6, 7, 4, 5, 8, 9, 10, 2] rfl
    have hDc := hD.sub (ws' := [(se, .inr (3, [.ref de, .ref fi, .ref qu, .ref pr, .int (zI qd), .int (zI s1), .int (zI s2)])), (pr, .inr (0, [.int (zI qx), .int (zI qy), .int (zI ql)])), (lv, .inr (1, [.int (zI w), .int (zI h), .ref ka, .ref ta, .int (zI sx), .int (zI sy), .int (zI fx), .int (zI fy), .int (zI lf), .int (zI un)])), zA cI ka 96 K, zA cI de 480 DD, zA cI fi 480 FF, zA cI qu 480 QQ, (rh, .inr (0, [.int (zI hx9), .int (zI hy9), .int (zI hl9)]))]) [6, 7, 4, 5, 8, 9, 10, 2] (by decide) rfl
    have hFc := va_free (wc := [(se, .inr (3, [.ref de, .ref fi, .ref qu, .ref pr, .int (zI qd), .int (zI s1), .int (zI s2)])), (pr, .inr (0, [.int (zI qx), .int (zI qy), .int (zI ql)])), (lv, .inr (1, [.int (zI w), .int (zI h), .ref ka, .ref ta, .int (zI sx), .int (zI sy), .int (zI fx), .int (zI fy), .int (zI lf), .int (zI un)])), zA cI ka 96 K, zA cI de 480 DD, zA cI fi 480 FF, zA cI qu 480 QQ, (rh, .inr (0, [.int (zI hx9), .int (zI hy9), .int (zI hl9)]))]) hD hS hA [6, 7, 4, 5, 8, 9, 10, 2] rfl
    refine va_callv (va_runV (As := [.ref lv, .ref rh, .int (zI (100 - rln))]) (rest := []) ⟨hx, hb, hml, hown, hts⟩ (c_X3_findWin l dC dI cI cZ cL cT cJ s.heap.size se de fi qu pr qd s1 s2 DD FF QQ lv w h ka ta sx sy fx fy lf un K rh hx9 hy9 hl9 qx qy ql (100 - rln) (by first | assumption | omega) (by first | assumption | omega) (by first | assumption | omega) (by first | assumption | omega) (by first | assumption | omega) (by first | assumption | omega) (by first | assumption | omega) (by first | assumption | omega) (by first | assumption | omega) (by first | assumption | omega) (by first | assumption | omega)) (cwV 3 hts gX5_findWinOfRun_X3_findWin rfl rfl rfl (by decide +kernel) ⟨Nat.le_of_ble_eq_true rfl, Nat.le_of_ble_eq_true rfl⟩) ⟨zP_blind, va_recv hK hPc (ci := 3) (q0 := 0) rfl rfl, zP_pre hPc hDc hK⟩ rfl rfl hl.1 rfl (lv_room (Nat.le_of_ble_eq_true rfl)) dX5_findWinOfRun_57 ⟨Nat.le_of_ble_eq_true rfl, Nat.le_of_ble_eq_true rfl⟩) hS (fun q _ h => hFc q h) hFc (fun u_2 t H1 locs ht hvm hw hB hz1 hk1 hS => ?_)
    obtain ⟨n1_3, s11_4, s21_5, D1_6, F1_7, Q1_8, qx1_9, qy1_10, ql1_11⟩ := u_2
    obtain ⟨hP1, hK1, hD1⟩ := hB
    rw [ht] at hP1
    have hP1 : va_P (dC, dI) vwCl [(se, .inr (3, [.ref de, .ref fi, .ref qu, .ref pr, .int (zI n1_3), .int (zI s11_4), .int (zI s21_5)])), (pr, .inr (0, [.int (zI qx1_9), .int (zI qy1_10), .int (zI ql1_11)])), (lv, .inr (1, [.int (zI w), .int (zI h), .ref ka, .ref ta, .int (zI sx), .int (zI sy), .int (zI fx), .int (zI fy), .int (zI lf), .int (zI un)])), zA cI ka 96 K, zA cI de 480 D1_6, zA cI fi 480 F1_7, zA cI qu 480 Q1_8, (rh, .inr (0, [.int (zI hx9), .int (zI hy9), .int (zI hl9)]))] H1 := hP1
    obtain ⟨hP, hD⟩ := va_join (wr := [(sl, .inr (5, [.ref sh, .int (zI lc), .ref ru, .ref tr, .ref se])), (ru, .inr (2, [.ref rh, .ref rt, .ref lv, .int (zI rp), .int (zI oc)])), (rt, .inr (4, [.ref ri, .int (zI rln), .int (zI rhf)]))]) (w1 := [(se, .inr (3, [.ref de, .ref fi, .ref qu, .ref pr, .int (zI n1_3), .int (zI s11_4), .int (zI s21_5)])), (pr, .inr (0, [.int (zI qx1_9), .int (zI qy1_10), .int (zI ql1_11)])), (lv, .inr (1, [.int (zI w), .int (zI h), .ref ka, .ref ta, .int (zI sx), .int (zI sy), .int (zI fx), .int (zI fy), .int (zI lf), .int (zI un)])), zA cI ka 96 K, zA cI de 480 D1_6, zA cI fi 480 F1_7, zA cI qu 480 Q1_8, (rh, .inr (0, [.int (zI hx9), .int (zI hy9), .int (zI hl9)]))]) hP hD [6, 7, 4, 5, 8, 9, 10, 2] [0, 1, 3] rfl rfl (by decide) (by decide) hk1 hFc hP1 hD1
    clear hP1 hD1 hk1 hFc hPc hDc hz1
    generalize H1 = H at hP hS ⊢
    have hP : va_P (dC, dI) vwCl [(sl, .inr (5, [.ref sh, .int (zI lc), .ref ru, .ref tr, .ref se])), (ru, .inr (2, [.ref rh, .ref rt, .ref lv, .int (zI rp), .int (zI oc)])), (rh, .inr (0, [.int (zI hx9), .int (zI hy9), .int (zI hl9)])), (rt, .inr (4, [.ref ri, .int (zI rln), .int (zI rhf)])), (lv, .inr (1, [.int (zI w), .int (zI h), .ref ka, .ref ta, .int (zI sx), .int (zI sy), .int (zI fx), .int (zI fy), .int (zI lf), .int (zI un)])), zA cI ka 96 K, (se, .inr (3, [.ref de, .ref fi, .ref qu, .ref pr, .int (zI n1_3), .int (zI s11_4), .int (zI s21_5)])), (pr, .inr (0, [.int (zI qx1_9), .int (zI qy1_10), .int (zI ql1_11)])), zA cI de 480 D1_6, zA cI fi 480 F1_7, zA cI qu 480 Q1_8] H := hP.sub [0, 1, 10, 2, 5, 6, 3, 4, 7, 8, 9] rfl
    have hD : va_D A [(sl, .inr (5, [.ref sh, .int (zI lc), .ref ru, .ref tr, .ref se])), (ru, .inr (2, [.ref rh, .ref rt, .ref lv, .int (zI rp), .int (zI oc)])), (rh, .inr (0, [.int (zI hx9), .int (zI hy9), .int (zI hl9)])), (rt, .inr (4, [.ref ri, .int (zI rln), .int (zI rhf)])), (lv, .inr (1, [.int (zI w), .int (zI h), .ref ka, .ref ta, .int (zI sx), .int (zI sy), .int (zI fx), .int (zI fy), .int (zI lf), .int (zI un)])), zA cI ka 96 K, (se, .inr (3, [.ref de, .ref fi, .ref qu, .ref pr, .int (zI n1_3), .int (zI s11_4), .int (zI s21_5)])), (pr, .inr (0, [.int (zI qx1_9), .int (zI qy1_10), .int (zI ql1_11)])), zA cI de 480 D1_6, zA cI fi 480 F1_7, zA cI qu 480 Q1_8] := hD.sub [0, 1, 10, 2, 5, 6, 3, 4, 7, 8, 9] (by decide) rfl
    clear hK1 hvm
    have po_12 : Din D1_6 ∧ Fin6 F1_7 ∧ ∃ D0 F0 Q0, Din D0 ∧ Fin6 F0 ∧ (∀ j, 0 ≤ j → j < 480 → D0 j = -1) ∧ (s11_4, s21_5) = fwT K w h fx fy (100 - rln) (plc hx9 hy9 hl9) D0 F0 Q0 := hw
    refine W.eq (g2 := F0 m 60 ls []) rfl ?_
    have hP9 := hP.sub (ws' := [(sl, .inr (5, [.ref sh, .int (zI lc), .ref ru, .ref tr, .ref se])), (ru, .inr (2, [.ref rh, .ref rt, .ref lv, .int (zI rp), .int (zI oc)])), (rh, .inr (0, [.int (zI hx9), .int (zI hy9), .int (zI hl9)])), (rt, .inr (4, [.ref ri, .int (zI rln), .int (zI rhf)])), (lv, .inr (1, [.int (zI w), .int (zI h), .ref ka, .ref ta, .int (zI sx), .int (zI sy), .int (zI fx), .int (zI fy), .int (zI lf), .int (zI un)])), zA cI ka 96 K, (se, .inr (3, [.ref de, .ref fi, .ref qu, .ref pr, .int (zI n1_3), .int (zI s11_4), .int (zI s21_5)])), (pr, .inr (0, [.int (zI qx1_9), .int (zI qy1_10), .int (zI ql1_11)])), zA cI de 480 D1_6, zA cI fi 480 F1_7, zA cI qu 480 Q1_8]) [0, 1, 2, 3, 4, 5, 6, 7, 8, 9, 10] rfl
    have hD9 := hD.sub (ws' := [(sl, .inr (5, [.ref sh, .int (zI lc), .ref ru, .ref tr, .ref se])), (ru, .inr (2, [.ref rh, .ref rt, .ref lv, .int (zI rp), .int (zI oc)])), (rh, .inr (0, [.int (zI hx9), .int (zI hy9), .int (zI hl9)])), (rt, .inr (4, [.ref ri, .int (zI rln), .int (zI rhf)])), (lv, .inr (1, [.int (zI w), .int (zI h), .ref ka, .ref ta, .int (zI sx), .int (zI sy), .int (zI fx), .int (zI fy), .int (zI lf), .int (zI un)])), zA cI ka 96 K, (se, .inr (3, [.ref de, .ref fi, .ref qu, .ref pr, .int (zI n1_3), .int (zI s11_4), .int (zI s21_5)])), (pr, .inr (0, [.int (zI qx1_9), .int (zI qy1_10), .int (zI ql1_11)])), zA cI de 480 D1_6, zA cI fi 480 F1_7, zA cI qu 480 Q1_8]) [0, 1, 2, 3, 4, 5, 6, 7, 8, 9, 10] (by decide) rfl
    have po : (Din D1_6 ∧ Fin6 F1_7 ∧ ∃ D0 F0 Q0, Din D0 ∧ Fin6 F0 ∧ (∀ j, 0 ≤ j → j < 480 → D0 j = -1) ∧ (s11_4, s21_5) = fwT K w h fx fy (100 - rln) (plc hx9 hy9 hl9) D0 F0 Q0) := by
      exact po_12
    exact W.vret hx hb hr (fun t ht hW => ⟨⟨(n1_3, s11_4, s21_5, D1_6, F1_7, Q1_8, qx1_9, qy1_10, ql1_11), rfl, po, by rw [ht]; exact hP9, va_K.moved hW.alike hK, hD9⟩, hS.F ht⟩) hS.2.2 dX5_findWinOfRun_60
  · exfalso; omega
set_option maxHeartbeats 4000000 in
set_option maxRecDepth 100000 in
theorem c_X5_findWinOfRun_a (l : Launch) (dC : Nat → ClassId) (dI : Nat → Nat → Nat) (cI cZ cL cT cJ : ClassId) (sz : Nat) (sl : Nat) (sh : Nat) (lc : Int) (ru : Nat) (tr : Nat) (se : Nat) (rh : Nat) (rt : Nat) (rp : Int) (oc : Int) (de : Nat) (fi : Nat) (qu : Nat) (pr : Nat) (qd : Int) (s1 : Int) (s2 : Int)  : Met l yX5_findWinOfRun wsX5_findWinOfRun ({ frames := 5, cells := 0, slots := 0, locals := 122 }) (zP (dC, dI) (zT cI cZ cL cT cJ) sz [.ref sl] [(sl, .inr (5, [.ref sh, .int (zI lc), .ref ru, .ref tr, .ref se])), (ru, .inr (2, [.ref rh, .ref rt, .null, .int (zI rp), .int (zI oc)])), (se, .inr (3, [.ref de, .ref fi, .ref qu, .ref pr, .int (zI qd), .int (zI s1), .int (zI s2)]))]) (va_Qv (fun (u9 : Unit) => match u9 with | _ => (True)) (zB (dC, dI) (zT cI cZ cL cT cJ) (va_A [(sl, .inr (5, [.ref sh, .int (zI lc), .ref ru, .ref tr, .ref se])), (ru, .inr (2, [.ref rh, .ref rt, .null, .int (zI rp), .int (zI oc)])), (se, .inr (3, [.ref de, .ref fi, .ref qu, .ref pr, .int (zI qd), .int (zI s1), .int (zI s2)]))] sz) (fun (u9 : Unit) => match u9 with | _ => [(sl, .inr (5, [.ref sh, .int (zI lc), .ref ru, .ref tr, .ref se])), (ru, .inr (2, [.ref rh, .ref rt, .null, .int (zI rp), .int (zI oc)])), (se, .inr (3, [.ref de, .ref fi, .ref qu, .ref pr, .int (zI qd), .int (zI (-1)), .int (zI (-1))]))])) (va_A [(sl, .inr (5, [.ref sh, .int (zI lc), .ref ru, .ref tr, .ref se])), (ru, .inr (2, [.ref rh, .ref rt, .null, .int (zI rp), .int (zI oc)])), (se, .inr (3, [.ref de, .ref fi, .ref qu, .ref pr, .int (zI qd), .int (zI s1), .int (zI s2)]))] sz)) 0 0 (va_A [(sl, .inr (5, [.ref sh, .int (zI lc), .ref ru, .ref tr, .ref se])), (ru, .inr (2, [.ref rh, .ref rt, .null, .int (zI rp), .int (zI oc)])), (se, .inr (3, [.ref de, .ref fi, .ref qu, .ref pr, .int (zI qd), .int (zI s1), .int (zI s2)]))] sz) := by
  refine Met.ofW (cc := cX5_findWinOfRun) (maxL := 2) (ret := none) (by decide) rfl ?_
  intro p e s m args below meth c s₁ B hml hv
  obtain ⟨rfl, hsz, hP, hK, hD0⟩ := hv
  have hx := B.exec
  have hb := B.bytes
  have hr := B.returns
  have hts := atoms_spec (ws := wsX5_findWinOfRun) B.pre
  have hown : s.vm.findClass RX5 = some m.cls := findClass_of_methodNamed B.named
  have hlocks := B.notSynchronized
  subst hsz
  have hD := hD0.self (sz := s.heap.size)
  generalize hAe : va_A [(sl, .inr (5, [.ref sh, .int (zI lc), .ref ru, .ref tr, .ref se])), (ru, .inr (2, [.ref rh, .ref rt, .null, .int (zI rp), .int (zI oc)])), (se, .inr (3, [.ref de, .ref fi, .ref qu, .ref pr, .int (zI qd), .int (zI s1), .int (zI s2)]))] s.heap.size = A at hD ⊢
  have hA : ∀ q : Nat, s.heap.size ≤ q → A q := fun q h => by rw [← hAe]; exact Or.inr h
  clear hAe hD0
  have hS : va_S A s.heap s.heap [] := va_S.rf
  have hP : va_P (dC, dI) vwCl [(sl, .inr (5, [.ref sh, .int (zI lc), .ref ru, .ref tr, .ref se])), (ru, .inr (2, [.ref rh, .ref rt, .null, .int (zI rp), .int (zI oc)])), (se, .inr (3, [.ref de, .ref fi, .ref qu, .ref pr, .int (zI qd), .int (zI s1), .int (zI s2)]))] s.heap := hP
  have f_22 := hts (.fieldLink RX5 22 "SpringLevels" "run" "LSpringLevels$Run;") (by decide +kernel)
  have f_36 := hts (.fieldLink RX5 36 "SpringLevels" "search" "LSpringLevels$Search;") (by decide +kernel)
  have f_140 := hts (.fieldLink RX5 140 "SpringLevels$Run" "hero" "LSpringLevels$Hero;") (by decide +kernel)
  have f_148 := hts (.fieldLink RX5 148 "SpringLevels$Run" "level" "LSpringLevels$Level;") (by decide +kernel)
  have f_152 := hts (.fieldLink RX5 152 "SpringLevels$Run" "outcome" "I") (by decide +kernel)
  have f_164 := hts (.fieldLink RX5 164 "SpringLevels$Run" "tape" "LSpringLevels$Tape;") (by decide +kernel)
  have f_172 := hts (.fieldLink RX5 172 "SpringLevels$Tape" "length" "I") (by decide +kernel)
  have i_2 : ∀ w ∈ wsX20, w ∈ wsX5_findWinOfRun := by decide +kernel
  have i_4 : ∀ w ∈ wsX40, w ∈ wsX5_findWinOfRun := by decide +kernel
  have i_5 : ∀ w ∈ wsX50, w ∈ wsX5_findWinOfRun := by decide +kernel
  have hl := lv_entry ([.ref sl]) (n := 2) (Nat.le_of_ble_eq_true rfl)
  rw [lg_entry_eq]
  generalize (lg_sl ([.ref sl]) ++ List.replicate (2 - (lg_sl ([.ref sl])).length) Slot.unset).toArray = ls at hl ⊢
  have hl : lv_has ls 2 [(0, .ref sl)] := hl
  refine lv_aload_n hx hb dX5_findWinOfRun_0 rfl (lv_at hl 0 rfl) ?_
  refine va_get (D := (dC, dI)) (ci := 5) (v := .ref ru) (C := RX5) (T := TX5) (N := 5) hx hb hts i_5 hown hK hP 0 rfl rfl 2 (by decide) f_22 (fun _ h9 => h9) rfl dX5_findWinOfRun_1 ?_
  refine va_get (D := (dC, dI)) (ci := 2) (v := .null) (C := RX2) (T := TX2) (N := 5) hx hb hts i_2 hown hK hP 1 rfl rfl 2 (by decide) f_148 (fun _ h9 => h9) rfl dX5_findWinOfRun_4 ?_
  refine lv_astore_nN (lv' := [(1, .null), (0, .ref sl)]) hx hb dX5_findWinOfRun_7 rfl hl (by decide) rfl (fun ls hl => ?_)
  refine lv_aload_nN hx hb dX5_findWinOfRun_8 rfl (lv_at hl 0 rfl) ?_
  refine lv_ifnullN (tgt := 22) hx hb dX5_findWinOfRun_9 (by decide) ?_
  refine lv_aload_n hx hb dX5_findWinOfRun_22 rfl (lv_at hl 1 rfl) ?_
  refine va_get (D := (dC, dI)) (ci := 5) (v := .ref se) (C := RX5) (T := TX5) (N := 5) hx hb hts i_5 hown hK hP 0 rfl rfl 4 (by decide) f_36 (fun _ h9 => h9) rfl dX5_findWinOfRun_23 ?_
  have hPc := hP.sub (ws' := [(se, .inr (3, [.ref de, .ref fi, .ref qu, .ref pr, .int (zI qd), .int (zI s1), .int (zI s2)]))]) [2] rfl
  have hDc := hD.sub (ws' := [(se, .inr (3, [.ref de, .ref fi, .ref qu, .ref pr, .int (zI qd), .int (zI s1), .int (zI s2)]))]) [2] (by decide) rfl
  have hFc := va_free (wc := [(se, .inr (3, [.ref de, .ref fi, .ref qu, .ref pr, .int (zI qd), .int (zI s1), .int (zI s2)]))]) hD hS hA [2] rfl
  refine va_callv (va_runV (As := []) (rest := []) ⟨hx, hb, hml, hown, hts⟩ (c_X3_findNothing l dC dI cI cZ cL cT cJ s.heap.size se de fi qu pr qd s1 s2 ) (cwV 0 hts gX5_findWinOfRun_X3_findNothing rfl rfl rfl (by decide +kernel) ⟨Nat.le_of_ble_eq_true rfl, Nat.le_of_ble_eq_true rfl⟩) ⟨zP_blind, va_recv hK hPc (ci := 3) (q0 := 0) rfl rfl, zP_pre hPc hDc hK⟩ rfl rfl hl.1 rfl (lv_room (Nat.le_of_ble_eq_true rfl)) dX5_findWinOfRun_26 ⟨Nat.le_of_ble_eq_true rfl, Nat.le_of_ble_eq_true rfl⟩) hS (fun q _ h => hFc q h) hFc (fun u_1 t H1 locs ht hvm hw hB hz1 hk1 hS => ?_)
  obtain ⟨hP1, hK1, hD1⟩ := hB
  rw [ht] at hP1
  have hP1 : va_P (dC, dI) vwCl [(se, .inr (3, [.ref de, .ref fi, .ref qu, .ref pr, .int (zI qd), .int (zI (-1)), .int (zI (-1))]))] H1 := hP1
  obtain ⟨hP, hD⟩ := va_join (wr := [(sl, .inr (5, [.ref sh, .int (zI lc), .ref ru, .ref tr, .ref se])), (ru, .inr (2, [.ref rh, .ref rt, .null, .int (zI rp), .int (zI oc)]))]) (w1 := [(se, .inr (3, [.ref de, .ref fi, .ref qu, .ref pr, .int (zI qd), .int (zI (-1)), .int (zI (-1))]))]) hP hD [2] [0, 1] rfl rfl (by decide) (by decide) hk1 hFc hP1 hD1
  clear hP1 hD1 hk1 hFc hPc hDc hz1
  generalize H1 = H at hP hS ⊢
  have hP : va_P (dC, dI) vwCl [(sl, .inr (5, [.ref sh, .int (zI lc), .ref ru, .ref tr, .ref se])), (ru, .inr (2, [.ref rh, .ref rt, .null, .int (zI rp), .int (zI oc)])), (se, .inr (3, [.ref de, .ref fi, .ref qu, .ref pr, .int (zI qd), .int (zI (-1)), .int (zI (-1))]))] H := hP.sub [0, 1, 2] rfl
  have hD : va_D A [(sl, .inr (5, [.ref sh, .int (zI lc), .ref ru, .ref tr, .ref se])), (ru, .inr (2, [.ref rh, .ref rt, .null, .int (zI rp), .int (zI oc)])), (se, .inr (3, [.ref de, .ref fi, .ref qu, .ref pr, .int (zI qd), .int (zI (-1)), .int (zI (-1))]))] := hD.sub [0, 1, 2] (by decide) rfl
  clear hK1 hvm
  refine W.eq (g2 := F0 m 29 ls []) rfl ?_
  refine lv_goto (tgt := 60) hx hb dX5_findWinOfRun_29 (by decide) ?_
  have hP9 := hP.sub (ws' := [(sl, .inr (5, [.ref sh, .int (zI lc), .ref ru, .ref tr, .ref se])), (ru, .inr (2, [.ref rh, .ref rt, .null, .int (zI rp), .int (zI oc)])), (se, .inr (3, [.ref de, .ref fi, .ref qu, .ref pr, .int (zI qd), .int (zI (-1)), .int (zI (-1))]))]) [0, 1, 2] rfl
  have hD9 := hD.sub (ws' := [(sl, .inr (5, [.ref sh, .int (zI lc), .ref ru, .ref tr, .ref se])), (ru, .inr (2, [.ref rh, .ref rt, .null, .int (zI rp), .int (zI oc)])), (se, .inr (3, [.ref de, .ref fi, .ref qu, .ref pr, .int (zI qd), .int (zI (-1)), .int (zI (-1))]))]) [0, 1, 2] (by decide) rfl
  have po : (True) := by
    trivial
  exact W.vret hx hb hr (fun t ht hW => ⟨⟨(), rfl, po, by rw [ht]; exact hP9, va_K.moved hW.alike hK, hD9⟩, hS.F ht⟩) hS.2.2 dX5_findWinOfRun_60
set_option maxHeartbeats 4000000 in
set_option maxRecDepth 100000 in
theorem c_X5_findWinOfRun_b (l : Launch) (dC : Nat → ClassId) (dI : Nat → Nat → Nat) (cI cZ cL cT cJ : ClassId) (sz : Nat) (sl : Nat) (sh : Nat) (lc : Int) (ru : Nat) (tr : Nat) (se : Nat) (rh : Nat) (rt : Nat) (rp : Int) (oc : Int) (de : Nat) (fi : Nat) (qu : Nat) (pr : Nat) (qd : Int) (s1 : Int) (s2 : Int) (lv : Nat) (goc : ¬ oc = 0) (goc2 : 0 ≤ oc ∧ oc ≤ 2) : Met l yX5_findWinOfRun wsX5_findWinOfRun ({ frames := 5, cells := 0, slots := 0, locals := 122 }) (zP (dC, dI) (zT cI cZ cL cT cJ) sz [.ref sl] [(sl, .inr (5, [.ref sh, .int (zI lc), .ref ru, .ref tr, .ref se])), (ru, .inr (2, [.ref rh, .ref rt, .ref lv, .int (zI rp), .int (zI oc)])), (se, .inr (3, [.ref de, .ref fi, .ref qu, .ref pr, .int (zI qd), .int (zI s1), .int (zI s2)]))]) (va_Qv (fun (u9 : Unit) => match u9 with | _ => (True)) (zB (dC, dI) (zT cI cZ cL cT cJ) (va_A [(sl, .inr (5, [.ref sh, .int (zI lc), .ref ru, .ref tr, .ref se])), (ru, .inr (2, [.ref rh, .ref rt, .ref lv, .int (zI rp), .int (zI oc)])), (se, .inr (3, [.ref de, .ref fi, .ref qu, .ref pr, .int (zI qd), .int (zI s1), .int (zI s2)]))] sz) (fun (u9 : Unit) => match u9 with | _ => [(sl, .inr (5, [.ref sh, .int (zI lc), .ref ru, .ref tr, .ref se])), (ru, .inr (2, [.ref rh, .ref rt, .ref lv, .int (zI rp), .int (zI oc)])), (se, .inr (3, [.ref de, .ref fi, .ref qu, .ref pr, .int (zI qd), .int (zI (-1)), .int (zI (-1))]))])) (va_A [(sl, .inr (5, [.ref sh, .int (zI lc), .ref ru, .ref tr, .ref se])), (ru, .inr (2, [.ref rh, .ref rt, .ref lv, .int (zI rp), .int (zI oc)])), (se, .inr (3, [.ref de, .ref fi, .ref qu, .ref pr, .int (zI qd), .int (zI s1), .int (zI s2)]))] sz)) 0 0 (va_A [(sl, .inr (5, [.ref sh, .int (zI lc), .ref ru, .ref tr, .ref se])), (ru, .inr (2, [.ref rh, .ref rt, .ref lv, .int (zI rp), .int (zI oc)])), (se, .inr (3, [.ref de, .ref fi, .ref qu, .ref pr, .int (zI qd), .int (zI s1), .int (zI s2)]))] sz) := by
  refine Met.ofW (cc := cX5_findWinOfRun) (maxL := 2) (ret := none) (by decide) rfl ?_
  intro p e s m args below meth c s₁ B hml hv
  obtain ⟨rfl, hsz, hP, hK, hD0⟩ := hv
  have hx := B.exec
  have hb := B.bytes
  have hr := B.returns
  have hts := atoms_spec (ws := wsX5_findWinOfRun) B.pre
  have hown : s.vm.findClass RX5 = some m.cls := findClass_of_methodNamed B.named
  have hlocks := B.notSynchronized
  subst hsz
  have hD := hD0.self (sz := s.heap.size)
  generalize hAe : va_A [(sl, .inr (5, [.ref sh, .int (zI lc), .ref ru, .ref tr, .ref se])), (ru, .inr (2, [.ref rh, .ref rt, .ref lv, .int (zI rp), .int (zI oc)])), (se, .inr (3, [.ref de, .ref fi, .ref qu, .ref pr, .int (zI qd), .int (zI s1), .int (zI s2)]))] s.heap.size = A at hD ⊢
  have hA : ∀ q : Nat, s.heap.size ≤ q → A q := fun q h => by rw [← hAe]; exact Or.inr h
  clear hAe hD0
  have hS : va_S A s.heap s.heap [] := va_S.rf
  have hP : va_P (dC, dI) vwCl [(sl, .inr (5, [.ref sh, .int (zI lc), .ref ru, .ref tr, .ref se])), (ru, .inr (2, [.ref rh, .ref rt, .ref lv, .int (zI rp), .int (zI oc)])), (se, .inr (3, [.ref de, .ref fi, .ref qu, .ref pr, .int (zI qd), .int (zI s1), .int (zI s2)]))] s.heap := hP
  have f_22 := hts (.fieldLink RX5 22 "SpringLevels" "run" "LSpringLevels$Run;") (by decide +kernel)
  have f_36 := hts (.fieldLink RX5 36 "SpringLevels" "search" "LSpringLevels$Search;") (by decide +kernel)
  have f_140 := hts (.fieldLink RX5 140 "SpringLevels$Run" "hero" "LSpringLevels$Hero;") (by decide +kernel)
  have f_148 := hts (.fieldLink RX5 148 "SpringLevels$Run" "level" "LSpringLevels$Level;") (by decide +kernel)
  have f_152 := hts (.fieldLink RX5 152 "SpringLevels$Run" "outcome" "I") (by decide +kernel)
  have f_164 := hts (.fieldLink RX5 164 "SpringLevels$Run" "tape" "LSpringLevels$Tape;") (by decide +kernel)
  have f_172 := hts (.fieldLink RX5 172 "SpringLevels$Tape" "length" "I") (by decide +kernel)
  have i_2 : ∀ w ∈ wsX20, w ∈ wsX5_findWinOfRun := by decide +kernel
  have i_4 : ∀ w ∈ wsX40, w ∈ wsX5_findWinOfRun := by decide +kernel
  have i_5 : ∀ w ∈ wsX50, w ∈ wsX5_findWinOfRun := by decide +kernel
  have hl := lv_entry ([.ref sl]) (n := 2) (Nat.le_of_ble_eq_true rfl)
  rw [lg_entry_eq]
  generalize (lg_sl ([.ref sl]) ++ List.replicate (2 - (lg_sl ([.ref sl])).length) Slot.unset).toArray = ls at hl ⊢
  have hl : lv_has ls 2 [(0, .ref sl)] := hl
  refine lv_aload_n hx hb dX5_findWinOfRun_0 rfl (lv_at hl 0 rfl) ?_
  refine va_get (D := (dC, dI)) (ci := 5) (v := .ref ru) (C := RX5) (T := TX5) (N := 5) hx hb hts i_5 hown hK hP 0 rfl rfl 2 (by decide) f_22 (fun _ h9 => h9) rfl dX5_findWinOfRun_1 ?_
  refine va_get (D := (dC, dI)) (ci := 2) (v := .ref lv) (C := RX2) (T := TX2) (N := 5) hx hb hts i_2 hown hK hP 1 rfl rfl 2 (by decide) f_148 (fun _ h9 => h9) rfl dX5_findWinOfRun_4 ?_
  refine lv_astore_n (lv' := [(1, .ref lv), (0, .ref sl)]) hx hb dX5_findWinOfRun_7 rfl hl (by decide) rfl (fun ls hl => ?_)
  refine lv_aload_n hx hb dX5_findWinOfRun_8 rfl (lv_at hl 0 rfl) ?_
  refine lv_ifnull hx hb dX5_findWinOfRun_9 ?_
  refine lv_aload_n hx hb dX5_findWinOfRun_12 rfl (lv_at hl 1 rfl) ?_
  refine va_get (D := (dC, dI)) (ci := 5) (v := .ref ru) (C := RX5) (T := TX5) (N := 5) hx hb hts i_5 hown hK hP 0 rfl rfl 2 (by decide) f_22 (fun _ h9 => h9) rfl dX5_findWinOfRun_13 ?_
  refine va_get (D := (dC, dI)) (ci := 2) (v := .int (zI oc)) (C := RX2) (T := TX2) (N := 5) hx hb hts i_2 hown hK hP 1 rfl rfl 4 (by decide) f_152 (fun _ h9 => h9) rfl dX5_findWinOfRun_16 ?_
  refine lz_if_eq (tgt := 32) hx hb dX5_findWinOfRun_19 (by decide) (by omega) (fun c_1 => ?_) (fun c_1 => ?_)
  · exfalso; omega
  ·
    refine lv_aload_n hx hb dX5_findWinOfRun_22 rfl (lv_at hl 1 rfl) ?_
    refine va_get (D := (dC, dI)) (ci := 5) (v := .ref se) (C := RX5) (T := TX5) (N := 5) hx hb hts i_5 hown hK hP 0 rfl rfl 4 (by decide) f_36 (fun _ h9 => h9) rfl dX5_findWinOfRun_23 ?_
    have hPc := hP.sub (ws' := [(se, .inr (3, [.ref de, .ref fi, .ref qu, .ref pr, .int (zI qd), .int (zI s1), .int (zI s2)]))]) [2] rfl
    have hDc := hD.sub (ws' := [(se, .inr (3, [.ref de, .ref fi, .ref qu, .ref pr, .int (zI qd), .int (zI s1), .int (zI s2)]))]) [2] (by decide) rfl
    have hFc := va_free (wc := [(se, .inr (3, [.ref de, .ref fi, .ref qu, .ref pr, .int (zI qd), .int (zI s1), .int (zI s2)]))]) hD hS hA [2] rfl
    refine va_callv (va_runV (As := []) (rest := []) ⟨hx, hb, hml, hown, hts⟩ (c_X3_findNothing l dC dI cI cZ cL cT cJ s.heap.size se de fi qu pr qd s1 s2 ) (cwV 0 hts gX5_findWinOfRun_X3_findNothing rfl rfl rfl (by decide +kernel) ⟨Nat.le_of_ble_eq_true rfl, Nat.le_of_ble_eq_true rfl⟩) ⟨zP_blind, va_recv hK hPc (ci := 3) (q0 := 0) rfl rfl, zP_pre hPc hDc hK⟩ rfl rfl hl.1 rfl (lv_room (Nat.le_of_ble_eq_true rfl)) dX5_findWinOfRun_26 ⟨Nat.le_of_ble_eq_true rfl, Nat.le_of_ble_eq_true rfl⟩) hS (fun q _ h => hFc q h) hFc (fun u_2 t H1 locs ht hvm hw hB hz1 hk1 hS => ?_)
    obtain ⟨hP1, hK1, hD1⟩ := hB
    rw [ht] at hP1
    have hP1 : va_P (dC, dI) vwCl [(se, .inr (3, [.ref de, .ref fi, .ref qu, .ref pr, .int (zI qd), .int (zI (-1)), .int (zI (-1))]))] H1 := hP1
    obtain ⟨hP, hD⟩ := va_join (wr := [(sl, .inr (5, [.ref sh, .int (zI lc), .ref ru, .ref tr, .ref se])), (ru, .inr (2, [.ref rh, .ref rt, .ref lv, .int (zI rp), .int (zI oc)]))]) (w1 := [(se, .inr (3, [.ref de, .ref fi, .ref qu, .ref pr, .int (zI qd), .int (zI (-1)), .int (zI (-1))]))]) hP hD [2] [0, 1] rfl rfl (by decide) (by decide) hk1 hFc hP1 hD1
    clear hP1 hD1 hk1 hFc hPc hDc hz1
    generalize H1 = H at hP hS ⊢
    have hP : va_P (dC, dI) vwCl [(sl, .inr (5, [.ref sh, .int (zI lc), .ref ru, .ref tr, .ref se])), (ru, .inr (2, [.ref rh, .ref rt, .ref lv, .int (zI rp), .int (zI oc)])), (se, .inr (3, [.ref de, .ref fi, .ref qu, .ref pr, .int (zI qd), .int (zI (-1)), .int (zI (-1))]))] H := hP.sub [0, 1, 2] rfl
    have hD : va_D A [(sl, .inr (5, [.ref sh, .int (zI lc), .ref ru, .ref tr, .ref se])), (ru, .inr (2, [.ref rh, .ref rt, .ref lv, .int (zI rp), .int (zI oc)])), (se, .inr (3, [.ref de, .ref fi, .ref qu, .ref pr, .int (zI qd), .int (zI (-1)), .int (zI (-1))]))] := hD.sub [0, 1, 2] (by decide) rfl
    clear hK1 hvm
    refine W.eq (g2 := F0 m 29 ls []) rfl ?_
    refine lv_goto (tgt := 60) hx hb dX5_findWinOfRun_29 (by decide) ?_
    have hP9 := hP.sub (ws' := [(sl, .inr (5, [.ref sh, .int (zI lc), .ref ru, .ref tr, .ref se])), (ru, .inr (2, [.ref rh, .ref rt, .ref lv, .int (zI rp), .int (zI oc)])), (se, .inr (3, [.ref de, .ref fi, .ref qu, .ref pr, .int (zI qd), .int (zI (-1)), .int (zI (-1))]))]) [0, 1, 2] rfl
    have hD9 := hD.sub (ws' := [(sl, .inr (5, [.ref sh, .int (zI lc), .ref ru, .ref tr, .ref se])), (ru, .inr (2, [.ref rh, .ref rt, .ref lv, .int (zI rp), .int (zI oc)])), (se, .inr (3, [.ref de, .ref fi, .ref qu, .ref pr, .int (zI qd), .int (zI (-1)), .int (zI (-1))]))]) [0, 1, 2] (by decide) rfl
    have po : (True) := by
      trivial
    exact W.vret hx hb hr (fun t ht hW => ⟨⟨(), rfl, po, by rw [ht]; exact hP9, va_K.moved hW.alike hK, hD9⟩, hS.F ht⟩) hS.2.2 dX5_findWinOfRun_60
set_option maxHeartbeats 4000000 in
set_option maxRecDepth 100000 in
theorem c_X5_left (l : Launch) (dC : Nat → ClassId) (dI : Nat → Nat → Nat) (cI cZ cL cT cJ : ClassId) (sz : Nat) (sl : Nat) (sh : Nat) (lc : Int) (ru : Nat) (tr : Nat) (se : Nat) (rh : Nat) (rt : Nat) (rp : Int) (oc : Int) (hx9 : Int) (hy9 : Int) (hl9 : Int) (ri : Nat) (rln : Int) (rhf : Int) (lv : Nat) (w : Int) (h : Int) (ka : Nat) (ta : Nat) (sx : Int) (sy : Int) (fx : Int) (fy : Int) (lf : Int) (un : Int) (K : Int → Int) (de : Nat) (fi : Nat) (qu : Nat) (pr : Nat) (qd : Int) (s1 : Int) (s2 : Int) (DD : Int → Int) (FF : Int → Int) (QQ : Int → Int) (qx : Int) (qy : Int) (ql : Int) (gw : 0 < w ∧ w ≤ 12) (gh : 0 < h ∧ h ≤ 8) (gK : Kin K) (gf : -2147483648 ≤ fx ∧ fx < 2147483648) (gf2 : -2147483648 ≤ fy ∧ fy < 2147483648) (goc : oc = 0) (grx : 0 ≤ hx9 ∧ hx9 < w) (gry : 0 ≤ hy9 ∧ hy9 < h) (grl : 0 ≤ hl9 ∧ hl9 ≤ 4) (gn : 0 ≤ rln ∧ rln ≤ 100) (gD : Din DD) (gFF : Fin6 FF) : Met l yX5_left wsX5_left ({ frames := 6, cells := 0, slots := 0, locals := 143 }) (zP (dC, dI) (zT cI cZ cL cT cJ) sz [.ref sl] [(sl, .inr (5, [.ref sh, .int (zI lc), .ref ru, .ref tr, .ref se])), (ru, .inr (2, [.ref rh, .ref rt, .ref lv, .int (zI rp), .int (zI oc)])), (rh, .inr (0, [.int (zI hx9), .int (zI hy9), .int (zI hl9)])), (rt, .inr (4, [.ref ri, .int (zI rln), .int (zI rhf)])), (lv, .inr (1, [.int (zI w), .int (zI h), .ref ka, .ref ta, .int (zI sx), .int (zI sy), .int (zI fx), .int (zI fy), .int (zI lf), .int (zI un)])), zA cI ka 96 K, (se, .inr (3, [.ref de, .ref fi, .ref qu, .ref pr, .int (zI qd), .int (zI s1), .int (zI s2)])), (pr, .inr (0, [.int (zI qx), .int (zI qy), .int (zI ql)])), zA cI de 480 DD, zA cI fi 480 FF, zA cI qu 480 QQ]) (va_Qi (fun (r9 : Int32) (u9 : Int × Int × Int × (Int → Int) × (Int → Int) × (Int → Int) × Int × Int × Int) => match u9 with | (n1, s11, s21, D1, F1, Q1, qx1, qy1, ql1) => r9 = zI s11 ∧ (Din D1 ∧ Fin6 F1 ∧ ∃ D0 F0 Q0, Din D0 ∧ Fin6 F0 ∧ (∀ j, 0 ≤ j → j < 480 → D0 j = -1) ∧ (s11, s21) = fwT K w h fx fy (100 - rln) (plc hx9 hy9 hl9) D0 F0 Q0)) (zB (dC, dI) (zT cI cZ cL cT cJ) (va_A [(sl, .inr (5, [.ref sh, .int (zI lc), .ref ru, .ref tr, .ref se])), (ru, .inr (2, [.ref rh, .ref rt, .ref lv, .int (zI rp), .int (zI oc)])), (rh, .inr (0, [.int (zI hx9), .int (zI hy9), .int (zI hl9)])), (rt, .inr (4, [.ref ri, .int (zI rln), .int (zI rhf)])), (lv, .inr (1, [.int (zI w), .int (zI h), .ref ka, .ref ta, .int (zI sx), .int (zI sy), .int (zI fx), .int (zI fy), .int (zI lf), .int (zI un)])), zA cI ka 96 K, (se, .inr (3, [.ref de, .ref fi, .ref qu, .ref pr, .int (zI qd), .int (zI s1), .int (zI s2)])), (pr, .inr (0, [.int (zI qx), .int (zI qy), .int (zI ql)])), zA cI de 480 DD, zA cI fi 480 FF, zA cI qu 480 QQ] sz) (fun (u9 : Int × Int × Int × (Int → Int) × (Int → Int) × (Int → Int) × Int × Int × Int) => match u9 with | (n1, s11, s21, D1, F1, Q1, qx1, qy1, ql1) => [(sl, .inr (5, [.ref sh, .int (zI lc), .ref ru, .ref tr, .ref se])), (ru, .inr (2, [.ref rh, .ref rt, .ref lv, .int (zI rp), .int (zI oc)])), (rh, .inr (0, [.int (zI hx9), .int (zI hy9), .int (zI hl9)])), (rt, .inr (4, [.ref ri, .int (zI rln), .int (zI rhf)])), (lv, .inr (1, [.int (zI w), .int (zI h), .ref ka, .ref ta, .int (zI sx), .int (zI sy), .int (zI fx), .int (zI fy), .int (zI lf), .int (zI un)])), zA cI ka 96 K, (se, .inr (3, [.ref de, .ref fi, .ref qu, .ref pr, .int (zI n1), .int (zI s11), .int (zI s21)])), (pr, .inr (0, [.int (zI qx1), .int (zI qy1), .int (zI ql1)])), zA cI de 480 D1, zA cI fi 480 F1, zA cI qu 480 Q1])) (va_A [(sl, .inr (5, [.ref sh, .int (zI lc), .ref ru, .ref tr, .ref se])), (ru, .inr (2, [.ref rh, .ref rt, .ref lv, .int (zI rp), .int (zI oc)])), (rh, .inr (0, [.int (zI hx9), .int (zI hy9), .int (zI hl9)])), (rt, .inr (4, [.ref ri, .int (zI rln), .int (zI rhf)])), (lv, .inr (1, [.int (zI w), .int (zI h), .ref ka, .ref ta, .int (zI sx), .int (zI sy), .int (zI fx), .int (zI fy), .int (zI lf), .int (zI un)])), zA cI ka 96 K, (se, .inr (3, [.ref de, .ref fi, .ref qu, .ref pr, .int (zI qd), .int (zI s1), .int (zI s2)])), (pr, .inr (0, [.int (zI qx), .int (zI qy), .int (zI ql)])), zA cI de 480 DD, zA cI fi 480 FF, zA cI qu 480 QQ] sz)) 0 0 (va_A [(sl, .inr (5, [.ref sh, .int (zI lc), .ref ru, .ref tr, .ref se])), (ru, .inr (2, [.ref rh, .ref rt, .ref lv, .int (zI rp), .int (zI oc)])), (rh, .inr (0, [.int (zI hx9), .int (zI hy9), .int (zI hl9)])), (rt, .inr (4, [.ref ri, .int (zI rln), .int (zI rhf)])), (lv, .inr (1, [.int (zI w), .int (zI h), .ref ka, .ref ta, .int (zI sx), .int (zI sy), .int (zI fx), .int (zI fy), .int (zI lf), .int (zI un)])), zA cI ka 96 K, (se, .inr (3, [.ref de, .ref fi, .ref qu, .ref pr, .int (zI qd), .int (zI s1), .int (zI s2)])), (pr, .inr (0, [.int (zI qx), .int (zI qy), .int (zI ql)])), zA cI de 480 DD, zA cI fi 480 FF, zA cI qu 480 QQ] sz) := by
  refine Met.ofW (cc := cX5_left) (maxL := 1) (ret := (some .int)) (by decide) rfl ?_
  intro p e s m args below meth c s₁ B hml hv
  obtain ⟨rfl, hsz, hP, hK, hD0⟩ := hv
  have hx := B.exec
  have hb := B.bytes
  have hr := B.returns
  have hts := atoms_spec (ws := wsX5_left) B.pre
  have hown : s.vm.findClass RX5 = some m.cls := findClass_of_methodNamed B.named
  have hlocks := B.notSynchronized
  subst hsz
  have hD := hD0.self (sz := s.heap.size)
  generalize hAe : va_A [(sl, .inr (5, [.ref sh, .int (zI lc), .ref ru, .ref tr, .ref se])), (ru, .inr (2, [.ref rh, .ref rt, .ref lv, .int (zI rp), .int (zI oc)])), (rh, .inr (0, [.int (zI hx9), .int (zI hy9), .int (zI hl9)])), (rt, .inr (4, [.ref ri, .int (zI rln), .int (zI rhf)])), (lv, .inr (1, [.int (zI w), .int (zI h), .ref ka, .ref ta, .int (zI sx), .int (zI sy), .int (zI fx), .int (zI fy), .int (zI lf), .int (zI un)])), zA cI ka 96 K, (se, .inr (3, [.ref de, .ref fi, .ref qu, .ref pr, .int (zI qd), .int (zI s1), .int (zI s2)])), (pr, .inr (0, [.int (zI qx), .int (zI qy), .int (zI ql)])), zA cI de 480 DD, zA cI fi 480 FF, zA cI qu 480 QQ] s.heap.size = A at hD ⊢
  have hA : ∀ q : Nat, s.heap.size ≤ q → A q := fun q h => by rw [← hAe]; exact Or.inr h
  clear hAe hD0
  have hS : va_S A s.heap s.heap [] := va_S.rf
  have hP : va_P (dC, dI) vwCl [(sl, .inr (5, [.ref sh, .int (zI lc), .ref ru, .ref tr, .ref se])), (ru, .inr (2, [.ref rh, .ref rt, .ref lv, .int (zI rp), .int (zI oc)])), (rh, .inr (0, [.int (zI hx9), .int (zI hy9), .int (zI hl9)])), (rt, .inr (4, [.ref ri, .int (zI rln), .int (zI rhf)])), (lv, .inr (1, [.int (zI w), .int (zI h), .ref ka, .ref ta, .int (zI sx), .int (zI sy), .int (zI fx), .int (zI fy), .int (zI lf), .int (zI un)])), zA cI ka 96 K, (se, .inr (3, [.ref de, .ref fi, .ref qu, .ref pr, .int (zI qd), .int (zI s1), .int (zI s2)])), (pr, .inr (0, [.int (zI qx), .int (zI qy), .int (zI ql)])), zA cI de 480 DD, zA cI fi 480 FF, zA cI qu 480 QQ] s.heap := hP
  have f_36 := hts (.fieldLink RX5 36 "SpringLevels" "search" "LSpringLevels$Search;") (by decide +kernel)
  have f_119 := hts (.fieldLink RX5 119 "SpringLevels$Search" "leastFrames" "I") (by decide +kernel)
  have i_3 : ∀ w ∈ wsX30, w ∈ wsX5_left := by decide +kernel
  have i_5 : ∀ w ∈ wsX50, w ∈ wsX5_left := by decide +kernel
  have hl := lv_entry ([.ref sl]) (n := 1) (Nat.le_of_ble_eq_true rfl)
  rw [lg_entry_eq]
  generalize (lg_sl ([.ref sl]) ++ List.replicate (1 - (lg_sl ([.ref sl])).length) Slot.unset).toArray = ls at hl ⊢
  have hl : lv_has ls 1 [(0, .ref sl)] := hl
  refine lv_aload_n hx hb dX5_left_0 rfl (lv_at hl 0 rfl) ?_
  have hPc := hP.sub (ws' := [(sl, .inr (5, [.ref sh, .int (zI lc), .ref ru, .ref tr, .ref se])), (ru, .inr (2, [.ref rh, .ref rt, .ref lv, .int (zI rp), .int (zI oc)])), (rh, .inr (0, [.int (zI hx9), .int (zI hy9), .int (zI hl9)])), (rt, .inr (4, [.ref ri, .int (zI rln), .int (zI rhf)])), (lv, .inr (1, [.int (zI w), .int (zI h), .ref ka, .ref ta, .int (zI sx), .int (zI sy), .int (zI fx), .int (zI fy), .int (zI lf), .int (zI un)])), zA cI ka 96 K, (se, .inr (3, [.ref de, .ref fi, .ref qu, .ref pr, .int (zI qd), .int (zI s1), .int (zI s2)])), (pr, .inr (0, [.int (zI qx), .int (zI qy), .int (zI ql)])), zA cI de 480 DD, zA cI fi 480 FF, zA cI qu 480 QQ]) [0, 1, 2, 3, 4, 5, 6, 7, 8, 9, 10] rfl
  have hDc := hD.sub (ws' := [(sl, .inr (5, [.ref sh, .int (zI lc), .ref ru, .ref tr, .ref se])), (ru, .inr (2, [.ref rh, .ref rt, .ref lv, .int (zI rp), .int (zI oc)])), (rh, .inr (0, [.int (zI hx9), .int (zI hy9), .int (zI hl9)])), (rt, .inr (4, [.ref ri, .int (zI rln), .int (zI rhf)])), (lv, .inr (1, [.int (zI w), .int (zI h), .ref ka, .ref ta, .int (zI sx), .int (zI sy), .int (zI fx), .int (zI fy), .int (zI lf), .int (zI un)])), zA cI ka 96 K, (se, .inr (3, [.ref de, .ref fi, .ref qu, .ref pr, .int (zI qd), .int (zI s1), .int (zI s2)])), (pr, .inr (0, [.int (zI qx), .int (zI qy), .int (zI ql)])), zA cI de 480 DD, zA cI fi 480 FF, zA cI qu 480 QQ]) [0, 1, 2, 3, 4, 5, 6, 7, 8, 9, 10] (by decide) rfl
  have hFc := va_free (wc := [(sl, .inr (5, [.ref sh, .int (zI lc), .ref ru, .ref tr, .ref se])), (ru, .inr (2, [.ref rh, .ref rt, .ref lv, .int (zI rp), .int (zI oc)])), (rh, .inr (0, [.int (zI hx9), .int (zI hy9), .int (zI hl9)])), (rt, .inr (4, [.ref ri, .int (zI rln), .int (zI rhf)])), (lv, .inr (1, [.int (zI w), .int (zI h), .ref ka, .ref ta, .int (zI sx), .int (zI sy), .int (zI fx), .int (zI fy), .int (zI lf), .int (zI un)])), zA cI ka 96 K, (se, .inr (3, [.ref de, .ref fi, .ref qu, .ref pr, .int (zI qd), .int (zI s1), .int (zI s2)])), (pr, .inr (0, [.int (zI qx), .int (zI qy), .int (zI ql)])), zA cI de 480 DD, zA cI fi 480 FF, zA cI qu 480 QQ]) hD hS hA [0, 1, 2, 3, 4, 5, 6, 7, 8, 9, 10] rfl
  refine va_callv (va_runV (As := []) (rest := []) ⟨hx, hb, hml, hown, hts⟩ (c_X5_findWinOfRun l dC dI cI cZ cL cT cJ s.heap.size sl sh lc ru tr se rh rt rp oc hx9 hy9 hl9 ri rln rhf lv w h ka ta sx sy fx fy lf un K de fi qu pr qd s1 s2 DD FF QQ qx qy ql (by first | assumption | omega) (by first | assumption | omega) (by first | assumption | omega) (by first | assumption | omega) (by first | assumption | omega) (by first | assumption | omega) (by first | assumption | omega) (by first | assumption | omega) (by first | assumption | omega) (by first | assumption | omega) (by first | assumption | omega) (by first | assumption | omega)) (cwV 0 hts gX5_left_X5_findWinOfRun rfl rfl rfl (by decide +kernel) ⟨Nat.le_of_ble_eq_true rfl, Nat.le_of_ble_eq_true rfl⟩) ⟨zP_blind, va_recv hK hPc (ci := 5) (q0 := 0) rfl rfl, zP_pre hPc hDc hK⟩ rfl rfl hl.1 rfl (lv_room (Nat.le_of_ble_eq_true rfl)) dX5_left_1 ⟨Nat.le_of_ble_eq_true rfl, Nat.le_of_ble_eq_true rfl⟩) hS (fun q _ h => hFc q h) hFc (fun u_1 t H1 locs ht hvm hw hB hz1 hk1 hS => ?_)
  obtain ⟨n1_2, s11_3, s21_4, D1_5, F1_6, Q1_7, qx1_8, qy1_9, ql1_10⟩ := u_1
  obtain ⟨hP1, hK1, hD1⟩ := hB
  rw [ht] at hP1
  have hP1 : va_P (dC, dI) vwCl [(sl, .inr (5, [.ref sh, .int (zI lc), .ref ru, .ref tr, .ref se])), (ru, .inr (2, [.ref rh, .ref rt, .ref lv, .int (zI rp), .int (zI oc)])), (rh, .inr (0, [.int (zI hx9), .int (zI hy9), .int (zI hl9)])), (rt, .inr (4, [.ref ri, .int (zI rln), .int (zI rhf)])), (lv, .inr (1, [.int (zI w), .int (zI h), .ref ka, .ref ta, .int (zI sx), .int (zI sy), .int (zI fx), .int (zI fy), .int (zI lf), .int (zI un)])), zA cI ka 96 K, (se, .inr (3, [.ref de, .ref fi, .ref qu, .ref pr, .int (zI n1_2), .int (zI s11_3), .int (zI s21_4)])), (pr, .inr (0, [.int (zI qx1_8), .int (zI qy1_9), .int (zI ql1_10)])), zA cI de 480 D1_5, zA cI fi 480 F1_6, zA cI qu 480 Q1_7] H1 := hP1
  obtain ⟨hP, hD⟩ := va_join (wr := []) (w1 := [(sl, .inr (5, [.ref sh, .int (zI lc), .ref ru, .ref tr, .ref se])), (ru, .inr (2, [.ref rh, .ref rt, .ref lv, .int (zI rp), .int (zI oc)])), (rh, .inr (0, [.int (zI hx9), .int (zI hy9), .int (zI hl9)])), (rt, .inr (4, [.ref ri, .int (zI rln), .int (zI rhf)])), (lv, .inr (1, [.int (zI w), .int (zI h), .ref ka, .ref ta, .int (zI sx), .int (zI sy), .int (zI fx), .int (zI fy), .int (zI lf), .int (zI un)])), zA cI ka 96 K, (se, .inr (3, [.ref de, .ref fi, .ref qu, .ref pr, .int (zI n1_2), .int (zI s11_3), .int (zI s21_4)])), (pr, .inr (0, [.int (zI qx1_8), .int (zI qy1_9), .int (zI ql1_10)])), zA cI de 480 D1_5, zA cI fi 480 F1_6, zA cI qu 480 Q1_7]) hP hD [0, 1, 2, 3, 4, 5, 6, 7, 8, 9, 10] [] rfl rfl (by decide) (by decide) hk1 hFc hP1 hD1
  clear hP1 hD1 hk1 hFc hPc hDc hz1
  generalize H1 = H at hP hS ⊢
  have hP : va_P (dC, dI) vwCl [(sl, .inr (5, [.ref sh, .int (zI lc), .ref ru, .ref tr, .ref se])), (ru, .inr (2, [.ref rh, .ref rt, .ref lv, .int (zI rp), .int (zI oc)])), (rh, .inr (0, [.int (zI hx9), .int (zI hy9), .int (zI hl9)])), (rt, .inr (4, [.ref ri, .int (zI rln), .int (zI rhf)])), (lv, .inr (1, [.int (zI w), .int (zI h), .ref ka, .ref ta, .int (zI sx), .int (zI sy), .int (zI fx), .int (zI fy), .int (zI lf), .int (zI un)])), zA cI ka 96 K, (se, .inr (3, [.ref de, .ref fi, .ref qu, .ref pr, .int (zI n1_2), .int (zI s11_3), .int (zI s21_4)])), (pr, .inr (0, [.int (zI qx1_8), .int (zI qy1_9), .int (zI ql1_10)])), zA cI de 480 D1_5, zA cI fi 480 F1_6, zA cI qu 480 Q1_7] H := hP.sub [0, 1, 2, 3, 4, 5, 6, 7, 8, 9, 10] rfl
  have hD : va_D A [(sl, .inr (5, [.ref sh, .int (zI lc), .ref ru, .ref tr, .ref se])), (ru, .inr (2, [.ref rh, .ref rt, .ref lv, .int (zI rp), .int (zI oc)])), (rh, .inr (0, [.int (zI hx9), .int (zI hy9), .int (zI hl9)])), (rt, .inr (4, [.ref ri, .int (zI rln), .int (zI rhf)])), (lv, .inr (1, [.int (zI w), .int (zI h), .ref ka, .ref ta, .int (zI sx), .int (zI sy), .int (zI fx), .int (zI fy), .int (zI lf), .int (zI un)])), zA cI ka 96 K, (se, .inr (3, [.ref de, .ref fi, .ref qu, .ref pr, .int (zI n1_2), .int (zI s11_3), .int (zI s21_4)])), (pr, .inr (0, [.int (zI qx1_8), .int (zI qy1_9), .int (zI ql1_10)])), zA cI de 480 D1_5, zA cI fi 480 F1_6, zA cI qu 480 Q1_7] := hD.sub [0, 1, 2, 3, 4, 5, 6, 7, 8, 9, 10] (by decide) rfl
  clear hK1 hvm
  have po_11 : Din D1_5 ∧ Fin6 F1_6 ∧ ∃ D0 F0 Q0, Din D0 ∧ Fin6 F0 ∧ (∀ j, 0 ≤ j → j < 480 → D0 j = -1) ∧ (s11_3, s21_4) = fwT K w h fx fy (100 - rln) (plc hx9 hy9 hl9) D0 F0 Q0 := hw
  refine W.eq (g2 := F0 m 4 ls []) rfl ?_
  refine lv_aload_n hx hb dX5_left_4 rfl (lv_at hl 0 rfl) ?_
  refine va_get (D := (dC, dI)) (ci := 5) (v := .ref se) (C := RX5) (T := TX5) (N := 5) hx hb hts i_5 hown hK hP 0 rfl rfl 4 (by decide) f_36 (fun _ h9 => h9) rfl dX5_left_5 ?_
  refine va_get (D := (dC, dI)) (ci := 3) (v := .int (zI s11_3)) (C := RX3) (T := TX3) (N := 7) hx hb hts i_3 hown hK hP 6 rfl rfl 5 (by decide) f_119 (fun _ h9 => h9) rfl dX5_left_8 ?_
  have hP9 := hP.sub (ws' := [(sl, .inr (5, [.ref sh, .int (zI lc), .ref ru, .ref tr, .ref se])), (ru, .inr (2, [.ref rh, .ref rt, .ref lv, .int (zI rp), .int (zI oc)])), (rh, .inr (0, [.int (zI hx9), .int (zI hy9), .int (zI hl9)])), (rt, .inr (4, [.ref ri, .int (zI rln), .int (zI rhf)])), (lv, .inr (1, [.int (zI w), .int (zI h), .ref ka, .ref ta, .int (zI sx), .int (zI sy), .int (zI fx), .int (zI fy), .int (zI lf), .int (zI un)])), zA cI ka 96 K, (se, .inr (3, [.ref de, .ref fi, .ref qu, .ref pr, .int (zI n1_2), .int (zI s11_3), .int (zI s21_4)])), (pr, .inr (0, [.int (zI qx1_8), .int (zI qy1_9), .int (zI ql1_10)])), zA cI de 480 D1_5, zA cI fi 480 F1_6, zA cI qu 480 Q1_7]) [0, 1, 2, 3, 4, 5, 6, 7, 8, 9, 10] rfl
  have hD9 := hD.sub (ws' := [(sl, .inr (5, [.ref sh, .int (zI lc), .ref ru, .ref tr, .ref se])), (ru, .inr (2, [.ref rh, .ref rt, .ref lv, .int (zI rp), .int (zI oc)])), (rh, .inr (0, [.int (zI hx9), .int (zI hy9), .int (zI hl9)])), (rt, .inr (4, [.ref ri, .int (zI rln), .int (zI rhf)])), (lv, .inr (1, [.int (zI w), .int (zI h), .ref ka, .ref ta, .int (zI sx), .int (zI sy), .int (zI fx), .int (zI fy), .int (zI lf), .int (zI un)])), zA cI ka 96 K, (se, .inr (3, [.ref de, .ref fi, .ref qu, .ref pr, .int (zI n1_2), .int (zI s11_3), .int (zI s21_4)])), (pr, .inr (0, [.int (zI qx1_8), .int (zI qy1_9), .int (zI ql1_10)])), zA cI de 480 D1_5, zA cI fi 480 F1_6, zA cI qu 480 Q1_7]) [0, 1, 2, 3, 4, 5, 6, 7, 8, 9, 10] (by decide) rfl
  have po : zI s11_3 = zI s11_3 ∧ (Din D1_5 ∧ Fin6 F1_6 ∧ ∃ D0 F0 Q0, Din D0 ∧ Fin6 F0 ∧ (∀ j, 0 ≤ j → j < 480 → D0 j = -1) ∧ (s11_3, s21_4) = fwT K w h fx fy (100 - rln) (plc hx9 hy9 hl9) D0 F0 Q0) := by
    refine ⟨by first | rfl | (congr 1; omega) | (congr 1; simp [*]), ?_⟩
    exact po_11
  exact W.iret (v := zI s11_3) hx hb hr (fun t ht hW => ⟨⟨zI s11_3, (n1_2, s11_3, s21_4, D1_5, F1_6, Q1_7, qx1_8, qy1_9, ql1_10), rfl, po, by rw [ht]; exact hP9, va_K.moved hW.alike hK, hD9⟩, hS.F ht⟩) hS.2.2 dX5_left_11
set_option maxHeartbeats 4000000 in
set_option maxRecDepth 100000 in
theorem c_X5_left_a (l : Launch) (dC : Nat → ClassId) (dI : Nat → Nat → Nat) (cI cZ cL cT cJ : ClassId) (sz : Nat) (sl : Nat) (sh : Nat) (lc : Int) (ru : Nat) (tr : Nat) (se : Nat) (rh : Nat) (rt : Nat) (rp : Int) (oc : Int) (de : Nat) (fi : Nat) (qu : Nat) (pr : Nat) (qd : Int) (s1 : Int) (s2 : Int)  : Met l yX5_left wsX5_left ({ frames := 6, cells := 0, slots := 0, locals := 143 }) (zP (dC, dI) (zT cI cZ cL cT cJ) sz [.ref sl] [(sl, .inr (5, [.ref sh, .int (zI lc), .ref ru, .ref tr, .ref se])), (ru, .inr (2, [.ref rh, .ref rt, .null, .int (zI rp), .int (zI oc)])), (se, .inr (3, [.ref de, .ref fi, .ref qu, .ref pr, .int (zI qd), .int (zI s1), .int (zI s2)]))]) (va_Qi (fun (r9 : Int32) (u9 : Unit) => match u9 with | _ => r9 = zI (-1) ∧ (True)) (zB (dC, dI) (zT cI cZ cL cT cJ) (va_A [(sl, .inr (5, [.ref sh, .int (zI lc), .ref ru, .ref tr, .ref se])), (ru, .inr (2, [.ref rh, .ref rt, .null, .int (zI rp), .int (zI oc)])), (se, .inr (3, [.ref de, .ref fi, .ref qu, .ref pr, .int (zI qd), .int (zI s1), .int (zI s2)]))] sz) (fun (u9 : Unit) => match u9 with | _ => [(sl, .inr (5, [.ref sh, .int (zI lc), .ref ru, .ref tr, .ref se])), (ru, .inr (2, [.ref rh, .ref rt, .null, .int (zI rp), .int (zI oc)])), (se, .inr (3, [.ref de, .ref fi, .ref qu, .ref pr, .int (zI qd), .int (zI (-1)), .int (zI (-1))]))])) (va_A [(sl, .inr (5, [.ref sh, .int (zI lc), .ref ru, .ref tr, .ref se])), (ru, .inr (2, [.ref rh, .ref rt, .null, .int (zI rp), .int (zI oc)])), (se, .inr (3, [.ref de, .ref fi, .ref qu, .ref pr, .int (zI qd), .int (zI s1), .int (zI s2)]))] sz)) 0 0 (va_A [(sl, .inr (5, [.ref sh, .int (zI lc), .ref ru, .ref tr, .ref se])), (ru, .inr (2, [.ref rh, .ref rt, .null, .int (zI rp), .int (zI oc)])), (se, .inr (3, [.ref de, .ref fi, .ref qu, .ref pr, .int (zI qd), .int (zI s1), .int (zI s2)]))] sz) := by
  refine Met.ofW (cc := cX5_left) (maxL := 1) (ret := (some .int)) (by decide) rfl ?_
  intro p e s m args below meth c s₁ B hml hv
  obtain ⟨rfl, hsz, hP, hK, hD0⟩ := hv
  have hx := B.exec
  have hb := B.bytes
  have hr := B.returns
  have hts := atoms_spec (ws := wsX5_left) B.pre
  have hown : s.vm.findClass RX5 = some m.cls := findClass_of_methodNamed B.named
  have hlocks := B.notSynchronized
  subst hsz
  have hD := hD0.self (sz := s.heap.size)
  generalize hAe : va_A [(sl, .inr (5, [.ref sh, .int (zI lc), .ref ru, .ref tr, .ref se])), (ru, .inr (2, [.ref rh, .ref rt, .null, .int (zI rp), .int (zI oc)])), (se, .inr (3, [.ref de, .ref fi, .ref qu, .ref pr, .int (zI qd), .int (zI s1), .int (zI s2)]))] s.heap.size = A at hD ⊢
  have hA : ∀ q : Nat, s.heap.size ≤ q → A q := fun q h => by rw [← hAe]; exact Or.inr h
  clear hAe hD0
  have hS : va_S A s.heap s.heap [] := va_S.rf
  have hP : va_P (dC, dI) vwCl [(sl, .inr (5, [.ref sh, .int (zI lc), .ref ru, .ref tr, .ref se])), (ru, .inr (2, [.ref rh, .ref rt, .null, .int (zI rp), .int (zI oc)])), (se, .inr (3, [.ref de, .ref fi, .ref qu, .ref pr, .int (zI qd), .int (zI s1), .int (zI s2)]))] s.heap := hP
  have f_36 := hts (.fieldLink RX5 36 "SpringLevels" "search" "LSpringLevels$Search;") (by decide +kernel)
  have f_119 := hts (.fieldLink RX5 119 "SpringLevels$Search" "leastFrames" "I") (by decide +kernel)
  have i_3 : ∀ w ∈ wsX30, w ∈ wsX5_left := by decide +kernel
  have i_5 : ∀ w ∈ wsX50, w ∈ wsX5_left := by decide +kernel
  have hl := lv_entry ([.ref sl]) (n := 1) (Nat.le_of_ble_eq_true rfl)
  rw [lg_entry_eq]
  generalize (lg_sl ([.ref sl]) ++ List.replicate (1 - (lg_sl ([.ref sl])).length) Slot.unset).toArray = ls at hl ⊢
  have hl : lv_has ls 1 [(0, .ref sl)] := hl
  refine lv_aload_n hx hb dX5_left_0 rfl (lv_at hl 0 rfl) ?_
  have hPc := hP.sub (ws' := [(sl, .inr (5, [.ref sh, .int (zI lc), .ref ru, .ref tr, .ref se])), (ru, .inr (2, [.ref rh, .ref rt, .null, .int (zI rp), .int (zI oc)])), (se, .inr (3, [.ref de, .ref fi, .ref qu, .ref pr, .int (zI qd), .int (zI s1), .int (zI s2)]))]) [0, 1, 2] rfl
  have hDc := hD.sub (ws' := [(sl, .inr (5, [.ref sh, .int (zI lc), .ref ru, .ref tr, .ref se])), (ru, .inr (2, [.ref rh, .ref rt, .null, .int (zI rp), .int (zI oc)])), (se, .inr (3, [.ref de, .ref fi, .ref qu, .ref pr, .int (zI qd), .int (zI s1), .int (zI s2)]))]) [0, 1, 2] (by decide) rfl
  have hFc := va_free (wc := [(sl, .inr (5, [.ref sh, .int (zI lc), .ref ru, .ref tr, .ref se])), (ru, .inr (2, [.ref rh, .ref rt, .null, .int (zI rp), .int (zI oc)])), (se, .inr (3, [.ref de, .ref fi, .ref qu, .ref pr, .int (zI qd), .int (zI s1), .int (zI s2)]))]) hD hS hA [0, 1, 2] rfl
  refine va_callv (va_runV (As := []) (rest := []) ⟨hx, hb, hml, hown, hts⟩ (c_X5_findWinOfRun_a l dC dI cI cZ cL cT cJ s.heap.size sl sh lc ru tr se rh rt rp oc de fi qu pr qd s1 s2 ) (cwV 0 hts gX5_left_X5_findWinOfRun rfl rfl rfl (by decide +kernel) ⟨Nat.le_of_ble_eq_true rfl, Nat.le_of_ble_eq_true rfl⟩) ⟨zP_blind, va_recv hK hPc (ci := 5) (q0 := 0) rfl rfl, zP_pre hPc hDc hK⟩ rfl rfl hl.1 rfl (lv_room (Nat.le_of_ble_eq_true rfl)) dX5_left_1 ⟨Nat.le_of_ble_eq_true rfl, Nat.le_of_ble_eq_true rfl⟩) hS (fun q _ h => hFc q h) hFc (fun u_1 t H1 locs ht hvm hw hB hz1 hk1 hS => ?_)
  obtain ⟨hP1, hK1, hD1⟩ := hB
  rw [ht] at hP1
  have hP1 : va_P (dC, dI) vwCl [(sl, .inr (5, [.ref sh, .int (zI lc), .ref ru, .ref tr, .ref se])), (ru, .inr (2, [.ref rh, .ref rt, .null, .int (zI rp), .int (zI oc)])), (se, .inr (3, [.ref de, .ref fi, .ref qu, .ref pr, .int (zI qd), .int (zI (-1)), .int (zI (-1))]))] H1 := hP1
  obtain ⟨hP, hD⟩ := va_join (wr := []) (w1 := [(sl, .inr (5, [.ref sh, .int (zI lc), .ref ru, .ref tr, .ref se])), (ru, .inr (2, [.ref rh, .ref rt, .null, .int (zI rp), .int (zI oc)])), (se, .inr (3, [.ref de, .ref fi, .ref qu, .ref pr, .int (zI qd), .int (zI (-1)), .int (zI (-1))]))]) hP hD [0, 1, 2] [] rfl rfl (by decide) (by decide) hk1 hFc hP1 hD1
  clear hP1 hD1 hk1 hFc hPc hDc hz1
  generalize H1 = H at hP hS ⊢
  have hP : va_P (dC, dI) vwCl [(sl, .inr (5, [.ref sh, .int (zI lc), .ref ru, .ref tr, .ref se])), (ru, .inr (2, [.ref rh, .ref rt, .null, .int (zI rp), .int (zI oc)])), (se, .inr (3, [.ref de, .ref fi, .ref qu, .ref pr, .int (zI qd), .int (zI (-1)), .int (zI (-1))]))] H := hP.sub [0, 1, 2] rfl
  have hD : va_D A [(sl, .inr (5, [.ref sh, .int (zI lc), .ref ru, .ref tr, .ref se])), (ru, .inr (2, [.ref rh, .ref rt, .null, .int (zI rp), .int (zI oc)])), (se, .inr (3, [.ref de, .ref fi, .ref qu, .ref pr, .int (zI qd), .int (zI (-1)), .int (zI (-1))]))] := hD.sub [0, 1, 2] (by decide) rfl
  clear hK1 hvm
  refine W.eq (g2 := F0 m 4 ls []) rfl ?_
  refine lv_aload_n hx hb dX5_left_4 rfl (lv_at hl 0 rfl) ?_
  refine va_get (D := (dC, dI)) (ci := 5) (v := .ref se) (C := RX5) (T := TX5) (N := 5) hx hb hts i_5 hown hK hP 0 rfl rfl 4 (by decide) f_36 (fun _ h9 => h9) rfl dX5_left_5 ?_
  refine va_get (D := (dC, dI)) (ci := 3) (v := .int (zI (-1))) (C := RX3) (T := TX3) (N := 7) hx hb hts i_3 hown hK hP 2 rfl rfl 5 (by decide) f_119 (fun _ h9 => h9) rfl dX5_left_8 ?_
  have hP9 := hP.sub (ws' := [(sl, .inr (5, [.ref sh, .int (zI lc), .ref ru, .ref tr, .ref se])), (ru, .inr (2, [.ref rh, .ref rt, .null, .int (zI rp), .int (zI oc)])), (se, .inr (3, [.ref de, .ref fi, .ref qu, .ref pr, .int (zI qd), .int (zI (-1)), .int (zI (-1))]))]) [0, 1, 2] rfl
  have hD9 := hD.sub (ws' := [(sl, .inr (5, [.ref sh, .int (zI lc), .ref ru, .ref tr, .ref se])), (ru, .inr (2, [.ref rh, .ref rt, .null, .int (zI rp), .int (zI oc)])), (se, .inr (3, [.ref de, .ref fi, .ref qu, .ref pr, .int (zI qd), .int (zI (-1)), .int (zI (-1))]))]) [0, 1, 2] (by decide) rfl
  have po : zI (-1) = zI (-1) ∧ (True) := by
    refine ⟨by first | rfl | (congr 1; omega) | (congr 1; simp [*]), ?_⟩
    trivial
  exact W.iret (v := zI (-1)) hx hb hr (fun t ht hW => ⟨⟨zI (-1), (), rfl, po, by rw [ht]; exact hP9, va_K.moved hW.alike hK, hD9⟩, hS.F ht⟩) hS.2.2 dX5_left_11
set_option maxHeartbeats 4000000 in
set_option maxRecDepth 100000 in
theorem c_X5_left_b (l : Launch) (dC : Nat → ClassId) (dI : Nat → Nat → Nat) (cI cZ cL cT cJ : ClassId) (sz : Nat) (sl : Nat) (sh : Nat) (lc : Int) (ru : Nat) (tr : Nat) (se : Nat) (rh : Nat) (rt : Nat) (rp : Int) (oc : Int) (de : Nat) (fi : Nat) (qu : Nat) (pr : Nat) (qd : Int) (s1 : Int) (s2 : Int) (lv : Nat) (goc : ¬ oc = 0) (goc2 : 0 ≤ oc ∧ oc ≤ 2) : Met l yX5_left wsX5_left ({ frames := 6, cells := 0, slots := 0, locals := 143 }) (zP (dC, dI) (zT cI cZ cL cT cJ) sz [.ref sl] [(sl, .inr (5, [.ref sh, .int (zI lc), .ref ru, .ref tr, .ref se])), (ru, .inr (2, [.ref rh, .ref rt, .ref lv, .int (zI rp), .int (zI oc)])), (se, .inr (3, [.ref de, .ref fi, .ref qu, .ref pr, .int (zI qd), .int (zI s1), .int (zI s2)]))]) (va_Qi (fun (r9 : Int32) (u9 : Unit) => match u9 with | _ => r9 = zI (-1) ∧ (True)) (zB (dC, dI) (zT cI cZ cL cT cJ) (va_A [(sl, .inr (5, [.ref sh, .int (zI lc), .ref ru, .ref tr, .ref se])), (ru, .inr (2, [.ref rh, .ref rt, .ref lv, .int (zI rp), .int (zI oc)])), (se, .inr (3, [.ref de, .ref fi, .ref qu, .ref pr, .int (zI qd), .int (zI s1), .int (zI s2)]))] sz) (fun (u9 : Unit) => match u9 with | _ => [(sl, .inr (5, [.ref sh, .int (zI lc), .ref ru, .ref tr, .ref se])), (ru, .inr (2, [.ref rh, .ref rt, .ref lv, .int (zI rp), .int (zI oc)])), (se, .inr (3, [.ref de, .ref fi, .ref qu, .ref pr, .int (zI qd), .int (zI (-1)), .int (zI (-1))]))])) (va_A [(sl, .inr (5, [.ref sh, .int (zI lc), .ref ru, .ref tr, .ref se])), (ru, .inr (2, [.ref rh, .ref rt, .ref lv, .int (zI rp), .int (zI oc)])), (se, .inr (3, [.ref de, .ref fi, .ref qu, .ref pr, .int (zI qd), .int (zI s1), .int (zI s2)]))] sz)) 0 0 (va_A [(sl, .inr (5, [.ref sh, .int (zI lc), .ref ru, .ref tr, .ref se])), (ru, .inr (2, [.ref rh, .ref rt, .ref lv, .int (zI rp), .int (zI oc)])), (se, .inr (3, [.ref de, .ref fi, .ref qu, .ref pr, .int (zI qd), .int (zI s1), .int (zI s2)]))] sz) := by
  refine Met.ofW (cc := cX5_left) (maxL := 1) (ret := (some .int)) (by decide) rfl ?_
  intro p e s m args below meth c s₁ B hml hv
  obtain ⟨rfl, hsz, hP, hK, hD0⟩ := hv
  have hx := B.exec
  have hb := B.bytes
  have hr := B.returns
  have hts := atoms_spec (ws := wsX5_left) B.pre
  have hown : s.vm.findClass RX5 = some m.cls := findClass_of_methodNamed B.named
  have hlocks := B.notSynchronized
  subst hsz
  have hD := hD0.self (sz := s.heap.size)
  generalize hAe : va_A [(sl, .inr (5, [.ref sh, .int (zI lc), .ref ru, .ref tr, .ref se])), (ru, .inr (2, [.ref rh, .ref rt, .ref lv, .int (zI rp), .int (zI oc)])), (se, .inr (3, [.ref de, .ref fi, .ref qu, .ref pr, .int (zI qd), .int (zI s1), .int (zI s2)]))] s.heap.size = A at hD ⊢
  have hA : ∀ q : Nat, s.heap.size ≤ q → A q := fun q h => by rw [← hAe]; exact Or.inr h
  clear hAe hD0
  have hS : va_S A s.heap s.heap [] := va_S.rf
  have hP : va_P (dC, dI) vwCl [(sl, .inr (5, [.ref sh, .int (zI lc), .ref ru, .ref tr, .ref se])), (ru, .inr (2, [.ref rh, .ref rt, .ref lv, .int (zI rp), .int (zI oc)])), (se, .inr (3, [.ref de, .ref fi, .ref qu, .ref pr, .int (zI qd), .int (zI s1), .int (zI s2)]))] s.heap := hP
  have f_36 := hts (.fieldLink RX5 36 "SpringLevels" "search" "LSpringLevels$Search;") (by decide +kernel)
  have f_119 := hts (.fieldLink RX5 119 "SpringLevels$Search" "leastFrames" "I") (by decide +kernel)
  have i_3 : ∀ w ∈ wsX30, w ∈ wsX5_left := by decide +kernel
  have i_5 : ∀ w ∈ wsX50, w ∈ wsX5_left := by decide +kernel
  have hl := lv_entry ([.ref sl]) (n := 1) (Nat.le_of_ble_eq_true rfl)
  rw [lg_entry_eq]
  generalize (lg_sl ([.ref sl]) ++ List.replicate (1 - (lg_sl ([.ref sl])).length) Slot.unset).toArray = ls at hl ⊢
  have hl : lv_has ls 1 [(0, .ref sl)] := hl
  refine lv_aload_n hx hb dX5_left_0 rfl (lv_at hl 0 rfl) ?_
  have hPc := hP.sub (ws' := [(sl, .inr (5, [.ref sh, .int (zI lc), .ref ru, .ref tr, .ref se])), (ru, .inr (2, [.ref rh, .ref rt, .ref lv, .int (zI rp), .int (zI oc)])), (se, .inr (3, [.ref de, .ref fi, .ref qu, .ref pr, .int (zI qd), .int (zI s1), .int (zI s2)]))]) [0, 1, 2] rfl
  have hDc := hD.sub (ws' := [(sl, .inr (5, [.ref sh, .int (zI lc), .ref ru, .ref tr, .ref se])), (ru, .inr (2, [.ref rh, .ref rt, .ref lv, .int (zI rp), .int (zI oc)])), (se, .inr (3, [.ref de, .ref fi, .ref qu, .ref pr, .int (zI qd), .int (zI s1), .int (zI s2)]))]) [0, 1, 2] (by decide) rfl
  have hFc := va_free (wc := [(sl, .inr (5, [.ref sh, .int (zI lc), .ref ru, .ref tr, .ref se])), (ru, .inr (2, [.ref rh, .ref rt, .ref lv, .int (zI rp), .int (zI oc)])), (se, .inr (3, [.ref de, .ref fi, .ref qu, .ref pr, .int (zI qd), .int (zI s1), .int (zI s2)]))]) hD hS hA [0, 1, 2] rfl
  refine va_callv (va_runV (As := []) (rest := []) ⟨hx, hb, hml, hown, hts⟩ (c_X5_findWinOfRun_b l dC dI cI cZ cL cT cJ s.heap.size sl sh lc ru tr se rh rt rp oc de fi qu pr qd s1 s2 lv (by first | assumption | omega) (by first | assumption | omega)) (cwV 0 hts gX5_left_X5_findWinOfRun rfl rfl rfl (by decide +kernel) ⟨Nat.le_of_ble_eq_true rfl, Nat.le_of_ble_eq_true rfl⟩) ⟨zP_blind, va_recv hK hPc (ci := 5) (q0 := 0) rfl rfl, zP_pre hPc hDc hK⟩ rfl rfl hl.1 rfl (lv_room (Nat.le_of_ble_eq_true rfl)) dX5_left_1 ⟨Nat.le_of_ble_eq_true rfl, Nat.le_of_ble_eq_true rfl⟩) hS (fun q _ h => hFc q h) hFc (fun u_1 t H1 locs ht hvm hw hB hz1 hk1 hS => ?_)
  obtain ⟨hP1, hK1, hD1⟩ := hB
  rw [ht] at hP1
  have hP1 : va_P (dC, dI) vwCl [(sl, .inr (5, [.ref sh, .int (zI lc), .ref ru, .ref tr, .ref se])), (ru, .inr (2, [.ref rh, .ref rt, .ref lv, .int (zI rp), .int (zI oc)])), (se, .inr (3, [.ref de, .ref fi, .ref qu, .ref pr, .int (zI qd), .int (zI (-1)), .int (zI (-1))]))] H1 := hP1
  obtain ⟨hP, hD⟩ := va_join (wr := []) (w1 := [(sl, .inr (5, [.ref sh, .int (zI lc), .ref ru, .ref tr, .ref se])), (ru, .inr (2, [.ref rh, .ref rt, .ref lv, .int (zI rp), .int (zI oc)])), (se, .inr (3, [.ref de, .ref fi, .ref qu, .ref pr, .int (zI qd), .int (zI (-1)), .int (zI (-1))]))]) hP hD [0, 1, 2] [] rfl rfl (by decide) (by decide) hk1 hFc hP1 hD1
  clear hP1 hD1 hk1 hFc hPc hDc hz1
  generalize H1 = H at hP hS ⊢
  have hP : va_P (dC, dI) vwCl [(sl, .inr (5, [.ref sh, .int (zI lc), .ref ru, .ref tr, .ref se])), (ru, .inr (2, [.ref rh, .ref rt, .ref lv, .int (zI rp), .int (zI oc)])), (se, .inr (3, [.ref de, .ref fi, .ref qu, .ref pr, .int (zI qd), .int (zI (-1)), .int (zI (-1))]))] H := hP.sub [0, 1, 2] rfl
  have hD : va_D A [(sl, .inr (5, [.ref sh, .int (zI lc), .ref ru, .ref tr, .ref se])), (ru, .inr (2, [.ref rh, .ref rt, .ref lv, .int (zI rp), .int (zI oc)])), (se, .inr (3, [.ref de, .ref fi, .ref qu, .ref pr, .int (zI qd), .int (zI (-1)), .int (zI (-1))]))] := hD.sub [0, 1, 2] (by decide) rfl
  clear hK1 hvm
  refine W.eq (g2 := F0 m 4 ls []) rfl ?_
  refine lv_aload_n hx hb dX5_left_4 rfl (lv_at hl 0 rfl) ?_
  refine va_get (D := (dC, dI)) (ci := 5) (v := .ref se) (C := RX5) (T := TX5) (N := 5) hx hb hts i_5 hown hK hP 0 rfl rfl 4 (by decide) f_36 (fun _ h9 => h9) rfl dX5_left_5 ?_
  refine va_get (D := (dC, dI)) (ci := 3) (v := .int (zI (-1))) (C := RX3) (T := TX3) (N := 7) hx hb hts i_3 hown hK hP 2 rfl rfl 5 (by decide) f_119 (fun _ h9 => h9) rfl dX5_left_8 ?_
  have hP9 := hP.sub (ws' := [(sl, .inr (5, [.ref sh, .int (zI lc), .ref ru, .ref tr, .ref se])), (ru, .inr (2, [.ref rh, .ref rt, .ref lv, .int (zI rp), .int (zI oc)])), (se, .inr (3, [.ref de, .ref fi, .ref qu, .ref pr, .int (zI qd), .int (zI (-1)), .int (zI (-1))]))]) [0, 1, 2] rfl
  have hD9 := hD.sub (ws' := [(sl, .inr (5, [.ref sh, .int (zI lc), .ref ru, .ref tr, .ref se])), (ru, .inr (2, [.ref rh, .ref rt, .ref lv, .int (zI rp), .int (zI oc)])), (se, .inr (3, [.ref de, .ref fi, .ref qu, .ref pr, .int (zI qd), .int (zI (-1)), .int (zI (-1))]))]) [0, 1, 2] (by decide) rfl
  have po : zI (-1) = zI (-1) ∧ (True) := by
    refine ⟨by first | rfl | (congr 1; omega) | (congr 1; simp [*]), ?_⟩
    trivial
  exact W.iret (v := zI (-1)) hx hb hr (fun t ht hW => ⟨⟨zI (-1), (), rfl, po, by rw [ht]; exact hP9, va_K.moved hW.alike hK, hD9⟩, hS.F ht⟩) hS.2.2 dX5_left_11
set_option maxHeartbeats 4000000 in
set_option maxRecDepth 100000 in
theorem c_X5_hint (l : Launch) (dC : Nat → ClassId) (dI : Nat → Nat → Nat) (cI cZ cL cT cJ : ClassId) (sz : Nat) (sl : Nat) (sh : Nat) (lc : Int) (ru : Nat) (tr : Nat) (se : Nat) (rh : Nat) (rt : Nat) (rp : Int) (oc : Int) (hx9 : Int) (hy9 : Int) (hl9 : Int) (ri : Nat) (rln : Int) (rhf : Int) (lv : Nat) (w : Int) (h : Int) (ka : Nat) (ta : Nat) (sx : Int) (sy : Int) (fx : Int) (fy : Int) (lf : Int) (un : Int) (K : Int → Int) (de : Nat) (fi : Nat) (qu : Nat) (pr : Nat) (qd : Int) (s1 : Int) (s2 : Int) (DD : Int → Int) (FF : Int → Int) (QQ : Int → Int) (qx : Int) (qy : Int) (ql : Int) (gw : 0 < w ∧ w ≤ 12) (gh : 0 < h ∧ h ≤ 8) (gK : Kin K) (gf : -2147483648 ≤ fx ∧ fx < 2147483648) (gf2 : -2147483648 ≤ fy ∧ fy < 2147483648) (goc : oc = 0) (grx : 0 ≤ hx9 ∧ hx9 < w) (gry : 0 ≤ hy9 ∧ hy9 < h) (grl : 0 ≤ hl9 ∧ hl9 ≤ 4) (gn : 0 ≤ rln ∧ rln ≤ 100) (gD : Din DD) (gFF : Fin6 FF) : Met l yX5_hint wsX5_hint ({ frames := 6, cells := 0, slots := 0, locals := 143 }) (zP (dC, dI) (zT cI cZ cL cT cJ) sz [.ref sl] [(sl, .inr (5, [.ref sh, .int (zI lc), .ref ru, .ref tr, .ref se])), (ru, .inr (2, [.ref rh, .ref rt, .ref lv, .int (zI rp), .int (zI oc)])), (rh, .inr (0, [.int (zI hx9), .int (zI hy9), .int (zI hl9)])), (rt, .inr (4, [.ref ri, .int (zI rln), .int (zI rhf)])), (lv, .inr (1, [.int (zI w), .int (zI h), .ref ka, .ref ta, .int (zI sx), .int (zI sy), .int (zI fx), .int (zI fy), .int (zI lf), .int (zI un)])), zA cI ka 96 K, (se, .inr (3, [.ref de, .ref fi, .ref qu, .ref pr, .int (zI qd), .int (zI s1), .int (zI s2)])), (pr, .inr (0, [.int (zI qx), .int (zI qy), .int (zI ql)])), zA cI de 480 DD, zA cI fi 480 FF, zA cI qu 480 QQ]) (va_Qi (fun (r9 : Int32) (u9 : Int × Int × Int × (Int → Int) × (Int → Int) × (Int → Int) × Int × Int × Int) => match u9 with | (n1, s11, s21, D1, F1, Q1, qx1, qy1, ql1) => r9 = zI s21 ∧ (Din D1 ∧ Fin6 F1 ∧ ∃ D0 F0 Q0, Din D0 ∧ Fin6 F0 ∧ (∀ j, 0 ≤ j → j < 480 → D0 j = -1) ∧ (s11, s21) = fwT K w h fx fy (100 - rln) (plc hx9 hy9 hl9) D0 F0 Q0)) (zB (dC, dI) (zT cI cZ cL cT cJ) (va_A [(sl, .inr (5, [.ref sh, .int (zI lc), .ref ru, .ref tr, .ref se])), (ru, .inr (2, [.ref rh, .ref rt, .ref lv, .int (zI rp), .int (zI oc)])), (rh, .inr (0, [.int (zI hx9), .int (zI hy9), .int (zI hl9)])), (rt, .inr (4, [.ref ri, .int (zI rln), .int (zI rhf)])), (lv, .inr (1, [.int (zI w), .int (zI h), .ref ka, .ref ta, .int (zI sx), .int (zI sy), .int (zI fx), .int (zI fy), .int (zI lf), .int (zI un)])), zA cI ka 96 K, (se, .inr (3, [.ref de, .ref fi, .ref qu, .ref pr, .int (zI qd), .int (zI s1), .int (zI s2)])), (pr, .inr (0, [.int (zI qx), .int (zI qy), .int (zI ql)])), zA cI de 480 DD, zA cI fi 480 FF, zA cI qu 480 QQ] sz) (fun (u9 : Int × Int × Int × (Int → Int) × (Int → Int) × (Int → Int) × Int × Int × Int) => match u9 with | (n1, s11, s21, D1, F1, Q1, qx1, qy1, ql1) => [(sl, .inr (5, [.ref sh, .int (zI lc), .ref ru, .ref tr, .ref se])), (ru, .inr (2, [.ref rh, .ref rt, .ref lv, .int (zI rp), .int (zI oc)])), (rh, .inr (0, [.int (zI hx9), .int (zI hy9), .int (zI hl9)])), (rt, .inr (4, [.ref ri, .int (zI rln), .int (zI rhf)])), (lv, .inr (1, [.int (zI w), .int (zI h), .ref ka, .ref ta, .int (zI sx), .int (zI sy), .int (zI fx), .int (zI fy), .int (zI lf), .int (zI un)])), zA cI ka 96 K, (se, .inr (3, [.ref de, .ref fi, .ref qu, .ref pr, .int (zI n1), .int (zI s11), .int (zI s21)])), (pr, .inr (0, [.int (zI qx1), .int (zI qy1), .int (zI ql1)])), zA cI de 480 D1, zA cI fi 480 F1, zA cI qu 480 Q1])) (va_A [(sl, .inr (5, [.ref sh, .int (zI lc), .ref ru, .ref tr, .ref se])), (ru, .inr (2, [.ref rh, .ref rt, .ref lv, .int (zI rp), .int (zI oc)])), (rh, .inr (0, [.int (zI hx9), .int (zI hy9), .int (zI hl9)])), (rt, .inr (4, [.ref ri, .int (zI rln), .int (zI rhf)])), (lv, .inr (1, [.int (zI w), .int (zI h), .ref ka, .ref ta, .int (zI sx), .int (zI sy), .int (zI fx), .int (zI fy), .int (zI lf), .int (zI un)])), zA cI ka 96 K, (se, .inr (3, [.ref de, .ref fi, .ref qu, .ref pr, .int (zI qd), .int (zI s1), .int (zI s2)])), (pr, .inr (0, [.int (zI qx), .int (zI qy), .int (zI ql)])), zA cI de 480 DD, zA cI fi 480 FF, zA cI qu 480 QQ] sz)) 0 0 (va_A [(sl, .inr (5, [.ref sh, .int (zI lc), .ref ru, .ref tr, .ref se])), (ru, .inr (2, [.ref rh, .ref rt, .ref lv, .int (zI rp), .int (zI oc)])), (rh, .inr (0, [.int (zI hx9), .int (zI hy9), .int (zI hl9)])), (rt, .inr (4, [.ref ri, .int (zI rln), .int (zI rhf)])), (lv, .inr (1, [.int (zI w), .int (zI h), .ref ka, .ref ta, .int (zI sx), .int (zI sy), .int (zI fx), .int (zI fy), .int (zI lf), .int (zI un)])), zA cI ka 96 K, (se, .inr (3, [.ref de, .ref fi, .ref qu, .ref pr, .int (zI qd), .int (zI s1), .int (zI s2)])), (pr, .inr (0, [.int (zI qx), .int (zI qy), .int (zI ql)])), zA cI de 480 DD, zA cI fi 480 FF, zA cI qu 480 QQ] sz) := by
  refine Met.ofW (cc := cX5_hint) (maxL := 1) (ret := (some .int)) (by decide) rfl ?_
  intro p e s m args below meth c s₁ B hml hv
  obtain ⟨rfl, hsz, hP, hK, hD0⟩ := hv
  have hx := B.exec
  have hb := B.bytes
  have hr := B.returns
  have hts := atoms_spec (ws := wsX5_hint) B.pre
  have hown : s.vm.findClass RX5 = some m.cls := findClass_of_methodNamed B.named
  have hlocks := B.notSynchronized
  subst hsz
  have hD := hD0.self (sz := s.heap.size)
  generalize hAe : va_A [(sl, .inr (5, [.ref sh, .int (zI lc), .ref ru, .ref tr, .ref se])), (ru, .inr (2, [.ref rh, .ref rt, .ref lv, .int (zI rp), .int (zI oc)])), (rh, .inr (0, [.int (zI hx9), .int (zI hy9), .int (zI hl9)])), (rt, .inr (4, [.ref ri, .int (zI rln), .int (zI rhf)])), (lv, .inr (1, [.int (zI w), .int (zI h), .ref ka, .ref ta, .int (zI sx), .int (zI sy), .int (zI fx), .int (zI fy), .int (zI lf), .int (zI un)])), zA cI ka 96 K, (se, .inr (3, [.ref de, .ref fi, .ref qu, .ref pr, .int (zI qd), .int (zI s1), .int (zI s2)])), (pr, .inr (0, [.int (zI qx), .int (zI qy), .int (zI ql)])), zA cI de 480 DD, zA cI fi 480 FF, zA cI qu 480 QQ] s.heap.size = A at hD ⊢
  have hA : ∀ q : Nat, s.heap.size ≤ q → A q := fun q h => by rw [← hAe]; exact Or.inr h
  clear hAe hD0
  have hS : va_S A s.heap s.heap [] := va_S.rf
  have hP : va_P (dC, dI) vwCl [(sl, .inr (5, [.ref sh, .int (zI lc), .ref ru, .ref tr, .ref se])), (ru, .inr (2, [.ref rh, .ref rt, .ref lv, .int (zI rp), .int (zI oc)])), (rh, .inr (0, [.int (zI hx9), .int (zI hy9), .int (zI hl9)])), (rt, .inr (4, [.ref ri, .int (zI rln), .int (zI rhf)])), (lv, .inr (1, [.int (zI w), .int (zI h), .ref ka, .ref ta, .int (zI sx), .int (zI sy), .int (zI fx), .int (zI fy), .int (zI lf), .int (zI un)])), zA cI ka 96 K, (se, .inr (3, [.ref de, .ref fi, .ref qu, .ref pr, .int (zI qd), .int (zI s1), .int (zI s2)])), (pr, .inr (0, [.int (zI qx), .int (zI qy), .int (zI ql)])), zA cI de 480 DD, zA cI fi 480 FF, zA cI qu 480 QQ] s.heap := hP
  have f_36 := hts (.fieldLink RX5 36 "SpringLevels" "search" "LSpringLevels$Search;") (by decide +kernel)
  have f_186 := hts (.fieldLink RX5 186 "SpringLevels$Search" "firstInput" "I") (by decide +kernel)
  have i_3 : ∀ w ∈ wsX30, w ∈ wsX5_hint := by decide +kernel
  have i_5 : ∀ w ∈ wsX50, w ∈ wsX5_hint := by decide +kernel
  have hl := lv_entry ([.ref sl]) (n := 1) (Nat.le_of_ble_eq_true rfl)
  rw [lg_entry_eq]
  generalize (lg_sl ([.ref sl]) ++ List.replicate (1 - (lg_sl ([.ref sl])).length) Slot.unset).toArray = ls at hl ⊢
  have hl : lv_has ls 1 [(0, .ref sl)] := hl
  refine lv_aload_n hx hb dX5_hint_0 rfl (lv_at hl 0 rfl) ?_
  have hPc := hP.sub (ws' := [(sl, .inr (5, [.ref sh, .int (zI lc), .ref ru, .ref tr, .ref se])), (ru, .inr (2, [.ref rh, .ref rt, .ref lv, .int (zI rp), .int (zI oc)])), (rh, .inr (0, [.int (zI hx9), .int (zI hy9), .int (zI hl9)])), (rt, .inr (4, [.ref ri, .int (zI rln), .int (zI rhf)])), (lv, .inr (1, [.int (zI w), .int (zI h), .ref ka, .ref ta, .int (zI sx), .int (zI sy), .int (zI fx), .int (zI fy), .int (zI lf), .int (zI un)])), zA cI ka 96 K, (se, .inr (3, [.ref de, .ref fi, .ref qu, .ref pr, .int (zI qd), .int (zI s1), .int (zI s2)])), (pr, .inr (0, [.int (zI qx), .int (zI qy), .int (zI ql)])), zA cI de 480 DD, zA cI fi 480 FF, zA cI qu 480 QQ]) [0, 1, 2, 3, 4, 5, 6, 7, 8, 9, 10] rfl
  have hDc := hD.sub (ws' := [(sl, .inr (5, [.ref sh, .int (zI lc), .ref ru, .ref tr, .ref se])), (ru, .inr (2, [.ref rh, .ref rt, .ref lv, .int (zI rp), .int (zI oc)])), (rh, .inr (0, [.int (zI hx9), .int (zI hy9), .int (zI hl9)])), (rt, .inr (4, [.ref ri, .int (zI rln), .int (zI rhf)])), (lv, .inr (1, [.int (zI w), .int (zI h), .ref ka, .ref ta, .int (zI sx), .int (zI sy), .int (zI fx), .int (zI fy), .int (zI lf), .int (zI un)])), zA cI ka 96 K, (se, .inr (3, [.ref de, .ref fi, .ref qu, .ref pr, .int (zI qd), .int (zI s1), .int (zI s2)])), (pr, .inr (0, [.int (zI qx), .int (zI qy), .int (zI ql)])), zA cI de 480 DD, zA cI fi 480 FF, zA cI qu 480 QQ]) [0, 1, 2, 3, 4, 5, 6, 7, 8, 9, 10] (by decide) rfl
  have hFc := va_free (wc := [(sl, .inr (5, [.ref sh, .int (zI lc), .ref ru, .ref tr, .ref se])), (ru, .inr (2, [.ref rh, .ref rt, .ref lv, .int (zI rp), .int (zI oc)])), (rh, .inr (0, [.int (zI hx9), .int (zI hy9), .int (zI hl9)])), (rt, .inr (4, [.ref ri, .int (zI rln), .int (zI rhf)])), (lv, .inr (1, [.int (zI w), .int (zI h), .ref ka, .ref ta, .int (zI sx), .int (zI sy), .int (zI fx), .int (zI fy), .int (zI lf), .int (zI un)])), zA cI ka 96 K, (se, .inr (3, [.ref de, .ref fi, .ref qu, .ref pr, .int (zI qd), .int (zI s1), .int (zI s2)])), (pr, .inr (0, [.int (zI qx), .int (zI qy), .int (zI ql)])), zA cI de 480 DD, zA cI fi 480 FF, zA cI qu 480 QQ]) hD hS hA [0, 1, 2, 3, 4, 5, 6, 7, 8, 9, 10] rfl
  refine va_callv (va_runV (As := []) (rest := []) ⟨hx, hb, hml, hown, hts⟩ (c_X5_findWinOfRun l dC dI cI cZ cL cT cJ s.heap.size sl sh lc ru tr se rh rt rp oc hx9 hy9 hl9 ri rln rhf lv w h ka ta sx sy fx fy lf un K de fi qu pr qd s1 s2 DD FF QQ qx qy ql (by first | assumption | omega) (by first | assumption | omega) (by first | assumption | omega) (by first | assumption | omega) (by first | assumption | omega) (by first | assumption | omega) (by first | assumption | omega) (by first | assumption | omega) (by first | assumption | omega) (by first | assumption | omega) (by first | assumption | omega) (by first | assumption | omega)) (cwV 0 hts gX5_hint_X5_findWinOfRun rfl rfl rfl (by decide +kernel) ⟨Nat.le_of_ble_eq_true rfl, Nat.le_of_ble_eq_true rfl⟩) ⟨zP_blind, va_recv hK hPc (ci := 5) (q0 := 0) rfl rfl, zP_pre hPc hDc hK⟩ rfl rfl hl.1 rfl (lv_room (Nat.le_of_ble_eq_true rfl)) dX5_hint_1 ⟨Nat.le_of_ble_eq_true rfl, Nat.le_of_ble_eq_true rfl⟩) hS (fun q _ h => hFc q h) hFc (fun u_1 t H1 locs ht hvm hw hB hz1 hk1 hS => ?_)
  obtain ⟨n1_2, s11_3, s21_4, D1_5, F1_6, Q1_7, qx1_8, qy1_9, ql1_10⟩ := u_1
  obtain ⟨hP1, hK1, hD1⟩ := hB
  rw [ht] at hP1
  have hP1 : va_P (dC, dI) vwCl [(sl, .inr (5, [.ref sh, .int (zI lc), .ref ru, .ref tr, .ref se])), (ru, .inr (2, [.ref rh, .ref rt, .ref lv, .int (zI rp), .int (zI oc)])), (rh, .inr (0, [.int (zI hx9), .int (zI hy9), .int (zI hl9)])), (rt, .inr (4, [.ref ri, .int (zI rln), .int (zI rhf)])), (lv, .inr (1, [.int (zI w), .int (zI h), .ref ka, .ref ta, .int (zI sx), .int (zI sy), .int (zI fx), .int (zI fy), .int (zI lf), .int (zI un)])), zA cI ka 96 K, (se, .inr (3, [.ref de, .ref fi, .ref qu, .ref pr, .int (zI n1_2), .int (zI s11_3), .int (zI s21_4)])), (pr, .inr (0, [.int (zI qx1_8), .int (zI qy1_9), .int (zI ql1_10)])), zA cI de 480 D1_5, zA cI fi 480 F1_6, zA cI qu 480 Q1_7] H1 := hP1
  obtain ⟨hP, hD⟩ := va_join (wr := []) (w1 := [(sl, .inr (5, [.ref sh, .int (zI lc), .ref ru, .ref tr, .ref se])), (ru, .inr (2, [.ref rh, .ref rt, .ref lv, .int (zI rp), .int (zI oc)])), (rh, .inr (0, [.int (zI hx9), .int (zI hy9), .int (zI hl9)])), (rt, .inr (4, [.ref ri, .int (zI rln), .int (zI rhf)])), (lv, .inr (1, [.int (zI w), .int (zI h), .ref ka, .ref ta, .int (zI sx), .int (zI sy), .int (zI fx), .int (zI fy), .int (zI lf), .int (zI un)])), zA cI ka 96 K, (se, .inr (3, [.ref de, .ref fi, .ref qu, .ref pr, .int (zI n1_2), .int (zI s11_3), .int (zI s21_4)])), (pr, .inr (0, [.int (zI qx1_8), .int (zI qy1_9), .int (zI ql1_10)])), zA cI de 480 D1_5, zA cI fi 480 F1_6, zA cI qu 480 Q1_7]) hP hD [0, 1, 2, 3, 4, 5, 6, 7, 8, 9, 10] [] rfl rfl (by decide) (by decide) hk1 hFc hP1 hD1
  clear hP1 hD1 hk1 hFc hPc hDc hz1
  generalize H1 = H at hP hS ⊢
  have hP : va_P (dC, dI) vwCl [(sl, .inr (5, [.ref sh, .int (zI lc), .ref ru, .ref tr, .ref se])), (ru, .inr (2, [.ref rh, .ref rt, .ref lv, .int (zI rp), .int (zI oc)])), (rh, .inr (0, [.int (zI hx9), .int (zI hy9), .int (zI hl9)])), (rt, .inr (4, [.ref ri, .int (zI rln), .int (zI rhf)])), (lv, .inr (1, [.int (zI w), .int (zI h), .ref ka, .ref ta, .int (zI sx), .int (zI sy), .int (zI fx), .int (zI fy), .int (zI lf), .int (zI un)])), zA cI ka 96 K, (se, .inr (3, [.ref de, .ref fi, .ref qu, .ref pr, .int (zI n1_2), .int (zI s11_3), .int (zI s21_4)])), (pr, .inr (0, [.int (zI qx1_8), .int (zI qy1_9), .int (zI ql1_10)])), zA cI de 480 D1_5, zA cI fi 480 F1_6, zA cI qu 480 Q1_7] H := hP.sub [0, 1, 2, 3, 4, 5, 6, 7, 8, 9, 10] rfl
  have hD : va_D A [(sl, .inr (5, [.ref sh, .int (zI lc), .ref ru, .ref tr, .ref se])), (ru, .inr (2, [.ref rh, .ref rt, .ref lv, .int (zI rp), .int (zI oc)])), (rh, .inr (0, [.int (zI hx9), .int (zI hy9), .int (zI hl9)])), (rt, .inr (4, [.ref ri, .int (zI rln), .int (zI rhf)])), (lv, .inr (1, [.int (zI w), .int (zI h), .ref ka, .ref ta, .int (zI sx), .int (zI sy), .int (zI fx), .int (zI fy), .int (zI lf), .int (zI un)])), zA cI ka 96 K, (se, .inr (3, [.ref de, .ref fi, .ref qu, .ref pr, .int (zI n1_2), .int (zI s11_3), .int (zI s21_4)])), (pr, .inr (0, [.int (zI qx1_8), .int (zI qy1_9), .int (zI ql1_10)])), zA cI de 480 D1_5, zA cI fi 480 F1_6, zA cI qu 480 Q1_7] := hD.sub [0, 1, 2, 3, 4, 5, 6, 7, 8, 9, 10] (by decide) rfl
  clear hK1 hvm
  have po_11 : Din D1_5 ∧ Fin6 F1_6 ∧ ∃ D0 F0 Q0, Din D0 ∧ Fin6 F0 ∧ (∀ j, 0 ≤ j → j < 480 → D0 j = -1) ∧ (s11_3, s21_4) = fwT K w h fx fy (100 - rln) (plc hx9 hy9 hl9) D0 F0 Q0 := hw
  refine W.eq (g2 := F0 m 4 ls []) rfl ?_
  refine lv_aload_n hx hb dX5_hint_4 rfl (lv_at hl 0 rfl) ?_
  refine va_get (D := (dC, dI)) (ci := 5) (v := .ref se) (C := RX5) (T := TX5) (N := 5) hx hb hts i_5 hown hK hP 0 rfl rfl 4 (by decide) f_36 (fun _ h9 => h9) rfl dX5_hint_5 ?_
  refine va_get (D := (dC, dI)) (ci := 3) (v := .int (zI s21_4)) (C := RX3) (T := TX3) (N := 7) hx hb hts i_3 hown hK hP 6 rfl rfl 6 (by decide) f_186 (fun _ h9 => h9) rfl dX5_hint_8 ?_
  have hP9 := hP.sub (ws' := [(sl, .inr (5, [.ref sh, .int (zI lc), .ref ru, .ref tr, .ref se])), (ru, .inr (2, [.ref rh, .ref rt, .ref lv, .int (zI rp), .int (zI oc)])), (rh, .inr (0, [.int (zI hx9), .int (zI hy9), .int (zI hl9)])), (rt, .inr (4, [.ref ri, .int (zI rln), .int (zI rhf)])), (lv, .inr (1, [.int (zI w), .int (zI h), .ref ka, .ref ta, .int (zI sx), .int (zI sy), .int (zI fx), .int (zI fy), .int (zI lf), .int (zI un)])), zA cI ka 96 K, (se, .inr (3, [.ref de, .ref fi, .ref qu, .ref pr, .int (zI n1_2), .int (zI s11_3), .int (zI s21_4)])), (pr, .inr (0, [.int (zI qx1_8), .int (zI qy1_9), .int (zI ql1_10)])), zA cI de 480 D1_5, zA cI fi 480 F1_6, zA cI qu 480 Q1_7]) [0, 1, 2, 3, 4, 5, 6, 7, 8, 9, 10] rfl
  have hD9 := hD.sub (ws' := [(sl, .inr (5, [.ref sh, .int (zI lc), .ref ru, .ref tr, .ref se])), (ru, .inr (2, [.ref rh, .ref rt, .ref lv, .int (zI rp), .int (zI oc)])), (rh, .inr (0, [.int (zI hx9), .int (zI hy9), .int (zI hl9)])), (rt, .inr (4, [.ref ri, .int (zI rln), .int (zI rhf)])), (lv, .inr (1, [.int (zI w), .int (zI h), .ref ka, .ref ta, .int (zI sx), .int (zI sy), .int (zI fx), .int (zI fy), .int (zI lf), .int (zI un)])), zA cI ka 96 K, (se, .inr (3, [.ref de, .ref fi, .ref qu, .ref pr, .int (zI n1_2), .int (zI s11_3), .int (zI s21_4)])), (pr, .inr (0, [.int (zI qx1_8), .int (zI qy1_9), .int (zI ql1_10)])), zA cI de 480 D1_5, zA cI fi 480 F1_6, zA cI qu 480 Q1_7]) [0, 1, 2, 3, 4, 5, 6, 7, 8, 9, 10] (by decide) rfl
  have po : zI s21_4 = zI s21_4 ∧ (Din D1_5 ∧ Fin6 F1_6 ∧ ∃ D0 F0 Q0, Din D0 ∧ Fin6 F0 ∧ (∀ j, 0 ≤ j → j < 480 → D0 j = -1) ∧ (s11_3, s21_4) = fwT K w h fx fy (100 - rln) (plc hx9 hy9 hl9) D0 F0 Q0) := by
    refine ⟨by first | rfl | (congr 1; omega) | (congr 1; simp [*]), ?_⟩
    exact po_11
  exact W.iret (v := zI s21_4) hx hb hr (fun t ht hW => ⟨⟨zI s21_4, (n1_2, s11_3, s21_4, D1_5, F1_6, Q1_7, qx1_8, qy1_9, ql1_10), rfl, po, by rw [ht]; exact hP9, va_K.moved hW.alike hK, hD9⟩, hS.F ht⟩) hS.2.2 dX5_hint_11
set_option maxHeartbeats 4000000 in
set_option maxRecDepth 100000 in
theorem c_X5_hint_a (l : Launch) (dC : Nat → ClassId) (dI : Nat → Nat → Nat) (cI cZ cL cT cJ : ClassId) (sz : Nat) (sl : Nat) (sh : Nat) (lc : Int) (ru : Nat) (tr : Nat) (se : Nat) (rh : Nat) (rt : Nat) (rp : Int) (oc : Int) (de : Nat) (fi : Nat) (qu : Nat) (pr : Nat) (qd : Int) (s1 : Int) (s2 : Int)  : Met l yX5_hint wsX5_hint ({ frames := 6, cells := 0, slots := 0, locals := 143 }) (zP (dC, dI) (zT cI cZ cL cT cJ) sz [.ref sl] [(sl, .inr (5, [.ref sh, .int (zI lc), .ref ru, .ref tr, .ref se])), (ru, .inr (2, [.ref rh, .ref rt, .null, .int (zI rp), .int (zI oc)])), (se, .inr (3, [.ref de, .ref fi, .ref qu, .ref pr, .int (zI qd), .int (zI s1), .int (zI s2)]))]) (va_Qi (fun (r9 : Int32) (u9 : Unit) => match u9 with | _ => r9 = zI (-1) ∧ (True)) (zB (dC, dI) (zT cI cZ cL cT cJ) (va_A [(sl, .inr (5, [.ref sh, .int (zI lc), .ref ru, .ref tr, .ref se])), (ru, .inr (2, [.ref rh, .ref rt, .null, .int (zI rp), .int (zI oc)])), (se, .inr (3, [.ref de, .ref fi, .ref qu, .ref pr, .int (zI qd), .int (zI s1), .int (zI s2)]))] sz) (fun (u9 : Unit) => match u9 with | _ => [(sl, .inr (5, [.ref sh, .int (zI lc), .ref ru, .ref tr, .ref se])), (ru, .inr (2, [.ref rh, .ref rt, .null, .int (zI rp), .int (zI oc)])), (se, .inr (3, [.ref de, .ref fi, .ref qu, .ref pr, .int (zI qd), .int (zI (-1)), .int (zI (-1))]))])) (va_A [(sl, .inr (5, [.ref sh, .int (zI lc), .ref ru, .ref tr, .ref se])), (ru, .inr (2, [.ref rh, .ref rt, .null, .int (zI rp), .int (zI oc)])), (se, .inr (3, [.ref de, .ref fi, .ref qu, .ref pr, .int (zI qd), .int (zI s1), .int (zI s2)]))] sz)) 0 0 (va_A [(sl, .inr (5, [.ref sh, .int (zI lc), .ref ru, .ref tr, .ref se])), (ru, .inr (2, [.ref rh, .ref rt, .null, .int (zI rp), .int (zI oc)])), (se, .inr (3, [.ref de, .ref fi, .ref qu, .ref pr, .int (zI qd), .int (zI s1), .int (zI s2)]))] sz) := by
  refine Met.ofW (cc := cX5_hint) (maxL := 1) (ret := (some .int)) (by decide) rfl ?_
  intro p e s m args below meth c s₁ B hml hv
  obtain ⟨rfl, hsz, hP, hK, hD0⟩ := hv
  have hx := B.exec
  have hb := B.bytes
  have hr := B.returns
  have hts := atoms_spec (ws := wsX5_hint) B.pre
  have hown : s.vm.findClass RX5 = some m.cls := findClass_of_methodNamed B.named
  have hlocks := B.notSynchronized
  subst hsz
  have hD := hD0.self (sz := s.heap.size)
  generalize hAe : va_A [(sl, .inr (5, [.ref sh, .int (zI lc), .ref ru, .ref tr, .ref se])), (ru, .inr (2, [.ref rh, .ref rt, .null, .int (zI rp), .int (zI oc)])), (se, .inr (3, [.ref de, .ref fi, .ref qu, .ref pr, .int (zI qd), .int (zI s1), .int (zI s2)]))] s.heap.size = A at hD ⊢
  have hA : ∀ q : Nat, s.heap.size ≤ q → A q := fun q h => by rw [← hAe]; exact Or.inr h
  clear hAe hD0
  have hS : va_S A s.heap s.heap [] := va_S.rf
  have hP : va_P (dC, dI) vwCl [(sl, .inr (5, [.ref sh, .int (zI lc), .ref ru, .ref tr, .ref se])), (ru, .inr (2, [.ref rh, .ref rt, .null, .int (zI rp), .int (zI oc)])), (se, .inr (3, [.ref de, .ref fi, .ref qu, .ref pr, .int (zI qd), .int (zI s1), .int (zI s2)]))] s.heap := hP
  have f_36 := hts (.fieldLink RX5 36 "SpringLevels" "search" "LSpringLevels$Search;") (by decide +kernel)
  have f_186 := hts (.fieldLink RX5 186 "SpringLevels$Search" "firstInput" "I") (by decide +kernel)
  have i_3 : ∀ w ∈ wsX30, w ∈ wsX5_hint := by decide +kernel
  have i_5 : ∀ w ∈ wsX50, w ∈ wsX5_hint := by decide +kernel
  have hl := lv_entry ([.ref sl]) (n := 1) (Nat.le_of_ble_eq_true rfl)
  rw [lg_entry_eq]
  generalize (lg_sl ([.ref sl]) ++ List.replicate (1 - (lg_sl ([.ref sl])).length) Slot.unset).toArray = ls at hl ⊢
  have hl : lv_has ls 1 [(0, .ref sl)] := hl
  refine lv_aload_n hx hb dX5_hint_0 rfl (lv_at hl 0 rfl) ?_
  have hPc := hP.sub (ws' := [(sl, .inr (5, [.ref sh, .int (zI lc), .ref ru, .ref tr, .ref se])), (ru, .inr (2, [.ref rh, .ref rt, .null, .int (zI rp), .int (zI oc)])), (se, .inr (3, [.ref de, .ref fi, .ref qu, .ref pr, .int (zI qd), .int (zI s1), .int (zI s2)]))]) [0, 1, 2] rfl
  have hDc := hD.sub (ws' := [(sl, .inr (5, [.ref sh, .int (zI lc), .ref ru, .ref tr, .ref se])), (ru, .inr (2, [.ref rh, .ref rt, .null, .int (zI rp), .int (zI oc)])), (se, .inr (3, [.ref de, .ref fi, .ref qu, .ref pr, .int (zI qd), .int (zI s1), .int (zI s2)]))]) [0, 1, 2] (by decide) rfl
  have hFc := va_free (wc := [(sl, .inr (5, [.ref sh, .int (zI lc), .ref ru, .ref tr, .ref se])), (ru, .inr (2, [.ref rh, .ref rt, .null, .int (zI rp), .int (zI oc)])), (se, .inr (3, [.ref de, .ref fi, .ref qu, .ref pr, .int (zI qd), .int (zI s1), .int (zI s2)]))]) hD hS hA [0, 1, 2] rfl
  refine va_callv (va_runV (As := []) (rest := []) ⟨hx, hb, hml, hown, hts⟩ (c_X5_findWinOfRun_a l dC dI cI cZ cL cT cJ s.heap.size sl sh lc ru tr se rh rt rp oc de fi qu pr qd s1 s2 ) (cwV 0 hts gX5_hint_X5_findWinOfRun rfl rfl rfl (by decide +kernel) ⟨Nat.le_of_ble_eq_true rfl, Nat.le_of_ble_eq_true rfl⟩) ⟨zP_blind, va_recv hK hPc (ci := 5) (q0 := 0) rfl rfl, zP_pre hPc hDc hK⟩ rfl rfl hl.1 rfl (lv_room (Nat.le_of_ble_eq_true rfl)) dX5_hint_1 ⟨Nat.le_of_ble_eq_true rfl, Nat.le_of_ble_eq_true rfl⟩) hS (fun q _ h => hFc q h) hFc (fun u_1 t H1 locs ht hvm hw hB hz1 hk1 hS => ?_)
  obtain ⟨hP1, hK1, hD1⟩ := hB
  rw [ht] at hP1
  have hP1 : va_P (dC, dI) vwCl [(sl, .inr (5, [.ref sh, .int (zI lc), .ref ru, .ref tr, .ref se])), (ru, .inr (2, [.ref rh, .ref rt, .null, .int (zI rp), .int (zI oc)])), (se, .inr (3, [.ref de, .ref fi, .ref qu, .ref pr, .int (zI qd), .int (zI (-1)), .int (zI (-1))]))] H1 := hP1
  obtain ⟨hP, hD⟩ := va_join (wr := []) (w1 := [(sl, .inr (5, [.ref sh, .int (zI lc), .ref ru, .ref tr, .ref se])), (ru, .inr (2, [.ref rh, .ref rt, .null, .int (zI rp), .int (zI oc)])), (se, .inr (3, [.ref de, .ref fi, .ref qu, .ref pr, .int (zI qd), .int (zI (-1)), .int (zI (-1))]))]) hP hD [0, 1, 2] [] rfl rfl (by decide) (by decide) hk1 hFc hP1 hD1
  clear hP1 hD1 hk1 hFc hPc hDc hz1
  generalize H1 = H at hP hS ⊢
  have hP : va_P (dC, dI) vwCl [(sl, .inr (5, [.ref sh, .int (zI lc), .ref ru, .ref tr, .ref se])), (ru, .inr (2, [.ref rh, .ref rt, .null, .int (zI rp), .int (zI oc)])), (se, .inr (3, [.ref de, .ref fi, .ref qu, .ref pr, .int (zI qd), .int (zI (-1)), .int (zI (-1))]))] H := hP.sub [0, 1, 2] rfl
  have hD : va_D A [(sl, .inr (5, [.ref sh, .int (zI lc), .ref ru, .ref tr, .ref se])), (ru, .inr (2, [.ref rh, .ref rt, .null, .int (zI rp), .int (zI oc)])), (se, .inr (3, [.ref de, .ref fi, .ref qu, .ref pr, .int (zI qd), .int (zI (-1)), .int (zI (-1))]))] := hD.sub [0, 1, 2] (by decide) rfl
  clear hK1 hvm
  refine W.eq (g2 := F0 m 4 ls []) rfl ?_
  refine lv_aload_n hx hb dX5_hint_4 rfl (lv_at hl 0 rfl) ?_
  refine va_get (D := (dC, dI)) (ci := 5) (v := .ref se) (C := RX5) (T := TX5) (N := 5) hx hb hts i_5 hown hK hP 0 rfl rfl 4 (by decide) f_36 (fun _ h9 => h9) rfl dX5_hint_5 ?_
  refine va_get (D := (dC, dI)) (ci := 3) (v := .int (zI (-1))) (C := RX3) (T := TX3) (N := 7) hx hb hts i_3 hown hK hP 2 rfl rfl 6 (by decide) f_186 (fun _ h9 => h9) rfl dX5_hint_8 ?_
  have hP9 := hP.sub (ws' := [(sl, .inr (5, [.ref sh, .int (zI lc), .ref ru, .ref tr, .ref se])), (ru, .inr (2, [.ref rh, .ref rt, .null, .int (zI rp), .int (zI oc)])), (se, .inr (3, [.ref de, .ref fi, .ref qu, .ref pr, .int (zI qd), .int (zI (-1)), .int (zI (-1))]))]) [0, 1, 2] rfl
  have hD9 := hD.sub (ws' := [(sl, .inr (5, [.ref sh, .int (zI lc), .ref ru, .ref tr, .ref se])), (ru, .inr (2, [.ref rh, .ref rt, .null, .int (zI rp), .int (zI oc)])), (se, .inr (3, [.ref de, .ref fi, .ref qu, .ref pr, .int (zI qd), .int (zI (-1)), .int (zI (-1))]))]) [0, 1, 2] (by decide) rfl
  have po : zI (-1) = zI (-1) ∧ (True) := by
    refine ⟨by first | rfl | (congr 1; omega) | (congr 1; simp [*]), ?_⟩
    trivial
  exact W.iret (v := zI (-1)) hx hb hr (fun t ht hW => ⟨⟨zI (-1), (), rfl, po, by rw [ht]; exact hP9, va_K.moved hW.alike hK, hD9⟩, hS.F ht⟩) hS.2.2 dX5_hint_11
set_option maxHeartbeats 4000000 in
set_option maxRecDepth 100000 in
theorem c_X5_hint_b (l : Launch) (dC : Nat → ClassId) (dI : Nat → Nat → Nat) (cI cZ cL cT cJ : ClassId) (sz : Nat) (sl : Nat) (sh : Nat) (lc : Int) (ru : Nat) (tr : Nat) (se : Nat) (rh : Nat) (rt : Nat) (rp : Int) (oc : Int) (de : Nat) (fi : Nat) (qu : Nat) (pr : Nat) (qd : Int) (s1 : Int) (s2 : Int) (lv : Nat) (goc : ¬ oc = 0) (goc2 : 0 ≤ oc ∧ oc ≤ 2) : Met l yX5_hint wsX5_hint ({ frames := 6, cells := 0, slots := 0, locals := 143 }) (zP (dC, dI) (zT cI cZ cL cT cJ) sz [.ref sl] [(sl, .inr (5, [.ref sh, .int (zI lc), .ref ru, .ref tr, .ref se])), (ru, .inr (2, [.ref rh, .ref rt, .ref lv, .int (zI rp), .int (zI oc)])), (se, .inr (3, [.ref de, .ref fi, .ref qu, .ref pr, .int (zI qd), .int (zI s1), .int (zI s2)]))]) (va_Qi (fun (r9 : Int32) (u9 : Unit) => match u9 with | _ => r9 = zI (-1) ∧ (True)) (zB (dC, dI) (zT cI cZ cL cT cJ) (va_A [(sl, .inr (5, [.ref sh, .int (zI lc), .ref ru, .ref tr, .ref se])), (ru, .inr (2, [.ref rh, .ref rt, .ref lv, .int (zI rp), .int (zI oc)])), (se, .inr (3, [.ref de, .ref fi, .ref qu, .ref pr, .int (zI qd), .int (zI s1), .int (zI s2)]))] sz) (fun (u9 : Unit) => match u9 with | _ => [(sl, .inr (5, [.ref sh, .int (zI lc), .ref ru, .ref tr, .ref se])), (ru, .inr (2, [.ref rh, .ref rt, .ref lv, .int (zI rp), .int (zI oc)])), (se, .inr (3, [.ref de, .ref fi, .ref qu, .ref pr, .int (zI qd), .int (zI (-1)), .int (zI (-1))]))])) (va_A [(sl, .inr (5, [.ref sh, .int (zI lc), .ref ru, .ref tr, .ref se])), (ru, .inr (2, [.ref rh, .ref rt, .ref lv, .int (zI rp), .int (zI oc)])), (se, .inr (3, [.ref de, .ref fi, .ref qu, .ref pr, .int (zI qd), .int (zI s1), .int (zI s2)]))] sz)) 0 0 (va_A [(sl, .inr (5, [.ref sh, .int (zI lc), .ref ru, .ref tr, .ref se])), (ru, .inr (2, [.ref rh, .ref rt, .ref lv, .int (zI rp), .int (zI oc)])), (se, .inr (3, [.ref de, .ref fi, .ref qu, .ref pr, .int (zI qd), .int (zI s1), .int (zI s2)]))] sz) := by
  refine Met.ofW (cc := cX5_hint) (maxL := 1) (ret := (some .int)) (by decide) rfl ?_
  intro p e s m args below meth c s₁ B hml hv
  obtain ⟨rfl, hsz, hP, hK, hD0⟩ := hv
  have hx := B.exec
  have hb := B.bytes
  have hr := B.returns
  have hts := atoms_spec (ws := wsX5_hint) B.pre
  have hown : s.vm.findClass RX5 = some m.cls := findClass_of_methodNamed B.named
  have hlocks := B.notSynchronized
  subst hsz
  have hD := hD0.self (sz := s.heap.size)
  generalize hAe : va_A [(sl, .inr (5, [.ref sh, .int (zI lc), .ref ru, .ref tr, .ref se])), (ru, .inr (2, [.ref rh, .ref rt, .ref lv, .int (zI rp), .int (zI oc)])), (se, .inr (3, [.ref de, .ref fi, .ref qu, .ref pr, .int (zI qd), .int (zI s1), .int (zI s2)]))] s.heap.size = A at hD ⊢
  have hA : ∀ q : Nat, s.heap.size ≤ q → A q := fun q h => by rw [← hAe]; exact Or.inr h
  clear hAe hD0
  have hS : va_S A s.heap s.heap [] := va_S.rf
  have hP : va_P (dC, dI) vwCl [(sl, .inr (5, [.ref sh, .int (zI lc), .ref ru, .ref tr, .ref se])), (ru, .inr (2, [.ref rh, .ref rt, .ref lv, .int (zI rp), .int (zI oc)])), (se, .inr (3, [.ref de, .ref fi, .ref qu, .ref pr, .int (zI qd), .int (zI s1), .int (zI s2)]))] s.heap := hP
  have f_36 := hts (.fieldLink RX5 36 "SpringLevels" "search" "LSpringLevels$Search;") (by decide +kernel)
  have f_186 := hts (.fieldLink RX5 186 "SpringLevels$Search" "firstInput" "I") (by decide +kernel)
  have i_3 : ∀ w ∈ wsX30, w ∈ wsX5_hint := by decide +kernel
  have i_5 : ∀ w ∈ wsX50, w ∈ wsX5_hint := by decide +kernel
  have hl := lv_entry ([.ref sl]) (n := 1) (Nat.le_of_ble_eq_true rfl)
  rw [lg_entry_eq]
  generalize (lg_sl ([.ref sl]) ++ List.replicate (1 - (lg_sl ([.ref sl])).length) Slot.unset).toArray = ls at hl ⊢
  have hl : lv_has ls 1 [(0, .ref sl)] := hl
  refine lv_aload_n hx hb dX5_hint_0 rfl (lv_at hl 0 rfl) ?_
  have hPc := hP.sub (ws' := [(sl, .inr (5, [.ref sh, .int (zI lc), .ref ru, .ref tr, .ref se])), (ru, .inr (2, [.ref rh, .ref rt, .ref lv, .int (zI rp), .int (zI oc)])), (se, .inr (3, [.ref de, .ref fi, .ref qu, .ref pr, .int (zI qd), .int (zI s1), .int (zI s2)]))]) [0, 1, 2] rfl
  have hDc := hD.sub (ws' := [(sl, .inr (5, [.ref sh, .int (zI lc), .ref ru, .ref tr, .ref se])), (ru, .inr (2, [.ref rh, .ref rt, .ref lv, .int (zI rp), .int (zI oc)])), (se, .inr (3, [.ref de, .ref fi, .ref qu, .ref pr, .int (zI qd), .int (zI s1), .int (zI s2)]))]) [0, 1, 2] (by decide) rfl
  have hFc := va_free (wc := [(sl, .inr (5, [.ref sh, .int (zI lc), .ref ru, .ref tr, .ref se])), (ru, .inr (2, [.ref rh, .ref rt, .ref lv, .int (zI rp), .int (zI oc)])), (se, .inr (3, [.ref de, .ref fi, .ref qu, .ref pr, .int (zI qd), .int (zI s1), .int (zI s2)]))]) hD hS hA [0, 1, 2] rfl
  refine va_callv (va_runV (As := []) (rest := []) ⟨hx, hb, hml, hown, hts⟩ (c_X5_findWinOfRun_b l dC dI cI cZ cL cT cJ s.heap.size sl sh lc ru tr se rh rt rp oc de fi qu pr qd s1 s2 lv (by first | assumption | omega) (by first | assumption | omega)) (cwV 0 hts gX5_hint_X5_findWinOfRun rfl rfl rfl (by decide +kernel) ⟨Nat.le_of_ble_eq_true rfl, Nat.le_of_ble_eq_true rfl⟩) ⟨zP_blind, va_recv hK hPc (ci := 5) (q0 := 0) rfl rfl, zP_pre hPc hDc hK⟩ rfl rfl hl.1 rfl (lv_room (Nat.le_of_ble_eq_true rfl)) dX5_hint_1 ⟨Nat.le_of_ble_eq_true rfl, Nat.le_of_ble_eq_true rfl⟩) hS (fun q _ h => hFc q h) hFc (fun u_1 t H1 locs ht hvm hw hB hz1 hk1 hS => ?_)
  obtain ⟨hP1, hK1, hD1⟩ := hB
  rw [ht] at hP1
  have hP1 : va_P (dC, dI) vwCl [(sl, .inr (5, [.ref sh, .int (zI lc), .ref ru, .ref tr, .ref se])), (ru, .inr (2, [.ref rh, .ref rt, .ref lv, .int (zI rp), .int (zI oc)])), (se, .inr (3, [.ref de, .ref fi, .ref qu, .ref pr, .int (zI qd), .int (zI (-1)), .int (zI (-1))]))] H1 := hP1
  obtain ⟨hP, hD⟩ := va_join (wr := []) (w1 := [(sl, .inr (5, [.ref sh, .int (zI lc), .ref ru, .ref tr, .ref se])), (ru, .inr (2, [.ref rh, .ref rt, .ref lv, .int (zI rp), .int (zI oc)])), (se, .inr (3, [.ref de, .ref fi, .ref qu, .ref pr, .int (zI qd), .int (zI (-1)), .int (zI (-1))]))]) hP hD [0, 1, 2] [] rfl rfl (by decide) (by decide) hk1 hFc hP1 hD1
  clear hP1 hD1 hk1 hFc hPc hDc hz1
  generalize H1 = H at hP hS ⊢
  have hP : va_P (dC, dI) vwCl [(sl, .inr (5, [.ref sh, .int (zI lc), .ref ru, .ref tr, .ref se])), (ru, .inr (2, [.ref rh, .ref rt, .ref lv, .int (zI rp), .int (zI oc)])), (se, .inr (3, [.ref de, .ref fi, .ref qu, .ref pr, .int (zI qd), .int (zI (-1)), .int (zI (-1))]))] H := hP.sub [0, 1, 2] rfl
  have hD : va_D A [(sl, .inr (5, [.ref sh, .int (zI lc), .ref ru, .ref tr, .ref se])), (ru, .inr (2, [.ref rh, .ref rt, .ref lv, .int (zI rp), .int (zI oc)])), (se, .inr (3, [.ref de, .ref fi, .ref qu, .ref pr, .int (zI qd), .int (zI (-1)), .int (zI (-1))]))] := hD.sub [0, 1, 2] (by decide) rfl
  clear hK1 hvm
  refine W.eq (g2 := F0 m 4 ls []) rfl ?_
  refine lv_aload_n hx hb dX5_hint_4 rfl (lv_at hl 0 rfl) ?_
  refine va_get (D := (dC, dI)) (ci := 5) (v := .ref se) (C := RX5) (T := TX5) (N := 5) hx hb hts i_5 hown hK hP 0 rfl rfl 4 (by decide) f_36 (fun _ h9 => h9) rfl dX5_hint_5 ?_
  refine va_get (D := (dC, dI)) (ci := 3) (v := .int (zI (-1))) (C := RX3) (T := TX3) (N := 7) hx hb hts i_3 hown hK hP 2 rfl rfl 6 (by decide) f_186 (fun _ h9 => h9) rfl dX5_hint_8 ?_
  have hP9 := hP.sub (ws' := [(sl, .inr (5, [.ref sh, .int (zI lc), .ref ru, .ref tr, .ref se])), (ru, .inr (2, [.ref rh, .ref rt, .ref lv, .int (zI rp), .int (zI oc)])), (se, .inr (3, [.ref de, .ref fi, .ref qu, .ref pr, .int (zI qd), .int (zI (-1)), .int (zI (-1))]))]) [0, 1, 2] rfl
  have hD9 := hD.sub (ws' := [(sl, .inr (5, [.ref sh, .int (zI lc), .ref ru, .ref tr, .ref se])), (ru, .inr (2, [.ref rh, .ref rt, .ref lv, .int (zI rp), .int (zI oc)])), (se, .inr (3, [.ref de, .ref fi, .ref qu, .ref pr, .int (zI qd), .int (zI (-1)), .int (zI (-1))]))]) [0, 1, 2] (by decide) rfl
  have po : zI (-1) = zI (-1) ∧ (True) := by
    refine ⟨by first | rfl | (congr 1; omega) | (congr 1; simp [*]), ?_⟩
    trivial
  exact W.iret (v := zI (-1)) hx hb hr (fun t ht hW => ⟨⟨zI (-1), (), rfl, po, by rw [ht]; exact hP9, va_K.moved hW.alike hK, hD9⟩, hS.F ht⟩) hS.2.2 dX5_hint_11
set_option maxHeartbeats 4000000 in
set_option maxRecDepth 100000 in
theorem c_X5_record (l : Launch) (dC : Nat → ClassId) (dI : Nat → Nat → Nat) (cI cZ cL cT cJ : ClassId) (sz : Nat) (sl : Nat) (sh : Nat) (lc : Int) (ru : Nat) (tr : Nat) (se : Nat) (sf : Nat → Option Nat) (L : Int) (k : Nat) (lv : Nat) (w : Int) (h : Int) (ka : Nat) (ta : Nat) (sx : Int) (sy : Int) (fx : Int) (fy : Int) (lf : Int) (un : Int) (tq : Nat → Option Nat) (tp : Nat → Nat) (pl : Int) (kp : Nat) (ti : Nat) (ln : Int) (hf : Int) (gk : L = (k : Int) ∧ k < 6) (gf : sf k = some lv) (gt : ∀ k, k < 4 → tq k = some (tp k)) (gkp : pl = (kp : Int) ∧ kp < 4) : Met l yX5_record wsX5_record ({ frames := 2, cells := 0, slots := 0, locals := 45 }) (zP (dC, dI) (zT cI cZ cL cT cJ) sz [.ref sl, .int (zI L), .int (zI pl)] [(sl, .inr (5, [.ref sh, .int (zI lc), .ref ru, .ref tr, .ref se])), zQ cL sh 6 sf, (lv, .inr (1, [.int (zI w), .int (zI h), .ref ka, .ref ta, .int (zI sx), .int (zI sy), .int (zI fx), .int (zI fy), .int (zI lf), .int (zI un)])), zQ cT ta 4 tq, (tp kp, .inr (4, [.ref ti, .int (zI ln), .int (zI hf)]))]) (va_Qi (fun (r9 : Int32) (u9 : Unit) => match u9 with | _ => r9 = zI ln ∧ (True)) (zB (dC, dI) (zT cI cZ cL cT cJ) (va_A [(sl, .inr (5, [.ref sh, .int (zI lc), .ref ru, .ref tr, .ref se])), zQ cL sh 6 sf, (lv, .inr (1, [.int (zI w), .int (zI h), .ref ka, .ref ta, .int (zI sx), .int (zI sy), .int (zI fx), .int (zI fy), .int (zI lf), .int (zI un)])), zQ cT ta 4 tq, (tp kp, .inr (4, [.ref ti, .int (zI ln), .int (zI hf)]))] sz) (fun (u9 : Unit) => match u9 with | _ => [(sl, .inr (5, [.ref sh, .int (zI lc), .ref ru, .ref tr, .ref se])), zQ cL sh 6 sf, (lv, .inr (1, [.int (zI w), .int (zI h), .ref ka, .ref ta, .int (zI sx), .int (zI sy), .int (zI fx), .int (zI fy), .int (zI lf), .int (zI un)])), zQ cT ta 4 tq, (tp kp, .inr (4, [.ref ti, .int (zI ln), .int (zI hf)]))])) (va_A [(sl, .inr (5, [.ref sh, .int (zI lc), .ref ru, .ref tr, .ref se])), zQ cL sh 6 sf, (lv, .inr (1, [.int (zI w), .int (zI h), .ref ka, .ref ta, .int (zI sx), .int (zI sy), .int (zI fx), .int (zI fy), .int (zI lf), .int (zI un)])), zQ cT ta 4 tq, (tp kp, .inr (4, [.ref ti, .int (zI ln), .int (zI hf)]))] sz)) 0 0 (va_A [(sl, .inr (5, [.ref sh, .int (zI lc), .ref ru, .ref tr, .ref se])), zQ cL sh 6 sf, (lv, .inr (1, [.int (zI w), .int (zI h), .ref ka, .ref ta, .int (zI sx), .int (zI sy), .int (zI fx), .int (zI fy), .int (zI lf), .int (zI un)])), zQ cT ta 4 tq, (tp kp, .inr (4, [.ref ti, .int (zI ln), .int (zI hf)]))] sz) := by
  refine Met.ofW (cc := cX5_record) (maxL := 3) (ret := (some .int)) (by decide) rfl ?_
  intro p e s m args below meth c s₁ B hml hv
  obtain ⟨rfl, hsz, hP, hK, hD0⟩ := hv
  have hx := B.exec
  have hb := B.bytes
  have hr := B.returns
  have hts := atoms_spec (ws := wsX5_record) B.pre
  have hown : s.vm.findClass RX5 = some m.cls := findClass_of_methodNamed B.named
  have hlocks := B.notSynchronized
  subst hsz
  have hD := hD0.self (sz := s.heap.size)
  generalize hAe : va_A [(sl, .inr (5, [.ref sh, .int (zI lc), .ref ru, .ref tr, .ref se])), zQ cL sh 6 sf, (lv, .inr (1, [.int (zI w), .int (zI h), .ref ka, .ref ta, .int (zI sx), .int (zI sy), .int (zI fx), .int (zI fy), .int (zI lf), .int (zI un)])), zQ cT ta 4 tq, (tp kp, .inr (4, [.ref ti, .int (zI ln), .int (zI hf)]))] s.heap.size = A at hD ⊢
  have hA : ∀ q : Nat, s.heap.size ≤ q → A q := fun q h => by rw [← hAe]; exact Or.inr h
  clear hAe hD0
  have hS : va_S A s.heap s.heap [] := va_S.rf
  have hP : va_P (dC, dI) vwCl [(sl, .inr (5, [.ref sh, .int (zI lc), .ref ru, .ref tr, .ref se])), zQ cL sh 6 sf, (lv, .inr (1, [.int (zI w), .int (zI h), .ref ka, .ref ta, .int (zI sx), .int (zI sy), .int (zI fx), .int (zI fy), .int (zI lf), .int (zI un)])), zQ cT ta 4 tq, (tp kp, .inr (4, [.ref ti, .int (zI ln), .int (zI hf)]))] s.heap := hP
  have f_172 := hts (.fieldLink RX5 172 "SpringLevels$Tape" "length" "I") (by decide +kernel)
  have i_4 : ∀ w ∈ wsX40, w ∈ wsX5_record := by decide +kernel
  have hl := lv_entry ([.ref sl, .int (zI L), .int (zI pl)]) (n := 3) (Nat.le_of_ble_eq_true rfl)
  rw [lg_entry_eq]
  generalize (lg_sl ([.ref sl, .int (zI L), .int (zI pl)]) ++ List.replicate (3 - (lg_sl ([.ref sl, .int (zI L), .int (zI pl)])).length) Slot.unset).toArray = ls at hl ⊢
  have hl : lv_has ls 3 [(0, .ref sl), (1, .int (zI L)), (2, .int (zI pl))] := hl
  refine lv_aload_n hx hb dX5_record_0 rfl (lv_at hl 0 rfl) ?_
  refine lv_iload_n hx hb dX5_record_1 rfl (lv_at hl 1 rfl) ?_
  refine lv_iload_n hx hb dX5_record_2 rfl (lv_at hl 2 rfl) ?_
  have hPc := hP.sub (ws' := [(sl, .inr (5, [.ref sh, .int (zI lc), .ref ru, .ref tr, .ref se])), zQ cL sh 6 sf, (lv, .inr (1, [.int (zI w), .int (zI h), .ref ka, .ref ta, .int (zI sx), .int (zI sy), .int (zI fx), .int (zI fy), .int (zI lf), .int (zI un)])), zQ cT ta 4 tq]) [0, 1, 2, 3] rfl
  have hDc := hD.sub (ws' := [(sl, .inr (5, [.ref sh, .int (zI lc), .ref ru, .ref tr, .ref se])), zQ cL sh 6 sf, (lv, .inr (1, [.int (zI w), .int (zI h), .ref ka, .ref ta, .int (zI sx), .int (zI sy), .int (zI fx), .int (zI fy), .int (zI lf), .int (zI un)])), zQ cT ta 4 tq]) [0, 1, 2, 3] (by decide) rfl
  have hFc := va_free (wc := [(sl, .inr (5, [.ref sh, .int (zI lc), .ref ru, .ref tr, .ref se])), zQ cL sh 6 sf, (lv, .inr (1, [.int (zI w), .int (zI h), .ref ka, .ref ta, .int (zI sx), .int (zI sy), .int (zI fx), .int (zI fy), .int (zI lf), .int (zI un)])), zQ cT ta 4 tq]) hD hS hA [0, 1, 2, 3] rfl
  refine va_callq (va_runV (As := [.int (zI L), .int (zI pl)]) (rest := []) ⟨hx, hb, hml, hown, hts⟩ (c_X5_tapeOf l dC dI cI cZ cL cT cJ s.heap.size sl sh lc ru tr se sf L k lv w h ka ta sx sy fx fy lf un tq tp pl kp (by first | assumption | omega) (by first | assumption | omega) (by first | assumption | omega) (by first | assumption | omega)) (cwV 2 hts gX5_record_X5_tapeOf rfl rfl rfl (by decide +kernel) ⟨Nat.le_of_ble_eq_true rfl, Nat.le_of_ble_eq_true rfl⟩) ⟨zP_blind, va_recv hK hPc (ci := 5) (q0 := 0) rfl rfl, zP_pre hPc hDc hK⟩ rfl rfl hl.1 rfl (lv_room (Nat.le_of_ble_eq_true rfl)) dX5_record_3 ⟨Nat.le_of_ble_eq_true rfl, Nat.le_of_ble_eq_true rfl⟩) hS (fun q _ h => hFc q h) hFc (fun r_1 u_1 t H1 locs ht hvm hw hB hz1 hk1 hS => ?_)
  obtain ⟨hP1, hK1, hD1⟩ := hB
  rw [ht] at hP1
  have hP1 : va_P (dC, dI) vwCl [(sl, .inr (5, [.ref sh, .int (zI lc), .ref ru, .ref tr, .ref se])), zQ cL sh 6 sf, (lv, .inr (1, [.int (zI w), .int (zI h), .ref ka, .ref ta, .int (zI sx), .int (zI sy), .int (zI fx), .int (zI fy), .int (zI lf), .int (zI un)])), zQ cT ta 4 tq] H1 := hP1
  obtain ⟨hP, hD⟩ := va_join (wr := [(tp kp, .inr (4, [.ref ti, .int (zI ln), .int (zI hf)]))]) (w1 := [(sl, .inr (5, [.ref sh, .int (zI lc), .ref ru, .ref tr, .ref se])), zQ cL sh 6 sf, (lv, .inr (1, [.int (zI w), .int (zI h), .ref ka, .ref ta, .int (zI sx), .int (zI sy), .int (zI fx), .int (zI fy), .int (zI lf), .int (zI un)])), zQ cT ta 4 tq]) hP hD [0, 1, 2, 3] [4] rfl rfl (by decide) (by decide) hk1 hFc hP1 hD1
  clear hP1 hD1 hk1 hFc hPc hDc hz1
  generalize H1 = H at hP hS ⊢
  have hP : va_P (dC, dI) vwCl [(sl, .inr (5, [.ref sh, .int (zI lc), .ref ru, .ref tr, .ref se])), zQ cL sh 6 sf, (lv, .inr (1, [.int (zI w), .int (zI h), .ref ka, .ref ta, .int (zI sx), .int (zI sy), .int (zI fx), .int (zI fy), .int (zI lf), .int (zI un)])), zQ cT ta 4 tq, (tp kp, .inr (4, [.ref ti, .int (zI ln), .int (zI hf)]))] H := hP.sub [1, 2, 3, 4, 0] rfl
  have hD : va_D A [(sl, .inr (5, [.ref sh, .int (zI lc), .ref ru, .ref tr, .ref se])), zQ cL sh 6 sf, (lv, .inr (1, [.int (zI w), .int (zI h), .ref ka, .ref ta, .int (zI sx), .int (zI sy), .int (zI fx), .int (zI fy), .int (zI lf), .int (zI un)])), zQ cT ta 4 tq, (tp kp, .inr (4, [.ref ti, .int (zI ln), .int (zI hf)]))] := hD.sub [1, 2, 3, 4, 0] (by decide) rfl
  clear hK1 hvm
  obtain ⟨rfl, po_2⟩ := hw
  refine W.eq (g2 := F0 m 6 ls [.ref (tp kp)]) rfl ?_
  refine va_get (D := (dC, dI)) (ci := 4) (v := .int (zI ln)) (C := RX4) (T := TX4) (N := 3) hx hb hts i_4 hown hK hP 4 rfl rfl 1 (by decide) f_172 (fun _ h9 => h9) rfl dX5_record_6 ?_
  have hP9 := hP.sub (ws' := [(sl, .inr (5, [.ref sh, .int (zI lc), .ref ru, .ref tr, .ref se])), zQ cL sh 6 sf, (lv, .inr (1, [.int (zI w), .int (zI h), .ref ka, .ref ta, .int (zI sx), .int (zI sy), .int (zI fx), .int (zI fy), .int (zI lf), .int (zI un)])), zQ cT ta 4 tq, (tp kp, .inr (4, [.ref ti, .int (zI ln), .int (zI hf)]))]) [0, 1, 2, 3, 4] rfl
  have hD9 := hD.sub (ws' := [(sl, .inr (5, [.ref sh, .int (zI lc), .ref ru, .ref tr, .ref se])), zQ cL sh 6 sf, (lv, .inr (1, [.int (zI w), .int (zI h), .ref ka, .ref ta, .int (zI sx), .int (zI sy), .int (zI fx), .int (zI fy), .int (zI lf), .int (zI un)])), zQ cT ta 4 tq, (tp kp, .inr (4, [.ref ti, .int (zI ln), .int (zI hf)]))]) [0, 1, 2, 3, 4] (by decide) rfl
  have po : zI ln = zI ln ∧ (True) := by
    refine ⟨by first | rfl | (congr 1; omega) | (congr 1; simp [*]), ?_⟩
    trivial
  exact W.iret (v := zI ln) hx hb hr (fun t ht hW => ⟨⟨zI ln, (), rfl, po, by rw [ht]; exact hP9, va_K.moved hW.alike hK, hD9⟩, hS.F ht⟩) hS.2.2 dX5_record_9
set_option maxHeartbeats 4000000 in
set_option maxRecDepth 100000 in
theorem c_X5_half (l : Launch) (dC : Nat → ClassId) (dI : Nat → Nat → Nat) (cI cZ cL cT cJ : ClassId) (sz : Nat) (sl : Nat) (sh : Nat) (lc : Int) (ru : Nat) (tr : Nat) (se : Nat) (sf : Nat → Option Nat) (L : Int) (k : Nat) (lv : Nat) (w : Int) (h : Int) (ka : Nat) (ta : Nat) (sx : Int) (sy : Int) (fx : Int) (fy : Int) (lf : Int) (un : Int) (tq : Nat → Option Nat) (tp : Nat → Nat) (pl : Int) (kp : Nat) (ti : Nat) (ln : Int) (hf : Int) (gk : L = (k : Int) ∧ k < 6) (gf : sf k = some lv) (gt : ∀ k, k < 4 → tq k = some (tp k)) (gkp : pl = (kp : Int) ∧ kp < 4) : Met l yX5_half wsX5_half ({ frames := 2, cells := 0, slots := 0, locals := 45 }) (zP (dC, dI) (zT cI cZ cL cT cJ) sz [.ref sl, .int (zI L), .int (zI pl)] [(sl, .inr (5, [.ref sh, .int (zI lc), .ref ru, .ref tr, .ref se])), zQ cL sh 6 sf, (lv, .inr (1, [.int (zI w), .int (zI h), .ref ka, .ref ta, .int (zI sx), .int (zI sy), .int (zI fx), .int (zI fy), .int (zI lf), .int (zI un)])), zQ cT ta 4 tq, (tp kp, .inr (4, [.ref ti, .int (zI ln), .int (zI hf)]))]) (va_Qi (fun (r9 : Int32) (u9 : Unit) => match u9 with | _ => r9 = zI hf ∧ (True)) (zB (dC, dI) (zT cI cZ cL cT cJ) (va_A [(sl, .inr (5, [.ref sh, .int (zI lc), .ref ru, .ref tr, .ref se])), zQ cL sh 6 sf, (lv, .inr (1, [.int (zI w), .int (zI h), .ref ka, .ref ta, .int (zI sx), .int (zI sy), .int (zI fx), .int (zI fy), .int (zI lf), .int (zI un)])), zQ cT ta 4 tq, (tp kp, .inr (4, [.ref ti, .int (zI ln), .int (zI hf)]))] sz) (fun (u9 : Unit) => match u9 with | _ => [(sl, .inr (5, [.ref sh, .int (zI lc), .ref ru, .ref tr, .ref se])), zQ cL sh 6 sf, (lv, .inr (1, [.int (zI w), .int (zI h), .ref ka, .ref ta, .int (zI sx), .int (zI sy), .int (zI fx), .int (zI fy), .int (zI lf), .int (zI un)])), zQ cT ta 4 tq, (tp kp, .inr (4, [.ref ti, .int (zI ln), .int (zI hf)]))])) (va_A [(sl, .inr (5, [.ref sh, .int (zI lc), .ref ru, .ref tr, .ref se])), zQ cL sh 6 sf, (lv, .inr (1, [.int (zI w), .int (zI h), .ref ka, .ref ta, .int (zI sx), .int (zI sy), .int (zI fx), .int (zI fy), .int (zI lf), .int (zI un)])), zQ cT ta 4 tq, (tp kp, .inr (4, [.ref ti, .int (zI ln), .int (zI hf)]))] sz)) 0 0 (va_A [(sl, .inr (5, [.ref sh, .int (zI lc), .ref ru, .ref tr, .ref se])), zQ cL sh 6 sf, (lv, .inr (1, [.int (zI w), .int (zI h), .ref ka, .ref ta, .int (zI sx), .int (zI sy), .int (zI fx), .int (zI fy), .int (zI lf), .int (zI un)])), zQ cT ta 4 tq, (tp kp, .inr (4, [.ref ti, .int (zI ln), .int (zI hf)]))] sz) := by
  refine Met.ofW (cc := cX5_half) (maxL := 3) (ret := (some .int)) (by decide) rfl ?_
  intro p e s m args below meth c s₁ B hml hv
  obtain ⟨rfl, hsz, hP, hK, hD0⟩ := hv
  have hx := B.exec
  have hb := B.bytes
  have hr := B.returns
  have hts := atoms_spec (ws := wsX5_half) B.pre
  have hown : s.vm.findClass RX5 = some m.cls := findClass_of_methodNamed B.named
  have hlocks := B.notSynchronized
  subst hsz
  have hD := hD0.self (sz := s.heap.size)
  generalize hAe : va_A [(sl, .inr (5, [.ref sh, .int (zI lc), .ref ru, .ref tr, .ref se])), zQ cL sh 6 sf, (lv, .inr (1, [.int (zI w), .int (zI h), .ref ka, .ref ta, .int (zI sx), .int (zI sy), .int (zI fx), .int (zI fy), .int (zI lf), .int (zI un)])), zQ cT ta 4 tq, (tp kp, .inr (4, [.ref ti, .int (zI ln), .int (zI hf)]))] s.heap.size = A at hD ⊢
  have hA : ∀ q : Nat, s.heap.size ≤ q → A q := fun q h => by rw [← hAe]; exact Or.inr h
  clear hAe hD0
  have hS : va_S A s.heap s.heap [] := va_S.rf
  have hP : va_P (dC, dI) vwCl [(sl, .inr (5, [.ref sh, .int (zI lc), .ref ru, .ref tr, .ref se])), zQ cL sh 6 sf, (lv, .inr (1, [.int (zI w), .int (zI h), .ref ka, .ref ta, .int (zI sx), .int (zI sy), .int (zI fx), .int (zI fy), .int (zI lf), .int (zI un)])), zQ cT ta 4 tq, (tp kp, .inr (4, [.ref ti, .int (zI ln), .int (zI hf)]))] s.heap := hP
  have f_193 := hts (.fieldLink RX5 193 "SpringLevels$Tape" "halfLength" "I") (by decide +kernel)
  have i_4 : ∀ w ∈ wsX40, w ∈ wsX5_half := by decide +kernel
  have hl := lv_entry ([.ref sl, .int (zI L), .int (zI pl)]) (n := 3) (Nat.le_of_ble_eq_true rfl)
  rw [lg_entry_eq]
  generalize (lg_sl ([.ref sl, .int (zI L), .int (zI pl)]) ++ List.replicate (3 - (lg_sl ([.ref sl, .int (zI L), .int (zI pl)])).length) Slot.unset).toArray = ls at hl ⊢
  have hl : lv_has ls 3 [(0, .ref sl), (1, .int (zI L)), (2, .int (zI pl))] := hl
  refine lv_aload_n hx hb dX5_half_0 rfl (lv_at hl 0 rfl) ?_
  refine lv_iload_n hx hb dX5_half_1 rfl (lv_at hl 1 rfl) ?_
  refine lv_iload_n hx hb dX5_half_2 rfl (lv_at hl 2 rfl) ?_
  have hPc := hP.sub (ws' := [(sl, .inr (5, [.ref sh, .int (zI lc), .ref ru, .ref tr, .ref se])), zQ cL sh 6 sf, (lv, .inr (1, [.int (zI w), .int (zI h), .ref ka, .ref ta, .int (zI sx), .int (zI sy), .int (zI fx), .int (zI fy), .int (zI lf), .int (zI un)])), zQ cT ta 4 tq]) [0, 1, 2, 3] rfl
  have hDc := hD.sub (ws' := [(sl, .inr (5, [.ref sh, .int (zI lc), .ref ru, .ref tr, .ref se])), zQ cL sh 6 sf, (lv, .inr (1, [.int (zI w), .int (zI h), .ref ka, .ref ta, .int (zI sx), .int (zI sy), .int (zI fx), .int (zI fy), .int (zI lf), .int (zI un)])), zQ cT ta 4 tq]) [0, 1, 2, 3] (by decide) rfl
  have hFc := va_free (wc := [(sl, .inr (5, [.ref sh, .int (zI lc), .ref ru, .ref tr, .ref se])), zQ cL sh 6 sf, (lv, .inr (1, [.int (zI w), .int (zI h), .ref ka, .ref ta, .int (zI sx), .int (zI sy), .int (zI fx), .int (zI fy), .int (zI lf), .int (zI un)])), zQ cT ta 4 tq]) hD hS hA [0, 1, 2, 3] rfl
  refine va_callq (va_runV (As := [.int (zI L), .int (zI pl)]) (rest := []) ⟨hx, hb, hml, hown, hts⟩ (c_X5_tapeOf l dC dI cI cZ cL cT cJ s.heap.size sl sh lc ru tr se sf L k lv w h ka ta sx sy fx fy lf un tq tp pl kp (by first | assumption | omega) (by first | assumption | omega) (by first | assumption | omega) (by first | assumption | omega)) (cwV 2 hts gX5_half_X5_tapeOf rfl rfl rfl (by decide +kernel) ⟨Nat.le_of_ble_eq_true rfl, Nat.le_of_ble_eq_true rfl⟩) ⟨zP_blind, va_recv hK hPc (ci := 5) (q0 := 0) rfl rfl, zP_pre hPc hDc hK⟩ rfl rfl hl.1 rfl (lv_room (Nat.le_of_ble_eq_true rfl)) dX5_half_3 ⟨Nat.le_of_ble_eq_true rfl, Nat.le_of_ble_eq_true rfl⟩) hS (fun q _ h => hFc q h) hFc (fun r_1 u_1 t H1 locs ht hvm hw hB hz1 hk1 hS => ?_)
  obtain ⟨hP1, hK1, hD1⟩ := hB
  rw [ht] at hP1
  have hP1 : va_P (dC, dI) vwCl [(sl, .inr (5, [.ref sh, .int (zI lc), .ref ru, .ref tr, .ref se])), zQ cL sh 6 sf, (lv, .inr (1, [.int (zI w), .int (zI h), .ref ka, .ref ta, .int (zI sx), .int (zI sy), .int (zI fx), .int (zI fy), .int (zI lf), .int (zI un)])), zQ cT ta 4 tq] H1 := hP1
  obtain ⟨hP, hD⟩ := va_join (wr := [(tp kp, .inr (4, [.ref ti, .int (zI ln), .int (zI hf)]))]) (w1 := [(sl, .inr (5, [.ref sh, .int (zI lc), .ref ru, .ref tr, .ref se])), zQ cL sh 6 sf, (lv, .inr (1, [.int (zI w), .int (zI h), .ref ka, .ref ta, .int (zI sx), .int (zI sy), .int (zI fx), .int (zI fy), .int (zI lf), .int (zI un)])), zQ cT ta 4 tq]) hP hD [0, 1, 2, 3] [4] rfl rfl (by decide) (by decide) hk1 hFc hP1 hD1
  clear hP1 hD1 hk1 hFc hPc hDc hz1
  generalize H1 = H at hP hS ⊢
  have hP : va_P (dC, dI) vwCl [(sl, .inr (5, [.ref sh, .int (zI lc), .ref ru, .ref tr, .ref se])), zQ cL sh 6 sf, (lv, .inr (1, [.int (zI w), .int (zI h), .ref ka, .ref ta, .int (zI sx), .int (zI sy), .int (zI fx), .int (zI fy), .int (zI lf), .int (zI un)])), zQ cT ta 4 tq, (tp kp, .inr (4, [.ref ti, .int (zI ln), .int (zI hf)]))] H := hP.sub [1, 2, 3, 4, 0] rfl
  have hD : va_D A [(sl, .inr (5, [.ref sh, .int (zI lc), .ref ru, .ref tr, .ref se])), zQ cL sh 6 sf, (lv, .inr (1, [.int (zI w), .int (zI h), .ref ka, .ref ta, .int (zI sx), .int (zI sy), .int (zI fx), .int (zI fy), .int (zI lf), .int (zI un)])), zQ cT ta 4 tq, (tp kp, .inr (4, [.ref ti, .int (zI ln), .int (zI hf)]))] := hD.sub [1, 2, 3, 4, 0] (by decide) rfl
  clear hK1 hvm
  obtain ⟨rfl, po_2⟩ := hw
  refine W.eq (g2 := F0 m 6 ls [.ref (tp kp)]) rfl ?_
  refine va_get (D := (dC, dI)) (ci := 4) (v := .int (zI hf)) (C := RX4) (T := TX4) (N := 3) hx hb hts i_4 hown hK hP 4 rfl rfl 2 (by decide) f_193 (fun _ h9 => h9) rfl dX5_half_6 ?_
  have hP9 := hP.sub (ws' := [(sl, .inr (5, [.ref sh, .int (zI lc), .ref ru, .ref tr, .ref se])), zQ cL sh 6 sf, (lv, .inr (1, [.int (zI w), .int (zI h), .ref ka, .ref ta, .int (zI sx), .int (zI sy), .int (zI fx), .int (zI fy), .int (zI lf), .int (zI un)])), zQ cT ta 4 tq, (tp kp, .inr (4, [.ref ti, .int (zI ln), .int (zI hf)]))]) [0, 1, 2, 3, 4] rfl
  have hD9 := hD.sub (ws' := [(sl, .inr (5, [.ref sh, .int (zI lc), .ref ru, .ref tr, .ref se])), zQ cL sh 6 sf, (lv, .inr (1, [.int (zI w), .int (zI h), .ref ka, .ref ta, .int (zI sx), .int (zI sy), .int (zI fx), .int (zI fy), .int (zI lf), .int (zI un)])), zQ cT ta 4 tq, (tp kp, .inr (4, [.ref ti, .int (zI ln), .int (zI hf)]))]) [0, 1, 2, 3, 4] (by decide) rfl
  have po : zI hf = zI hf ∧ (True) := by
    refine ⟨by first | rfl | (congr 1; omega) | (congr 1; simp [*]), ?_⟩
    trivial
  exact W.iret (v := zI hf) hx hb hr (fun t ht hW => ⟨⟨zI hf, (), rfl, po, by rw [ht]; exact hP9, va_K.moved hW.alike hK, hD9⟩, hS.F ht⟩) hS.2.2 dX5_half_9
set_option maxHeartbeats 4000000 in
set_option maxRecDepth 100000 in
theorem c_X5_bestPlayer (l : Launch) (dC : Nat → ClassId) (dI : Nat → Nat → Nat) (cI cZ cL cT cJ : ClassId) (sz : Nat) (sl : Nat) (sh : Nat) (lc : Int) (ru : Nat) (tr : Nat) (se : Nat) (sf : Nat → Option Nat) (L : Int) (k : Nat) (lv : Nat) (w : Int) (h : Int) (ka : Nat) (ta : Nat) (sx : Int) (sy : Int) (fx : Int) (fy : Int) (lf : Int) (un : Int) (tq : Nat → Option Nat) (tp : Nat → Nat) (ti : Nat → Nat) (LN : Nat → Int) (HF : Nat → Int) (gk : L = (k : Int) ∧ k < 6) (gf : sf k = some lv) (gt : ∀ k, k < 4 → tq k = some (tp k)) (gL : ∀ k, k < 4 → -1 ≤ LN k ∧ LN k ≤ 100) : Met l yX5_bestPlayer wsX5_bestPlayer ({ frames := 1, cells := 0, slots := 0, locals := 24 }) (zP (dC, dI) (zT cI cZ cL cT cJ) sz [.ref sl, .int (zI L)] [(sl, .inr (5, [.ref sh, .int (zI lc), .ref ru, .ref tr, .ref se])), zQ cL sh 6 sf, (lv, .inr (1, [.int (zI w), .int (zI h), .ref ka, .ref ta, .int (zI sx), .int (zI sy), .int (zI fx), .int (zI fy), .int (zI lf), .int (zI un)])), zQ cT ta 4 tq, (tp 0, .inr (4, [.ref (ti 0), .int (zI (LN 0)), .int (zI (HF 0))])), (tp 1, .inr (4, [.ref (ti 1), .int (zI (LN 1)), .int (zI (HF 1))])), (tp 2, .inr (4, [.ref (ti 2), .int (zI (LN 2)), .int (zI (HF 2))])), (tp 3, .inr (4, [.ref (ti 3), .int (zI (LN 3)), .int (zI (HF 3))]))]) (va_Qi (fun (r9 : Int32) (u9 : Int) => match u9 with | rr => r9 = zI rr ∧ (rr = (bp4 LN).1)) (zB (dC, dI) (zT cI cZ cL cT cJ) (va_A [(sl, .inr (5, [.ref sh, .int (zI lc), .ref ru, .ref tr, .ref se])), zQ cL sh 6 sf, (lv, .inr (1, [.int (zI w), .int (zI h), .ref ka, .ref ta, .int (zI sx), .int (zI sy), .int (zI fx), .int (zI fy), .int (zI lf), .int (zI un)])), zQ cT ta 4 tq, (tp 0, .inr (4, [.ref (ti 0), .int (zI (LN 0)), .int (zI (HF 0))])), (tp 1, .inr (4, [.ref (ti 1), .int (zI (LN 1)), .int (zI (HF 1))])), (tp 2, .inr (4, [.ref (ti 2), .int (zI (LN 2)), .int (zI (HF 2))])), (tp 3, .inr (4, [.ref (ti 3), .int (zI (LN 3)), .int (zI (HF 3))]))] sz) (fun (u9 : Int) => match u9 with | rr => [(sl, .inr (5, [.ref sh, .int (zI lc), .ref ru, .ref tr, .ref se])), zQ cL sh 6 sf, (lv, .inr (1, [.int (zI w), .int (zI h), .ref ka, .ref ta, .int (zI sx), .int (zI sy), .int (zI fx), .int (zI fy), .int (zI lf), .int (zI un)])), zQ cT ta 4 tq, (tp 0, .inr (4, [.ref (ti 0), .int (zI (LN 0)), .int (zI (HF 0))])), (tp 1, .inr (4, [.ref (ti 1), .int (zI (LN 1)), .int (zI (HF 1))])), (tp 2, .inr (4, [.ref (ti 2), .int (zI (LN 2)), .int (zI (HF 2))])), (tp 3, .inr (4, [.ref (ti 3), .int (zI (LN 3)), .int (zI (HF 3))]))])) (va_A [(sl, .inr (5, [.ref sh, .int (zI lc), .ref ru, .ref tr, .ref se])), zQ cL sh 6 sf, (lv, .inr (1, [.int (zI w), .int (zI h), .ref ka, .ref ta, .int (zI sx), .int (zI sy), .int (zI fx), .int (zI fy), .int (zI lf), .int (zI un)])), zQ cT ta 4 tq, (tp 0, .inr (4, [.ref (ti 0), .int (zI (LN 0)), .int (zI (HF 0))])), (tp 1, .inr (4, [.ref (ti 1), .int (zI (LN 1)), .int (zI (HF 1))])), (tp 2, .inr (4, [.ref (ti 2), .int (zI (LN 2)), .int (zI (HF 2))])), (tp 3, .inr (4, [.ref (ti 3), .int (zI (LN 3)), .int (zI (HF 3))]))] sz)) 0 0 (va_A [(sl, .inr (5, [.ref sh, .int (zI lc), .ref ru, .ref tr, .ref se])), zQ cL sh 6 sf, (lv, .inr (1, [.int (zI w), .int (zI h), .ref ka, .ref ta, .int (zI sx), .int (zI sy), .int (zI fx), .int (zI fy), .int (zI lf), .int (zI un)])), zQ cT ta 4 tq, (tp 0, .inr (4, [.ref (ti 0), .int (zI (LN 0)), .int (zI (HF 0))])), (tp 1, .inr (4, [.ref (ti 1), .int (zI (LN 1)), .int (zI (HF 1))])), (tp 2, .inr (4, [.ref (ti 2), .int (zI (LN 2)), .int (zI (HF 2))])), (tp 3, .inr (4, [.ref (ti 3), .int (zI (LN 3)), .int (zI (HF 3))]))] sz) := by
  refine Met.ofW (cc := cX5_bestPlayer) (maxL := 2) (ret := (some .int)) (by decide) rfl ?_
  intro p e s m args below meth c s₁ B hml hv
  obtain ⟨rfl, hsz, hP, hK, hD0⟩ := hv
  have hx := B.exec
  have hb := B.bytes
  have hr := B.returns
  have hts := atoms_spec (ws := wsX5_bestPlayer) B.pre
  have hown : s.vm.findClass RX5 = some m.cls := findClass_of_methodNamed B.named
  have hlocks := B.notSynchronized
  subst hsz
  have hD := hD0.self (sz := s.heap.size)
  generalize hAe : va_A [(sl, .inr (5, [.ref sh, .int (zI lc), .ref ru, .ref tr, .ref se])), zQ cL sh 6 sf, (lv, .inr (1, [.int (zI w), .int (zI h), .ref ka, .ref ta, .int (zI sx), .int (zI sy), .int (zI fx), .int (zI fy), .int (zI lf), .int (zI un)])), zQ cT ta 4 tq, (tp 0, .inr (4, [.ref (ti 0), .int (zI (LN 0)), .int (zI (HF 0))])), (tp 1, .inr (4, [.ref (ti 1), .int (zI (LN 1)), .int (zI (HF 1))])), (tp 2, .inr (4, [.ref (ti 2), .int (zI (LN 2)), .int (zI (HF 2))])), (tp 3, .inr (4, [.ref (ti 3), .int (zI (LN 3)), .int (zI (HF 3))]))] s.heap.size = A at hD ⊢
  have hA : ∀ q : Nat, s.heap.size ≤ q → A q := fun q h => by rw [← hAe]; exact Or.inr h
  clear hAe hD0
  have hS : va_S A s.heap s.heap [] := va_S.rf
  have hP : va_P (dC, dI) vwCl [(sl, .inr (5, [.ref sh, .int (zI lc), .ref ru, .ref tr, .ref se])), zQ cL sh 6 sf, (lv, .inr (1, [.int (zI w), .int (zI h), .ref ka, .ref ta, .int (zI sx), .int (zI sy), .int (zI fx), .int (zI fy), .int (zI lf), .int (zI un)])), zQ cT ta 4 tq, (tp 0, .inr (4, [.ref (ti 0), .int (zI (LN 0)), .int (zI (HF 0))])), (tp 1, .inr (4, [.ref (ti 1), .int (zI (LN 1)), .int (zI (HF 1))])), (tp 2, .inr (4, [.ref (ti 2), .int (zI (LN 2)), .int (zI (HF 2))])), (tp 3, .inr (4, [.ref (ti 3), .int (zI (LN 3)), .int (zI (HF 3))]))] s.heap := hP
  have hl := lv_entry ([.ref sl, .int (zI L)]) (n := 2) (Nat.le_of_ble_eq_true rfl)
  rw [lg_entry_eq]
  generalize (lg_sl ([.ref sl, .int (zI L)]) ++ List.replicate (2 - (lg_sl ([.ref sl, .int (zI L)])).length) Slot.unset).toArray = ls at hl ⊢
  have hl : lv_has ls 2 [(0, .ref sl), (1, .int (zI L))] := hl
  refine lv_aload_n hx hb dX5_bestPlayer_0 rfl (lv_at hl 0 rfl) ?_
  refine lv_iload_n hx hb dX5_bestPlayer_1 rfl (lv_at hl 1 rfl) ?_
  have hPc := hP.sub (ws' := [(sl, .inr (5, [.ref sh, .int (zI lc), .ref ru, .ref tr, .ref se])), zQ cL sh 6 sf]) [0, 1] rfl
  have hDc := hD.sub (ws' := [(sl, .inr (5, [.ref sh, .int (zI lc), .ref ru, .ref tr, .ref se])), zQ cL sh 6 sf]) [0, 1] (by decide) rfl
  have hFc := va_free (wc := [(sl, .inr (5, [.ref sh, .int (zI lc), .ref ru, .ref tr, .ref se])), zQ cL sh 6 sf]) hD hS hA [0, 1] rfl
  refine va_callq (va_runV (As := [.int (zI L)]) (rest := []) ⟨hx, hb, hml, hown, hts⟩ (c_X5_levelNumbered l dC dI cI cZ cL cT cJ s.heap.size sl sh lc ru tr se sf L k lv (by first | assumption | omega) (by first | assumption | omega)) (cwV 1 hts gX5_bestPlayer_X5_levelNumbered rfl rfl rfl (by decide +kernel) ⟨Nat.le_of_ble_eq_true rfl, Nat.le_of_ble_eq_true rfl⟩) ⟨zP_blind, va_recv hK hPc (ci := 5) (q0 := 0) rfl rfl, zP_pre hPc hDc hK⟩ rfl rfl hl.1 rfl (lv_room (Nat.le_of_ble_eq_true rfl)) dX5_bestPlayer_2 ⟨Nat.le_of_ble_eq_true rfl, Nat.le_of_ble_eq_true rfl⟩) hS (fun q _ h => hFc q h) hFc (fun r_1 u_1 t H1 locs ht hvm hw hB hz1 hk1 hS => ?_)
  obtain ⟨hP1, hK1, hD1⟩ := hB
  rw [ht] at hP1
  have hP1 : va_P (dC, dI) vwCl [(sl, .inr (5, [.ref sh, .int (zI lc), .ref ru, .ref tr, .ref se])), zQ cL sh 6 sf] H1 := hP1
  obtain ⟨hP, hD⟩ := va_join (wr := [(lv, .inr (1, [.int (zI w), .int (zI h), .ref ka, .ref ta, .int (zI sx), .int (zI sy), .int (zI fx), .int (zI fy), .int (zI lf), .int (zI un)])), zQ cT ta 4 tq, (tp 0, .inr (4, [.ref (ti 0), .int (zI (LN 0)), .int (zI (HF 0))])), (tp 1, .inr (4, [.ref (ti 1), .int (zI (LN 1)), .int (zI (HF 1))])), (tp 2, .inr (4, [.ref (ti 2), .int (zI (LN 2)), .int (zI (HF 2))])), (tp 3, .inr (4, [.ref (ti 3), .int (zI (LN 3)), .int (zI (HF 3))]))]) (w1 := [(sl, .inr (5, [.ref sh, .int (zI lc), .ref ru, .ref tr, .ref se])), zQ cL sh 6 sf]) hP hD [0, 1] [2, 3, 4, 5, 6, 7] rfl rfl (by decide) (by decide) hk1 hFc hP1 hD1
  clear hP1 hD1 hk1 hFc hPc hDc hz1
  generalize H1 = H at hP hS ⊢
  have hP : va_P (dC, dI) vwCl [(sl, .inr (5, [.ref sh, .int (zI lc), .ref ru, .ref tr, .ref se])), zQ cL sh 6 sf, (lv, .inr (1, [.int (zI w), .int (zI h), .ref ka, .ref ta, .int (zI sx), .int (zI sy), .int (zI fx), .int (zI fy), .int (zI lf), .int (zI un)])), zQ cT ta 4 tq, (tp 0, .inr (4, [.ref (ti 0), .int (zI (LN 0)), .int (zI (HF 0))])), (tp 1, .inr (4, [.ref (ti 1), .int (zI (LN 1)), .int (zI (HF 1))])), (tp 2, .inr (4, [.ref (ti 2), .int (zI (LN 2)), .int (zI (HF 2))])), (tp 3, .inr (4, [.ref (ti 3), .int (zI (LN 3)), .int (zI (HF 3))]))] H := hP.sub [6, 7, 0, 1, 2, 3, 4, 5] rfl
  have hD : va_D A [(sl, .inr (5, [.ref sh, .int (zI lc), .ref ru, .ref tr, .ref se])), zQ cL sh 6 sf, (lv, .inr (1, [.int (zI w), .int (zI h), .ref ka, .ref ta, .int (zI sx), .int (zI sy), .int (zI fx), .int (zI fy), .int (zI lf), .int (zI un)])), zQ cT ta 4 tq, (tp 0, .inr (4, [.ref (ti 0), .int (zI (LN 0)), .int (zI (HF 0))])), (tp 1, .inr (4, [.ref (ti 1), .int (zI (LN 1)), .int (zI (HF 1))])), (tp 2, .inr (4, [.ref (ti 2), .int (zI (LN 2)), .int (zI (HF 2))])), (tp 3, .inr (4, [.ref (ti 3), .int (zI (LN 3)), .int (zI (HF 3))]))] := hD.sub [6, 7, 0, 1, 2, 3, 4, 5] (by decide) rfl
  clear hK1 hvm
  obtain ⟨rfl, po_2⟩ := hw
  refine W.eq (g2 := F0 m 5 ls [.ref lv]) rfl ?_
  have hPc := hP.sub (ws' := [(lv, .inr (1, [.int (zI w), .int (zI h), .ref ka, .ref ta, .int (zI sx), .int (zI sy), .int (zI fx), .int (zI fy), .int (zI lf), .int (zI un)])), zQ cT ta 4 tq, (tp 0, .inr (4, [.ref (ti 0), .int (zI (LN 0)), .int (zI (HF 0))])), (tp 1, .inr (4, [.ref (ti 1), .int (zI (LN 1)), .int (zI (HF 1))])), (tp 2, .inr (4, [.ref (ti 2), .int (zI (LN 2)), .int (zI (HF 2))])), (tp 3, .inr (4, [.ref (ti 3), .int (zI (LN 3)), .int (zI (HF 3))]))]) [2, 3, 4, 5, 6, 7] rfl
  have hDc := hD.sub (ws' := [(lv, .inr (1, [.int (zI w), .int (zI h), .ref ka, .ref ta, .int (zI sx), .int (zI sy), .int (zI fx), .int (zI fy), .int (zI lf), .int (zI un)])), zQ cT ta 4 tq, (tp 0, .inr (4, [.ref (ti 0), .int (zI (LN 0)), .int (zI (HF 0))])), (tp 1, .inr (4, [.ref (ti 1), .int (zI (LN 1)), .int (zI (HF 1))])), (tp 2, .inr (4, [.ref (ti 2), .int (zI (LN 2)), .int (zI (HF 2))])), (tp 3, .inr (4, [.ref (ti 3), .int (zI (LN 3)), .int (zI (HF 3))]))]) [2, 3, 4, 5, 6, 7] (by decide) rfl
  have hFc := va_free (wc := [(lv, .inr (1, [.int (zI w), .int (zI h), .ref ka, .ref ta, .int (zI sx), .int (zI sy), .int (zI fx), .int (zI fy), .int (zI lf), .int (zI un)])), zQ cT ta 4 tq, (tp 0, .inr (4, [.ref (ti 0), .int (zI (LN 0)), .int (zI (HF 0))])), (tp 1, .inr (4, [.ref (ti 1), .int (zI (LN 1)), .int (zI (HF 1))])), (tp 2, .inr (4, [.ref (ti 2), .int (zI (LN 2)), .int (zI (HF 2))])), (tp 3, .inr (4, [.ref (ti 3), .int (zI (LN 3)), .int (zI (HF 3))]))]) hD hS hA [2, 3, 4, 5, 6, 7] rfl
  refine va_calli (va_runV (As := []) (rest := []) ⟨hx, hb, hml, hown, hts⟩ (c_X1_fastestPlayer l dC dI cI cZ cL cT cJ H.size lv w h ka ta sx sy fx fy lf un tq tp ti LN HF (by first | assumption | omega) (by first | assumption | omega)) (cwV 0 hts gX5_bestPlayer_X1_fastestPlayer rfl rfl rfl (by decide +kernel) ⟨Nat.le_of_ble_eq_true rfl, Nat.le_of_ble_eq_true rfl⟩) ⟨zP_blind, va_recv hK hPc (ci := 1) (q0 := 0) rfl rfl, zP_pre hPc hDc hK⟩ rfl rfl hl.1 rfl (lv_room (Nat.le_of_ble_eq_true rfl)) dX5_bestPlayer_5 ⟨Nat.le_of_ble_eq_true rfl, Nat.le_of_ble_eq_true rfl⟩) hS (fun q _ h => hFc q h) hFc (fun r_3 u_3 t H1 locs ht hvm hw hB hz1 hk1 hS => ?_)
  obtain ⟨r_4, rfl⟩ : ∃ z, z = u_3 := ⟨_, rfl⟩
  obtain ⟨hP1, hK1, hD1⟩ := hB
  rw [ht] at hP1
  have hP1 : va_P (dC, dI) vwCl [(lv, .inr (1, [.int (zI w), .int (zI h), .ref ka, .ref ta, .int (zI sx), .int (zI sy), .int (zI fx), .int (zI fy), .int (zI lf), .int (zI un)])), zQ cT ta 4 tq, (tp 0, .inr (4, [.ref (ti 0), .int (zI (LN 0)), .int (zI (HF 0))])), (tp 1, .inr (4, [.ref (ti 1), .int (zI (LN 1)), .int (zI (HF 1))])), (tp 2, .inr (4, [.ref (ti 2), .int (zI (LN 2)), .int (zI (HF 2))])), (tp 3, .inr (4, [.ref (ti 3), .int (zI (LN 3)), .int (zI (HF 3))]))] H1 := hP1
  obtain ⟨hP, hD⟩ := va_join (wr := [(sl, .inr (5, [.ref sh, .int (zI lc), .ref ru, .ref tr, .ref se])), zQ cL sh 6 sf]) (w1 := [(lv, .inr (1, [.int (zI w), .int (zI h), .ref ka, .ref ta, .int (zI sx), .int (zI sy), .int (zI fx), .int (zI fy), .int (zI lf), .int (zI un)])), zQ cT ta 4 tq, (tp 0, .inr (4, [.ref (ti 0), .int (zI (LN 0)), .int (zI (HF 0))])), (tp 1, .inr (4, [.ref (ti 1), .int (zI (LN 1)), .int (zI (HF 1))])), (tp 2, .inr (4, [.ref (ti 2), .int (zI (LN 2)), .int (zI (HF 2))])), (tp 3, .inr (4, [.ref (ti 3), .int (zI (LN 3)), .int (zI (HF 3))]))]) hP hD [2, 3, 4, 5, 6, 7] [0, 1] rfl rfl (by decide) (by decide) hk1 hFc hP1 hD1
  clear hP1 hD1 hk1 hFc hPc hDc hz1
  generalize H1 = H at hP hS ⊢
  have hP : va_P (dC, dI) vwCl [(sl, .inr (5, [.ref sh, .int (zI lc), .ref ru, .ref tr, .ref se])), zQ cL sh 6 sf, (lv, .inr (1, [.int (zI w), .int (zI h), .ref ka, .ref ta, .int (zI sx), .int (zI sy), .int (zI fx), .int (zI fy), .int (zI lf), .int (zI un)])), zQ cT ta 4 tq, (tp 0, .inr (4, [.ref (ti 0), .int (zI (LN 0)), .int (zI (HF 0))])), (tp 1, .inr (4, [.ref (ti 1), .int (zI (LN 1)), .int (zI (HF 1))])), (tp 2, .inr (4, [.ref (ti 2), .int (zI (LN 2)), .int (zI (HF 2))])), (tp 3, .inr (4, [.ref (ti 3), .int (zI (LN 3)), .int (zI (HF 3))]))] H := hP.sub [0, 1, 2, 3, 4, 5, 6, 7] rfl
  have hD : va_D A [(sl, .inr (5, [.ref sh, .int (zI lc), .ref ru, .ref tr, .ref se])), zQ cL sh 6 sf, (lv, .inr (1, [.int (zI w), .int (zI h), .ref ka, .ref ta, .int (zI sx), .int (zI sy), .int (zI fx), .int (zI fy), .int (zI lf), .int (zI un)])), zQ cT ta 4 tq, (tp 0, .inr (4, [.ref (ti 0), .int (zI (LN 0)), .int (zI (HF 0))])), (tp 1, .inr (4, [.ref (ti 1), .int (zI (LN 1)), .int (zI (HF 1))])), (tp 2, .inr (4, [.ref (ti 2), .int (zI (LN 2)), .int (zI (HF 2))])), (tp 3, .inr (4, [.ref (ti 3), .int (zI (LN 3)), .int (zI (HF 3))]))] := hD.sub [0, 1, 2, 3, 4, 5, 6, 7] (by decide) rfl
  clear hK1 hvm
  obtain ⟨rfl, po_5⟩ := hw
  have po_5 : r_4 = (bp4 LN).1 := po_5
  refine W.eq (g2 := F0 m 8 ls [.int (zI r_4)]) rfl ?_
  have hP9 := hP.sub (ws' := [(sl, .inr (5, [.ref sh, .int (zI lc), .ref ru, .ref tr, .ref se])), zQ cL sh 6 sf, (lv, .inr (1, [.int (zI w), .int (zI h), .ref ka, .ref ta, .int (zI sx), .int (zI sy), .int (zI fx), .int (zI fy), .int (zI lf), .int (zI un)])), zQ cT ta 4 tq, (tp 0, .inr (4, [.ref (ti 0), .int (zI (LN 0)), .int (zI (HF 0))])), (tp 1, .inr (4, [.ref (ti 1), .int (zI (LN 1)), .int (zI (HF 1))])), (tp 2, .inr (4, [.ref (ti 2), .int (zI (LN 2)), .int (zI (HF 2))])), (tp 3, .inr (4, [.ref (ti 3), .int (zI (LN 3)), .int (zI (HF 3))]))]) [0, 1, 2, 3, 4, 5, 6, 7] rfl
  have hD9 := hD.sub (ws' := [(sl, .inr (5, [.ref sh, .int (zI lc), .ref ru, .ref tr, .ref se])), zQ cL sh 6 sf, (lv, .inr (1, [.int (zI w), .int (zI h), .ref ka, .ref ta, .int (zI sx), .int (zI sy), .int (zI fx), .int (zI fy), .int (zI lf), .int (zI un)])), zQ cT ta 4 tq, (tp 0, .inr (4, [.ref (ti 0), .int (zI (LN 0)), .int (zI (HF 0))])), (tp 1, .inr (4, [.ref (ti 1), .int (zI (LN 1)), .int (zI (HF 1))])), (tp 2, .inr (4, [.ref (ti 2), .int (zI (LN 2)), .int (zI (HF 2))])), (tp 3, .inr (4, [.ref (ti 3), .int (zI (LN 3)), .int (zI (HF 3))]))]) [0, 1, 2, 3, 4, 5, 6, 7] (by decide) rfl
  have po : zI r_4 = zI r_4 ∧ (r_4 = (bp4 LN).1) := by
    refine ⟨by first | rfl | (congr 1; omega) | (congr 1; simp [*]), ?_⟩
    exact po_5
  exact W.iret (v := zI r_4) hx hb hr (fun t ht hW => ⟨⟨zI r_4, r_4, rfl, po, by rw [ht]; exact hP9, va_K.moved hW.alike hK, hD9⟩, hS.F ht⟩) hS.2.2 dX5_bestPlayer_8
set_option maxHeartbeats 4000000 in
set_option maxRecDepth 100000 in
theorem c_X5_follow (l : Launch) (dC : Nat → ClassId) (dI : Nat → Nat → Nat) (cI cZ cL cT cJ : ClassId) (sz : Nat) (sl : Nat) (sh : Nat) (lc : Int) (ru : Nat) (tr : Nat) (se : Nat) (tx : Int) (ty : Int) (tl : Int) (lv : Nat) (w : Int) (h : Int) (ka : Nat) (ta : Nat) (sx : Int) (sy : Int) (fx : Int) (fy : Int) (lf : Int) (un : Int) (K : Int → Int) (tt : Nat) (ti : Nat) (ln : Int) (hf : Int) (FI : Int → Int) (lm : Int) (gw : 0 < w ∧ w ≤ 12) (gh : 0 < h ∧ h ≤ 8) (gK : Kin K) (gsx : 0 ≤ sx ∧ sx < w) (gsy : 0 ≤ sy ∧ sy < h) (gfx : 0 ≤ fx ∧ fx < w) (gfy : 0 ≤ fy ∧ fy < h) (gn : 1 ≤ ln ∧ ln ≤ 100) (gm : 0 ≤ lm ∧ lm ≤ 100) (gFI : ∀ j, 0 ≤ j → j < ln → 0 ≤ FI j ∧ FI j ≤ 5) (gO : ∀ j : Nat, (j : Int) < ln - 1 → (smO K w h fx fy sx sy FI j) = 0) (gW : (smO K w h fx fy sx sy FI (ln - 1).toNat) = 2) : Met l yX5_follow wsX5_follow ({ frames := 3, cells := 0, slots := 0, locals := 69 }) (zP (dC, dI) (zT cI cZ cL cT cJ) sz [.ref sl, .ref lv, .ref tt, .int (zI lm)] [(sl, .inr (5, [.ref sh, .int (zI lc), .ref ru, .ref tr, .ref se])), (tr, .inr (0, [.int (zI tx), .int (zI ty), .int (zI tl)])), (lv, .inr (1, [.int (zI w), .int (zI h), .ref ka, .ref ta, .int (zI sx), .int (zI sy), .int (zI fx), .int (zI fy), .int (zI lf), .int (zI un)])), zA cI ka 96 K, (tt, .inr (4, [.ref ti, .int (zI ln), .int (zI hf)])), zA cI ti 100 FI]) (va_Qi (fun (r9 : Int32) (u9 : Int × Int × Int × Int) => match u9 with | (x1, y1, l1, rr) => r9 = zI rr ∧ ((x1, y1, l1) = (smS K w h sx sy FI (min lm ln).toNat) ∧ rr = (if ln ≤ lm then ln else -1))) (zB (dC, dI) (zT cI cZ cL cT cJ) (va_A [(sl, .inr (5, [.ref sh, .int (zI lc), .ref ru, .ref tr, .ref se])), (tr, .inr (0, [.int (zI tx), .int (zI ty), .int (zI tl)])), (lv, .inr (1, [.int (zI w), .int (zI h), .ref ka, .ref ta, .int (zI sx), .int (zI sy), .int (zI fx), .int (zI fy), .int (zI lf), .int (zI un)])), zA cI ka 96 K, (tt, .inr (4, [.ref ti, .int (zI ln), .int (zI hf)])), zA cI ti 100 FI] sz) (fun (u9 : Int × Int × Int × Int) => match u9 with | (x1, y1, l1, rr) => [(sl, .inr (5, [.ref sh, .int (zI lc), .ref ru, .ref tr, .ref se])), (tr, .inr (0, [.int (zI x1), .int (zI y1), .int (zI l1)])), (lv, .inr (1, [.int (zI w), .int (zI h), .ref ka, .ref ta, .int (zI sx), .int (zI sy), .int (zI fx), .int (zI fy), .int (zI lf), .int (zI un)])), zA cI ka 96 K, (tt, .inr (4, [.ref ti, .int (zI ln), .int (zI hf)])), zA cI ti 100 FI])) (va_A [(sl, .inr (5, [.ref sh, .int (zI lc), .ref ru, .ref tr, .ref se])), (tr, .inr (0, [.int (zI tx), .int (zI ty), .int (zI tl)])), (lv, .inr (1, [.int (zI w), .int (zI h), .ref ka, .ref ta, .int (zI sx), .int (zI sy), .int (zI fx), .int (zI fy), .int (zI lf), .int (zI un)])), zA cI ka 96 K, (tt, .inr (4, [.ref ti, .int (zI ln), .int (zI hf)])), zA cI ti 100 FI] sz)) 0 0 (va_A [(sl, .inr (5, [.ref sh, .int (zI lc), .ref ru, .ref tr, .ref se])), (tr, .inr (0, [.int (zI tx), .int (zI ty), .int (zI tl)])), (lv, .inr (1, [.int (zI w), .int (zI h), .ref ka, .ref ta, .int (zI sx), .int (zI sy), .int (zI fx), .int (zI fy), .int (zI lf), .int (zI un)])), zA cI ka 96 K, (tt, .inr (4, [.ref ti, .int (zI ln), .int (zI hf)])), zA cI ti 100 FI] sz) := by
  refine Met.ofW (cc := cX5_follow) (maxL := 5) (ret := (some .int)) (by decide) rfl ?_
  intro p e s m args below meth c s₁ B hml hv
  obtain ⟨rfl, hsz, hP, hK, hD0⟩ := hv
  have hx := B.exec
  have hb := B.bytes
  have hr := B.returns
  have hts := atoms_spec (ws := wsX5_follow) B.pre
  have hown : s.vm.findClass RX5 = some m.cls := findClass_of_methodNamed B.named
  have hlocks := B.notSynchronized
  subst hsz
  have hD := hD0.self (sz := s.heap.size)
  generalize hAe : va_A [(sl, .inr (5, [.ref sh, .int (zI lc), .ref ru, .ref tr, .ref se])), (tr, .inr (0, [.int (zI tx), .int (zI ty), .int (zI tl)])), (lv, .inr (1, [.int (zI w), .int (zI h), .ref ka, .ref ta, .int (zI sx), .int (zI sy), .int (zI fx), .int (zI fy), .int (zI lf), .int (zI un)])), zA cI ka 96 K, (tt, .inr (4, [.ref ti, .int (zI ln), .int (zI hf)])), zA cI ti 100 FI] s.heap.size = A at hD ⊢
  have hA : ∀ q : Nat, s.heap.size ≤ q → A q := fun q h => by rw [← hAe]; exact Or.inr h
  clear hAe hD0
  have hS : va_S A s.heap s.heap [] := va_S.rf
  have hP : va_P (dC, dI) vwCl [(sl, .inr (5, [.ref sh, .int (zI lc), .ref ru, .ref tr, .ref se])), (tr, .inr (0, [.int (zI tx), .int (zI ty), .int (zI tl)])), (lv, .inr (1, [.int (zI w), .int (zI h), .ref ka, .ref ta, .int (zI sx), .int (zI sy), .int (zI fx), .int (zI fy), .int (zI lf), .int (zI un)])), zA cI ka 96 K, (tt, .inr (4, [.ref ti, .int (zI ln), .int (zI hf)])), zA cI ti 100 FI] s.heap := hP
  have f_29 := hts (.fieldLink RX5 29 "SpringLevels" "trial" "LSpringLevels$Hero;") (by decide +kernel)
  have f_172 := hts (.fieldLink RX5 172 "SpringLevels$Tape" "length" "I") (by decide +kernel)
  have i_4 : ∀ w ∈ wsX40, w ∈ wsX5_follow := by decide +kernel
  have i_5 : ∀ w ∈ wsX50, w ∈ wsX5_follow := by decide +kernel
  have hl := lv_entry ([.ref sl, .ref lv, .ref tt, .int (zI lm)]) (n := 5) (Nat.le_of_ble_eq_true rfl)
  rw [lg_entry_eq]
  generalize (lg_sl ([.ref sl, .ref lv, .ref tt, .int (zI lm)]) ++ List.replicate (5 - (lg_sl ([.ref sl, .ref lv, .ref tt, .int (zI lm)])).length) Slot.unset).toArray = ls at hl ⊢
  have hl : lv_has ls 5 [(0, .ref sl), (1, .ref lv), (2, .ref tt), (3, .int (zI lm))] := hl
  refine lv_aload_n hx hb dX5_follow_0 rfl (lv_at hl 0 rfl) ?_
  refine va_get (D := (dC, dI)) (ci := 5) (v := .ref tr) (C := RX5) (T := TX5) (N := 5) hx hb hts i_5 hown hK hP 0 rfl rfl 3 (by decide) f_29 (fun _ h9 => h9) rfl dX5_follow_1 ?_
  refine lv_aload_n hx hb dX5_follow_4 rfl (lv_at hl 1 rfl) ?_
  have hPc := hP.sub (ws' := [(tr, .inr (0, [.int (zI tx), .int (zI ty), .int (zI tl)])), (lv, .inr (1, [.int (zI w), .int (zI h), .ref ka, .ref ta, .int (zI sx), .int (zI sy), .int (zI fx), .int (zI fy), .int (zI lf), .int (zI un)]))]) [1, 2] rfl
  have hDc := hD.sub (ws' := [(tr, .inr (0, [.int (zI tx), .int (zI ty), .int (zI tl)])), (lv, .inr (1, [.int (zI w), .int (zI h), .ref ka, .ref ta, .int (zI sx), .int (zI sy), .int (zI fx), .int (zI fy), .int (zI lf), .int (zI un)]))]) [1, 2] (by decide) rfl
  have hFc := va_free (wc := [(tr, .inr (0, [.int (zI tx), .int (zI ty), .int (zI tl)])), (lv, .inr (1, [.int (zI w), .int (zI h), .ref ka, .ref ta, .int (zI sx), .int (zI sy), .int (zI fx), .int (zI fy), .int (zI lf), .int (zI un)]))]) hD hS hA [1, 2] rfl
  refine va_callv (va_runV (As := [.ref lv]) (rest := []) ⟨hx, hb, hml, hown, hts⟩ (c_X0_toStart l dC dI cI cZ cL cT cJ s.heap.size tr tx ty tl lv w h ka ta sx sy fx fy lf un ) (cwV 1 hts gX5_follow_X0_toStart rfl rfl rfl (by decide +kernel) ⟨Nat.le_of_ble_eq_true rfl, Nat.le_of_ble_eq_true rfl⟩) ⟨zP_blind, va_recv hK hPc (ci := 0) (q0 := 0) rfl rfl, zP_pre hPc hDc hK⟩ rfl rfl hl.1 rfl (lv_room (Nat.le_of_ble_eq_true rfl)) dX5_follow_5 ⟨Nat.le_of_ble_eq_true rfl, Nat.le_of_ble_eq_true rfl⟩) hS (fun q _ h => hFc q h) hFc (fun u_1 t H1 locs ht hvm hw hB hz1 hk1 hS => ?_)
  obtain ⟨hP1, hK1, hD1⟩ := hB
  rw [ht] at hP1
  have hP1 : va_P (dC, dI) vwCl [(tr, .inr (0, [.int (zI sx), .int (zI sy), .int (zI 0)])), (lv, .inr (1, [.int (zI w), .int (zI h), .ref ka, .ref ta, .int (zI sx), .int (zI sy), .int (zI fx), .int (zI fy), .int (zI lf), .int (zI un)]))] H1 := hP1
  obtain ⟨hP, hD⟩ := va_join (wr := [(sl, .inr (5, [.ref sh, .int (zI lc), .ref ru, .ref tr, .ref se])), zA cI ka 96 K, (tt, .inr (4, [.ref ti, .int (zI ln), .int (zI hf)])), zA cI ti 100 FI]) (w1 := [(tr, .inr (0, [.int (zI sx), .int (zI sy), .int (zI 0)])), (lv, .inr (1, [.int (zI w), .int (zI h), .ref ka, .ref ta, .int (zI sx), .int (zI sy), .int (zI fx), .int (zI fy), .int (zI lf), .int (zI un)]))]) hP hD [1, 2] [0, 3, 4, 5] rfl rfl (by decide) (by decide) hk1 hFc hP1 hD1
  clear hP1 hD1 hk1 hFc hPc hDc hz1
  generalize H1 = H at hP hS ⊢
  have hP : va_P (dC, dI) vwCl [(sl, .inr (5, [.ref sh, .int (zI lc), .ref ru, .ref tr, .ref se])), (tr, .inr (0, [.int (zI sx), .int (zI sy), .int (zI 0)])), (lv, .inr (1, [.int (zI w), .int (zI h), .ref ka, .ref ta, .int (zI sx), .int (zI sy), .int (zI fx), .int (zI fy), .int (zI lf), .int (zI un)])), zA cI ka 96 K, (tt, .inr (4, [.ref ti, .int (zI ln), .int (zI hf)])), zA cI ti 100 FI] H := hP.sub [0, 4, 5, 1, 2, 3] rfl
  have hD : va_D A [(sl, .inr (5, [.ref sh, .int (zI lc), .ref ru, .ref tr, .ref se])), (tr, .inr (0, [.int (zI sx), .int (zI sy), .int (zI 0)])), (lv, .inr (1, [.int (zI w), .int (zI h), .ref ka, .ref ta, .int (zI sx), .int (zI sy), .int (zI fx), .int (zI fy), .int (zI lf), .int (zI un)])), zA cI ka 96 K, (tt, .inr (4, [.ref ti, .int (zI ln), .int (zI hf)])), zA cI ti 100 FI] := hD.sub [0, 4, 5, 1, 2, 3] (by decide) rfl
  clear hK1 hvm
  refine W.eq (g2 := F0 m 8 ls []) rfl ?_
  refine lv_iconst (v := zI 0) hx hb dX5_follow_8 (rfl) ?_
  refine lv_istore (lv' := [(4, .int (zI 0)), (0, .ref sl), (1, .ref lv), (2, .ref tt), (3, .int (zI lm))]) hx hb dX5_follow_9 hl (by decide) rfl (fun ls hl => ?_)
  refine z_loop (μ := fun (x9 : Int × Int × Int × Int) => match x9 with | (f, x9, y9, l9) => (101 - f).toNat) (I := fun (x9 : Int × Int × Int × Int) (H9 : Heap) (k9 : List Loc) (ls9 : Array Slot) => match x9 with | (f, x9, y9, l9) => (0 ≤ f ∧ f ≤ lm ∧ f < ln) ∧ ((x9, y9, l9) = (smS K w h sx sy FI f.toNat)) ∧ va_P (dC, dI) vwCl [(sl, .inr (5, [.ref sh, .int (zI lc), .ref ru, .ref tr, .ref se])), (tr, .inr (0, [.int (zI x9), .int (zI y9), .int (zI l9)])), (lv, .inr (1, [.int (zI w), .int (zI h), .ref ka, .ref ta, .int (zI sx), .int (zI sy), .int (zI fx), .int (zI fy), .int (zI lf), .int (zI un)])), zA cI ka 96 K, (tt, .inr (4, [.ref ti, .int (zI ln), .int (zI hf)])), zA cI ti 100 FI] H9 ∧ va_D A [(sl, .inr (5, [.ref sh, .int (zI lc), .ref ru, .ref tr, .ref se])), (tr, .inr (0, [.int (zI x9), .int (zI y9), .int (zI l9)])), (lv, .inr (1, [.int (zI w), .int (zI h), .ref ka, .ref ta, .int (zI sx), .int (zI sy), .int (zI fx), .int (zI fy), .int (zI lf), .int (zI un)])), zA cI ka 96 K, (tt, .inr (4, [.ref ti, .int (zI ln), .int (zI hf)])), zA cI ti 100 FI] ∧ va_S A s.heap H9 k9 ∧ lv_has ls9 5 [(0, .ref sl), (1, .ref lv), (2, .ref tt), (3, .int (zI lm)), (4, .int (zI f))]) (fr := fun (x9 : Int × Int × Int × Int) (ls9 : Array Slot) => match x9 with | (f, x9, y9, l9) => F0 m 11 ls9 []) ?_ (0, sx, sy, 0) ⟨(by omega), (by rfl), hP, hD, hS, lv_sub hl [1, 2, 3, 4, 0] rfl⟩
  rintro ⟨f, x9, y9, l9⟩ H locs ls ⟨rf, hs, hP, hD, hS, hl⟩ L_3
  refine W.eq (g2 := F0 m 11 ls []) rfl ?_
  refine lv_iload hx hb dX5_follow_11 (lv_at hl 4 rfl) ?_
  refine lv_iload_n hx hb dX5_follow_13 rfl (lv_at hl 3 rfl) ?_
  refine lz_icmp_ge (tgt := 55) hx hb dX5_follow_14 (by decide) (by omega) (by omega) (fun c_4 => ?_) (fun c_4 => ?_)
  ·
    refine lv_iconst (v := zI (-1)) hx hb dX5_follow_55 (rfl) ?_
    have hP9 := hP.sub (ws' := [(sl, .inr (5, [.ref sh, .int (zI lc), .ref ru, .ref tr, .ref se])), (tr, .inr (0, [.int (zI x9), .int (zI y9), .int (zI l9)])), (lv, .inr (1, [.int (zI w), .int (zI h), .ref ka, .ref ta, .int (zI sx), .int (zI sy), .int (zI fx), .int (zI fy), .int (zI lf), .int (zI un)])), zA cI ka 96 K, (tt, .inr (4, [.ref ti, .int (zI ln), .int (zI hf)])), zA cI ti 100 FI]) [0, 1, 2, 3, 4, 5] rfl
    have hD9 := hD.sub (ws' := [(sl, .inr (5, [.ref sh, .int (zI lc), .ref ru, .ref tr, .ref se])), (tr, .inr (0, [.int (zI x9), .int (zI y9), .int (zI l9)])), (lv, .inr (1, [.int (zI w), .int (zI h), .ref ka, .ref ta, .int (zI sx), .int (zI sy), .int (zI fx), .int (zI fy), .int (zI lf), .int (zI un)])), zA cI ka 96 K, (tt, .inr (4, [.ref ti, .int (zI ln), .int (zI hf)])), zA cI ti 100 FI]) [0, 1, 2, 3, 4, 5] (by decide) rfl
    have po : zI (-1) = zI (-1 : Int) ∧ ((x9, y9, l9) = (smS K w h sx sy FI (min lm ln).toNat) ∧ (-1 : Int) = (if ln ≤ lm then ln else -1)) := by
      refine ⟨by first | rfl | (congr 1; omega) | (congr 1; simp [*]), ?_⟩
      refine ⟨?_, ?_⟩
      · rw [hs]; congr 1; omega
      · rw [if_neg (by omega)]
    exact W.iret (v := zI (-1)) hx hb hr (fun t ht hW => ⟨⟨zI (-1), (x9, y9, l9, -1), rfl, po, by rw [ht]; exact hP9, va_K.moved hW.alike hK, hD9⟩, hS.F ht⟩) hS.2.2 dX5_follow_56
  ·
    refine lv_iload hx hb dX5_follow_17 (lv_at hl 4 rfl) ?_
    refine lv_aload_n hx hb dX5_follow_19 rfl (lv_at hl 2 rfl) ?_
    refine va_get (D := (dC, dI)) (ci := 4) (v := .int (zI ln)) (C := RX4) (T := TX4) (N := 3) hx hb hts i_4 hown hK hP 4 rfl rfl 1 (by decide) f_172 (fun _ h9 => h9) rfl dX5_follow_20 ?_
    refine lz_icmp_ge (tgt := 55) hx hb dX5_follow_23 (by decide) (by omega) (by omega) (fun c_5 => ?_) (fun c_5 => ?_)
    ·
      refine lv_iconst (v := zI (-1)) hx hb dX5_follow_55 (rfl) ?_
      have hP9 := hP.sub (ws' := [(sl, .inr (5, [.ref sh, .int (zI lc), .ref ru, .ref tr, .ref se])), (tr, .inr (0, [.int (zI x9), .int (zI y9), .int (zI l9)])), (lv, .inr (1, [.int (zI w), .int (zI h), .ref ka, .ref ta, .int (zI sx), .int (zI sy), .int (zI fx), .int (zI fy), .int (zI lf), .int (zI un)])), zA cI ka 96 K, (tt, .inr (4, [.ref ti, .int (zI ln), .int (zI hf)])), zA cI ti 100 FI]) [0, 1, 2, 3, 4, 5] rfl
      have hD9 := hD.sub (ws' := [(sl, .inr (5, [.ref sh, .int (zI lc), .ref ru, .ref tr, .ref se])), (tr, .inr (0, [.int (zI x9), .int (zI y9), .int (zI l9)])), (lv, .inr (1, [.int (zI w), .int (zI h), .ref ka, .ref ta, .int (zI sx), .int (zI sy), .int (zI fx), .int (zI fy), .int (zI lf), .int (zI un)])), zA cI ka 96 K, (tt, .inr (4, [.ref ti, .int (zI ln), .int (zI hf)])), zA cI ti 100 FI]) [0, 1, 2, 3, 4, 5] (by decide) rfl
      have po : zI (-1) = zI (-1 : Int) ∧ ((x9, y9, l9) = (smS K w h sx sy FI (min lm ln).toNat) ∧ (-1 : Int) = (if ln ≤ lm then ln else -1)) := by
        refine ⟨by first | rfl | (congr 1; omega) | (congr 1; simp [*]), ?_⟩
        refine ⟨?_, ?_⟩
        · rw [hs]; congr 1; omega
        · rw [if_neg (by omega)]
      exact W.iret (v := zI (-1)) hx hb hr (fun t ht hW => ⟨⟨zI (-1), (x9, y9, l9, -1), rfl, po, by rw [ht]; exact hP9, va_K.moved hW.alike hK, hD9⟩, hS.F ht⟩) hS.2.2 dX5_follow_56
    ·
      have q9 := smS_rng (fx := fx) (fy := fy) (IN := FI) gsx gsy (K := K) f.toNat (fun j hj => by rw [gO j (by omega)]; decide)
      rw [← hs] at q9
      dsimp only at q9
      have i9 := gFI f (by omega) (by omega)
      refine lv_aload_n hx hb dX5_follow_26 rfl (lv_at hl 0 rfl) ?_
      refine va_get (D := (dC, dI)) (ci := 5) (v := .ref tr) (C := RX5) (T := TX5) (N := 5) hx hb hts i_5 hown hK hP 0 rfl rfl 3 (by decide) f_29 (fun _ h9 => h9) rfl dX5_follow_27 ?_
      refine lv_aload_n hx hb dX5_follow_30 rfl (lv_at hl 1 rfl) ?_
      refine lv_aload_n hx hb dX5_follow_31 rfl (lv_at hl 2 rfl) ?_
      refine lv_iload hx hb dX5_follow_32 (lv_at hl 4 rfl) ?_
      have hPc := hP.sub (ws' := [(tt, .inr (4, [.ref ti, .int (zI ln), .int (zI hf)])), zA cI ti 100 FI]) [4, 5] rfl
      have hDc := hD.sub (ws' := [(tt, .inr (4, [.ref ti, .int (zI ln), .int (zI hf)])), zA cI ti 100 FI]) [4, 5] (by decide) rfl
      have hFc := va_free (wc := [(tt, .inr (4, [.ref ti, .int (zI ln), .int (zI hf)])), zA cI ti 100 FI]) hD hS hA [4, 5] rfl
      refine va_calli (va_runV (As := [.int (zI f)]) (rest := [.ref lv, .ref tr]) ⟨hx, hb, hml, hown, hts⟩ (c_X4_inputOf l dC dI cI cZ cL cT cJ H.size tt ti ln hf FI f (by first | assumption | omega)) (cwV 1 hts gX5_follow_X4_inputOf rfl rfl rfl (by decide +kernel) ⟨Nat.le_of_ble_eq_true rfl, Nat.le_of_ble_eq_true rfl⟩) ⟨zP_blind, va_recv hK hPc (ci := 4) (q0 := 0) rfl rfl, zP_pre hPc hDc hK⟩ rfl rfl hl.1 rfl (lv_room (Nat.le_of_ble_eq_true rfl)) dX5_follow_34 ⟨Nat.le_of_ble_eq_true rfl, Nat.le_of_ble_eq_true rfl⟩) hS (fun q _ h => hFc q h) hFc (fun r_6 u_6 t H1 locs ht hvm hw hB hz1 hk1 hS => ?_)
      obtain ⟨r_7, rfl⟩ : ∃ z, z = u_6 := ⟨_, rfl⟩
      obtain ⟨hP1, hK1, hD1⟩ := hB
      rw [ht] at hP1
      have hP1 : va_P (dC, dI) vwCl [(tt, .inr (4, [.ref ti, .int (zI ln), .int (zI hf)])), zA cI ti 100 FI] H1 := hP1
      obtain ⟨hP, hD⟩ := va_join (wr := [(sl, .inr (5, [.ref sh, .int (zI lc), .ref ru, .ref tr, .ref se])), (tr, .inr (0, [.int (zI x9), .int (zI y9), .int (zI l9)])), (lv, .inr (1, [.int (zI w), .int (zI h), .ref ka, .ref ta, .int (zI sx), .int (zI sy), .int (zI fx), .int (zI fy), .int (zI lf), .int (zI un)])), zA cI ka 96 K]) (w1 := [(tt, .inr (4, [.ref ti, .int (zI ln), .int (zI hf)])), zA cI ti 100 FI]) hP hD [4, 5] [0, 1, 2, 3] rfl rfl (by decide) (by decide) hk1 hFc hP1 hD1
      clear hP1 hD1 hk1 hFc hPc hDc hz1
      generalize H1 = H at hP hS ⊢
      have hP : va_P (dC, dI) vwCl [(sl, .inr (5, [.ref sh, .int (zI lc), .ref ru, .ref tr, .ref se])), (tr, .inr (0, [.int (zI x9), .int (zI y9), .int (zI l9)])), (lv, .inr (1, [.int (zI w), .int (zI h), .ref ka, .ref ta, .int (zI sx), .int (zI sy), .int (zI fx), .int (zI fy), .int (zI lf), .int (zI un)])), zA cI ka 96 K, (tt, .inr (4, [.ref ti, .int (zI ln), .int (zI hf)])), zA cI ti 100 FI] H := hP.sub [0, 1, 2, 3, 4, 5] rfl
      have hD : va_D A [(sl, .inr (5, [.ref sh, .int (zI lc), .ref ru, .ref tr, .ref se])), (tr, .inr (0, [.int (zI x9), .int (zI y9), .int (zI l9)])), (lv, .inr (1, [.int (zI w), .int (zI h), .ref ka, .ref ta, .int (zI sx), .int (zI sy), .int (zI fx), .int (zI fy), .int (zI lf), .int (zI un)])), zA cI ka 96 K, (tt, .inr (4, [.ref ti, .int (zI ln), .int (zI hf)])), zA cI ti 100 FI] := hD.sub [0, 1, 2, 3, 4, 5] (by decide) rfl
      clear hK1 hvm
      obtain ⟨rfl, po_8⟩ := hw
      have po_8 : r_7 = FI f := po_8
      refine W.eq (g2 := F0 m 37 ls [.int (zI r_7), .ref lv, .ref tr]) rfl ?_
      have hPc := hP.sub (ws' := [(tr, .inr (0, [.int (zI x9), .int (zI y9), .int (zI l9)])), (lv, .inr (1, [.int (zI w), .int (zI h), .ref ka, .ref ta, .int (zI sx), .int (zI sy), .int (zI fx), .int (zI fy), .int (zI lf), .int (zI un)])), zA cI ka 96 K]) [1, 2, 3] rfl
      have hDc := hD.sub (ws' := [(tr, .inr (0, [.int (zI x9), .int (zI y9), .int (zI l9)])), (lv, .inr (1, [.int (zI w), .int (zI h), .ref ka, .ref ta, .int (zI sx), .int (zI sy), .int (zI fx), .int (zI fy), .int (zI lf), .int (zI un)])), zA cI ka 96 K]) [1, 2, 3] (by decide) rfl
      have hFc := va_free (wc := [(tr, .inr (0, [.int (zI x9), .int (zI y9), .int (zI l9)])), (lv, .inr (1, [.int (zI w), .int (zI h), .ref ka, .ref ta, .int (zI sx), .int (zI sy), .int (zI fx), .int (zI fy), .int (zI lf), .int (zI un)])), zA cI ka 96 K]) hD hS hA [1, 2, 3] rfl
      refine va_calli (va_runV (As := [.ref lv, .int (zI r_7)]) (rest := []) ⟨hx, hb, hml, hown, hts⟩ (c_X0_move l dC dI cI cZ cL cT cJ H.size tr x9 y9 l9 lv w h ka ta sx sy fx fy lf un K r_7 (by first | assumption | omega) (by first | assumption | omega) (by first | assumption | omega) (by first | assumption | omega) (by first | assumption | omega) (by first | assumption | omega) (by first | assumption | omega) (by first | assumption | omega) (by first | assumption | omega)) (cwV 2 hts gX5_follow_X0_move rfl rfl rfl (by decide +kernel) ⟨Nat.le_of_ble_eq_true rfl, Nat.le_of_ble_eq_true rfl⟩) ⟨zP_blind, va_recv hK hPc (ci := 0) (q0 := 0) rfl rfl, zP_pre hPc hDc hK⟩ rfl rfl hl.1 rfl (lv_room (Nat.le_of_ble_eq_true rfl)) dX5_follow_37 ⟨Nat.le_of_ble_eq_true rfl, Nat.le_of_ble_eq_true rfl⟩) hS (fun q _ h => hFc q h) hFc (fun r_9 u_9 t H1 locs ht hvm hw hB hz1 hk1 hS => ?_)
      obtain ⟨x1_10, y1_11, l1_12, o1_13⟩ := u_9
      obtain ⟨hP1, hK1, hD1⟩ := hB
      rw [ht] at hP1
      have hP1 : va_P (dC, dI) vwCl [(tr, .inr (0, [.int (zI x1_10), .int (zI y1_11), .int (zI l1_12)])), (lv, .inr (1, [.int (zI w), .int (zI h), .ref ka, .ref ta, .int (zI sx), .int (zI sy), .int (zI fx), .int (zI fy), .int (zI lf), .int (zI un)])), zA cI ka 96 K] H1 := hP1
      obtain ⟨hP, hD⟩ := va_join (wr := [(sl, .inr (5, [.ref sh, .int (zI lc), .ref ru, .ref tr, .ref se])), (tt, .inr (4, [.ref ti, .int (zI ln), .int (zI hf)])), zA cI ti 100 FI]) (w1 := [(tr, .inr (0, [.int (zI x1_10), .int (zI y1_11), .int (zI l1_12)])), (lv, .inr (1, [.int (zI w), .int (zI h), .ref ka, .ref ta, .int (zI sx), .int (zI sy), .int (zI fx), .int (zI fy), .int (zI lf), .int (zI un)])), zA cI ka 96 K]) hP hD [1, 2, 3] [0, 4, 5] rfl rfl (by decide) (by decide) hk1 hFc hP1 hD1
      clear hP1 hD1 hk1 hFc hPc hDc hz1
      generalize H1 = H at hP hS ⊢
      have hP : va_P (dC, dI) vwCl [(sl, .inr (5, [.ref sh, .int (zI lc), .ref ru, .ref tr, .ref se])), (tr, .inr (0, [.int (zI x1_10), .int (zI y1_11), .int (zI l1_12)])), (lv, .inr (1, [.int (zI w), .int (zI h), .ref ka, .ref ta, .int (zI sx), .int (zI sy), .int (zI fx), .int (zI fy), .int (zI lf), .int (zI un)])), zA cI ka 96 K, (tt, .inr (4, [.ref ti, .int (zI ln), .int (zI hf)])), zA cI ti 100 FI] H := hP.sub [0, 3, 4, 5, 1, 2] rfl
      have hD : va_D A [(sl, .inr (5, [.ref sh, .int (zI lc), .ref ru, .ref tr, .ref se])), (tr, .inr (0, [.int (zI x1_10), .int (zI y1_11), .int (zI l1_12)])), (lv, .inr (1, [.int (zI w), .int (zI h), .ref ka, .ref ta, .int (zI sx), .int (zI sy), .int (zI fx), .int (zI fy), .int (zI lf), .int (zI un)])), zA cI ka 96 K, (tt, .inr (4, [.ref ti, .int (zI ln), .int (zI hf)])), zA cI ti 100 FI] := hD.sub [0, 3, 4, 5, 1, 2] (by decide) rfl
      clear hK1 hvm
      obtain ⟨rfl, po_14⟩ := hw
      have po_14 : x1_10 = mvX K w h x9 y9 r_7 ∧ y1_11 = mvY K w h x9 y9 l9 r_7 ∧ l1_12 = mvL K w h x9 y9 l9 r_7 ∧ o1_13 = mvO K w h fx fy x9 y9 l9 r_7 := po_14
      refine W.eq (g2 := F0 m 40 ls [.int (zI o1_13)]) rfl ?_
      have m9 := po_14
      have ff : ((f.toNat : Nat) : Int) = f := Int.toNat_of_nonneg (by omega)
      have s9 : (x1_10, y1_11, l1_12) = (smS K w h sx sy FI (f.toNat + 1)) := by
        rw [smS, ← hs, ff, m9.1, m9.2.1, m9.2.2.1, po_8]
      have o9 : o1_13 = (smO K w h fx fy sx sy FI f.toNat) := by rw [smO, ← hs, ff, m9.2.2.2, po_8]
      have v9 := mv_rng (K := K) (w := w) (h := h) (fx := fx) (fy := fy) (x := x9) (y := y9) (li := l9) (i := r_7) q9.1 q9.2.1 q9.2.2
      rw [← m9.2.2.2] at v9
      refine lv_iconst (v := zI 2) hx hb dX5_follow_40 (rfl) ?_
      refine lz_icmp_ne (tgt := 49) hx hb dX5_follow_41 (by decide) (by omega) ⟨by decide, by decide⟩ (fun c_15 => ?_) (fun c_15 => ?_)
      ·
        refine lz_iinc (z := f + 1) (lv' := [(4, .int (zI (f + 1))), (0, .ref sl), (1, .ref lv), (2, .ref tt), (3, .int (zI lm))]) hx hb dX5_follow_49 hl (k := 4) rfl (by omega) (by decide) rfl (fun ls hl => ?_)
        refine lv_goto (tgt := 11) hx hb dX5_follow_52 (by decide) ?_
        exact L_3 (f + 1, x1_10, y1_11, l1_12) _ _ _ (by (try dsimp only); omega) ⟨(by refine ⟨by omega, by omega, ?_⟩; rcases Int.lt_or_le (f + 1) ln with e1 | e1 <;> first | exact e1 | (exfalso; rw [show (ln - 1).toNat = f.toNat by omega, ← o9] at gW; omega)), (by (rw [s9]; congr 1; omega)), hP, hD, hS, lv_sub hl [1, 2, 3, 4, 0] rfl⟩
      ·
        refine lv_iload hx hb dX5_follow_44 (lv_at hl 4 rfl) ?_
        refine lv_iconst (v := zI 1) hx hb dX5_follow_46 (rfl) ?_
        refine lz_iadd (z := f + 1) hx hb dX5_follow_47 (by rfl) ?_
        have hP9 := hP.sub (ws' := [(sl, .inr (5, [.ref sh, .int (zI lc), .ref ru, .ref tr, .ref se])), (tr, .inr (0, [.int (zI x1_10), .int (zI y1_11), .int (zI l1_12)])), (lv, .inr (1, [.int (zI w), .int (zI h), .ref ka, .ref ta, .int (zI sx), .int (zI sy), .int (zI fx), .int (zI fy), .int (zI lf), .int (zI un)])), zA cI ka 96 K, (tt, .inr (4, [.ref ti, .int (zI ln), .int (zI hf)])), zA cI ti 100 FI]) [0, 1, 2, 3, 4, 5] rfl
        have hD9 := hD.sub (ws' := [(sl, .inr (5, [.ref sh, .int (zI lc), .ref ru, .ref tr, .ref se])), (tr, .inr (0, [.int (zI x1_10), .int (zI y1_11), .int (zI l1_12)])), (lv, .inr (1, [.int (zI w), .int (zI h), .ref ka, .ref ta, .int (zI sx), .int (zI sy), .int (zI fx), .int (zI fy), .int (zI lf), .int (zI un)])), zA cI ka 96 K, (tt, .inr (4, [.ref ti, .int (zI ln), .int (zI hf)])), zA cI ti 100 FI]) [0, 1, 2, 3, 4, 5] (by decide) rfl
        have po : zI (f + 1) = zI (f + 1) ∧ ((x1_10, y1_11, l1_12) = (smS K w h sx sy FI (min lm ln).toNat) ∧ (f + 1) = (if ln ≤ lm then ln else -1)) := by
          refine ⟨by first | rfl | (congr 1; omega) | (congr 1; simp [*]), ?_⟩
          have e1 : f = ln - 1 := by
            rcases Int.lt_or_le f (ln - 1) with e2 | e2
            · exfalso
              have e3 := gO f.toNat (by omega)
              rw [← o9] at e3
              omega
            · omega
          refine ⟨?_, ?_⟩
          · rw [s9]; congr 1; omega
          · rw [if_pos (by omega)]; omega
        exact W.iret (v := zI (f + 1)) hx hb hr (fun t ht hW => ⟨⟨zI (f + 1), (x1_10, y1_11, l1_12, f + 1), rfl, po, by rw [ht]; exact hP9, va_K.moved hW.alike hK, hD9⟩, hS.F ht⟩) hS.2.2 dX5_follow_48
set_option maxHeartbeats 4000000 in
set_option maxRecDepth 100000 in
theorem c_X5_replay (l : Launch) (dC : Nat → ClassId) (dI : Nat → Nat → Nat) (cI cZ cL cT cJ : ClassId) (sz : Nat) (sl : Nat) (sh : Nat) (lc : Int) (ru : Nat) (tr : Nat) (se : Nat) (sf : Nat → Option Nat) (L : Int) (k : Nat) (tx : Int) (ty : Int) (tl : Int) (lv : Nat) (w : Int) (h : Int) (ka : Nat) (ta : Nat) (sx : Int) (sy : Int) (fx : Int) (fy : Int) (lf : Int) (un : Int) (K : Int → Int) (tq : Nat → Option Nat) (tp : Nat → Nat) (pl : Int) (kp : Nat) (ti : Nat) (ln : Int) (hf : Int) (FI : Int → Int) (gk : L = (k : Int) ∧ k < 6) (gf : sf k = some lv) (gw : 0 < w ∧ w ≤ 12) (gh : 0 < h ∧ h ≤ 8) (gK : Kin K) (gsx : 0 ≤ sx ∧ sx < w) (gsy : 0 ≤ sy ∧ sy < h) (gfx : 0 ≤ fx ∧ fx < w) (gfy : 0 ≤ fy ∧ fy < h) (gt : ∀ k, k < 4 → tq k = some (tp k)) (gkp : pl = (kp : Int) ∧ kp < 4) (gn : 1 ≤ ln ∧ ln ≤ 100) (gFI : ∀ j, 0 ≤ j → j < ln → 0 ≤ FI j ∧ FI j ≤ 5) (gO : ∀ j : Nat, (j : Int) < ln - 1 → (smO K w h fx fy sx sy FI j) = 0) (gW : (smO K w h fx fy sx sy FI (ln - 1).toNat) = 2) : Met l yX5_replay wsX5_replay ({ frames := 4, cells := 0, slots := 0, locals := 93 }) (zP (dC, dI) (zT cI cZ cL cT cJ) sz [.ref sl, .int (zI L), .int (zI pl)] [(sl, .inr (5, [.ref sh, .int (zI lc), .ref ru, .ref tr, .ref se])), zQ cL sh 6 sf, (tr, .inr (0, [.int (zI tx), .int (zI ty), .int (zI tl)])), (lv, .inr (1, [.int (zI w), .int (zI h), .ref ka, .ref ta, .int (zI sx), .int (zI sy), .int (zI fx), .int (zI fy), .int (zI lf), .int (zI un)])), zA cI ka 96 K, zQ cT ta 4 tq, (tp kp, .inr (4, [.ref ti, .int (zI ln), .int (zI hf)])), zA cI ti 100 FI]) (va_Qi (fun (r9 : Int32) (u9 : Int × Int × Int × Int) => match u9 with | (x1, y1, l1, rr) => r9 = zI rr ∧ (rr = ln)) (zB (dC, dI) (zT cI cZ cL cT cJ) (va_A [(sl, .inr (5, [.ref sh, .int (zI lc), .ref ru, .ref tr, .ref se])), zQ cL sh 6 sf, (tr, .inr (0, [.int (zI tx), .int (zI ty), .int (zI tl)])), (lv, .inr (1, [.int (zI w), .int (zI h), .ref ka, .ref ta, .int (zI sx), .int (zI sy), .int (zI fx), .int (zI fy), .int (zI lf), .int (zI un)])), zA cI ka 96 K, zQ cT ta 4 tq, (tp kp, .inr (4, [.ref ti, .int (zI ln), .int (zI hf)])), zA cI ti 100 FI] sz) (fun (u9 : Int × Int × Int × Int) => match u9 with | (x1, y1, l1, rr) => [(sl, .inr (5, [.ref sh, .int (zI lc), .ref ru, .ref tr, .ref se])), zQ cL sh 6 sf, (tr, .inr (0, [.int (zI x1), .int (zI y1), .int (zI l1)])), (lv, .inr (1, [.int (zI w), .int (zI h), .ref ka, .ref ta, .int (zI sx), .int (zI sy), .int (zI fx), .int (zI fy), .int (zI lf), .int (zI un)])), zA cI ka 96 K, zQ cT ta 4 tq, (tp kp, .inr (4, [.ref ti, .int (zI ln), .int (zI hf)])), zA cI ti 100 FI])) (va_A [(sl, .inr (5, [.ref sh, .int (zI lc), .ref ru, .ref tr, .ref se])), zQ cL sh 6 sf, (tr, .inr (0, [.int (zI tx), .int (zI ty), .int (zI tl)])), (lv, .inr (1, [.int (zI w), .int (zI h), .ref ka, .ref ta, .int (zI sx), .int (zI sy), .int (zI fx), .int (zI fy), .int (zI lf), .int (zI un)])), zA cI ka 96 K, zQ cT ta 4 tq, (tp kp, .inr (4, [.ref ti, .int (zI ln), .int (zI hf)])), zA cI ti 100 FI] sz)) 0 0 (va_A [(sl, .inr (5, [.ref sh, .int (zI lc), .ref ru, .ref tr, .ref se])), zQ cL sh 6 sf, (tr, .inr (0, [.int (zI tx), .int (zI ty), .int (zI tl)])), (lv, .inr (1, [.int (zI w), .int (zI h), .ref ka, .ref ta, .int (zI sx), .int (zI sy), .int (zI fx), .int (zI fy), .int (zI lf), .int (zI un)])), zA cI ka 96 K, zQ cT ta 4 tq, (tp kp, .inr (4, [.ref ti, .int (zI ln), .int (zI hf)])), zA cI ti 100 FI] sz) := by
  refine Met.ofW (cc := cX5_replay) (maxL := 4) (ret := (some .int)) (by decide) rfl ?_
  intro p e s m args below meth c s₁ B hml hv
  obtain ⟨rfl, hsz, hP, hK, hD0⟩ := hv
  have hx := B.exec
  have hb := B.bytes
  have hr := B.returns
  have hts := atoms_spec (ws := wsX5_replay) B.pre
  have hown : s.vm.findClass RX5 = some m.cls := findClass_of_methodNamed B.named
  have hlocks := B.notSynchronized
  subst hsz
  have hD := hD0.self (sz := s.heap.size)
  generalize hAe : va_A [(sl, .inr (5, [.ref sh, .int (zI lc), .ref ru, .ref tr, .ref se])), zQ cL sh 6 sf, (tr, .inr (0, [.int (zI tx), .int (zI ty), .int (zI tl)])), (lv, .inr (1, [.int (zI w), .int (zI h), .ref ka, .ref ta, .int (zI sx), .int (zI sy), .int (zI fx), .int (zI fy), .int (zI lf), .int (zI un)])), zA cI ka 96 K, zQ cT ta 4 tq, (tp kp, .inr (4, [.ref ti, .int (zI ln), .int (zI hf)])), zA cI ti 100 FI] s.heap.size = A at hD ⊢
  have hA : ∀ q : Nat, s.heap.size ≤ q → A q := fun q h => by rw [← hAe]; exact Or.inr h
  clear hAe hD0
  have hS : va_S A s.heap s.heap [] := va_S.rf
  have hP : va_P (dC, dI) vwCl [(sl, .inr (5, [.ref sh, .int (zI lc), .ref ru, .ref tr, .ref se])), zQ cL sh 6 sf, (tr, .inr (0, [.int (zI tx), .int (zI ty), .int (zI tl)])), (lv, .inr (1, [.int (zI w), .int (zI h), .ref ka, .ref ta, .int (zI sx), .int (zI sy), .int (zI fx), .int (zI fy), .int (zI lf), .int (zI un)])), zA cI ka 96 K, zQ cT ta 4 tq, (tp kp, .inr (4, [.ref ti, .int (zI ln), .int (zI hf)])), zA cI ti 100 FI] s.heap := hP
  have f_172 := hts (.fieldLink RX5 172 "SpringLevels$Tape" "length" "I") (by decide +kernel)
  have i_4 : ∀ w ∈ wsX40, w ∈ wsX5_replay := by decide +kernel
  have hl := lv_entry ([.ref sl, .int (zI L), .int (zI pl)]) (n := 4) (Nat.le_of_ble_eq_true rfl)
  rw [lg_entry_eq]
  generalize (lg_sl ([.ref sl, .int (zI L), .int (zI pl)]) ++ List.replicate (4 - (lg_sl ([.ref sl, .int (zI L), .int (zI pl)])).length) Slot.unset).toArray = ls at hl ⊢
  have hl : lv_has ls 4 [(0, .ref sl), (1, .int (zI L)), (2, .int (zI pl))] := hl
  refine lv_aload_n hx hb dX5_replay_0 rfl (lv_at hl 0 rfl) ?_
  refine lv_iload_n hx hb dX5_replay_1 rfl (lv_at hl 1 rfl) ?_
  refine lv_iload_n hx hb dX5_replay_2 rfl (lv_at hl 2 rfl) ?_
  have hPc := hP.sub (ws' := [(sl, .inr (5, [.ref sh, .int (zI lc), .ref ru, .ref tr, .ref se])), zQ cL sh 6 sf, (lv, .inr (1, [.int (zI w), .int (zI h), .ref ka, .ref ta, .int (zI sx), .int (zI sy), .int (zI fx), .int (zI fy), .int (zI lf), .int (zI un)])), zQ cT ta 4 tq]) [0, 1, 3, 5] rfl
  have hDc := hD.sub (ws' := [(sl, .inr (5, [.ref sh, .int (zI lc), .ref ru, .ref tr, .ref se])), zQ cL sh 6 sf, (lv, .inr (1, [.int (zI w), .int (zI h), .ref ka, .ref ta, .int (zI sx), .int (zI sy), .int (zI fx), .int (zI fy), .int (zI lf), .int (zI un)])), zQ cT ta 4 tq]) [0, 1, 3, 5] (by decide) rfl
  have hFc := va_free (wc := [(sl, .inr (5, [.ref sh, .int (zI lc), .ref ru, .ref tr, .ref se])), zQ cL sh 6 sf, (lv, .inr (1, [.int (zI w), .int (zI h), .ref ka, .ref ta, .int (zI sx), .int (zI sy), .int (zI fx), .int (zI fy), .int (zI lf), .int (zI un)])), zQ cT ta 4 tq]) hD hS hA [0, 1, 3, 5] rfl
  refine va_callq (va_runV (As := [.int (zI L), .int (zI pl)]) (rest := []) ⟨hx, hb, hml, hown, hts⟩ (c_X5_tapeOf l dC dI cI cZ cL cT cJ s.heap.size sl sh lc ru tr se sf L k lv w h ka ta sx sy fx fy lf un tq tp pl kp (by first | assumption | omega) (by first | assumption | omega) (by first | assumption | omega) (by first | assumption | omega)) (cwV 2 hts gX5_replay_X5_tapeOf rfl rfl rfl (by decide +kernel) ⟨Nat.le_of_ble_eq_true rfl, Nat.le_of_ble_eq_true rfl⟩) ⟨zP_blind, va_recv hK hPc (ci := 5) (q0 := 0) rfl rfl, zP_pre hPc hDc hK⟩ rfl rfl hl.1 rfl (lv_room (Nat.le_of_ble_eq_true rfl)) dX5_replay_3 ⟨Nat.le_of_ble_eq_true rfl, Nat.le_of_ble_eq_true rfl⟩) hS (fun q _ h => hFc q h) hFc (fun r_1 u_1 t H1 locs ht hvm hw hB hz1 hk1 hS => ?_)
  obtain ⟨hP1, hK1, hD1⟩ := hB
  rw [ht] at hP1
  have hP1 : va_P (dC, dI) vwCl [(sl, .inr (5, [.ref sh, .int (zI lc), .ref ru, .ref tr, .ref se])), zQ cL sh 6 sf, (lv, .inr (1, [.int (zI w), .int (zI h), .ref ka, .ref ta, .int (zI sx), .int (zI sy), .int (zI fx), .int (zI fy), .int (zI lf), .int (zI un)])), zQ cT ta 4 tq] H1 := hP1
  obtain ⟨hP, hD⟩ := va_join (wr := [(tr, .inr (0, [.int (zI tx), .int (zI ty), .int (zI tl)])), zA cI ka 96 K, (tp kp, .inr (4, [.ref ti, .int (zI ln), .int (zI hf)])), zA cI ti 100 FI]) (w1 := [(sl, .inr (5, [.ref sh, .int (zI lc), .ref ru, .ref tr, .ref se])), zQ cL sh 6 sf, (lv, .inr (1, [.int (zI w), .int (zI h), .ref ka, .ref ta, .int (zI sx), .int (zI sy), .int (zI fx), .int (zI fy), .int (zI lf), .int (zI un)])), zQ cT ta 4 tq]) hP hD [0, 1, 3, 5] [2, 4, 6, 7] rfl rfl (by decide) (by decide) hk1 hFc hP1 hD1
  clear hP1 hD1 hk1 hFc hPc hDc hz1
  generalize H1 = H at hP hS ⊢
  have hP : va_P (dC, dI) vwCl [(sl, .inr (5, [.ref sh, .int (zI lc), .ref ru, .ref tr, .ref se])), zQ cL sh 6 sf, (tr, .inr (0, [.int (zI tx), .int (zI ty), .int (zI tl)])), (lv, .inr (1, [.int (zI w), .int (zI h), .ref ka, .ref ta, .int (zI sx), .int (zI sy), .int (zI fx), .int (zI fy), .int (zI lf), .int (zI un)])), zA cI ka 96 K, zQ cT ta 4 tq, (tp kp, .inr (4, [.ref ti, .int (zI ln), .int (zI hf)])), zA cI ti 100 FI] H := hP.sub [4, 5, 0, 6, 1, 7, 2, 3] rfl
  have hD : va_D A [(sl, .inr (5, [.ref sh, .int (zI lc), .ref ru, .ref tr, .ref se])), zQ cL sh 6 sf, (tr, .inr (0, [.int (zI tx), .int (zI ty), .int (zI tl)])), (lv, .inr (1, [.int (zI w), .int (zI h), .ref ka, .ref ta, .int (zI sx), .int (zI sy), .int (zI fx), .int (zI fy), .int (zI lf), .int (zI un)])), zA cI ka 96 K, zQ cT ta 4 tq, (tp kp, .inr (4, [.ref ti, .int (zI ln), .int (zI hf)])), zA cI ti 100 FI] := hD.sub [4, 5, 0, 6, 1, 7, 2, 3] (by decide) rfl
  clear hK1 hvm
  obtain ⟨rfl, po_2⟩ := hw
  refine W.eq (g2 := F0 m 6 ls [.ref (tp kp)]) rfl ?_
  refine lv_astore_n (lv' := [(3, .ref (tp kp)), (0, .ref sl), (1, .int (zI L)), (2, .int (zI pl))]) hx hb dX5_replay_6 rfl hl (by decide) rfl (fun ls hl => ?_)
  refine lv_aload_n hx hb dX5_replay_7 rfl (lv_at hl 1 rfl) ?_
  refine lv_aload_n hx hb dX5_replay_8 rfl (lv_at hl 1 rfl) ?_
  refine lv_iload_n hx hb dX5_replay_9 rfl (lv_at hl 2 rfl) ?_
  have hPc := hP.sub (ws' := [(sl, .inr (5, [.ref sh, .int (zI lc), .ref ru, .ref tr, .ref se])), zQ cL sh 6 sf]) [0, 1] rfl
  have hDc := hD.sub (ws' := [(sl, .inr (5, [.ref sh, .int (zI lc), .ref ru, .ref tr, .ref se])), zQ cL sh 6 sf]) [0, 1] (by decide) rfl
  have hFc := va_free (wc := [(sl, .inr (5, [.ref sh, .int (zI lc), .ref ru, .ref tr, .ref se])), zQ cL sh 6 sf]) hD hS hA [0, 1] rfl
  refine va_callq (va_runV (As := [.int (zI L)]) (rest := [.ref sl]) ⟨hx, hb, hml, hown, hts⟩ (c_X5_levelNumbered l dC dI cI cZ cL cT cJ H.size sl sh lc ru tr se sf L k lv (by first | assumption | omega) (by first | assumption | omega)) (cwV 1 hts gX5_replay_X5_levelNumbered rfl rfl rfl (by decide +kernel) ⟨Nat.le_of_ble_eq_true rfl, Nat.le_of_ble_eq_true rfl⟩) ⟨zP_blind, va_recv hK hPc (ci := 5) (q0 := 0) rfl rfl, zP_pre hPc hDc hK⟩ rfl rfl hl.1 rfl (lv_room (Nat.le_of_ble_eq_true rfl)) dX5_replay_10 ⟨Nat.le_of_ble_eq_true rfl, Nat.le_of_ble_eq_true rfl⟩) hS (fun q _ h => hFc q h) hFc (fun r_3 u_3 t H1 locs ht hvm hw hB hz1 hk1 hS => ?_)
  obtain ⟨hP1, hK1, hD1⟩ := hB
  rw [ht] at hP1
  have hP1 : va_P (dC, dI) vwCl [(sl, .inr (5, [.ref sh, .int (zI lc), .ref ru, .ref tr, .ref se])), zQ cL sh 6 sf] H1 := hP1
  obtain ⟨hP, hD⟩ := va_join (wr := [(tr, .inr (0, [.int (zI tx), .int (zI ty), .int (zI tl)])), (lv, .inr (1, [.int (zI w), .int (zI h), .ref ka, .ref ta, .int (zI sx), .int (zI sy), .int (zI fx), .int (zI fy), .int (zI lf), .int (zI un)])), zA cI ka 96 K, zQ cT ta 4 tq, (tp kp, .inr (4, [.ref ti, .int (zI ln), .int (zI hf)])), zA cI ti 100 FI]) (w1 := [(sl, .inr (5, [.ref sh, .int (zI lc), .ref ru, .ref tr, .ref se])), zQ cL sh 6 sf]) hP hD [0, 1] [2, 3, 4, 5, 6, 7] rfl rfl (by decide) (by decide) hk1 hFc hP1 hD1
  clear hP1 hD1 hk1 hFc hPc hDc hz1
  generalize H1 = H at hP hS ⊢
  have hP : va_P (dC, dI) vwCl [(sl, .inr (5, [.ref sh, .int (zI lc), .ref ru, .ref tr, .ref se])), zQ cL sh 6 sf, (tr, .inr (0, [.int (zI tx), .int (zI ty), .int (zI tl)])), (lv, .inr (1, [.int (zI w), .int (zI h), .ref ka, .ref ta, .int (zI sx), .int (zI sy), .int (zI fx), .int (zI fy), .int (zI lf), .int (zI un)])), zA cI ka 96 K, zQ cT ta 4 tq, (tp kp, .inr (4, [.ref ti, .int (zI ln), .int (zI hf)])), zA cI ti 100 FI] H := hP.sub [6, 7, 0, 1, 2, 3, 4, 5] rfl
  have hD : va_D A [(sl, .inr (5, [.ref sh, .int (zI lc), .ref ru, .ref tr, .ref se])), zQ cL sh 6 sf, (tr, .inr (0, [.int (zI tx), .int (zI ty), .int (zI tl)])), (lv, .inr (1, [.int (zI w), .int (zI h), .ref ka, .ref ta, .int (zI sx), .int (zI sy), .int (zI fx), .int (zI fy), .int (zI lf), .int (zI un)])), zA cI ka 96 K, zQ cT ta 4 tq, (tp kp, .inr (4, [.ref ti, .int (zI ln), .int (zI hf)])), zA cI ti 100 FI] := hD.sub [6, 7, 0, 1, 2, 3, 4, 5] (by decide) rfl
  clear hK1 hvm
  obtain ⟨rfl, po_4⟩ := hw
  refine W.eq (g2 := F0 m 13 ls [.ref lv, .ref sl]) rfl ?_
  refine lv_aload_n hx hb dX5_replay_13 rfl (lv_at hl 0 rfl) ?_
  refine lv_aload_n hx hb dX5_replay_14 rfl (lv_at hl 0 rfl) ?_
  refine va_get (D := (dC, dI)) (ci := 4) (v := .int (zI ln)) (C := RX4) (T := TX4) (N := 3) hx hb hts i_4 hown hK hP 6 rfl rfl 1 (by decide) f_172 (fun _ h9 => h9) rfl dX5_replay_15 ?_
  have hPc := hP.sub (ws' := [(sl, .inr (5, [.ref sh, .int (zI lc), .ref ru, .ref tr, .ref se])), (tr, .inr (0, [.int (zI tx), .int (zI ty), .int (zI tl)])), (lv, .inr (1, [.int (zI w), .int (zI h), .ref ka, .ref ta, .int (zI sx), .int (zI sy), .int (zI fx), .int (zI fy), .int (zI lf), .int (zI un)])), zA cI ka 96 K, (tp kp, .inr (4, [.ref ti, .int (zI ln), .int (zI hf)])), zA cI ti 100 FI]) [0, 2, 3, 4, 6, 7] rfl
  have hDc := hD.sub (ws' := [(sl, .inr (5, [.ref sh, .int (zI lc), .ref ru, .ref tr, .ref se])), (tr, .inr (0, [.int (zI tx), .int (zI ty), .int (zI tl)])), (lv, .inr (1, [.int (zI w), .int (zI h), .ref ka, .ref ta, .int (zI sx), .int (zI sy), .int (zI fx), .int (zI fy), .int (zI lf), .int (zI un)])), zA cI ka 96 K, (tp kp, .inr (4, [.ref ti, .int (zI ln), .int (zI hf)])), zA cI ti 100 FI]) [0, 2, 3, 4, 6, 7] (by decide) rfl
  have hFc := va_free (wc := [(sl, .inr (5, [.ref sh, .int (zI lc), .ref ru, .ref tr, .ref se])), (tr, .inr (0, [.int (zI tx), .int (zI ty), .int (zI tl)])), (lv, .inr (1, [.int (zI w), .int (zI h), .ref ka, .ref ta, .int (zI sx), .int (zI sy), .int (zI fx), .int (zI fy), .int (zI lf), .int (zI un)])), zA cI ka 96 K, (tp kp, .inr (4, [.ref ti, .int (zI ln), .int (zI hf)])), zA cI ti 100 FI]) hD hS hA [0, 2, 3, 4, 6, 7] rfl
  refine va_calli (va_runV (As := [.ref lv, .ref (tp kp), .int (zI ln)]) (rest := []) ⟨hx, hb, hml, hown, hts⟩ (c_X5_follow l dC dI cI cZ cL cT cJ H.size sl sh lc ru tr se tx ty tl lv w h ka ta sx sy fx fy lf un K (tp kp) ti ln hf FI ln (by first | assumption | omega) (by first | assumption | omega) (by first | assumption | omega) (by first | assumption | omega) (by first | assumption | omega) (by first | assumption | omega) (by first | assumption | omega) (by first | assumption | omega) (by first | assumption | omega) (by first | assumption | omega) (by first | assumption | omega) (by first | assumption | omega)) (cwV 3 hts gX5_replay_X5_follow rfl rfl rfl (by decide +kernel) ⟨Nat.le_of_ble_eq_true rfl, Nat.le_of_ble_eq_true rfl⟩) ⟨zP_blind, va_recv hK hPc (ci := 5) (q0 := 0) rfl rfl, zP_pre hPc hDc hK⟩ rfl rfl hl.1 rfl (lv_room (Nat.le_of_ble_eq_true rfl)) dX5_replay_18 ⟨Nat.le_of_ble_eq_true rfl, Nat.le_of_ble_eq_true rfl⟩) hS (fun q _ h => hFc q h) hFc (fun r_5 u_5 t H1 locs ht hvm hw hB hz1 hk1 hS => ?_)
  obtain ⟨x1_6, y1_7, l1_8, rr_9⟩ := u_5
  obtain ⟨hP1, hK1, hD1⟩ := hB
  rw [ht] at hP1
  have hP1 : va_P (dC, dI) vwCl [(sl, .inr (5, [.ref sh, .int (zI lc), .ref ru, .ref tr, .ref se])), (tr, .inr (0, [.int (zI x1_6), .int (zI y1_7), .int (zI l1_8)])), (lv, .inr (1, [.int (zI w), .int (zI h), .ref ka, .ref ta, .int (zI sx), .int (zI sy), .int (zI fx), .int (zI fy), .int (zI lf), .int (zI un)])), zA cI ka 96 K, (tp kp, .inr (4, [.ref ti, .int (zI ln), .int (zI hf)])), zA cI ti 100 FI] H1 := hP1
  obtain ⟨hP, hD⟩ := va_join (wr := [zQ cL sh 6 sf, zQ cT ta 4 tq]) (w1 := [(sl, .inr (5, [.ref sh, .int (zI lc), .ref ru, .ref tr, .ref se])), (tr, .inr (0, [.int (zI x1_6), .int (zI y1_7), .int (zI l1_8)])), (lv, .inr (1, [.int (zI w), .int (zI h), .ref ka, .ref ta, .int (zI sx), .int (zI sy), .int (zI fx), .int (zI fy), .int (zI lf), .int (zI un)])), zA cI ka 96 K, (tp kp, .inr (4, [.ref ti, .int (zI ln), .int (zI hf)])), zA cI ti 100 FI]) hP hD [0, 2, 3, 4, 6, 7] [1, 5] rfl rfl (by decide) (by decide) hk1 hFc hP1 hD1
  clear hP1 hD1 hk1 hFc hPc hDc hz1
  generalize H1 = H at hP hS ⊢
  have hP : va_P (dC, dI) vwCl [(sl, .inr (5, [.ref sh, .int (zI lc), .ref ru, .ref tr, .ref se])), zQ cL sh 6 sf, (tr, .inr (0, [.int (zI x1_6), .int (zI y1_7), .int (zI l1_8)])), (lv, .inr (1, [.int (zI w), .int (zI h), .ref ka, .ref ta, .int (zI sx), .int (zI sy), .int (zI fx), .int (zI fy), .int (zI lf), .int (zI un)])), zA cI ka 96 K, zQ cT ta 4 tq, (tp kp, .inr (4, [.ref ti, .int (zI ln), .int (zI hf)])), zA cI ti 100 FI] H := hP.sub [2, 0, 3, 4, 5, 1, 6, 7] rfl
  have hD : va_D A [(sl, .inr (5, [.ref sh, .int (zI lc), .ref ru, .ref tr, .ref se])), zQ cL sh 6 sf, (tr, .inr (0, [.int (zI x1_6), .int (zI y1_7), .int (zI l1_8)])), (lv, .inr (1, [.int (zI w), .int (zI h), .ref ka, .ref ta, .int (zI sx), .int (zI sy), .int (zI fx), .int (zI fy), .int (zI lf), .int (zI un)])), zA cI ka 96 K, zQ cT ta 4 tq, (tp kp, .inr (4, [.ref ti, .int (zI ln), .int (zI hf)])), zA cI ti 100 FI] := hD.sub [2, 0, 3, 4, 5, 1, 6, 7] (by decide) rfl
  clear hK1 hvm
  obtain ⟨rfl, po_10⟩ := hw
  have po_10 : (x1_6, y1_7, l1_8) = (smS K w h sx sy FI (min ln ln).toNat) ∧ rr_9 = (if ln ≤ ln then ln else -1) := po_10
  refine W.eq (g2 := F0 m 21 ls [.int (zI rr_9)]) rfl ?_
  have hP9 := hP.sub (ws' := [(sl, .inr (5, [.ref sh, .int (zI lc), .ref ru, .ref tr, .ref se])), zQ cL sh 6 sf, (tr, .inr (0, [.int (zI x1_6), .int (zI y1_7), .int (zI l1_8)])), (lv, .inr (1, [.int (zI w), .int (zI h), .ref ka, .ref ta, .int (zI sx), .int (zI sy), .int (zI fx), .int (zI fy), .int (zI lf), .int (zI un)])), zA cI ka 96 K, zQ cT ta 4 tq, (tp kp, .inr (4, [.ref ti, .int (zI ln), .int (zI hf)])), zA cI ti 100 FI]) [0, 1, 2, 3, 4, 5, 6, 7] rfl
  have hD9 := hD.sub (ws' := [(sl, .inr (5, [.ref sh, .int (zI lc), .ref ru, .ref tr, .ref se])), zQ cL sh 6 sf, (tr, .inr (0, [.int (zI x1_6), .int (zI y1_7), .int (zI l1_8)])), (lv, .inr (1, [.int (zI w), .int (zI h), .ref ka, .ref ta, .int (zI sx), .int (zI sy), .int (zI fx), .int (zI fy), .int (zI lf), .int (zI un)])), zA cI ka 96 K, zQ cT ta 4 tq, (tp kp, .inr (4, [.ref ti, .int (zI ln), .int (zI hf)])), zA cI ti 100 FI]) [0, 1, 2, 3, 4, 5, 6, 7] (by decide) rfl
  have po : zI rr_9 = zI rr_9 ∧ (rr_9 = ln) := by
    refine ⟨by first | rfl | (congr 1; omega) | (congr 1; simp [*]), ?_⟩
    rw [po_10.2, if_pos (by omega)]
  exact W.iret (v := zI rr_9) hx hb hr (fun t ht hW => ⟨⟨zI rr_9, (x1_6, y1_7, l1_8, rr_9), rfl, po, by rw [ht]; exact hP9, va_K.moved hW.alike hK, hD9⟩, hS.F ht⟩) hS.2.2 dX5_replay_21
set_option maxHeartbeats 4000000 in
set_option maxRecDepth 100000 in
theorem c_X5_follow_no (l : Launch) (dC : Nat → ClassId) (dI : Nat → Nat → Nat) (cI cZ cL cT cJ : ClassId) (sz : Nat) (sl : Nat) (sh : Nat) (lc : Int) (ru : Nat) (tr : Nat) (se : Nat) (tx : Int) (ty : Int) (tl : Int) (lv : Nat) (w : Int) (h : Int) (ka : Nat) (ta : Nat) (sx : Int) (sy : Int) (fx : Int) (fy : Int) (lf : Int) (un : Int) (tt : Nat) (ti : Nat) (hf : Int) (lm : Int) (gm : lm = -1) : Met l yX5_follow wsX5_follow ({ frames := 3, cells := 0, slots := 0, locals := 69 }) (zP (dC, dI) (zT cI cZ cL cT cJ) sz [.ref sl, .ref lv, .ref tt, .int (zI lm)] [(sl, .inr (5, [.ref sh, .int (zI lc), .ref ru, .ref tr, .ref se])), (tr, .inr (0, [.int (zI tx), .int (zI ty), .int (zI tl)])), (lv, .inr (1, [.int (zI w), .int (zI h), .ref ka, .ref ta, .int (zI sx), .int (zI sy), .int (zI fx), .int (zI fy), .int (zI lf), .int (zI un)])), (tt, .inr (4, [.ref ti, .int (zI (-1)), .int (zI hf)]))]) (va_Qi (fun (r9 : Int32) (u9 : Unit) => match u9 with | _ => r9 = zI (-1) ∧ (True)) (zB (dC, dI) (zT cI cZ cL cT cJ) (va_A [(sl, .inr (5, [.ref sh, .int (zI lc), .ref ru, .ref tr, .ref se])), (tr, .inr (0, [.int (zI tx), .int (zI ty), .int (zI tl)])), (lv, .inr (1, [.int (zI w), .int (zI h), .ref ka, .ref ta, .int (zI sx), .int (zI sy), .int (zI fx), .int (zI fy), .int (zI lf), .int (zI un)])), (tt, .inr (4, [.ref ti, .int (zI (-1)), .int (zI hf)]))] sz) (fun (u9 : Unit) => match u9 with | _ => [(sl, .inr (5, [.ref sh, .int (zI lc), .ref ru, .ref tr, .ref se])), (tr, .inr (0, [.int (zI sx), .int (zI sy), .int (zI 0)])), (lv, .inr (1, [.int (zI w), .int (zI h), .ref ka, .ref ta, .int (zI sx), .int (zI sy), .int (zI fx), .int (zI fy), .int (zI lf), .int (zI un)])), (tt, .inr (4, [.ref ti, .int (zI (-1)), .int (zI hf)]))])) (va_A [(sl, .inr (5, [.ref sh, .int (zI lc), .ref ru, .ref tr, .ref se])), (tr, .inr (0, [.int (zI tx), .int (zI ty), .int (zI tl)])), (lv, .inr (1, [.int (zI w), .int (zI h), .ref ka, .ref ta, .int (zI sx), .int (zI sy), .int (zI fx), .int (zI fy), .int (zI lf), .int (zI un)])), (tt, .inr (4, [.ref ti, .int (zI (-1)), .int (zI hf)]))] sz)) 0 0 (va_A [(sl, .inr (5, [.ref sh, .int (zI lc), .ref ru, .ref tr, .ref se])), (tr, .inr (0, [.int (zI tx), .int (zI ty), .int (zI tl)])), (lv, .inr (1, [.int (zI w), .int (zI h), .ref ka, .ref ta, .int (zI sx), .int (zI sy), .int (zI fx), .int (zI fy), .int (zI lf), .int (zI un)])), (tt, .inr (4, [.ref ti, .int (zI (-1)), .int (zI hf)]))] sz) := by
  refine Met.ofW (cc := cX5_follow) (maxL := 5) (ret := (some .int)) (by decide) rfl ?_
  intro p e s m args below meth c s₁ B hml hv
  obtain ⟨rfl, hsz, hP, hK, hD0⟩ := hv
  have hx := B.exec
  have hb := B.bytes
  have hr := B.returns
  have hts := atoms_spec (ws := wsX5_follow) B.pre
  have hown : s.vm.findClass RX5 = some m.cls := findClass_of_methodNamed B.named
  have hlocks := B.notSynchronized
  subst hsz
  have hD := hD0.self (sz := s.heap.size)
  generalize hAe : va_A [(sl, .inr (5, [.ref sh, .int (zI lc), .ref ru, .ref tr, .ref se])), (tr, .inr (0, [.int (zI tx), .int (zI ty), .int (zI tl)])), (lv, .inr (1, [.int (zI w), .int (zI h), .ref ka, .ref ta, .int (zI sx), .int (zI sy), .int (zI fx), .int (zI fy), .int (zI lf), .int (zI un)])), (tt, .inr (4, [.ref ti, .int (zI (-1)), .int (zI hf)]))] s.heap.size = A at hD ⊢
  have hA : ∀ q : Nat, s.heap.size ≤ q → A q := fun q h => by rw [← hAe]; exact Or.inr h
  clear hAe hD0
  have hS : va_S A s.heap s.heap [] := va_S.rf
  have hP : va_P (dC, dI) vwCl [(sl, .inr (5, [.ref sh, .int (zI lc), .ref ru, .ref tr, .ref se])), (tr, .inr (0, [.int (zI tx), .int (zI ty), .int (zI tl)])), (lv, .inr (1, [.int (zI w), .int (zI h), .ref ka, .ref ta, .int (zI sx), .int (zI sy), .int (zI fx), .int (zI fy), .int (zI lf), .int (zI un)])), (tt, .inr (4, [.ref ti, .int (zI (-1)), .int (zI hf)]))] s.heap := hP
  have f_29 := hts (.fieldLink RX5 29 "SpringLevels" "trial" "LSpringLevels$Hero;") (by decide +kernel)
  have f_172 := hts (.fieldLink RX5 172 "SpringLevels$Tape" "length" "I") (by decide +kernel)
  have i_4 : ∀ w ∈ wsX40, w ∈ wsX5_follow := by decide +kernel
  have i_5 : ∀ w ∈ wsX50, w ∈ wsX5_follow := by decide +kernel
  have hl := lv_entry ([.ref sl, .ref lv, .ref tt, .int (zI lm)]) (n := 5) (Nat.le_of_ble_eq_true rfl)
  rw [lg_entry_eq]
  generalize (lg_sl ([.ref sl, .ref lv, .ref tt, .int (zI lm)]) ++ List.replicate (5 - (lg_sl ([.ref sl, .ref lv, .ref tt, .int (zI lm)])).length) Slot.unset).toArray = ls at hl ⊢
  have hl : lv_has ls 5 [(0, .ref sl), (1, .ref lv), (2, .ref tt), (3, .int (zI lm))] := hl
  refine lv_aload_n hx hb dX5_follow_0 rfl (lv_at hl 0 rfl) ?_
  refine va_get (D := (dC, dI)) (ci := 5) (v := .ref tr) (C := RX5) (T := TX5) (N := 5) hx hb hts i_5 hown hK hP 0 rfl rfl 3 (by decide) f_29 (fun _ h9 => h9) rfl dX5_follow_1 ?_
  refine lv_aload_n hx hb dX5_follow_4 rfl (lv_at hl 1 rfl) ?_
  have hPc := hP.sub (ws' := [(tr, .inr (0, [.int (zI tx), .int (zI ty), .int (zI tl)])), (lv, .inr (1, [.int (zI w), .int (zI h), .ref ka, .ref ta, .int (zI sx), .int (zI sy), .int (zI fx), .int (zI fy), .int (zI lf), .int (zI un)]))]) [1, 2] rfl
  have hDc := hD.sub (ws' := [(tr, .inr (0, [.int (zI tx), .int (zI ty), .int (zI tl)])), (lv, .inr (1, [.int (zI w), .int (zI h), .ref ka, .ref ta, .int (zI sx), .int (zI sy), .int (zI fx), .int (zI fy), .int (zI lf), .int (zI un)]))]) [1, 2] (by decide) rfl
  have hFc := va_free (wc := [(tr, .inr (0, [.int (zI tx), .int (zI ty), .int (zI tl)])), (lv, .inr (1, [.int (zI w), .int (zI h), .ref ka, .ref ta, .int (zI sx), .int (zI sy), .int (zI fx), .int (zI fy), .int (zI lf), .int (zI un)]))]) hD hS hA [1, 2] rfl
  refine va_callv (va_runV (As := [.ref lv]) (rest := []) ⟨hx, hb, hml, hown, hts⟩ (c_X0_toStart l dC dI cI cZ cL cT cJ s.heap.size tr tx ty tl lv w h ka ta sx sy fx fy lf un ) (cwV 1 hts gX5_follow_X0_toStart rfl rfl rfl (by decide +kernel) ⟨Nat.le_of_ble_eq_true rfl, Nat.le_of_ble_eq_true rfl⟩) ⟨zP_blind, va_recv hK hPc (ci := 0) (q0 := 0) rfl rfl, zP_pre hPc hDc hK⟩ rfl rfl hl.1 rfl (lv_room (Nat.le_of_ble_eq_true rfl)) dX5_follow_5 ⟨Nat.le_of_ble_eq_true rfl, Nat.le_of_ble_eq_true rfl⟩) hS (fun q _ h => hFc q h) hFc (fun u_1 t H1 locs ht hvm hw hB hz1 hk1 hS => ?_)
  obtain ⟨hP1, hK1, hD1⟩ := hB
  rw [ht] at hP1
  have hP1 : va_P (dC, dI) vwCl [(tr, .inr (0, [.int (zI sx), .int (zI sy), .int (zI 0)])), (lv, .inr (1, [.int (zI w), .int (zI h), .ref ka, .ref ta, .int (zI sx), .int (zI sy), .int (zI fx), .int (zI fy), .int (zI lf), .int (zI un)]))] H1 := hP1
  obtain ⟨hP, hD⟩ := va_join (wr := [(sl, .inr (5, [.ref sh, .int (zI lc), .ref ru, .ref tr, .ref se])), (tt, .inr (4, [.ref ti, .int (zI (-1)), .int (zI hf)]))]) (w1 := [(tr, .inr (0, [.int (zI sx), .int (zI sy), .int (zI 0)])), (lv, .inr (1, [.int (zI w), .int (zI h), .ref ka, .ref ta, .int (zI sx), .int (zI sy), .int (zI fx), .int (zI fy), .int (zI lf), .int (zI un)]))]) hP hD [1, 2] [0, 3] rfl rfl (by decide) (by decide) hk1 hFc hP1 hD1
  clear hP1 hD1 hk1 hFc hPc hDc hz1
  generalize H1 = H at hP hS ⊢
  have hP : va_P (dC, dI) vwCl [(sl, .inr (5, [.ref sh, .int (zI lc), .ref ru, .ref tr, .ref se])), (tr, .inr (0, [.int (zI sx), .int (zI sy), .int (zI 0)])), (lv, .inr (1, [.int (zI w), .int (zI h), .ref ka, .ref ta, .int (zI sx), .int (zI sy), .int (zI fx), .int (zI fy), .int (zI lf), .int (zI un)])), (tt, .inr (4, [.ref ti, .int (zI (-1)), .int (zI hf)]))] H := hP.sub [0, 2, 3, 1] rfl
  have hD : va_D A [(sl, .inr (5, [.ref sh, .int (zI lc), .ref ru, .ref tr, .ref se])), (tr, .inr (0, [.int (zI sx), .int (zI sy), .int (zI 0)])), (lv, .inr (1, [.int (zI w), .int (zI h), .ref ka, .ref ta, .int (zI sx), .int (zI sy), .int (zI fx), .int (zI fy), .int (zI lf), .int (zI un)])), (tt, .inr (4, [.ref ti, .int (zI (-1)), .int (zI hf)]))] := hD.sub [0, 2, 3, 1] (by decide) rfl
  clear hK1 hvm
  refine W.eq (g2 := F0 m 8 ls []) rfl ?_
  refine lv_iconst (v := zI 0) hx hb dX5_follow_8 (rfl) ?_
  refine lv_istore (lv' := [(4, .int (zI 0)), (0, .ref sl), (1, .ref lv), (2, .ref tt), (3, .int (zI lm))]) hx hb dX5_follow_9 hl (by decide) rfl (fun ls hl => ?_)
  refine lv_iload hx hb dX5_follow_11 (lv_at hl 0 rfl) ?_
  refine lv_iload_n hx hb dX5_follow_13 rfl (lv_at hl 4 rfl) ?_
  refine lz_icmp_ge (tgt := 55) hx hb dX5_follow_14 (by decide) ⟨by decide, by decide⟩ (by omega) (fun c_3 => ?_) (fun c_3 => ?_)
  ·
    refine lv_iconst (v := zI (-1)) hx hb dX5_follow_55 (rfl) ?_
    have hP9 := hP.sub (ws' := [(sl, .inr (5, [.ref sh, .int (zI lc), .ref ru, .ref tr, .ref se])), (tr, .inr (0, [.int (zI sx), .int (zI sy), .int (zI 0)])), (lv, .inr (1, [.int (zI w), .int (zI h), .ref ka, .ref ta, .int (zI sx), .int (zI sy), .int (zI fx), .int (zI fy), .int (zI lf), .int (zI un)])), (tt, .inr (4, [.ref ti, .int (zI (-1)), .int (zI hf)]))]) [0, 1, 2, 3] rfl
    have hD9 := hD.sub (ws' := [(sl, .inr (5, [.ref sh, .int (zI lc), .ref ru, .ref tr, .ref se])), (tr, .inr (0, [.int (zI sx), .int (zI sy), .int (zI 0)])), (lv, .inr (1, [.int (zI w), .int (zI h), .ref ka, .ref ta, .int (zI sx), .int (zI sy), .int (zI fx), .int (zI fy), .int (zI lf), .int (zI un)])), (tt, .inr (4, [.ref ti, .int (zI (-1)), .int (zI hf)]))]) [0, 1, 2, 3] (by decide) rfl
    have po : zI (-1) = zI (-1) ∧ (True) := by
      refine ⟨by first | rfl | (congr 1; omega) | (congr 1; simp [*]), ?_⟩
      trivial
    exact W.iret (v := zI (-1)) hx hb hr (fun t ht hW => ⟨⟨zI (-1), (), rfl, po, by rw [ht]; exact hP9, va_K.moved hW.alike hK, hD9⟩, hS.F ht⟩) hS.2.2 dX5_follow_56
  · exfalso; omega
set_option maxHeartbeats 4000000 in
set_option maxRecDepth 100000 in
theorem c_X5_replay_0 (l : Launch) (dC : Nat → ClassId) (dI : Nat → Nat → Nat) (cI cZ cL cT cJ : ClassId) (sz : Nat) (sl : Nat) (sh : Nat) (lc : Int) (ru : Nat) (tr : Nat) (se : Nat) (sf : Nat → Option Nat) (L : Int) (k : Nat) (tx : Int) (ty : Int) (tl : Int) (lv : Nat) (w : Int) (h : Int) (ka : Nat) (ta : Nat) (sx : Int) (sy : Int) (fx : Int) (fy : Int) (lf : Int) (un : Int) (tq : Nat → Option Nat) (tp : Nat → Nat) (pl : Int) (kp : Nat) (ti : Nat) (hf : Int) (gk : L = (k : Int) ∧ k < 6) (gf : sf k = some lv) (gt : ∀ k, k < 4 → tq k = some (tp k)) (gkp : pl = (kp : Int) ∧ kp < 4) : Met l yX5_replay wsX5_replay ({ frames := 4, cells := 0, slots := 0, locals := 93 }) (zP (dC, dI) (zT cI cZ cL cT cJ) sz [.ref sl, .int (zI L), .int (zI pl)] [(sl, .inr (5, [.ref sh, .int (zI lc), .ref ru, .ref tr, .ref se])), zQ cL sh 6 sf, (tr, .inr (0, [.int (zI tx), .int (zI ty), .int (zI tl)])), (lv, .inr (1, [.int (zI w), .int (zI h), .ref ka, .ref ta, .int (zI sx), .int (zI sy), .int (zI fx), .int (zI fy), .int (zI lf), .int (zI un)])), zQ cT ta 4 tq, (tp kp, .inr (4, [.ref ti, .int (zI (-1)), .int (zI hf)]))]) (va_Qi (fun (r9 : Int32) (u9 : Unit) => match u9 with | _ => r9 = zI (-1) ∧ (True)) (zB (dC, dI) (zT cI cZ cL cT cJ) (va_A [(sl, .inr (5, [.ref sh, .int (zI lc), .ref ru, .ref tr, .ref se])), zQ cL sh 6 sf, (tr, .inr (0, [.int (zI tx), .int (zI ty), .int (zI tl)])), (lv, .inr (1, [.int (zI w), .int (zI h), .ref ka, .ref ta, .int (zI sx), .int (zI sy), .int (zI fx), .int (zI fy), .int (zI lf), .int (zI un)])), zQ cT ta 4 tq, (tp kp, .inr (4, [.ref ti, .int (zI (-1)), .int (zI hf)]))] sz) (fun (u9 : Unit) => match u9 with | _ => [(sl, .inr (5, [.ref sh, .int (zI lc), .ref ru, .ref tr, .ref se])), zQ cL sh 6 sf, (tr, .inr (0, [.int (zI sx), .int (zI sy), .int (zI 0)])), (lv, .inr (1, [.int (zI w), .int (zI h), .ref ka, .ref ta, .int (zI sx), .int (zI sy), .int (zI fx), .int (zI fy), .int (zI lf), .int (zI un)])), zQ cT ta 4 tq, (tp kp, .inr (4, [.ref ti, .int (zI (-1)), .int (zI hf)]))])) (va_A [(sl, .inr (5, [.ref sh, .int (zI lc), .ref ru, .ref tr, .ref se])), zQ cL sh 6 sf, (tr, .inr (0, [.int (zI tx), .int (zI ty), .int (zI tl)])), (lv, .inr (1, [.int (zI w), .int (zI h), .ref ka, .ref ta, .int (zI sx), .int (zI sy), .int (zI fx), .int (zI fy), .int (zI lf), .int (zI un)])), zQ cT ta 4 tq, (tp kp, .inr (4, [.ref ti, .int (zI (-1)), .int (zI hf)]))] sz)) 0 0 (va_A [(sl, .inr (5, [.ref sh, .int (zI lc), .ref ru, .ref tr, .ref se])), zQ cL sh 6 sf, (tr, .inr (0, [.int (zI tx), .int (zI ty), .int (zI tl)])), (lv, .inr (1, [.int (zI w), .int (zI h), .ref ka, .ref ta, .int (zI sx), .int (zI sy), .int (zI fx), .int (zI fy), .int (zI lf), .int (zI un)])), zQ cT ta 4 tq, (tp kp, .inr (4, [.ref ti, .int (zI (-1)), .int (zI hf)]))] sz) := by
  refine Met.ofW (cc := cX5_replay) (maxL := 4) (ret := (some .int)) (by decide) rfl ?_
  intro p e s m args below meth c s₁ B hml hv
  obtain ⟨rfl, hsz, hP, hK, hD0⟩ := hv
  have hx := B.exec
  have hb := B.bytes
  have hr := B.returns
  have hts := atoms_spec (ws := wsX5_replay) B.pre
  have hown : s.vm.findClass RX5 = some m.cls := findClass_of_methodNamed B.named
  have hlocks := B.notSynchronized
  subst hsz
  have hD := hD0.self (sz := s.heap.size)
  generalize hAe : va_A [(sl, .inr (5, [.ref sh, .int (zI lc), .ref ru, .ref tr, .ref se])), zQ cL sh 6 sf, (tr, .inr (0, [.int (zI tx), .int (zI ty), .int (zI tl)])), (lv, .inr (1, [.int (zI w), .int (zI h), .ref ka, .ref ta, .int (zI sx), .int (zI sy), .int (zI fx), .int (zI fy), .int (zI lf), .int (zI un)])), zQ cT ta 4 tq, (tp kp, .inr (4, [.ref ti, .int (zI (-1)), .int (zI hf)]))] s.heap.size = A at hD ⊢
  have hA : ∀ q : Nat, s.heap.size ≤ q → A q := fun q h => by rw [← hAe]; exact Or.inr h
  clear hAe hD0
  have hS : va_S A s.heap s.heap [] := va_S.rf
  have hP : va_P (dC, dI) vwCl [(sl, .inr (5, [.ref sh, .int (zI lc), .ref ru, .ref tr, .ref se])), zQ cL sh 6 sf, (tr, .inr (0, [.int (zI tx), .int (zI ty), .int (zI tl)])), (lv, .inr (1, [.int (zI w), .int (zI h), .ref ka, .ref ta, .int (zI sx), .int (zI sy), .int (zI fx), .int (zI fy), .int (zI lf), .int (zI un)])), zQ cT ta 4 tq, (tp kp, .inr (4, [.ref ti, .int (zI (-1)), .int (zI hf)]))] s.heap := hP
  have f_172 := hts (.fieldLink RX5 172 "SpringLevels$Tape" "length" "I") (by decide +kernel)
  have i_4 : ∀ w ∈ wsX40, w ∈ wsX5_replay := by decide +kernel
  have hl := lv_entry ([.ref sl, .int (zI L), .int (zI pl)]) (n := 4) (Nat.le_of_ble_eq_true rfl)
  rw [lg_entry_eq]
  generalize (lg_sl ([.ref sl, .int (zI L), .int (zI pl)]) ++ List.replicate (4 - (lg_sl ([.ref sl, .int (zI L), .int (zI pl)])).length) Slot.unset).toArray = ls at hl ⊢
  have hl : lv_has ls 4 [(0, .ref sl), (1, .int (zI L)), (2, .int (zI pl))] := hl
  refine lv_aload_n hx hb dX5_replay_0 rfl (lv_at hl 0 rfl) ?_
  refine lv_iload_n hx hb dX5_replay_1 rfl (lv_at hl 1 rfl) ?_
  refine lv_iload_n hx hb dX5_replay_2 rfl (lv_at hl 2 rfl) ?_
  have hPc := hP.sub (ws' := [(sl, .inr (5, [.ref sh, .int (zI lc), .ref ru, .ref tr, .ref se])), zQ cL sh 6 sf, (lv, .inr (1, [.int (zI w), .int (zI h), .ref ka, .ref ta, .int (zI sx), .int (zI sy), .int (zI fx), .int (zI fy), .int (zI lf), .int (zI un)])), zQ cT ta 4 tq]) [0, 1, 3, 4] rfl
  have hDc := hD.sub (ws' := [(sl, .inr (5, [.ref sh, .int (zI lc), .ref ru, .ref tr, .ref se])), zQ cL sh 6 sf, (lv, .inr (1, [.int (zI w), .int (zI h), .ref ka, .ref ta, .int (zI sx), .int (zI sy), .int (zI fx), .int (zI fy), .int (zI lf), .int (zI un)])), zQ cT ta 4 tq]) [0, 1, 3, 4] (by decide) rfl
  have hFc := va_free (wc := [(sl, .inr (5, [.ref sh, .int (zI lc), .ref ru, .ref tr, .ref se])), zQ cL sh 6 sf, (lv, .inr (1, [.int (zI w), .int (zI h), .ref ka, .ref ta, .int (zI sx), .int (zI sy), .int (zI fx), .int (zI fy), .int (zI lf), .int (zI un)])), zQ cT ta 4 tq]) hD hS hA [0, 1, 3, 4] rfl
  refine va_callq (va_runV (As := [.int (zI L), .int (zI pl)]) (rest := []) ⟨hx, hb, hml, hown, hts⟩ (c_X5_tapeOf l dC dI cI cZ cL cT cJ s.heap.size sl sh lc ru tr se sf L k lv w h ka ta sx sy fx fy lf un tq tp pl kp (by first | assumption | omega) (by first | assumption | omega) (by first | assumption | omega) (by first | assumption | omega)) (cwV 2 hts gX5_replay_X5_tapeOf rfl rfl rfl (by decide +kernel) ⟨Nat.le_of_ble_eq_true rfl, Nat.le_of_ble_eq_true rfl⟩) ⟨zP_blind, va_recv hK hPc (ci := 5) (q0 := 0) rfl rfl, zP_pre hPc hDc hK⟩ rfl rfl hl.1 rfl (lv_room (Nat.le_of_ble_eq_true rfl)) dX5_replay_3 ⟨Nat.le_of_ble_eq_true rfl, Nat.le_of_ble_eq_true rfl⟩) hS (fun q _ h => hFc q h) hFc (fun r_1 u_1 t H1 locs ht hvm hw hB hz1 hk1 hS => ?_)
  obtain ⟨hP1, hK1, hD1⟩ := hB
  rw [ht] at hP1
  have hP1 : va_P (dC, dI) vwCl [(sl, .inr (5, [.ref sh, .int (zI lc), .ref ru, .ref tr, .ref se])), zQ cL sh 6 sf, (lv, .inr (1, [.int (zI w), .int (zI h), .ref ka, .ref ta, .int (zI sx), .int (zI sy), .int (zI fx), .int (zI fy), .int (zI lf), .int (zI un)])), zQ cT ta 4 tq] H1 := hP1
  obtain ⟨hP, hD⟩ := va_join (wr := [(tr, .inr (0, [.int (zI tx), .int (zI ty), .int (zI tl)])), (tp kp, .inr (4, [.ref ti, .int (zI (-1)), .int (zI hf)]))]) (w1 := [(sl, .inr (5, [.ref sh, .int (zI lc), .ref ru, .ref tr, .ref se])), zQ cL sh 6 sf, (lv, .inr (1, [.int (zI w), .int (zI h), .ref ka, .ref ta, .int (zI sx), .int (zI sy), .int (zI fx), .int (zI fy), .int (zI lf), .int (zI un)])), zQ cT ta 4 tq]) hP hD [0, 1, 3, 4] [2, 5] rfl rfl (by decide) (by decide) hk1 hFc hP1 hD1
  clear hP1 hD1 hk1 hFc hPc hDc hz1
  generalize H1 = H at hP hS ⊢
  have hP : va_P (dC, dI) vwCl [(sl, .inr (5, [.ref sh, .int (zI lc), .ref ru, .ref tr, .ref se])), zQ cL sh 6 sf, (tr, .inr (0, [.int (zI tx), .int (zI ty), .int (zI tl)])), (lv, .inr (1, [.int (zI w), .int (zI h), .ref ka, .ref ta, .int (zI sx), .int (zI sy), .int (zI fx), .int (zI fy), .int (zI lf), .int (zI un)])), zQ cT ta 4 tq, (tp kp, .inr (4, [.ref ti, .int (zI (-1)), .int (zI hf)]))] H := hP.sub [2, 3, 0, 4, 5, 1] rfl
  have hD : va_D A [(sl, .inr (5, [.ref sh, .int (zI lc), .ref ru, .ref tr, .ref se])), zQ cL sh 6 sf, (tr, .inr (0, [.int (zI tx), .int (zI ty), .int (zI tl)])), (lv, .inr (1, [.int (zI w), .int (zI h), .ref ka, .ref ta, .int (zI sx), .int (zI sy), .int (zI fx), .int (zI fy), .int (zI lf), .int (zI un)])), zQ cT ta 4 tq, (tp kp, .inr (4, [.ref ti, .int (zI (-1)), .int (zI hf)]))] := hD.sub [2, 3, 0, 4, 5, 1] (by decide) rfl
  clear hK1 hvm
  obtain ⟨rfl, po_2⟩ := hw
  refine W.eq (g2 := F0 m 6 ls [.ref (tp kp)]) rfl ?_
  refine lv_astore_n (lv' := [(3, .ref (tp kp)), (0, .ref sl), (1, .int (zI L)), (2, .int (zI pl))]) hx hb dX5_replay_6 rfl hl (by decide) rfl (fun ls hl => ?_)
  refine lv_aload_n hx hb dX5_replay_7 rfl (lv_at hl 1 rfl) ?_
  refine lv_aload_n hx hb dX5_replay_8 rfl (lv_at hl 1 rfl) ?_
  refine lv_iload_n hx hb dX5_replay_9 rfl (lv_at hl 2 rfl) ?_
  have hPc := hP.sub (ws' := [(sl, .inr (5, [.ref sh, .int (zI lc), .ref ru, .ref tr, .ref se])), zQ cL sh 6 sf]) [0, 1] rfl
  have hDc := hD.sub (ws' := [(sl, .inr (5, [.ref sh, .int (zI lc), .ref ru, .ref tr, .ref se])), zQ cL sh 6 sf]) [0, 1] (by decide) rfl
  have hFc := va_free (wc := [(sl, .inr (5, [.ref sh, .int (zI lc), .ref ru, .ref tr, .ref se])), zQ cL sh 6 sf]) hD hS hA [0, 1] rfl
  refine va_callq (va_runV (As := [.int (zI L)]) (rest := [.ref sl]) ⟨hx, hb, hml, hown, hts⟩ (c_X5_levelNumbered l dC dI cI cZ cL cT cJ H.size sl sh lc ru tr se sf L k lv (by first | assumption | omega) (by first | assumption | omega)) (cwV 1 hts gX5_replay_X5_levelNumbered rfl rfl rfl (by decide +kernel) ⟨Nat.le_of_ble_eq_true rfl, Nat.le_of_ble_eq_true rfl⟩) ⟨zP_blind, va_recv hK hPc (ci := 5) (q0 := 0) rfl rfl, zP_pre hPc hDc hK⟩ rfl rfl hl.1 rfl (lv_room (Nat.le_of_ble_eq_true rfl)) dX5_replay_10 ⟨Nat.le_of_ble_eq_true rfl, Nat.le_of_ble_eq_true rfl⟩) hS (fun q _ h => hFc q h) hFc (fun r_3 u_3 t H1 locs ht hvm hw hB hz1 hk1 hS => ?_)
  obtain ⟨hP1, hK1, hD1⟩ := hB
  rw [ht] at hP1
  have hP1 : va_P (dC, dI) vwCl [(sl, .inr (5, [.ref sh, .int (zI lc), .ref ru, .ref tr, .ref se])), zQ cL sh 6 sf] H1 := hP1
  obtain ⟨hP, hD⟩ := va_join (wr := [(tr, .inr (0, [.int (zI tx), .int (zI ty), .int (zI tl)])), (lv, .inr (1, [.int (zI w), .int (zI h), .ref ka, .ref ta, .int (zI sx), .int (zI sy), .int (zI fx), .int (zI fy), .int (zI lf), .int (zI un)])), zQ cT ta 4 tq, (tp kp, .inr (4, [.ref ti, .int (zI (-1)), .int (zI hf)]))]) (w1 := [(sl, .inr (5, [.ref sh, .int (zI lc), .ref ru, .ref tr, .ref se])), zQ cL sh 6 sf]) hP hD [0, 1] [2, 3, 4, 5] rfl rfl (by decide) (by decide) hk1 hFc hP1 hD1
  clear hP1 hD1 hk1 hFc hPc hDc hz1
  generalize H1 = H at hP hS ⊢
  have hP : va_P (dC, dI) vwCl [(sl, .inr (5, [.ref sh, .int (zI lc), .ref ru, .ref tr, .ref se])), zQ cL sh 6 sf, (tr, .inr (0, [.int (zI tx), .int (zI ty), .int (zI tl)])), (lv, .inr (1, [.int (zI w), .int (zI h), .ref ka, .ref ta, .int (zI sx), .int (zI sy), .int (zI fx), .int (zI fy), .int (zI lf), .int (zI un)])), zQ cT ta 4 tq, (tp kp, .inr (4, [.ref ti, .int (zI (-1)), .int (zI hf)]))] H := hP.sub [4, 5, 0, 1, 2, 3] rfl
  have hD : va_D A [(sl, .inr (5, [.ref sh, .int (zI lc), .ref ru, .ref tr, .ref se])), zQ cL sh 6 sf, (tr, .inr (0, [.int (zI tx), .int (zI ty), .int (zI tl)])), (lv, .inr (1, [.int (zI w), .int (zI h), .ref ka, .ref ta, .int (zI sx), .int (zI sy), .int (zI fx), .int (zI fy), .int (zI lf), .int (zI un)])), zQ cT ta 4 tq, (tp kp, .inr (4, [.ref ti, .int (zI (-1)), .int (zI hf)]))] := hD.sub [4, 5, 0, 1, 2, 3] (by decide) rfl
  clear hK1 hvm
  obtain ⟨rfl, po_4⟩ := hw
  refine W.eq (g2 := F0 m 13 ls [.ref lv, .ref sl]) rfl ?_
  refine lv_aload_n hx hb dX5_replay_13 rfl (lv_at hl 0 rfl) ?_
  refine lv_aload_n hx hb dX5_replay_14 rfl (lv_at hl 0 rfl) ?_
  refine va_get (D := (dC, dI)) (ci := 4) (v := .int (zI (-1))) (C := RX4) (T := TX4) (N := 3) hx hb hts i_4 hown hK hP 5 rfl rfl 1 (by decide) f_172 (fun _ h9 => h9) rfl dX5_replay_15 ?_
  have hPc := hP.sub (ws' := [(sl, .inr (5, [.ref sh, .int (zI lc), .ref ru, .ref tr, .ref se])), (tr, .inr (0, [.int (zI tx), .int (zI ty), .int (zI tl)])), (lv, .inr (1, [.int (zI w), .int (zI h), .ref ka, .ref ta, .int (zI sx), .int (zI sy), .int (zI fx), .int (zI fy), .int (zI lf), .int (zI un)])), (tp kp, .inr (4, [.ref ti, .int (zI (-1)), .int (zI hf)]))]) [0, 2, 3, 5] rfl
  have hDc := hD.sub (ws' := [(sl, .inr (5, [.ref sh, .int (zI lc), .ref ru, .ref tr, .ref se])), (tr, .inr (0, [.int (zI tx), .int (zI ty), .int (zI tl)])), (lv, .inr (1, [.int (zI w), .int (zI h), .ref ka, .ref ta, .int (zI sx), .int (zI sy), .int (zI fx), .int (zI fy), .int (zI lf), .int (zI un)])), (tp kp, .inr (4, [.ref ti, .int (zI (-1)), .int (zI hf)]))]) [0, 2, 3, 5] (by decide) rfl
  have hFc := va_free (wc := [(sl, .inr (5, [.ref sh, .int (zI lc), .ref ru, .ref tr, .ref se])), (tr, .inr (0, [.int (zI tx), .int (zI ty), .int (zI tl)])), (lv, .inr (1, [.int (zI w), .int (zI h), .ref ka, .ref ta, .int (zI sx), .int (zI sy), .int (zI fx), .int (zI fy), .int (zI lf), .int (zI un)])), (tp kp, .inr (4, [.ref ti, .int (zI (-1)), .int (zI hf)]))]) hD hS hA [0, 2, 3, 5] rfl
  refine va_calli (va_runV (As := [.ref lv, .ref (tp kp), .int (zI (-1))]) (rest := []) ⟨hx, hb, hml, hown, hts⟩ (c_X5_follow_no l dC dI cI cZ cL cT cJ H.size sl sh lc ru tr se tx ty tl lv w h ka ta sx sy fx fy lf un (tp kp) ti hf (-1) (by rfl)) (cwV 3 hts gX5_replay_X5_follow rfl rfl rfl (by decide +kernel) ⟨Nat.le_of_ble_eq_true rfl, Nat.le_of_ble_eq_true rfl⟩) ⟨zP_blind, va_recv hK hPc (ci := 5) (q0 := 0) rfl rfl, zP_pre hPc hDc hK⟩ rfl rfl hl.1 rfl (lv_room (Nat.le_of_ble_eq_true rfl)) dX5_replay_18 ⟨Nat.le_of_ble_eq_true rfl, Nat.le_of_ble_eq_true rfl⟩) hS (fun q _ h => hFc q h) hFc (fun r_5 u_5 t H1 locs ht hvm hw hB hz1 hk1 hS => ?_)
  obtain ⟨hP1, hK1, hD1⟩ := hB
  rw [ht] at hP1
  have hP1 : va_P (dC, dI) vwCl [(sl, .inr (5, [.ref sh, .int (zI lc), .ref ru, .ref tr, .ref se])), (tr, .inr (0, [.int (zI sx), .int (zI sy), .int (zI 0)])), (lv, .inr (1, [.int (zI w), .int (zI h), .ref ka, .ref ta, .int (zI sx), .int (zI sy), .int (zI fx), .int (zI fy), .int (zI lf), .int (zI un)])), (tp kp, .inr (4, [.ref ti, .int (zI (-1)), .int (zI hf)]))] H1 := hP1
  obtain ⟨hP, hD⟩ := va_join (wr := [zQ cL sh 6 sf, zQ cT ta 4 tq]) (w1 := [(sl, .inr (5, [.ref sh, .int (zI lc), .ref ru, .ref tr, .ref se])), (tr, .inr (0, [.int (zI sx), .int (zI sy), .int (zI 0)])), (lv, .inr (1, [.int (zI w), .int (zI h), .ref ka, .ref ta, .int (zI sx), .int (zI sy), .int (zI fx), .int (zI fy), .int (zI lf), .int (zI un)])), (tp kp, .inr (4, [.ref ti, .int (zI (-1)), .int (zI hf)]))]) hP hD [0, 2, 3, 5] [1, 4] rfl rfl (by decide) (by decide) hk1 hFc hP1 hD1
  clear hP1 hD1 hk1 hFc hPc hDc hz1
  generalize H1 = H at hP hS ⊢
  have hP : va_P (dC, dI) vwCl [(sl, .inr (5, [.ref sh, .int (zI lc), .ref ru, .ref tr, .ref se])), zQ cL sh 6 sf, (tr, .inr (0, [.int (zI sx), .int (zI sy), .int (zI 0)])), (lv, .inr (1, [.int (zI w), .int (zI h), .ref ka, .ref ta, .int (zI sx), .int (zI sy), .int (zI fx), .int (zI fy), .int (zI lf), .int (zI un)])), zQ cT ta 4 tq, (tp kp, .inr (4, [.ref ti, .int (zI (-1)), .int (zI hf)]))] H := hP.sub [2, 0, 3, 4, 1, 5] rfl
  have hD : va_D A [(sl, .inr (5, [.ref sh, .int (zI lc), .ref ru, .ref tr, .ref se])), zQ cL sh 6 sf, (tr, .inr (0, [.int (zI sx), .int (zI sy), .int (zI 0)])), (lv, .inr (1, [.int (zI w), .int (zI h), .ref ka, .ref ta, .int (zI sx), .int (zI sy), .int (zI fx), .int (zI fy), .int (zI lf), .int (zI un)])), zQ cT ta 4 tq, (tp kp, .inr (4, [.ref ti, .int (zI (-1)), .int (zI hf)]))] := hD.sub [2, 0, 3, 4, 1, 5] (by decide) rfl
  clear hK1 hvm
  obtain ⟨rfl, po_6⟩ := hw
  refine W.eq (g2 := F0 m 21 ls [.int (zI (-1))]) rfl ?_
  have hP9 := hP.sub (ws' := [(sl, .inr (5, [.ref sh, .int (zI lc), .ref ru, .ref tr, .ref se])), zQ cL sh 6 sf, (tr, .inr (0, [.int (zI sx), .int (zI sy), .int (zI 0)])), (lv, .inr (1, [.int (zI w), .int (zI h), .ref ka, .ref ta, .int (zI sx), .int (zI sy), .int (zI fx), .int (zI fy), .int (zI lf), .int (zI un)])), zQ cT ta 4 tq, (tp kp, .inr (4, [.ref ti, .int (zI (-1)), .int (zI hf)]))]) [0, 1, 2, 3, 4, 5] rfl
  have hD9 := hD.sub (ws' := [(sl, .inr (5, [.ref sh, .int (zI lc), .ref ru, .ref tr, .ref se])), zQ cL sh 6 sf, (tr, .inr (0, [.int (zI sx), .int (zI sy), .int (zI 0)])), (lv, .inr (1, [.int (zI w), .int (zI h), .ref ka, .ref ta, .int (zI sx), .int (zI sy), .int (zI fx), .int (zI fy), .int (zI lf), .int (zI un)])), zQ cT ta 4 tq, (tp kp, .inr (4, [.ref ti, .int (zI (-1)), .int (zI hf)]))]) [0, 1, 2, 3, 4, 5] (by decide) rfl
  have po : zI (-1) = zI (-1) ∧ (True) := by
    refine ⟨by first | rfl | (congr 1; omega) | (congr 1; simp [*]), ?_⟩
    trivial
  exact W.iret (v := zI (-1)) hx hb hr (fun t ht hW => ⟨⟨zI (-1), (), rfl, po, by rw [ht]; exact hP9, va_K.moved hW.alike hK, hD9⟩, hS.F ht⟩) hS.2.2 dX5_replay_21
set_option maxHeartbeats 4000000 in
set_option maxRecDepth 100000 in
theorem c_X5_ghost_a (l : Launch) (dC : Nat → ClassId) (dI : Nat → Nat → Nat) (cI cZ cL cT cJ : ClassId) (sz : Nat) (sl : Nat) (sh : Nat) (lc : Int) (ru : Nat) (tr : Nat) (se : Nat) (rh : Nat) (rt : Nat) (rp : Int) (oc : Int)  : Met l yX5_ghost wsX5_ghost ({ frames := 4, cells := 0, slots := 0, locals := 93 }) (zP (dC, dI) (zT cI cZ cL cT cJ) sz [.ref sl] [(sl, .inr (5, [.ref sh, .int (zI lc), .ref ru, .ref tr, .ref se])), (ru, .inr (2, [.ref rh, .ref rt, .null, .int (zI rp), .int (zI oc)]))]) (va_Qi (fun (r9 : Int32) (u9 : Unit) => match u9 with | _ => r9 = zI (-1) ∧ (True)) (zB (dC, dI) (zT cI cZ cL cT cJ) (va_A [(sl, .inr (5, [.ref sh, .int (zI lc), .ref ru, .ref tr, .ref se])), (ru, .inr (2, [.ref rh, .ref rt, .null, .int (zI rp), .int (zI oc)]))] sz) (fun (u9 : Unit) => match u9 with | _ => [(sl, .inr (5, [.ref sh, .int (zI lc), .ref ru, .ref tr, .ref se])), (ru, .inr (2, [.ref rh, .ref rt, .null, .int (zI rp), .int (zI oc)]))])) (va_A [(sl, .inr (5, [.ref sh, .int (zI lc), .ref ru, .ref tr, .ref se])), (ru, .inr (2, [.ref rh, .ref rt, .null, .int (zI rp), .int (zI oc)]))] sz)) 0 0 (va_A [(sl, .inr (5, [.ref sh, .int (zI lc), .ref ru, .ref tr, .ref se])), (ru, .inr (2, [.ref rh, .ref rt, .null, .int (zI rp), .int (zI oc)]))] sz) := by
  refine Met.ofW (cc := cX5_ghost) (maxL := 3) (ret := (some .int)) (by decide) rfl ?_
  intro p e s m args below meth c s₁ B hml hv
  obtain ⟨rfl, hsz, hP, hK, hD0⟩ := hv
  have hx := B.exec
  have hb := B.bytes
  have hr := B.returns
  have hts := atoms_spec (ws := wsX5_ghost) B.pre
  have hown : s.vm.findClass RX5 = some m.cls := findClass_of_methodNamed B.named
  have hlocks := B.notSynchronized
  subst hsz
  have hD := hD0.self (sz := s.heap.size)
  generalize hAe : va_A [(sl, .inr (5, [.ref sh, .int (zI lc), .ref ru, .ref tr, .ref se])), (ru, .inr (2, [.ref rh, .ref rt, .null, .int (zI rp), .int (zI oc)]))] s.heap.size = A at hD ⊢
  have hA : ∀ q : Nat, s.heap.size ≤ q → A q := fun q h => by rw [← hAe]; exact Or.inr h
  clear hAe hD0
  have hS : va_S A s.heap s.heap [] := va_S.rf
  have hP : va_P (dC, dI) vwCl [(sl, .inr (5, [.ref sh, .int (zI lc), .ref ru, .ref tr, .ref se])), (ru, .inr (2, [.ref rh, .ref rt, .null, .int (zI rp), .int (zI oc)]))] s.heap := hP
  have f_22 := hts (.fieldLink RX5 22 "SpringLevels" "run" "LSpringLevels$Run;") (by decide +kernel)
  have f_29 := hts (.fieldLink RX5 29 "SpringLevels" "trial" "LSpringLevels$Hero;") (by decide +kernel)
  have f_143 := hts (.fieldLink RX5 143 "SpringLevels$Hero" "x" "I") (by decide +kernel)
  have f_148 := hts (.fieldLink RX5 148 "SpringLevels$Run" "level" "LSpringLevels$Level;") (by decide +kernel)
  have f_164 := hts (.fieldLink RX5 164 "SpringLevels$Run" "tape" "LSpringLevels$Tape;") (by decide +kernel)
  have f_172 := hts (.fieldLink RX5 172 "SpringLevels$Tape" "length" "I") (by decide +kernel)
  have f_177 := hts (.fieldLink RX5 177 "SpringLevels$Hero" "y" "I") (by decide +kernel)
  have i_0 : ∀ w ∈ wsX00, w ∈ wsX5_ghost := by decide +kernel
  have i_2 : ∀ w ∈ wsX20, w ∈ wsX5_ghost := by decide +kernel
  have i_4 : ∀ w ∈ wsX40, w ∈ wsX5_ghost := by decide +kernel
  have i_5 : ∀ w ∈ wsX50, w ∈ wsX5_ghost := by decide +kernel
  have hl := lv_entry ([.ref sl]) (n := 3) (Nat.le_of_ble_eq_true rfl)
  rw [lg_entry_eq]
  generalize (lg_sl ([.ref sl]) ++ List.replicate (3 - (lg_sl ([.ref sl])).length) Slot.unset).toArray = ls at hl ⊢
  have hl : lv_has ls 3 [(0, .ref sl)] := hl
  refine lv_aload_n hx hb dX5_ghost_0 rfl (lv_at hl 0 rfl) ?_
  refine va_get (D := (dC, dI)) (ci := 5) (v := .ref ru) (C := RX5) (T := TX5) (N := 5) hx hb hts i_5 hown hK hP 0 rfl rfl 2 (by decide) f_22 (fun _ h9 => h9) rfl dX5_ghost_1 ?_
  refine va_get (D := (dC, dI)) (ci := 2) (v := .null) (C := RX2) (T := TX2) (N := 5) hx hb hts i_2 hown hK hP 1 rfl rfl 2 (by decide) f_148 (fun _ h9 => h9) rfl dX5_ghost_4 ?_
  refine lv_astore_nN (lv' := [(1, .null), (0, .ref sl)]) hx hb dX5_ghost_7 rfl hl (by decide) rfl (fun ls hl => ?_)
  refine lv_aload_nN hx hb dX5_ghost_8 rfl (lv_at hl 0 rfl) ?_
  refine lv_ifnonnullN hx hb dX5_ghost_9 ?_
  refine lv_iconst (v := zI (-1)) hx hb dX5_ghost_12 (rfl) ?_
  have hP9 := hP.sub (ws' := [(sl, .inr (5, [.ref sh, .int (zI lc), .ref ru, .ref tr, .ref se])), (ru, .inr (2, [.ref rh, .ref rt, .null, .int (zI rp), .int (zI oc)]))]) [0, 1] rfl
  have hD9 := hD.sub (ws' := [(sl, .inr (5, [.ref sh, .int (zI lc), .ref ru, .ref tr, .ref se])), (ru, .inr (2, [.ref rh, .ref rt, .null, .int (zI rp), .int (zI oc)]))]) [0, 1] (by decide) rfl
  have po : zI (-1) = zI (-1) ∧ (True) := by
    refine ⟨by first | rfl | (congr 1; omega) | (congr 1; simp [*]), ?_⟩
    trivial
  exact W.iret (v := zI (-1)) hx hb hr (fun t ht hW => ⟨⟨zI (-1), (), rfl, po, by rw [ht]; exact hP9, va_K.moved hW.alike hK, hD9⟩, hS.F ht⟩) hS.2.2 dX5_ghost_13
set_option maxHeartbeats 4000000 in
set_option maxRecDepth 100000 in
theorem c_X5_ghost_b (l : Launch) (dC : Nat → ClassId) (dI : Nat → Nat → Nat) (cI cZ cL cT cJ : ClassId) (sz : Nat) (sl : Nat) (sh : Nat) (lc : Int) (ru : Nat) (tr : Nat) (se : Nat) (rh : Nat) (rt : Nat) (rp : Int) (oc : Int) (lv : Nat) (w : Int) (h : Int) (ka : Nat) (ta : Nat) (sx : Int) (sy : Int) (fx : Int) (fy : Int) (lf : Int) (un : Int) (tq : Nat → Option Nat) (tp : Nat → Nat) (ti : Nat → Nat) (LN : Nat → Int) (HF : Nat → Int) (gt : ∀ k, k < 4 → tq k = some (tp k)) (gL : ∀ k, k < 4 → -1 ≤ LN k ∧ LN k ≤ 100) (gb : (bp4 LN).1 = -1) : Met l yX5_ghost wsX5_ghost ({ frames := 4, cells := 0, slots := 0, locals := 93 }) (zP (dC, dI) (zT cI cZ cL cT cJ) sz [.ref sl] [(sl, .inr (5, [.ref sh, .int (zI lc), .ref ru, .ref tr, .ref se])), (ru, .inr (2, [.ref rh, .ref rt, .ref lv, .int (zI rp), .int (zI oc)])), (lv, .inr (1, [.int (zI w), .int (zI h), .ref ka, .ref ta, .int (zI sx), .int (zI sy), .int (zI fx), .int (zI fy), .int (zI lf), .int (zI un)])), zQ cT ta 4 tq, (tp 0, .inr (4, [.ref (ti 0), .int (zI (LN 0)), .int (zI (HF 0))])), (tp 1, .inr (4, [.ref (ti 1), .int (zI (LN 1)), .int (zI (HF 1))])), (tp 2, .inr (4, [.ref (ti 2), .int (zI (LN 2)), .int (zI (HF 2))])), (tp 3, .inr (4, [.ref (ti 3), .int (zI (LN 3)), .int (zI (HF 3))]))]) (va_Qi (fun (r9 : Int32) (u9 : Unit) => match u9 with | _ => r9 = zI (-1) ∧ (True)) (zB (dC, dI) (zT cI cZ cL cT cJ) (va_A [(sl, .inr (5, [.ref sh, .int (zI lc), .ref ru, .ref tr, .ref se])), (ru, .inr (2, [.ref rh, .ref rt, .ref lv, .int (zI rp), .int (zI oc)])), (lv, .inr (1, [.int (zI w), .int (zI h), .ref ka, .ref ta, .int (zI sx), .int (zI sy), .int (zI fx), .int (zI fy), .int (zI lf), .int (zI un)])), zQ cT ta 4 tq, (tp 0, .inr (4, [.ref (ti 0), .int (zI (LN 0)), .int (zI (HF 0))])), (tp 1, .inr (4, [.ref (ti 1), .int (zI (LN 1)), .int (zI (HF 1))])), (tp 2, .inr (4, [.ref (ti 2), .int (zI (LN 2)), .int (zI (HF 2))])), (tp 3, .inr (4, [.ref (ti 3), .int (zI (LN 3)), .int (zI (HF 3))]))] sz) (fun (u9 : Unit) => match u9 with | _ => [(sl, .inr (5, [.ref sh, .int (zI lc), .ref ru, .ref tr, .ref se])), (ru, .inr (2, [.ref rh, .ref rt, .ref lv, .int (zI rp), .int (zI oc)])), (lv, .inr (1, [.int (zI w), .int (zI h), .ref ka, .ref ta, .int (zI sx), .int (zI sy), .int (zI fx), .int (zI fy), .int (zI lf), .int (zI un)])), zQ cT ta 4 tq, (tp 0, .inr (4, [.ref (ti 0), .int (zI (LN 0)), .int (zI (HF 0))])), (tp 1, .inr (4, [.ref (ti 1), .int (zI (LN 1)), .int (zI (HF 1))])), (tp 2, .inr (4, [.ref (ti 2), .int (zI (LN 2)), .int (zI (HF 2))])), (tp 3, .inr (4, [.ref (ti 3), .int (zI (LN 3)), .int (zI (HF 3))]))])) (va_A [(sl, .inr (5, [.ref sh, .int (zI lc), .ref ru, .ref tr, .ref se])), (ru, .inr (2, [.ref rh, .ref rt, .ref lv, .int (zI rp), .int (zI oc)])), (lv, .inr (1, [.int (zI w), .int (zI h), .ref ka, .ref ta, .int (zI sx), .int (zI sy), .int (zI fx), .int (zI fy), .int (zI lf), .int (zI un)])), zQ cT ta 4 tq, (tp 0, .inr (4, [.ref (ti 0), .int (zI (LN 0)), .int (zI (HF 0))])), (tp 1, .inr (4, [.ref (ti 1), .int (zI (LN 1)), .int (zI (HF 1))])), (tp 2, .inr (4, [.ref (ti 2), .int (zI (LN 2)), .int (zI (HF 2))])), (tp 3, .inr (4, [.ref (ti 3), .int (zI (LN 3)), .int (zI (HF 3))]))] sz)) 0 0 (va_A [(sl, .inr (5, [.ref sh, .int (zI lc), .ref ru, .ref tr, .ref se])), (ru, .inr (2, [.ref rh, .ref rt, .ref lv, .int (zI rp), .int (zI oc)])), (lv, .inr (1, [.int (zI w), .int (zI h), .ref ka, .ref ta, .int (zI sx), .int (zI sy), .int (zI fx), .int (zI fy), .int (zI lf), .int (zI un)])), zQ cT ta 4 tq, (tp 0, .inr (4, [.ref (ti 0), .int (zI (LN 0)), .int (zI (HF 0))])), (tp 1, .inr (4, [.ref (ti 1), .int (zI (LN 1)), .int (zI (HF 1))])), (tp 2, .inr (4, [.ref (ti 2), .int (zI (LN 2)), .int (zI (HF 2))])), (tp 3, .inr (4, [.ref (ti 3), .int (zI (LN 3)), .int (zI (HF 3))]))] sz) := by
  refine Met.ofW (cc := cX5_ghost) (maxL := 3) (ret := (some .int)) (by decide) rfl ?_
  intro p e s m args below meth c s₁ B hml hv
  obtain ⟨rfl, hsz, hP, hK, hD0⟩ := hv
  have hx := B.exec
  have hb := B.bytes
  have hr := B.returns
  have hts := atoms_spec (ws := wsX5_ghost) B.pre
  have hown : s.vm.findClass RX5 = some m.cls := findClass_of_methodNamed B.named
  have hlocks := B.notSynchronized
  subst hsz
  have hD := hD0.self (sz := s.heap.size)
  generalize hAe : va_A [(sl, .inr (5, [.ref sh, .int (zI lc), .ref ru, .ref tr, .ref se])), (ru, .inr (2, [.ref rh, .ref rt, .ref lv, .int (zI rp), .int (zI oc)])), (lv, .inr (1, [.int (zI w), .int (zI h), .ref ka, .ref ta, .int (zI sx), .int (zI sy), .int (zI fx), .int (zI fy), .int (zI lf), .int (zI un)])), zQ cT ta 4 tq, (tp 0, .inr (4, [.ref (ti 0), .int (zI (LN 0)), .int (zI (HF 0))])), (tp 1, .inr (4, [.ref (ti 1), .int (zI (LN 1)), .int (zI (HF 1))])), (tp 2, .inr (4, [.ref (ti 2), .int (zI (LN 2)), .int (zI (HF 2))])), (tp 3, .inr (4, [.ref (ti 3), .int (zI (LN 3)), .int (zI (HF 3))]))] s.heap.size = A at hD ⊢
  have hA : ∀ q : Nat, s.heap.size ≤ q → A q := fun q h => by rw [← hAe]; exact Or.inr h
  clear hAe hD0
  have hS : va_S A s.heap s.heap [] := va_S.rf
  have hP : va_P (dC, dI) vwCl [(sl, .inr (5, [.ref sh, .int (zI lc), .ref ru, .ref tr, .ref se])), (ru, .inr (2, [.ref rh, .ref rt, .ref lv, .int (zI rp), .int (zI oc)])), (lv, .inr (1, [.int (zI w), .int (zI h), .ref ka, .ref ta, .int (zI sx), .int (zI sy), .int (zI fx), .int (zI fy), .int (zI lf), .int (zI un)])), zQ cT ta 4 tq, (tp 0, .inr (4, [.ref (ti 0), .int (zI (LN 0)), .int (zI (HF 0))])), (tp 1, .inr (4, [.ref (ti 1), .int (zI (LN 1)), .int (zI (HF 1))])), (tp 2, .inr (4, [.ref (ti 2), .int (zI (LN 2)), .int (zI (HF 2))])), (tp 3, .inr (4, [.ref (ti 3), .int (zI (LN 3)), .int (zI (HF 3))]))] s.heap := hP
  have f_22 := hts (.fieldLink RX5 22 "SpringLevels" "run" "LSpringLevels$Run;") (by decide +kernel)
  have f_29 := hts (.fieldLink RX5 29 "SpringLevels" "trial" "LSpringLevels$Hero;") (by decide +kernel)
  have f_143 := hts (.fieldLink RX5 143 "SpringLevels$Hero" "x" "I") (by decide +kernel)
  have f_148 := hts (.fieldLink RX5 148 "SpringLevels$Run" "level" "LSpringLevels$Level;") (by decide +kernel)
  have f_164 := hts (.fieldLink RX5 164 "SpringLevels$Run" "tape" "LSpringLevels$Tape;") (by decide +kernel)
  have f_172 := hts (.fieldLink RX5 172 "SpringLevels$Tape" "length" "I") (by decide +kernel)
  have f_177 := hts (.fieldLink RX5 177 "SpringLevels$Hero" "y" "I") (by decide +kernel)
  have i_0 : ∀ w ∈ wsX00, w ∈ wsX5_ghost := by decide +kernel
  have i_2 : ∀ w ∈ wsX20, w ∈ wsX5_ghost := by decide +kernel
  have i_4 : ∀ w ∈ wsX40, w ∈ wsX5_ghost := by decide +kernel
  have i_5 : ∀ w ∈ wsX50, w ∈ wsX5_ghost := by decide +kernel
  have hl := lv_entry ([.ref sl]) (n := 3) (Nat.le_of_ble_eq_true rfl)
  rw [lg_entry_eq]
  generalize (lg_sl ([.ref sl]) ++ List.replicate (3 - (lg_sl ([.ref sl])).length) Slot.unset).toArray = ls at hl ⊢
  have hl : lv_has ls 3 [(0, .ref sl)] := hl
  refine lv_aload_n hx hb dX5_ghost_0 rfl (lv_at hl 0 rfl) ?_
  refine va_get (D := (dC, dI)) (ci := 5) (v := .ref ru) (C := RX5) (T := TX5) (N := 5) hx hb hts i_5 hown hK hP 0 rfl rfl 2 (by decide) f_22 (fun _ h9 => h9) rfl dX5_ghost_1 ?_
  refine va_get (D := (dC, dI)) (ci := 2) (v := .ref lv) (C := RX2) (T := TX2) (N := 5) hx hb hts i_2 hown hK hP 1 rfl rfl 2 (by decide) f_148 (fun _ h9 => h9) rfl dX5_ghost_4 ?_
  refine lv_astore_n (lv' := [(1, .ref lv), (0, .ref sl)]) hx hb dX5_ghost_7 rfl hl (by decide) rfl (fun ls hl => ?_)
  refine lv_aload_n hx hb dX5_ghost_8 rfl (lv_at hl 0 rfl) ?_
  refine lv_ifnonnull (tgt := 14) hx hb dX5_ghost_9 (by decide) ?_
  refine lv_aload_n hx hb dX5_ghost_14 rfl (lv_at hl 0 rfl) ?_
  refine lv_aload_n hx hb dX5_ghost_15 rfl (lv_at hl 0 rfl) ?_
  have hPc := hP.sub (ws' := [(lv, .inr (1, [.int (zI w), .int (zI h), .ref ka, .ref ta, .int (zI sx), .int (zI sy), .int (zI fx), .int (zI fy), .int (zI lf), .int (zI un)])), zQ cT ta 4 tq, (tp 0, .inr (4, [.ref (ti 0), .int (zI (LN 0)), .int (zI (HF 0))])), (tp 1, .inr (4, [.ref (ti 1), .int (zI (LN 1)), .int (zI (HF 1))])), (tp 2, .inr (4, [.ref (ti 2), .int (zI (LN 2)), .int (zI (HF 2))])), (tp 3, .inr (4, [.ref (ti 3), .int (zI (LN 3)), .int (zI (HF 3))]))]) [2, 3, 4, 5, 6, 7] rfl
  have hDc := hD.sub (ws' := [(lv, .inr (1, [.int (zI w), .int (zI h), .ref ka, .ref ta, .int (zI sx), .int (zI sy), .int (zI fx), .int (zI fy), .int (zI lf), .int (zI un)])), zQ cT ta 4 tq, (tp 0, .inr (4, [.ref (ti 0), .int (zI (LN 0)), .int (zI (HF 0))])), (tp 1, .inr (4, [.ref (ti 1), .int (zI (LN 1)), .int (zI (HF 1))])), (tp 2, .inr (4, [.ref (ti 2), .int (zI (LN 2)), .int (zI (HF 2))])), (tp 3, .inr (4, [.ref (ti 3), .int (zI (LN 3)), .int (zI (HF 3))]))]) [2, 3, 4, 5, 6, 7] (by decide) rfl
  have hFc := va_free (wc := [(lv, .inr (1, [.int (zI w), .int (zI h), .ref ka, .ref ta, .int (zI sx), .int (zI sy), .int (zI fx), .int (zI fy), .int (zI lf), .int (zI un)])), zQ cT ta 4 tq, (tp 0, .inr (4, [.ref (ti 0), .int (zI (LN 0)), .int (zI (HF 0))])), (tp 1, .inr (4, [.ref (ti 1), .int (zI (LN 1)), .int (zI (HF 1))])), (tp 2, .inr (4, [.ref (ti 2), .int (zI (LN 2)), .int (zI (HF 2))])), (tp 3, .inr (4, [.ref (ti 3), .int (zI (LN 3)), .int (zI (HF 3))]))]) hD hS hA [2, 3, 4, 5, 6, 7] rfl
  refine va_calli (va_runV (As := []) (rest := [.ref lv]) ⟨hx, hb, hml, hown, hts⟩ (c_X1_fastestPlayer l dC dI cI cZ cL cT cJ s.heap.size lv w h ka ta sx sy fx fy lf un tq tp ti LN HF (by first | assumption | omega) (by first | assumption | omega)) (cwV 0 hts gX5_ghost_X1_fastestPlayer rfl rfl rfl (by decide +kernel) ⟨Nat.le_of_ble_eq_true rfl, Nat.le_of_ble_eq_true rfl⟩) ⟨zP_blind, va_recv hK hPc (ci := 1) (q0 := 0) rfl rfl, zP_pre hPc hDc hK⟩ rfl rfl hl.1 rfl (lv_room (Nat.le_of_ble_eq_true rfl)) dX5_ghost_16 ⟨Nat.le_of_ble_eq_true rfl, Nat.le_of_ble_eq_true rfl⟩) hS (fun q _ h => hFc q h) hFc (fun r_1 u_1 t H1 locs ht hvm hw hB hz1 hk1 hS => ?_)
  obtain ⟨r_2, rfl⟩ : ∃ z, z = u_1 := ⟨_, rfl⟩
  obtain ⟨hP1, hK1, hD1⟩ := hB
  rw [ht] at hP1
  have hP1 : va_P (dC, dI) vwCl [(lv, .inr (1, [.int (zI w), .int (zI h), .ref ka, .ref ta, .int (zI sx), .int (zI sy), .int (zI fx), .int (zI fy), .int (zI lf), .int (zI un)])), zQ cT ta 4 tq, (tp 0, .inr (4, [.ref (ti 0), .int (zI (LN 0)), .int (zI (HF 0))])), (tp 1, .inr (4, [.ref (ti 1), .int (zI (LN 1)), .int (zI (HF 1))])), (tp 2, .inr (4, [.ref (ti 2), .int (zI (LN 2)), .int (zI (HF 2))])), (tp 3, .inr (4, [.ref (ti 3), .int (zI (LN 3)), .int (zI (HF 3))]))] H1 := hP1
  obtain ⟨hP, hD⟩ := va_join (wr := [(sl, .inr (5, [.ref sh, .int (zI lc), .ref ru, .ref tr, .ref se])), (ru, .inr (2, [.ref rh, .ref rt, .ref lv, .int (zI rp), .int (zI oc)]))]) (w1 := [(lv, .inr (1, [.int (zI w), .int (zI h), .ref ka, .ref ta, .int (zI sx), .int (zI sy), .int (zI fx), .int (zI fy), .int (zI lf), .int (zI un)])), zQ cT ta 4 tq, (tp 0, .inr (4, [.ref (ti 0), .int (zI (LN 0)), .int (zI (HF 0))])), (tp 1, .inr (4, [.ref (ti 1), .int (zI (LN 1)), .int (zI (HF 1))])), (tp 2, .inr (4, [.ref (ti 2), .int (zI (LN 2)), .int (zI (HF 2))])), (tp 3, .inr (4, [.ref (ti 3), .int (zI (LN 3)), .int (zI (HF 3))]))]) hP hD [2, 3, 4, 5, 6, 7] [0, 1] rfl rfl (by decide) (by decide) hk1 hFc hP1 hD1
  clear hP1 hD1 hk1 hFc hPc hDc hz1
  generalize H1 = H at hP hS ⊢
  have hP : va_P (dC, dI) vwCl [(sl, .inr (5, [.ref sh, .int (zI lc), .ref ru, .ref tr, .ref se])), (ru, .inr (2, [.ref rh, .ref rt, .ref lv, .int (zI rp), .int (zI oc)])), (lv, .inr (1, [.int (zI w), .int (zI h), .ref ka, .ref ta, .int (zI sx), .int (zI sy), .int (zI fx), .int (zI fy), .int (zI lf), .int (zI un)])), zQ cT ta 4 tq, (tp 0, .inr (4, [.ref (ti 0), .int (zI (LN 0)), .int (zI (HF 0))])), (tp 1, .inr (4, [.ref (ti 1), .int (zI (LN 1)), .int (zI (HF 1))])), (tp 2, .inr (4, [.ref (ti 2), .int (zI (LN 2)), .int (zI (HF 2))])), (tp 3, .inr (4, [.ref (ti 3), .int (zI (LN 3)), .int (zI (HF 3))]))] H := hP.sub [0, 1, 2, 3, 4, 5, 6, 7] rfl
  have hD : va_D A [(sl, .inr (5, [.ref sh, .int (zI lc), .ref ru, .ref tr, .ref se])), (ru, .inr (2, [.ref rh, .ref rt, .ref lv, .int (zI rp), .int (zI oc)])), (lv, .inr (1, [.int (zI w), .int (zI h), .ref ka, .ref ta, .int (zI sx), .int (zI sy), .int (zI fx), .int (zI fy), .int (zI lf), .int (zI un)])), zQ cT ta 4 tq, (tp 0, .inr (4, [.ref (ti 0), .int (zI (LN 0)), .int (zI (HF 0))])), (tp 1, .inr (4, [.ref (ti 1), .int (zI (LN 1)), .int (zI (HF 1))])), (tp 2, .inr (4, [.ref (ti 2), .int (zI (LN 2)), .int (zI (HF 2))])), (tp 3, .inr (4, [.ref (ti 3), .int (zI (LN 3)), .int (zI (HF 3))]))] := hD.sub [0, 1, 2, 3, 4, 5, 6, 7] (by decide) rfl
  clear hK1 hvm
  obtain ⟨rfl, po_3⟩ := hw
  have po_3 : r_2 = (bp4 LN).1 := po_3
  refine W.eq (g2 := F0 m 19 ls [.int (zI r_2), .ref lv]) rfl ?_
  have hPc := hP.sub (ws' := [(lv, .inr (1, [.int (zI w), .int (zI h), .ref ka, .ref ta, .int (zI sx), .int (zI sy), .int (zI fx), .int (zI fy), .int (zI lf), .int (zI un)])), zQ cT ta 4 tq]) [2, 3] rfl
  have hDc := hD.sub (ws' := [(lv, .inr (1, [.int (zI w), .int (zI h), .ref ka, .ref ta, .int (zI sx), .int (zI sy), .int (zI fx), .int (zI fy), .int (zI lf), .int (zI un)])), zQ cT ta 4 tq]) [2, 3] (by decide) rfl
  have hFc := va_free (wc := [(lv, .inr (1, [.int (zI w), .int (zI h), .ref ka, .ref ta, .int (zI sx), .int (zI sy), .int (zI fx), .int (zI fy), .int (zI lf), .int (zI un)])), zQ cT ta 4 tq]) hD hS hA [2, 3] rfl
  refine va_callq (va_runV (As := [.int (zI r_2)]) (rest := []) ⟨hx, hb, hml, hown, hts⟩ (c_X1_tapeOf_no l dC dI cI cZ cL cT cJ H.size lv w h ka ta sx sy fx fy lf un tq tp r_2 (by first | assumption | omega) (by first | assumption | omega)) (cwV 1 hts gX5_ghost_X1_tapeOf rfl rfl rfl (by decide +kernel) ⟨Nat.le_of_ble_eq_true rfl, Nat.le_of_ble_eq_true rfl⟩) ⟨zP_blind, va_recv hK hPc (ci := 1) (q0 := 0) rfl rfl, zP_pre hPc hDc hK⟩ rfl rfl hl.1 rfl (lv_room (Nat.le_of_ble_eq_true rfl)) dX5_ghost_19 ⟨Nat.le_of_ble_eq_true rfl, Nat.le_of_ble_eq_true rfl⟩) hS (fun q _ h => hFc q h) hFc (fun r_4 u_4 t H1 locs ht hvm hw hB hz1 hk1 hS => ?_)
  obtain ⟨hP1, hK1, hD1⟩ := hB
  rw [ht] at hP1
  have hP1 : va_P (dC, dI) vwCl [(lv, .inr (1, [.int (zI w), .int (zI h), .ref ka, .ref ta, .int (zI sx), .int (zI sy), .int (zI fx), .int (zI fy), .int (zI lf), .int (zI un)])), zQ cT ta 4 tq] H1 := hP1
  obtain ⟨hP, hD⟩ := va_join (wr := [(sl, .inr (5, [.ref sh, .int (zI lc), .ref ru, .ref tr, .ref se])), (ru, .inr (2, [.ref rh, .ref rt, .ref lv, .int (zI rp), .int (zI oc)])), (tp 0, .inr (4, [.ref (ti 0), .int (zI (LN 0)), .int (zI (HF 0))])), (tp 1, .inr (4, [.ref (ti 1), .int (zI (LN 1)), .int (zI (HF 1))])), (tp 2, .inr (4, [.ref (ti 2), .int (zI (LN 2)), .int (zI (HF 2))])), (tp 3, .inr (4, [.ref (ti 3), .int (zI (LN 3)), .int (zI (HF 3))]))]) (w1 := [(lv, .inr (1, [.int (zI w), .int (zI h), .ref ka, .ref ta, .int (zI sx), .int (zI sy), .int (zI fx), .int (zI fy), .int (zI lf), .int (zI un)])), zQ cT ta 4 tq]) hP hD [2, 3] [0, 1, 4, 5, 6, 7] rfl rfl (by decide) (by decide) hk1 hFc hP1 hD1
  clear hP1 hD1 hk1 hFc hPc hDc hz1
  generalize H1 = H at hP hS ⊢
  have hP : va_P (dC, dI) vwCl [(sl, .inr (5, [.ref sh, .int (zI lc), .ref ru, .ref tr, .ref se])), (ru, .inr (2, [.ref rh, .ref rt, .ref lv, .int (zI rp), .int (zI oc)])), (lv, .inr (1, [.int (zI w), .int (zI h), .ref ka, .ref ta, .int (zI sx), .int (zI sy), .int (zI fx), .int (zI fy), .int (zI lf), .int (zI un)])), zQ cT ta 4 tq, (tp 0, .inr (4, [.ref (ti 0), .int (zI (LN 0)), .int (zI (HF 0))])), (tp 1, .inr (4, [.ref (ti 1), .int (zI (LN 1)), .int (zI (HF 1))])), (tp 2, .inr (4, [.ref (ti 2), .int (zI (LN 2)), .int (zI (HF 2))])), (tp 3, .inr (4, [.ref (ti 3), .int (zI (LN 3)), .int (zI (HF 3))]))] H := hP.sub [0, 1, 6, 7, 2, 3, 4, 5] rfl
  have hD : va_D A [(sl, .inr (5, [.ref sh, .int (zI lc), .ref ru, .ref tr, .ref se])), (ru, .inr (2, [.ref rh, .ref rt, .ref lv, .int (zI rp), .int (zI oc)])), (lv, .inr (1, [.int (zI w), .int (zI h), .ref ka, .ref ta, .int (zI sx), .int (zI sy), .int (zI fx), .int (zI fy), .int (zI lf), .int (zI un)])), zQ cT ta 4 tq, (tp 0, .inr (4, [.ref (ti 0), .int (zI (LN 0)), .int (zI (HF 0))])), (tp 1, .inr (4, [.ref (ti 1), .int (zI (LN 1)), .int (zI (HF 1))])), (tp 2, .inr (4, [.ref (ti 2), .int (zI (LN 2)), .int (zI (HF 2))])), (tp 3, .inr (4, [.ref (ti 3), .int (zI (LN 3)), .int (zI (HF 3))]))] := hD.sub [0, 1, 6, 7, 2, 3, 4, 5] (by decide) rfl
  clear hK1 hvm
  obtain ⟨rfl, po_5⟩ := hw
  refine W.eq (g2 := F0 m 22 ls [.null]) rfl ?_
  refine lv_astore_nN (lv' := [(2, .null), (1, .ref lv), (0, .ref sl)]) hx hb dX5_ghost_22 rfl hl (by decide) rfl (fun ls hl => ?_)
  refine lv_aload_nN hx hb dX5_ghost_23 rfl (lv_at hl 0 rfl) ?_
  refine lv_ifnonnullN hx hb dX5_ghost_24 ?_
  refine lv_iconst (v := zI (-1)) hx hb dX5_ghost_27 (rfl) ?_
  have hP9 := hP.sub (ws' := [(sl, .inr (5, [.ref sh, .int (zI lc), .ref ru, .ref tr, .ref se])), (ru, .inr (2, [.ref rh, .ref rt, .ref lv, .int (zI rp), .int (zI oc)])), (lv, .inr (1, [.int (zI w), .int (zI h), .ref ka, .ref ta, .int (zI sx), .int (zI sy), .int (zI fx), .int (zI fy), .int (zI lf), .int (zI un)])), zQ cT ta 4 tq, (tp 0, .inr (4, [.ref (ti 0), .int (zI (LN 0)), .int (zI (HF 0))])), (tp 1, .inr (4, [.ref (ti 1), .int (zI (LN 1)), .int (zI (HF 1))])), (tp 2, .inr (4, [.ref (ti 2), .int (zI (LN 2)), .int (zI (HF 2))])), (tp 3, .inr (4, [.ref (ti 3), .int (zI (LN 3)), .int (zI (HF 3))]))]) [0, 1, 2, 3, 4, 5, 6, 7] rfl
  have hD9 := hD.sub (ws' := [(sl, .inr (5, [.ref sh, .int (zI lc), .ref ru, .ref tr, .ref se])), (ru, .inr (2, [.ref rh, .ref rt, .ref lv, .int (zI rp), .int (zI oc)])), (lv, .inr (1, [.int (zI w), .int (zI h), .ref ka, .ref ta, .int (zI sx), .int (zI sy), .int (zI fx), .int (zI fy), .int (zI lf), .int (zI un)])), zQ cT ta 4 tq, (tp 0, .inr (4, [.ref (ti 0), .int (zI (LN 0)), .int (zI (HF 0))])), (tp 1, .inr (4, [.ref (ti 1), .int (zI (LN 1)), .int (zI (HF 1))])), (tp 2, .inr (4, [.ref (ti 2), .int (zI (LN 2)), .int (zI (HF 2))])), (tp 3, .inr (4, [.ref (ti 3), .int (zI (LN 3)), .int (zI (HF 3))]))]) [0, 1, 2, 3, 4, 5, 6, 7] (by decide) rfl
  have po : zI (-1) = zI (-1) ∧ (True) := by
    refine ⟨by first | rfl | (congr 1; omega) | (congr 1; simp [*]), ?_⟩
    trivial
  exact W.iret (v := zI (-1)) hx hb hr (fun t ht hW => ⟨⟨zI (-1), (), rfl, po, by rw [ht]; exact hP9, va_K.moved hW.alike hK, hD9⟩, hS.F ht⟩) hS.2.2 dX5_ghost_28
set_option maxHeartbeats 4000000 in
set_option maxRecDepth 100000 in
theorem c_X5_ghost (l : Launch) (dC : Nat → ClassId) (dI : Nat → Nat → Nat) (cI cZ cL cT cJ : ClassId) (sz : Nat) (sl : Nat) (sh : Nat) (lc : Int) (ru : Nat) (tr : Nat) (se : Nat) (rh : Nat) (rt : Nat) (rp : Int) (oc : Int) (ri : Nat) (rln : Int) (rhf : Int) (tx : Int) (ty : Int) (tl : Int) (lv : Nat) (w : Int) (h : Int) (ka : Nat) (ta : Nat) (sx : Int) (sy : Int) (fx : Int) (fy : Int) (lf : Int) (un : Int) (K : Int → Int) (tq : Nat → Option Nat) (tp : Nat → Nat) (ti : Nat → Nat) (LN : Nat → Int) (HF : Nat → Int) (kp : Nat) (FI : Int → Int) (gw : 0 < w ∧ w ≤ 12) (gh : 0 < h ∧ h ≤ 8) (gK : Kin K) (gsx : 0 ≤ sx ∧ sx < w) (gsy : 0 ≤ sy ∧ sy < h) (gfx : 0 ≤ fx ∧ fx < w) (gfy : 0 ≤ fy ∧ fy < h) (gt : ∀ k, k < 4 → tq k = some (tp k)) (gL : ∀ k, k < 4 → -1 ≤ LN k ∧ LN k ≤ 100) (gb : (bp4 LN).1 = (kp : Int) ∧ kp < 4) (gr9 : 0 ≤ rln ∧ rln ≤ 100) (gn : 1 ≤ LN kp ∧ LN kp ≤ 100) (gFI : ∀ j, 0 ≤ j → j < LN kp → 0 ≤ FI j ∧ FI j ≤ 5) (gO : ∀ j : Nat, (j : Int) < LN kp - 1 → (smO K w h fx fy sx sy FI j) = 0) (gW : (smO K w h fx fy sx sy FI (LN kp - 1).toNat) = 2) : Met l yX5_ghost wsX5_ghost ({ frames := 4, cells := 0, slots := 0, locals := 93 }) (zP (dC, dI) (zT cI cZ cL cT cJ) sz [.ref sl] [(sl, .inr (5, [.ref sh, .int (zI lc), .ref ru, .ref tr, .ref se])), (ru, .inr (2, [.ref rh, .ref rt, .ref lv, .int (zI rp), .int (zI oc)])), (rt, .inr (4, [.ref ri, .int (zI rln), .int (zI rhf)])), (tr, .inr (0, [.int (zI tx), .int (zI ty), .int (zI tl)])), (lv, .inr (1, [.int (zI w), .int (zI h), .ref ka, .ref ta, .int (zI sx), .int (zI sy), .int (zI fx), .int (zI fy), .int (zI lf), .int (zI un)])), zA cI ka 96 K, zQ cT ta 4 tq, (tp 0, .inr (4, [.ref (ti 0), .int (zI (LN 0)), .int (zI (HF 0))])), (tp 1, .inr (4, [.ref (ti 1), .int (zI (LN 1)), .int (zI (HF 1))])), (tp 2, .inr (4, [.ref (ti 2), .int (zI (LN 2)), .int (zI (HF 2))])), (tp 3, .inr (4, [.ref (ti 3), .int (zI (LN 3)), .int (zI (HF 3))])), zA cI (ti kp) 100 FI]) (va_Qi (fun (r9 : Int32) (u9 : Int × Int × Int × Int) => match u9 with | (x1, y1, l1, rr) => r9 = zI rr ∧ (rr = 100 * (smS K w h sx sy FI (min rln (LN kp)).toNat).2.1 + (smS K w h sx sy FI (min rln (LN kp)).toNat).1)) (zB (dC, dI) (zT cI cZ cL cT cJ) (va_A [(sl, .inr (5, [.ref sh, .int (zI lc), .ref ru, .ref tr, .ref se])), (ru, .inr (2, [.ref rh, .ref rt, .ref lv, .int (zI rp), .int (zI oc)])), (rt, .inr (4, [.ref ri, .int (zI rln), .int (zI rhf)])), (tr, .inr (0, [.int (zI tx), .int (zI ty), .int (zI tl)])), (lv, .inr (1, [.int (zI w), .int (zI h), .ref ka, .ref ta, .int (zI sx), .int (zI sy), .int (zI fx), .int (zI fy), .int (zI lf), .int (zI un)])), zA cI ka 96 K, zQ cT ta 4 tq, (tp 0, .inr (4, [.ref (ti 0), .int (zI (LN 0)), .int (zI (HF 0))])), (tp 1, .inr (4, [.ref (ti 1), .int (zI (LN 1)), .int (zI (HF 1))])), (tp 2, .inr (4, [.ref (ti 2), .int (zI (LN 2)), .int (zI (HF 2))])), (tp 3, .inr (4, [.ref (ti 3), .int (zI (LN 3)), .int (zI (HF 3))])), zA cI (ti kp) 100 FI] sz) (fun (u9 : Int × Int × Int × Int) => match u9 with | (x1, y1, l1, rr) => [(sl, .inr (5, [.ref sh, .int (zI lc), .ref ru, .ref tr, .ref se])), (ru, .inr (2, [.ref rh, .ref rt, .ref lv, .int (zI rp), .int (zI oc)])), (rt, .inr (4, [.ref ri, .int (zI rln), .int (zI rhf)])), (tr, .inr (0, [.int (zI x1), .int (zI y1), .int (zI l1)])), (lv, .inr (1, [.int (zI w), .int (zI h), .ref ka, .ref ta, .int (zI sx), .int (zI sy), .int (zI fx), .int (zI fy), .int (zI lf), .int (zI un)])), zA cI ka 96 K, zQ cT ta 4 tq, (tp 0, .inr (4, [.ref (ti 0), .int (zI (LN 0)), .int (zI (HF 0))])), (tp 1, .inr (4, [.ref (ti 1), .int (zI (LN 1)), .int (zI (HF 1))])), (tp 2, .inr (4, [.ref (ti 2), .int (zI (LN 2)), .int (zI (HF 2))])), (tp 3, .inr (4, [.ref (ti 3), .int (zI (LN 3)), .int (zI (HF 3))])), zA cI (ti kp) 100 FI])) (va_A [(sl, .inr (5, [.ref sh, .int (zI lc), .ref ru, .ref tr, .ref se])), (ru, .inr (2, [.ref rh, .ref rt, .ref lv, .int (zI rp), .int (zI oc)])), (rt, .inr (4, [.ref ri, .int (zI rln), .int (zI rhf)])), (tr, .inr (0, [.int (zI tx), .int (zI ty), .int (zI tl)])), (lv, .inr (1, [.int (zI w), .int (zI h), .ref ka, .ref ta, .int (zI sx), .int (zI sy), .int (zI fx), .int (zI fy), .int (zI lf), .int (zI un)])), zA cI ka 96 K, zQ cT ta 4 tq, (tp 0, .inr (4, [.ref (ti 0), .int (zI (LN 0)), .int (zI (HF 0))])), (tp 1, .inr (4, [.ref (ti 1), .int (zI (LN 1)), .int (zI (HF 1))])), (tp 2, .inr (4, [.ref (ti 2), .int (zI (LN 2)), .int (zI (HF 2))])), (tp 3, .inr (4, [.ref (ti 3), .int (zI (LN 3)), .int (zI (HF 3))])), zA cI (ti kp) 100 FI] sz)) 0 0 (va_A [(sl, .inr (5, [.ref sh, .int (zI lc), .ref ru, .ref tr, .ref se])), (ru, .inr (2, [.ref rh, .ref rt, .ref lv, .int (zI rp), .int (zI oc)])), (rt, .inr (4, [.ref ri, .int (zI rln), .int (zI rhf)])), (tr, .inr (0, [.int (zI tx), .int (zI ty), .int (zI tl)])), (lv, .inr (1, [.int (zI w), .int (zI h), .ref ka, .ref ta, .int (zI sx), .int (zI sy), .int (zI fx), .int (zI fy), .int (zI lf), .int (zI un)])), zA cI ka 96 K, zQ cT ta 4 tq, (tp 0, .inr (4, [.ref (ti 0), .int (zI (LN 0)), .int (zI (HF 0))])), (tp 1, .inr (4, [.ref (ti 1), .int (zI (LN 1)), .int (zI (HF 1))])), (tp 2, .inr (4, [.ref (ti 2), .int (zI (LN 2)), .int (zI (HF 2))])), (tp 3, .inr (4, [.ref (ti 3), .int (zI (LN 3)), .int (zI (HF 3))])), zA cI (ti kp) 100 FI] sz) := by
  refine Met.ofW (cc := cX5_ghost) (maxL := 3) (ret := (some .int)) (by decide) rfl ?_
  intro p e s m args below meth c s₁ B hml hv
  obtain ⟨rfl, hsz, hP, hK, hD0⟩ := hv
  have hx := B.exec
  have hb := B.bytes
  have hr := B.returns
  have hts := atoms_spec (ws := wsX5_ghost) B.pre
  have hown : s.vm.findClass RX5 = some m.cls := findClass_of_methodNamed B.named
  have hlocks := B.notSynchronized
  subst hsz
  have hD := hD0.self (sz := s.heap.size)
  generalize hAe : va_A [(sl, .inr (5, [.ref sh, .int (zI lc), .ref ru, .ref tr, .ref se])), (ru, .inr (2, [.ref rh, .ref rt, .ref lv, .int (zI rp), .int (zI oc)])), (rt, .inr (4, [.ref ri, .int (zI rln), .int (zI rhf)])), (tr, .inr (0, [.int (zI tx), .int (zI ty), .int (zI tl)])), (lv, .inr (1, [.int (zI w), .int (zI h), .ref ka, .ref ta, .int (zI sx), .int (zI sy), .int (zI fx), .int (zI fy), .int (zI lf), .int (zI un)])), zA cI ka 96 K, zQ cT ta 4 tq, (tp 0, .inr (4, [.ref (ti 0), .int (zI (LN 0)), .int (zI (HF 0))])), (tp 1, .inr (4, [.ref (ti 1), .int (zI (LN 1)), .int (zI (HF 1))])), (tp 2, .inr (4, [.ref (ti 2), .int (zI (LN 2)), .int (zI (HF 2))])), (tp 3, .inr (4, [.ref (ti 3), .int (zI (LN 3)), .int (zI (HF 3))])), zA cI (ti kp) 100 FI] s.heap.size = A at hD ⊢
  have hA : ∀ q : Nat, s.heap.size ≤ q → A q := fun q h => by rw [← hAe]; exact Or.inr h
  clear hAe hD0
  have hS : va_S A s.heap s.heap [] := va_S.rf
  have hP : va_P (dC, dI) vwCl [(sl, .inr (5, [.ref sh, .int (zI lc), .ref ru, .ref tr, .ref se])), (ru, .inr (2, [.ref rh, .ref rt, .ref lv, .int (zI rp), .int (zI oc)])), (rt, .inr (4, [.ref ri, .int (zI rln), .int (zI rhf)])), (tr, .inr (0, [.int (zI tx), .int (zI ty), .int (zI tl)])), (lv, .inr (1, [.int (zI w), .int (zI h), .ref ka, .ref ta, .int (zI sx), .int (zI sy), .int (zI fx), .int (zI fy), .int (zI lf), .int (zI un)])), zA cI ka 96 K, zQ cT ta 4 tq, (tp 0, .inr (4, [.ref (ti 0), .int (zI (LN 0)), .int (zI (HF 0))])), (tp 1, .inr (4, [.ref (ti 1), .int (zI (LN 1)), .int (zI (HF 1))])), (tp 2, .inr (4, [.ref (ti 2), .int (zI (LN 2)), .int (zI (HF 2))])), (tp 3, .inr (4, [.ref (ti 3), .int (zI (LN 3)), .int (zI (HF 3))])), zA cI (ti kp) 100 FI] s.heap := hP
  have f_22 := hts (.fieldLink RX5 22 "SpringLevels" "run" "LSpringLevels$Run;") (by decide +kernel)
  have f_29 := hts (.fieldLink RX5 29 "SpringLevels" "trial" "LSpringLevels$Hero;") (by decide +kernel)
  have f_143 := hts (.fieldLink RX5 143 "SpringLevels$Hero" "x" "I") (by decide +kernel)
  have f_148 := hts (.fieldLink RX5 148 "SpringLevels$Run" "level" "LSpringLevels$Level;") (by decide +kernel)
  have f_164 := hts (.fieldLink RX5 164 "SpringLevels$Run" "tape" "LSpringLevels$Tape;") (by decide +kernel)
  have f_172 := hts (.fieldLink RX5 172 "SpringLevels$Tape" "length" "I") (by decide +kernel)
  have f_177 := hts (.fieldLink RX5 177 "SpringLevels$Hero" "y" "I") (by decide +kernel)
  have i_0 : ∀ w ∈ wsX00, w ∈ wsX5_ghost := by decide +kernel
  have i_2 : ∀ w ∈ wsX20, w ∈ wsX5_ghost := by decide +kernel
  have i_4 : ∀ w ∈ wsX40, w ∈ wsX5_ghost := by decide +kernel
  have i_5 : ∀ w ∈ wsX50, w ∈ wsX5_ghost := by decide +kernel
  have hl := lv_entry ([.ref sl]) (n := 3) (Nat.le_of_ble_eq_true rfl)
  rw [lg_entry_eq]
  generalize (lg_sl ([.ref sl]) ++ List.replicate (3 - (lg_sl ([.ref sl])).length) Slot.unset).toArray = ls at hl ⊢
  have hl : lv_has ls 3 [(0, .ref sl)] := hl
  refine lv_aload_n hx hb dX5_ghost_0 rfl (lv_at hl 0 rfl) ?_
  refine va_get (D := (dC, dI)) (ci := 5) (v := .ref ru) (C := RX5) (T := TX5) (N := 5) hx hb hts i_5 hown hK hP 0 rfl rfl 2 (by decide) f_22 (fun _ h9 => h9) rfl dX5_ghost_1 ?_
  refine va_get (D := (dC, dI)) (ci := 2) (v := .ref lv) (C := RX2) (T := TX2) (N := 5) hx hb hts i_2 hown hK hP 1 rfl rfl 2 (by decide) f_148 (fun _ h9 => h9) rfl dX5_ghost_4 ?_
  refine lv_astore_n (lv' := [(1, .ref lv), (0, .ref sl)]) hx hb dX5_ghost_7 rfl hl (by decide) rfl (fun ls hl => ?_)
  refine lv_aload_n hx hb dX5_ghost_8 rfl (lv_at hl 0 rfl) ?_
  refine lv_ifnonnull (tgt := 14) hx hb dX5_ghost_9 (by decide) ?_
  rcases (show kp = 0 ∨ kp = 1 ∨ kp = 2 ∨ kp = 3 by omega) with e9 | e9 | e9 | e9
  · subst e9
    refine lv_aload_n hx hb dX5_ghost_14 rfl (lv_at hl 0 rfl) ?_
    refine lv_aload_n hx hb dX5_ghost_15 rfl (lv_at hl 0 rfl) ?_
    have hPc := hP.sub (ws' := [(lv, .inr (1, [.int (zI w), .int (zI h), .ref ka, .ref ta, .int (zI sx), .int (zI sy), .int (zI fx), .int (zI fy), .int (zI lf), .int (zI un)])), zQ cT ta 4 tq, (tp 0, .inr (4, [.ref (ti 0), .int (zI (LN 0)), .int (zI (HF 0))])), (tp 1, .inr (4, [.ref (ti 1), .int (zI (LN 1)), .int (zI (HF 1))])), (tp 2, .inr (4, [.ref (ti 2), .int (zI (LN 2)), .int (zI (HF 2))])), (tp 3, .inr (4, [.ref (ti 3), .int (zI (LN 3)), .int (zI (HF 3))]))]) [4, 6, 7, 8, 9, 10] rfl
    have hDc := hD.sub (ws' := [(lv, .inr (1, [.int (zI w), .int (zI h), .ref ka, .ref ta, .int (zI sx), .int (zI sy), .int (zI fx), .int (zI fy), .int (zI lf), .int (zI un)])), zQ cT ta 4 tq, (tp 0, .inr (4, [.ref (ti 0), .int (zI (LN 0)), .int (zI (HF 0))])), (tp 1, .inr (4, [.ref (ti 1), .int (zI (LN 1)), .int (zI (HF 1))])), (tp 2, .inr (4, [.ref (ti 2), .int (zI (LN 2)), .int (zI (HF 2))])), (tp 3, .inr (4, [.ref (ti 3), .int (zI (LN 3)), .int (zI (HF 3))]))]) [4, 6, 7, 8, 9, 10] (by decide) rfl
    have hFc := va_free (wc := [(lv, .inr (1, [.int (zI w), .int (zI h), .ref ka, .ref ta, .int (zI sx), .int (zI sy), .int (zI fx), .int (zI fy), .int (zI lf), .int (zI un)])), zQ cT ta 4 tq, (tp 0, .inr (4, [.ref (ti 0), .int (zI (LN 0)), .int (zI (HF 0))])), (tp 1, .inr (4, [.ref (ti 1), .int (zI (LN 1)), .int (zI (HF 1))])), (tp 2, .inr (4, [.ref (ti 2), .int (zI (LN 2)), .int (zI (HF 2))])), (tp 3, .inr (4, [.ref (ti 3), .int (zI (LN 3)), .int (zI (HF 3))]))]) hD hS hA [4, 6, 7, 8, 9, 10] rfl
    refine va_calli (va_runV (As := []) (rest := [.ref lv]) ⟨hx, hb, hml, hown, hts⟩ (c_X1_fastestPlayer l dC dI cI cZ cL cT cJ s.heap.size lv w h ka ta sx sy fx fy lf un tq tp ti LN HF (by first | assumption | omega) (by first | assumption | omega)) (cwV 0 hts gX5_ghost_X1_fastestPlayer rfl rfl rfl (by decide +kernel) ⟨Nat.le_of_ble_eq_true rfl, Nat.le_of_ble_eq_true rfl⟩) ⟨zP_blind, va_recv hK hPc (ci := 1) (q0 := 0) rfl rfl, zP_pre hPc hDc hK⟩ rfl rfl hl.1 rfl (lv_room (Nat.le_of_ble_eq_true rfl)) dX5_ghost_16 ⟨Nat.le_of_ble_eq_true rfl, Nat.le_of_ble_eq_true rfl⟩) hS (fun q _ h => hFc q h) hFc (fun r_1 u_1 t H1 locs ht hvm hw hB hz1 hk1 hS => ?_)
    obtain ⟨r_2, rfl⟩ : ∃ z, z = u_1 := ⟨_, rfl⟩
    obtain ⟨hP1, hK1, hD1⟩ := hB
    rw [ht] at hP1
    have hP1 : va_P (dC, dI) vwCl [(lv, .inr (1, [.int (zI w), .int (zI h), .ref ka, .ref ta, .int (zI sx), .int (zI sy), .int (zI fx), .int (zI fy), .int (zI lf), .int (zI un)])), zQ cT ta 4 tq, (tp 0, .inr (4, [.ref (ti 0), .int (zI (LN 0)), .int (zI (HF 0))])), (tp 1, .inr (4, [.ref (ti 1), .int (zI (LN 1)), .int (zI (HF 1))])), (tp 2, .inr (4, [.ref (ti 2), .int (zI (LN 2)), .int (zI (HF 2))])), (tp 3, .inr (4, [.ref (ti 3), .int (zI (LN 3)), .int (zI (HF 3))]))] H1 := hP1
    obtain ⟨hP, hD⟩ := va_join (wr := [(sl, .inr (5, [.ref sh, .int (zI lc), .ref ru, .ref tr, .ref se])), (ru, .inr (2, [.ref rh, .ref rt, .ref lv, .int (zI rp), .int (zI oc)])), (rt, .inr (4, [.ref ri, .int (zI rln), .int (zI rhf)])), (tr, .inr (0, [.int (zI tx), .int (zI ty), .int (zI tl)])), zA cI ka 96 K, zA cI (ti 0) 100 FI]) (w1 := [(lv, .inr (1, [.int (zI w), .int (zI h), .ref ka, .ref ta, .int (zI sx), .int (zI sy), .int (zI fx), .int (zI fy), .int (zI lf), .int (zI un)])), zQ cT ta 4 tq, (tp 0, .inr (4, [.ref (ti 0), .int (zI (LN 0)), .int (zI (HF 0))])), (tp 1, .inr (4, [.ref (ti 1), .int (zI (LN 1)), .int (zI (HF 1))])), (tp 2, .inr (4, [.ref (ti 2), .int (zI (LN 2)), .int (zI (HF 2))])), (tp 3, .inr (4, [.ref (ti 3), .int (zI (LN 3)), .int (zI (HF 3))]))]) hP hD [4, 6, 7, 8, 9, 10] [0, 1, 2, 3, 5, 11] rfl rfl (by decide) (by decide) hk1 hFc hP1 hD1
    clear hP1 hD1 hk1 hFc hPc hDc hz1
    generalize H1 = H at hP hS ⊢
    have hP : va_P (dC, dI) vwCl [(sl, .inr (5, [.ref sh, .int (zI lc), .ref ru, .ref tr, .ref se])), (ru, .inr (2, [.ref rh, .ref rt, .ref lv, .int (zI rp), .int (zI oc)])), (rt, .inr (4, [.ref ri, .int (zI rln), .int (zI rhf)])), (tr, .inr (0, [.int (zI tx), .int (zI ty), .int (zI tl)])), (lv, .inr (1, [.int (zI w), .int (zI h), .ref ka, .ref ta, .int (zI sx), .int (zI sy), .int (zI fx), .int (zI fy), .int (zI lf), .int (zI un)])), zA cI ka 96 K, zQ cT ta 4 tq, (tp 0, .inr (4, [.ref (ti 0), .int (zI (LN 0)), .int (zI (HF 0))])), (tp 1, .inr (4, [.ref (ti 1), .int (zI (LN 1)), .int (zI (HF 1))])), (tp 2, .inr (4, [.ref (ti 2), .int (zI (LN 2)), .int (zI (HF 2))])), (tp 3, .inr (4, [.ref (ti 3), .int (zI (LN 3)), .int (zI (HF 3))])), zA cI (ti 0) 100 FI] H := hP.sub [0, 1, 2, 3, 6, 4, 7, 8, 9, 10, 11, 5] rfl
    have hD : va_D A [(sl, .inr (5, [.ref sh, .int (zI lc), .ref ru, .ref tr, .ref se])), (ru, .inr (2, [.ref rh, .ref rt, .ref lv, .int (zI rp), .int (zI oc)])), (rt, .inr (4, [.ref ri, .int (zI rln), .int (zI rhf)])), (tr, .inr (0, [.int (zI tx), .int (zI ty), .int (zI tl)])), (lv, .inr (1, [.int (zI w), .int (zI h), .ref ka, .ref ta, .int (zI sx), .int (zI sy), .int (zI fx), .int (zI fy), .int (zI lf), .int (zI un)])), zA cI ka 96 K, zQ cT ta 4 tq, (tp 0, .inr (4, [.ref (ti 0), .int (zI (LN 0)), .int (zI (HF 0))])), (tp 1, .inr (4, [.ref (ti 1), .int (zI (LN 1)), .int (zI (HF 1))])), (tp 2, .inr (4, [.ref (ti 2), .int (zI (LN 2)), .int (zI (HF 2))])), (tp 3, .inr (4, [.ref (ti 3), .int (zI (LN 3)), .int (zI (HF 3))])), zA cI (ti 0) 100 FI] := hD.sub [0, 1, 2, 3, 6, 4, 7, 8, 9, 10, 11, 5] (by decide) rfl
    clear hK1 hvm
    obtain ⟨rfl, po_3⟩ := hw
    have po_3 : r_2 = (bp4 LN).1 := po_3
    refine W.eq (g2 := F0 m 19 ls [.int (zI r_2), .ref lv]) rfl ?_
    have hPc := hP.sub (ws' := [(lv, .inr (1, [.int (zI w), .int (zI h), .ref ka, .ref ta, .int (zI sx), .int (zI sy), .int (zI fx), .int (zI fy), .int (zI lf), .int (zI un)])), zQ cT ta 4 tq]) [4, 6] rfl
    have hDc := hD.sub (ws' := [(lv, .inr (1, [.int (zI w), .int (zI h), .ref ka, .ref ta, .int (zI sx), .int (zI sy), .int (zI fx), .int (zI fy), .int (zI lf), .int (zI un)])), zQ cT ta 4 tq]) [4, 6] (by decide) rfl
    have hFc := va_free (wc := [(lv, .inr (1, [.int (zI w), .int (zI h), .ref ka, .ref ta, .int (zI sx), .int (zI sy), .int (zI fx), .int (zI fy), .int (zI lf), .int (zI un)])), zQ cT ta 4 tq]) hD hS hA [4, 6] rfl
    refine va_callq (va_runV (As := [.int (zI r_2)]) (rest := []) ⟨hx, hb, hml, hown, hts⟩ (c_X1_tapeOf l dC dI cI cZ cL cT cJ H.size lv w h ka ta sx sy fx fy lf un tq tp r_2 0 (by first | assumption | omega) (by first | assumption | omega)) (cwV 1 hts gX5_ghost_X1_tapeOf rfl rfl rfl (by decide +kernel) ⟨Nat.le_of_ble_eq_true rfl, Nat.le_of_ble_eq_true rfl⟩) ⟨zP_blind, va_recv hK hPc (ci := 1) (q0 := 0) rfl rfl, zP_pre hPc hDc hK⟩ rfl rfl hl.1 rfl (lv_room (Nat.le_of_ble_eq_true rfl)) dX5_ghost_19 ⟨Nat.le_of_ble_eq_true rfl, Nat.le_of_ble_eq_true rfl⟩) hS (fun q _ h => hFc q h) hFc (fun r_4 u_4 t H1 locs ht hvm hw hB hz1 hk1 hS => ?_)
    obtain ⟨hP1, hK1, hD1⟩ := hB
    rw [ht] at hP1
    have hP1 : va_P (dC, dI) vwCl [(lv, .inr (1, [.int (zI w), .int (zI h), .ref ka, .ref ta, .int (zI sx), .int (zI sy), .int (zI fx), .int (zI fy), .int (zI lf), .int (zI un)])), zQ cT ta 4 tq] H1 := hP1
    obtain ⟨hP, hD⟩ := va_join (wr := [(sl, .inr (5, [.ref sh, .int (zI lc), .ref ru, .ref tr, .ref se])), (ru, .inr (2, [.ref rh, .ref rt, .ref lv, .int (zI rp), .int (zI oc)])), (rt, .inr (4, [.ref ri, .int (zI rln), .int (zI rhf)])), (tr, .inr (0, [.int (zI tx), .int (zI ty), .int (zI tl)])), zA cI ka 96 K, (tp 0, .inr (4, [.ref (ti 0), .int (zI (LN 0)), .int (zI (HF 0))])), (tp 1, .inr (4, [.ref (ti 1), .int (zI (LN 1)), .int (zI (HF 1))])), (tp 2, .inr (4, [.ref (ti 2), .int (zI (LN 2)), .int (zI (HF 2))])), (tp 3, .inr (4, [.ref (ti 3), .int (zI (LN 3)), .int (zI (HF 3))])), zA cI (ti 0) 100 FI]) (w1 := [(lv, .inr (1, [.int (zI w), .int (zI h), .ref ka, .ref ta, .int (zI sx), .int (zI sy), .int (zI fx), .int (zI fy), .int (zI lf), .int (zI un)])), zQ cT ta 4 tq]) hP hD [4, 6] [0, 1, 2, 3, 5, 7, 8, 9, 10, 11] rfl rfl (by decide) (by decide) hk1 hFc hP1 hD1
    clear hP1 hD1 hk1 hFc hPc hDc hz1
    generalize H1 = H at hP hS ⊢
    have hP : va_P (dC, dI) vwCl [(sl, .inr (5, [.ref sh, .int (zI lc), .ref ru, .ref tr, .ref se])), (ru, .inr (2, [.ref rh, .ref rt, .ref lv, .int (zI rp), .int (zI oc)])), (rt, .inr (4, [.ref ri, .int (zI rln), .int (zI rhf)])), (tr, .inr (0, [.int (zI tx), .int (zI ty), .int (zI tl)])), (lv, .inr (1, [.int (zI w), .int (zI h), .ref ka, .ref ta, .int (zI sx), .int (zI sy), .int (zI fx), .int (zI fy), .int (zI lf), .int (zI un)])), zA cI ka 96 K, zQ cT ta 4 tq, (tp 0, .inr (4, [.ref (ti 0), .int (zI (LN 0)), .int (zI (HF 0))])), (tp 1, .inr (4, [.ref (ti 1), .int (zI (LN 1)), .int (zI (HF 1))])), (tp 2, .inr (4, [.ref (ti 2), .int (zI (LN 2)), .int (zI (HF 2))])), (tp 3, .inr (4, [.ref (ti 3), .int (zI (LN 3)), .int (zI (HF 3))])), zA cI (ti 0) 100 FI] H := hP.sub [0, 1, 2, 3, 10, 4, 11, 5, 6, 7, 8, 9] rfl
    have hD : va_D A [(sl, .inr (5, [.ref sh, .int (zI lc), .ref ru, .ref tr, .ref se])), (ru, .inr (2, [.ref rh, .ref rt, .ref lv, .int (zI rp), .int (zI oc)])), (rt, .inr (4, [.ref ri, .int (zI rln), .int (zI rhf)])), (tr, .inr (0, [.int (zI tx), .int (zI ty), .int (zI tl)])), (lv, .inr (1, [.int (zI w), .int (zI h), .ref ka, .ref ta, .int (zI sx), .int (zI sy), .int (zI fx), .int (zI fy), .int (zI lf), .int (zI un)])), zA cI ka 96 K, zQ cT ta 4 tq, (tp 0, .inr (4, [.ref (ti 0), .int (zI (LN 0)), .int (zI (HF 0))])), (tp 1, .inr (4, [.ref (ti 1), .int (zI (LN 1)), .int (zI (HF 1))])), (tp 2, .inr (4, [.ref (ti 2), .int (zI (LN 2)), .int (zI (HF 2))])), (tp 3, .inr (4, [.ref (ti 3), .int (zI (LN 3)), .int (zI (HF 3))])), zA cI (ti 0) 100 FI] := hD.sub [0, 1, 2, 3, 10, 4, 11, 5, 6, 7, 8, 9] (by decide) rfl
    clear hK1 hvm
    obtain ⟨rfl, po_5⟩ := hw
    refine W.eq (g2 := F0 m 22 ls [.ref (tp 0)]) rfl ?_
    refine lv_astore_n (lv' := [(2, .ref (tp 0)), (1, .ref lv), (0, .ref sl)]) hx hb dX5_ghost_22 rfl hl (by decide) rfl (fun ls hl => ?_)
    refine lv_aload_n hx hb dX5_ghost_23 rfl (lv_at hl 0 rfl) ?_
    refine lv_ifnonnull (tgt := 29) hx hb dX5_ghost_24 (by decide) ?_
    refine lv_aload_n hx hb dX5_ghost_29 rfl (lv_at hl 2 rfl) ?_
    refine lv_aload_n hx hb dX5_ghost_30 rfl (lv_at hl 1 rfl) ?_
    refine lv_aload_n hx hb dX5_ghost_31 rfl (lv_at hl 0 rfl) ?_
    refine lv_aload_n hx hb dX5_ghost_32 rfl (lv_at hl 2 rfl) ?_
    refine va_get (D := (dC, dI)) (ci := 5) (v := .ref ru) (C := RX5) (T := TX5) (N := 5) hx hb hts i_5 hown hK hP 0 rfl rfl 2 (by decide) f_22 (fun _ h9 => h9) rfl dX5_ghost_33 ?_
    refine va_get (D := (dC, dI)) (ci := 2) (v := .ref rt) (C := RX2) (T := TX2) (N := 5) hx hb hts i_2 hown hK hP 1 rfl rfl 1 (by decide) f_164 (fun _ h9 => h9) rfl dX5_ghost_36 ?_
    refine va_get (D := (dC, dI)) (ci := 4) (v := .int (zI rln)) (C := RX4) (T := TX4) (N := 3) hx hb hts i_4 hown hK hP 2 rfl rfl 1 (by decide) f_172 (fun _ h9 => h9) rfl dX5_ghost_39 ?_
    have hPc := hP.sub (ws' := [(sl, .inr (5, [.ref sh, .int (zI lc), .ref ru, .ref tr, .ref se])), (tr, .inr (0, [.int (zI tx), .int (zI ty), .int (zI tl)])), (lv, .inr (1, [.int (zI w), .int (zI h), .ref ka, .ref ta, .int (zI sx), .int (zI sy), .int (zI fx), .int (zI fy), .int (zI lf), .int (zI un)])), zA cI ka 96 K, (tp 0, .inr (4, [.ref (ti 0), .int (zI (LN 0)), .int (zI (HF 0))])), zA cI (ti 0) 100 FI]) [0, 3, 4, 5, 7, 11] rfl
    have hDc := hD.sub (ws' := [(sl, .inr (5, [.ref sh, .int (zI lc), .ref ru, .ref tr, .ref se])), (tr, .inr (0, [.int (zI tx), .int (zI ty), .int (zI tl)])), (lv, .inr (1, [.int (zI w), .int (zI h), .ref ka, .ref ta, .int (zI sx), .int (zI sy), .int (zI fx), .int (zI fy), .int (zI lf), .int (zI un)])), zA cI ka 96 K, (tp 0, .inr (4, [.ref (ti 0), .int (zI (LN 0)), .int (zI (HF 0))])), zA cI (ti 0) 100 FI]) [0, 3, 4, 5, 7, 11] (by decide) rfl
    have hFc := va_free (wc := [(sl, .inr (5, [.ref sh, .int (zI lc), .ref ru, .ref tr, .ref se])), (tr, .inr (0, [.int (zI tx), .int (zI ty), .int (zI tl)])), (lv, .inr (1, [.int (zI w), .int (zI h), .ref ka, .ref ta, .int (zI sx), .int (zI sy), .int (zI fx), .int (zI fy), .int (zI lf), .int (zI un)])), zA cI ka 96 K, (tp 0, .inr (4, [.ref (ti 0), .int (zI (LN 0)), .int (zI (HF 0))])), zA cI (ti 0) 100 FI]) hD hS hA [0, 3, 4, 5, 7, 11] rfl
    refine va_calli (va_runV (As := [.ref lv, .ref (tp 0), .int (zI rln)]) (rest := []) ⟨hx, hb, hml, hown, hts⟩ (c_X5_follow l dC dI cI cZ cL cT cJ H.size sl sh lc ru tr se tx ty tl lv w h ka ta sx sy fx fy lf un K (tp 0) (ti 0) (LN 0) (HF 0) FI rln (by first | assumption | omega) (by first | assumption | omega) (by first | assumption | omega) (by first | assumption | omega) (by first | assumption | omega) (by first | assumption | omega) (by first | assumption | omega) (by first | assumption | omega) (by first | assumption | omega) (by first | assumption | omega) (by first | assumption | omega) (by first | assumption | omega)) (cwV 3 hts gX5_ghost_X5_follow rfl rfl rfl (by decide +kernel) ⟨Nat.le_of_ble_eq_true rfl, Nat.le_of_ble_eq_true rfl⟩) ⟨zP_blind, va_recv hK hPc (ci := 5) (q0 := 0) rfl rfl, zP_pre hPc hDc hK⟩ rfl rfl hl.1 rfl (lv_room (Nat.le_of_ble_eq_true rfl)) dX5_ghost_42 ⟨Nat.le_of_ble_eq_true rfl, Nat.le_of_ble_eq_true rfl⟩) hS (fun q _ h => hFc q h) hFc (fun r_6 u_6 t H1 locs ht hvm hw hB hz1 hk1 hS => ?_)
    obtain ⟨x1_7, y1_8, l1_9, rr_10⟩ := u_6
    obtain ⟨hP1, hK1, hD1⟩ := hB
    rw [ht] at hP1
    have hP1 : va_P (dC, dI) vwCl [(sl, .inr (5, [.ref sh, .int (zI lc), .ref ru, .ref tr, .ref se])), (tr, .inr (0, [.int (zI x1_7), .int (zI y1_8), .int (zI l1_9)])), (lv, .inr (1, [.int (zI w), .int (zI h), .ref ka, .ref ta, .int (zI sx), .int (zI sy), .int (zI fx), .int (zI fy), .int (zI lf), .int (zI un)])), zA cI ka 96 K, (tp 0, .inr (4, [.ref (ti 0), .int (zI (LN 0)), .int (zI (HF 0))])), zA cI (ti 0) 100 FI] H1 := hP1
    obtain ⟨hP, hD⟩ := va_join (wr := [(ru, .inr (2, [.ref rh, .ref rt, .ref lv, .int (zI rp), .int (zI oc)])), (rt, .inr (4, [.ref ri, .int (zI rln), .int (zI rhf)])), zQ cT ta 4 tq, (tp 1, .inr (4, [.ref (ti 1), .int (zI (LN 1)), .int (zI (HF 1))])), (tp 2, .inr (4, [.ref (ti 2), .int (zI (LN 2)), .int (zI (HF 2))])), (tp 3, .inr (4, [.ref (ti 3), .int (zI (LN 3)), .int (zI (HF 3))]))]) (w1 := [(sl, .inr (5, [.ref sh, .int (zI lc), .ref ru, .ref tr, .ref se])), (tr, .inr (0, [.int (zI x1_7), .int (zI y1_8), .int (zI l1_9)])), (lv, .inr (1, [.int (zI w), .int (zI h), .ref ka, .ref ta, .int (zI sx), .int (zI sy), .int (zI fx), .int (zI fy), .int (zI lf), .int (zI un)])), zA cI ka 96 K, (tp 0, .inr (4, [.ref (ti 0), .int (zI (LN 0)), .int (zI (HF 0))])), zA cI (ti 0) 100 FI]) hP hD [0, 3, 4, 5, 7, 11] [1, 2, 6, 8, 9, 10] rfl rfl (by decide) (by decide) hk1 hFc hP1 hD1
    clear hP1 hD1 hk1 hFc hPc hDc hz1
    generalize H1 = H at hP hS ⊢
    have hP : va_P (dC, dI) vwCl [(sl, .inr (5, [.ref sh, .int (zI lc), .ref ru, .ref tr, .ref se])), (ru, .inr (2, [.ref rh, .ref rt, .ref lv, .int (zI rp), .int (zI oc)])), (rt, .inr (4, [.ref ri, .int (zI rln), .int (zI rhf)])), (tr, .inr (0, [.int (zI x1_7), .int (zI y1_8), .int (zI l1_9)])), (lv, .inr (1, [.int (zI w), .int (zI h), .ref ka, .ref ta, .int (zI sx), .int (zI sy), .int (zI fx), .int (zI fy), .int (zI lf), .int (zI un)])), zA cI ka 96 K, zQ cT ta 4 tq, (tp 0, .inr (4, [.ref (ti 0), .int (zI (LN 0)), .int (zI (HF 0))])), (tp 1, .inr (4, [.ref (ti 1), .int (zI (LN 1)), .int (zI (HF 1))])), (tp 2, .inr (4, [.ref (ti 2), .int (zI (LN 2)), .int (zI (HF 2))])), (tp 3, .inr (4, [.ref (ti 3), .int (zI (LN 3)), .int (zI (HF 3))])), zA cI (ti 0) 100 FI] H := hP.sub [6, 0, 1, 7, 8, 9, 2, 10, 3, 4, 5, 11] rfl
    have hD : va_D A [(sl, .inr (5, [.ref sh, .int (zI lc), .ref ru, .ref tr, .ref se])), (ru, .inr (2, [.ref rh, .ref rt, .ref lv, .int (zI rp), .int (zI oc)])), (rt, .inr (4, [.ref ri, .int (zI rln), .int (zI rhf)])), (tr, .inr (0, [.int (zI x1_7), .int (zI y1_8), .int (zI l1_9)])), (lv, .inr (1, [.int (zI w), .int (zI h), .ref ka, .ref ta, .int (zI sx), .int (zI sy), .int (zI fx), .int (zI fy), .int (zI lf), .int (zI un)])), zA cI ka 96 K, zQ cT ta 4 tq, (tp 0, .inr (4, [.ref (ti 0), .int (zI (LN 0)), .int (zI (HF 0))])), (tp 1, .inr (4, [.ref (ti 1), .int (zI (LN 1)), .int (zI (HF 1))])), (tp 2, .inr (4, [.ref (ti 2), .int (zI (LN 2)), .int (zI (HF 2))])), (tp 3, .inr (4, [.ref (ti 3), .int (zI (LN 3)), .int (zI (HF 3))])), zA cI (ti 0) 100 FI] := hD.sub [6, 0, 1, 7, 8, 9, 2, 10, 3, 4, 5, 11] (by decide) rfl
    clear hK1 hvm
    obtain ⟨rfl, po_11⟩ := hw
    have po_11 : (x1_7, y1_8, l1_9) = (smS K w h sx sy FI (min rln (LN 0)).toNat) ∧ rr_10 = (if (LN 0) ≤ rln then (LN 0) else -1) := po_11
    refine W.eq (g2 := F0 m 45 ls [.int (zI rr_10)]) rfl ?_
    refine lv_pop hx hb dX5_ghost_45 rfl ?_
    refine lv_bipush (v := zI 100) hx hb dX5_ghost_46 (by decide) ?_
    refine lv_aload_n hx hb dX5_ghost_48 rfl (lv_at hl 2 rfl) ?_
    refine va_get (D := (dC, dI)) (ci := 5) (v := .ref tr) (C := RX5) (T := TX5) (N := 5) hx hb hts i_5 hown hK hP 0 rfl rfl 3 (by decide) f_29 (fun _ h9 => h9) rfl dX5_ghost_49 ?_
    refine va_get (D := (dC, dI)) (ci := 0) (v := .int (zI y1_8)) (C := RX0) (T := TX0) (N := 3) hx hb hts i_0 hown hK hP 3 rfl rfl 1 (by decide) f_177 (fun _ h9 => h9) rfl dX5_ghost_52 ?_
    refine lz_imul (z := 100 * y1_8) hx hb dX5_ghost_55 (by rfl) ?_
    refine lv_aload_n hx hb dX5_ghost_56 rfl (lv_at hl 2 rfl) ?_
    refine va_get (D := (dC, dI)) (ci := 5) (v := .ref tr) (C := RX5) (T := TX5) (N := 5) hx hb hts i_5 hown hK hP 0 rfl rfl 3 (by decide) f_29 (fun _ h9 => h9) rfl dX5_ghost_57 ?_
    refine va_get (D := (dC, dI)) (ci := 0) (v := .int (zI x1_7)) (C := RX0) (T := TX0) (N := 3) hx hb hts i_0 hown hK hP 3 rfl rfl 0 (by decide) f_143 (fun _ h9 => h9) rfl dX5_ghost_60 ?_
    refine lz_iadd (z := (100 * y1_8) + x1_7) hx hb dX5_ghost_63 (by rfl) ?_
    have hP9 := hP.sub (ws' := [(sl, .inr (5, [.ref sh, .int (zI lc), .ref ru, .ref tr, .ref se])), (ru, .inr (2, [.ref rh, .ref rt, .ref lv, .int (zI rp), .int (zI oc)])), (rt, .inr (4, [.ref ri, .int (zI rln), .int (zI rhf)])), (tr, .inr (0, [.int (zI x1_7), .int (zI y1_8), .int (zI l1_9)])), (lv, .inr (1, [.int (zI w), .int (zI h), .ref ka, .ref ta, .int (zI sx), .int (zI sy), .int (zI fx), .int (zI fy), .int (zI lf), .int (zI un)])), zA cI ka 96 K, zQ cT ta 4 tq, (tp 0, .inr (4, [.ref (ti 0), .int (zI (LN 0)), .int (zI (HF 0))])), (tp 1, .inr (4, [.ref (ti 1), .int (zI (LN 1)), .int (zI (HF 1))])), (tp 2, .inr (4, [.ref (ti 2), .int (zI (LN 2)), .int (zI (HF 2))])), (tp 3, .inr (4, [.ref (ti 3), .int (zI (LN 3)), .int (zI (HF 3))])), zA cI (ti 0) 100 FI]) [0, 1, 2, 3, 4, 5, 6, 7, 8, 9, 10, 11] rfl
    have hD9 := hD.sub (ws' := [(sl, .inr (5, [.ref sh, .int (zI lc), .ref ru, .ref tr, .ref se])), (ru, .inr (2, [.ref rh, .ref rt, .ref lv, .int (zI rp), .int (zI oc)])), (rt, .inr (4, [.ref ri, .int (zI rln), .int (zI rhf)])), (tr, .inr (0, [.int (zI x1_7), .int (zI y1_8), .int (zI l1_9)])), (lv, .inr (1, [.int (zI w), .int (zI h), .ref ka, .ref ta, .int (zI sx), .int (zI sy), .int (zI fx), .int (zI fy), .int (zI lf), .int (zI un)])), zA cI ka 96 K, zQ cT ta 4 tq, (tp 0, .inr (4, [.ref (ti 0), .int (zI (LN 0)), .int (zI (HF 0))])), (tp 1, .inr (4, [.ref (ti 1), .int (zI (LN 1)), .int (zI (HF 1))])), (tp 2, .inr (4, [.ref (ti 2), .int (zI (LN 2)), .int (zI (HF 2))])), (tp 3, .inr (4, [.ref (ti 3), .int (zI (LN 3)), .int (zI (HF 3))])), zA cI (ti 0) 100 FI]) [0, 1, 2, 3, 4, 5, 6, 7, 8, 9, 10, 11] (by decide) rfl
    have po : zI ((100 * y1_8) + x1_7) = zI ((100 * y1_8) + x1_7) ∧ (((100 * y1_8) + x1_7) = 100 * (smS K w h sx sy FI (min rln (LN 0)).toNat).2.1 + (smS K w h sx sy FI (min rln (LN 0)).toNat).1) := by
      refine ⟨by first | rfl | (congr 1; omega) | (congr 1; simp [*]), ?_⟩
      rw [← po_11.1]
    exact W.iret (v := zI ((100 * y1_8) + x1_7)) hx hb hr (fun t ht hW => ⟨⟨zI ((100 * y1_8) + x1_7), (x1_7, y1_8, l1_9, (100 * y1_8) + x1_7), rfl, po, by rw [ht]; exact hP9, va_K.moved hW.alike hK, hD9⟩, hS.F ht⟩) hS.2.2 dX5_ghost_64
  · subst e9
    refine lv_aload_n hx hb dX5_ghost_14 rfl (lv_at hl 0 rfl) ?_
    refine lv_aload_n hx hb dX5_ghost_15 rfl (lv_at hl 0 rfl) ?_
    have hPc := hP.sub (ws' := [(lv, .inr (1, [.int (zI w), .int (zI h), .ref ka, .ref ta, .int (zI sx), .int (zI sy), .int (zI fx), .int (zI fy), .int (zI lf), .int (zI un)])), zQ cT ta 4 tq, (tp 0, .inr (4, [.ref (ti 0), .int (zI (LN 0)), .int (zI (HF 0))])), (tp 1, .inr (4, [.ref (ti 1), .int (zI (LN 1)), .int (zI (HF 1))])), (tp 2, .inr (4, [.ref (ti 2), .int (zI (LN 2)), .int (zI (HF 2))])), (tp 3, .inr (4, [.ref (ti 3), .int (zI (LN 3)), .int (zI (HF 3))]))]) [4, 6, 7, 8, 9, 10] rfl
    have hDc := hD.sub (ws' := [(lv, .inr (1, [.int (zI w), .int (zI h), .ref ka, .ref ta, .int (zI sx), .int (zI sy), .int (zI fx), .int (zI fy), .int (zI lf), .int (zI un)])), zQ cT ta 4 tq, (tp 0, .inr (4, [.ref (ti 0), .int (zI (LN 0)), .int (zI (HF 0))])), (tp 1, .inr (4, [.ref (ti 1), .int (zI (LN 1)), .int (zI (HF 1))])), (tp 2, .inr (4, [.ref (ti 2), .int (zI (LN 2)), .int (zI (HF 2))])), (tp 3, .inr (4, [.ref (ti 3), .int (zI (LN 3)), .int (zI (HF 3))]))]) [4, 6, 7, 8, 9, 10] (by decide) rfl
    have hFc := va_free (wc := [(lv, .inr (1, [.int (zI w), .int (zI h), .ref ka, .ref ta, .int (zI sx), .int (zI sy), .int (zI fx), .int (zI fy), .int (zI lf), .int (zI un)])), zQ cT ta 4 tq, (tp 0, .inr (4, [.ref (ti 0), .int (zI (LN 0)), .int (zI (HF 0))])), (tp 1, .inr (4, [.ref (ti 1), .int (zI (LN 1)), .int (zI (HF 1))])), (tp 2, .inr (4, [.ref (ti 2), .int (zI (LN 2)), .int (zI (HF 2))])), (tp 3, .inr (4, [.ref (ti 3), .int (zI (LN 3)), .int (zI (HF 3))]))]) hD hS hA [4, 6, 7, 8, 9, 10] rfl
    refine va_calli (va_runV (As := []) (rest := [.ref lv]) ⟨hx, hb, hml, hown, hts⟩ (c_X1_fastestPlayer l dC dI cI cZ cL cT cJ s.heap.size lv w h ka ta sx sy fx fy lf un tq tp ti LN HF (by first | assumption | omega) (by first | assumption | omega)) (cwV 0 hts gX5_ghost_X1_fastestPlayer rfl rfl rfl (by decide +kernel) ⟨Nat.le_of_ble_eq_true rfl, Nat.le_of_ble_eq_true rfl⟩) ⟨zP_blind, va_recv hK hPc (ci := 1) (q0 := 0) rfl rfl, zP_pre hPc hDc hK⟩ rfl rfl hl.1 rfl (lv_room (Nat.le_of_ble_eq_true rfl)) dX5_ghost_16 ⟨Nat.le_of_ble_eq_true rfl, Nat.le_of_ble_eq_true rfl⟩) hS (fun q _ h => hFc q h) hFc (fun r_12 u_12 t H1 locs ht hvm hw hB hz1 hk1 hS => ?_)
    obtain ⟨r_13, rfl⟩ : ∃ z, z = u_12 := ⟨_, rfl⟩
    obtain ⟨hP1, hK1, hD1⟩ := hB
    rw [ht] at hP1
    have hP1 : va_P (dC, dI) vwCl [(lv, .inr (1, [.int (zI w), .int (zI h), .ref ka, .ref ta, .int (zI sx), .int (zI sy), .int (zI fx), .int (zI fy), .int (zI lf), .int (zI un)])), zQ cT ta 4 tq, (tp 0, .inr (4, [.ref (ti 0), .int (zI (LN 0)), .int (zI (HF 0))])), (tp 1, .inr (4, [.ref (ti 1), .int (zI (LN 1)), .int (zI (HF 1))])), (tp 2, .inr (4, [.ref (ti 2), .int (zI (LN 2)), .int (zI (HF 2))])), (tp 3, .inr (4, [.ref (ti 3), .int (zI (LN 3)), .int (zI (HF 3))]))] H1 := hP1
    obtain ⟨hP, hD⟩ := va_join (wr := [(sl, .inr (5, [.ref sh, .int (zI lc), .ref ru, .ref tr, .ref se])), (ru, .inr (2, [.ref rh, .ref rt, .ref lv, .int (zI rp), .int (zI oc)])), (rt, .inr (4, [.ref ri, .int (zI rln), .int (zI rhf)])), (tr, .inr (0, [.int (zI tx), .int (zI ty), .int (zI tl)])), zA cI ka 96 K, zA cI (ti 1) 100 FI]) (w1 := [(lv, .inr (1, [.int (zI w), .int (zI h), .ref ka, .ref ta, .int (zI sx), .int (zI sy), .int (zI fx), .int (zI fy), .int (zI lf), .int (zI un)])), zQ cT ta 4 tq, (tp 0, .inr (4, [.ref (ti 0), .int (zI (LN 0)), .int (zI (HF 0))])), (tp 1, .inr (4, [.ref (ti 1), .int (zI (LN 1)), .int (zI (HF 1))])), (tp 2, .inr (4, [.ref (ti 2), .int (zI (LN 2)), .int (zI (HF 2))])), (tp 3, .inr (4, [.ref (ti 3), .int (zI (LN 3)), .int (zI (HF 3))]))]) hP hD [4, 6, 7, 8, 9, 10] [0, 1, 2, 3, 5, 11] rfl rfl (by decide) (by decide) hk1 hFc hP1 hD1
    clear hP1 hD1 hk1 hFc hPc hDc hz1
    generalize H1 = H at hP hS ⊢
    have hP : va_P (dC, dI) vwCl [(sl, .inr (5, [.ref sh, .int (zI lc), .ref ru, .ref tr, .ref se])), (ru, .inr (2, [.ref rh, .ref rt, .ref lv, .int (zI rp), .int (zI oc)])), (rt, .inr (4, [.ref ri, .int (zI rln), .int (zI rhf)])), (tr, .inr (0, [.int (zI tx), .int (zI ty), .int (zI tl)])), (lv, .inr (1, [.int (zI w), .int (zI h), .ref ka, .ref ta, .int (zI sx), .int (zI sy), .int (zI fx), .int (zI fy), .int (zI lf), .int (zI un)])), zA cI ka 96 K, zQ cT ta 4 tq, (tp 0, .inr (4, [.ref (ti 0), .int (zI (LN 0)), .int (zI (HF 0))])), (tp 1, .inr (4, [.ref (ti 1), .int (zI (LN 1)), .int (zI (HF 1))])), (tp 2, .inr (4, [.ref (ti 2), .int (zI (LN 2)), .int (zI (HF 2))])), (tp 3, .inr (4, [.ref (ti 3), .int (zI (LN 3)), .int (zI (HF 3))])), zA cI (ti 1) 100 FI] H := hP.sub [0, 1, 2, 3, 6, 4, 7, 8, 9, 10, 11, 5] rfl
    have hD : va_D A [(sl, .inr (5, [.ref sh, .int (zI lc), .ref ru, .ref tr, .ref se])), (ru, .inr (2, [.ref rh, .ref rt, .ref lv, .int (zI rp), .int (zI oc)])), (rt, .inr (4, [.ref ri, .int (zI rln), .int (zI rhf)])), (tr, .inr (0, [.int (zI tx), .int (zI ty), .int (zI tl)])), (lv, .inr (1, [.int (zI w), .int (zI h), .ref ka, .ref ta, .int (zI sx), .int (zI sy), .int (zI fx), .int (zI fy), .int (zI lf), .int (zI un)])), zA cI ka 96 K, zQ cT ta 4 tq, (tp 0, .inr (4, [.ref (ti 0), .int (zI (LN 0)), .int (zI (HF 0))])), (tp 1, .inr (4, [.ref (ti 1), .int (zI (LN 1)), .int (zI (HF 1))])), (tp 2, .inr (4, [.ref (ti 2), .int (zI (LN 2)), .int (zI (HF 2))])), (tp 3, .inr (4, [.ref (ti 3), .int (zI (LN 3)), .int (zI (HF 3))])), zA cI (ti 1) 100 FI] := hD.sub [0, 1, 2, 3, 6, 4, 7, 8, 9, 10, 11, 5] (by decide) rfl
    clear hK1 hvm
    obtain ⟨rfl, po_14⟩ := hw
    have po_14 : r_13 = (bp4 LN).1 := po_14
    refine W.eq (g2 := F0 m 19 ls [.int (zI r_13), .ref lv]) rfl ?_
    have hPc := hP.sub (ws' := [(lv, .inr (1, [.int (zI w), .int (zI h), .ref ka, .ref ta, .int (zI sx), .int (zI sy), .int (zI fx), .int (zI fy), .int (zI lf), .int (zI un)])), zQ cT ta 4 tq]) [4, 6] rfl
    have hDc := hD.sub (ws' := [(lv, .inr (1, [.int (zI w), .int (zI h), .ref ka, .ref ta, .int (zI sx), .int (zI sy), .int (zI fx), .int (zI fy), .int (zI lf), .int (zI un)])), zQ cT ta 4 tq]) [4, 6] (by decide) rfl
    have hFc := va_free (wc := [(lv, .inr (1, [.int (zI w), .int (zI h), .ref ka, .ref ta, .int (zI sx), .int (zI sy), .int (zI fx), .int (zI fy), .int (zI lf), .int (zI un)])), zQ cT ta 4 tq]) hD hS hA [4, 6] rfl
    refine va_callq (va_runV (As := [.int (zI r_13)]) (rest := []) ⟨hx, hb, hml, hown, hts⟩ (c_X1_tapeOf l dC dI cI cZ cL cT cJ H.size lv w h ka ta sx sy fx fy lf un tq tp r_13 1 (by first | assumption | omega) (by first | assumption | omega)) (cwV 1 hts gX5_ghost_X1_tapeOf rfl rfl rfl (by decide +kernel) ⟨Nat.le_of_ble_eq_true rfl, Nat.le_of_ble_eq_true rfl⟩) ⟨zP_blind, va_recv hK hPc (ci := 1) (q0 := 0) rfl rfl, zP_pre hPc hDc hK⟩ rfl rfl hl.1 rfl (lv_room (Nat.le_of_ble_eq_true rfl)) dX5_ghost_19 ⟨Nat.le_of_ble_eq_true rfl, Nat.le_of_ble_eq_true rfl⟩) hS (fun q _ h => hFc q h) hFc (fun r_15 u_15 t H1 locs ht hvm hw hB hz1 hk1 hS => ?_)
    obtain ⟨hP1, hK1, hD1⟩ := hB
    rw [ht] at hP1
    have hP1 : va_P (dC, dI) vwCl [(lv, .inr (1, [.int (zI w), .int (zI h), .ref ka, .ref ta, .int (zI sx), .int (zI sy), .int (zI fx), .int (zI fy), .int (zI lf), .int (zI un)])), zQ cT ta 4 tq] H1 := hP1
    obtain ⟨hP, hD⟩ := va_join (wr := [(sl, .inr (5, [.ref sh, .int (zI lc), .ref ru, .ref tr, .ref se])), (ru, .inr (2, [.ref rh, .ref rt, .ref lv, .int (zI rp), .int (zI oc)])), (rt, .inr (4, [.ref ri, .int (zI rln), .int (zI rhf)])), (tr, .inr (0, [.int (zI tx), .int (zI ty), .int (zI tl)])), zA cI ka 96 K, (tp 0, .inr (4, [.ref (ti 0), .int (zI (LN 0)), .int (zI (HF 0))])), (tp 1, .inr (4, [.ref (ti 1), .int (zI (LN 1)), .int (zI (HF 1))])), (tp 2, .inr (4, [.ref (ti 2), .int (zI (LN 2)), .int (zI (HF 2))])), (tp 3, .inr (4, [.ref (ti 3), .int (zI (LN 3)), .int (zI (HF 3))])), zA cI (ti 1) 100 FI]) (w1 := [(lv, .inr (1, [.int (zI w), .int (zI h), .ref ka, .ref ta, .int (zI sx), .int (zI sy), .int (zI fx), .int (zI fy), .int (zI lf), .int (zI un)])), zQ cT ta 4 tq]) hP hD [4, 6] [0, 1, 2, 3, 5, 7, 8, 9, 10, 11] rfl rfl (by decide) (by decide) hk1 hFc hP1 hD1
    clear hP1 hD1 hk1 hFc hPc hDc hz1
    generalize H1 = H at hP hS ⊢
    have hP : va_P (dC, dI) vwCl [(sl, .inr (5, [.ref sh, .int (zI lc), .ref ru, .ref tr, .ref se])), (ru, .inr (2, [.ref rh, .ref rt, .ref lv, .int (zI rp), .int (zI oc)])), (rt, .inr (4, [.ref ri, .int (zI rln), .int (zI rhf)])), (tr, .inr (0, [.int (zI tx), .int (zI ty), .int (zI tl)])), (lv, .inr (1, [.int (zI w), .int (zI h), .ref ka, .ref ta, .int (zI sx), .int (zI sy), .int (zI fx), .int (zI fy), .int (zI lf), .int (zI un)])), zA cI ka 96 K, zQ cT ta 4 tq, (tp 0, .inr (4, [.ref (ti 0), .int (zI (LN 0)), .int (zI (HF 0))])), (tp 1, .inr (4, [.ref (ti 1), .int (zI (LN 1)), .int (zI (HF 1))])), (tp 2, .inr (4, [.ref (ti 2), .int (zI (LN 2)), .int (zI (HF 2))])), (tp 3, .inr (4, [.ref (ti 3), .int (zI (LN 3)), .int (zI (HF 3))])), zA cI (ti 1) 100 FI] H := hP.sub [0, 1, 2, 3, 10, 4, 11, 5, 6, 7, 8, 9] rfl
    have hD : va_D A [(sl, .inr (5, [.ref sh, .int (zI lc), .ref ru, .ref tr, .ref se])), (ru, .inr (2, [.ref rh, .ref rt, .ref lv, .int (zI rp), .int (zI oc)])), (rt, .inr (4, [.ref ri, .int (zI rln), .int (zI rhf)])), (tr, .inr (0, [.int (zI tx), .int (zI ty), .int (zI tl)])), (lv, .inr (1, [.int (zI w), .int (zI h), .ref ka, .ref ta, .int (zI sx), .int (zI sy), .int (zI fx), .int (zI fy), .int (zI lf), .int (zI un)])), zA cI ka 96 K, zQ cT ta 4 tq, (tp 0, .inr (4, [.ref (ti 0), .int (zI (LN 0)), .int (zI (HF 0))])), (tp 1, .inr (4, [.ref (ti 1), .int (zI (LN 1)), .int (zI (HF 1))])), (tp 2, .inr (4, [.ref (ti 2), .int (zI (LN 2)), .int (zI (HF 2))])), (tp 3, .inr (4, [.ref (ti 3), .int (zI (LN 3)), .int (zI (HF 3))])), zA cI (ti 1) 100 FI] := hD.sub [0, 1, 2, 3, 10, 4, 11, 5, 6, 7, 8, 9] (by decide) rfl
    clear hK1 hvm
    obtain ⟨rfl, po_16⟩ := hw
    refine W.eq (g2 := F0 m 22 ls [.ref (tp 1)]) rfl ?_
    refine lv_astore_n (lv' := [(2, .ref (tp 1)), (1, .ref lv), (0, .ref sl)]) hx hb dX5_ghost_22 rfl hl (by decide) rfl (fun ls hl => ?_)
    refine lv_aload_n hx hb dX5_ghost_23 rfl (lv_at hl 0 rfl) ?_
    refine lv_ifnonnull (tgt := 29) hx hb dX5_ghost_24 (by decide) ?_
    refine lv_aload_n hx hb dX5_ghost_29 rfl (lv_at hl 2 rfl) ?_
    refine lv_aload_n hx hb dX5_ghost_30 rfl (lv_at hl 1 rfl) ?_
    refine lv_aload_n hx hb dX5_ghost_31 rfl (lv_at hl 0 rfl) ?_
    refine lv_aload_n hx hb dX5_ghost_32 rfl (lv_at hl 2 rfl) ?_
    refine va_get (D := (dC, dI)) (ci := 5) (v := .ref ru) (C := RX5) (T := TX5) (N := 5) hx hb hts i_5 hown hK hP 0 rfl rfl 2 (by decide) f_22 (fun _ h9 => h9) rfl dX5_ghost_33 ?_
    refine va_get (D := (dC, dI)) (ci := 2) (v := .ref rt) (C := RX2) (T := TX2) (N := 5) hx hb hts i_2 hown hK hP 1 rfl rfl 1 (by decide) f_164 (fun _ h9 => h9) rfl dX5_ghost_36 ?_
    refine va_get (D := (dC, dI)) (ci := 4) (v := .int (zI rln)) (C := RX4) (T := TX4) (N := 3) hx hb hts i_4 hown hK hP 2 rfl rfl 1 (by decide) f_172 (fun _ h9 => h9) rfl dX5_ghost_39 ?_
    have hPc := hP.sub (ws' := [(sl, .inr (5, [.ref sh, .int (zI lc), .ref ru, .ref tr, .ref se])), (tr, .inr (0, [.int (zI tx), .int (zI ty), .int (zI tl)])), (lv, .inr (1, [.int (zI w), .int (zI h), .ref ka, .ref ta, .int (zI sx), .int (zI sy), .int (zI fx), .int (zI fy), .int (zI lf), .int (zI un)])), zA cI ka 96 K, (tp 1, .inr (4, [.ref (ti 1), .int (zI (LN 1)), .int (zI (HF 1))])), zA cI (ti 1) 100 FI]) [0, 3, 4, 5, 8, 11] rfl
    have hDc := hD.sub (ws' := [(sl, .inr (5, [.ref sh, .int (zI lc), .ref ru, .ref tr, .ref se])), (tr, .inr (0, [.int (zI tx), .int (zI ty), .int (zI tl)])), (lv, .inr (1, [.int (zI w), .int (zI h), .ref ka, .ref ta, .int (zI sx), .int (zI sy), .int (zI fx), .int (zI fy), .int (zI lf), .int (zI un)])), zA cI ka 96 K, (tp 1, .inr (4, [.ref (ti 1), .int (zI (LN 1)), .int (zI (HF 1))])), zA cI (ti 1) 100 FI]) [0, 3, 4, 5, 8, 11] (by decide) rfl
    have hFc := va_free (wc := [(sl, .inr (5, [.ref sh, .int (zI lc), .ref ru, .ref tr, .ref se])), (tr, .inr (0, [.int (zI tx), .int (zI ty), .int (zI tl)])), (lv, .inr (1, [.int (zI w), .int (zI h), .ref ka, .ref ta, .int (zI sx), .int (zI sy), .int (zI fx), .int (zI fy), .int (zI lf), .int (zI un)])), zA cI ka 96 K, (tp 1, .inr (4, [.ref (ti 1), .int (zI (LN 1)), .int (zI (HF 1))])), zA cI (ti 1) 100 FI]) hD hS hA [0, 3, 4, 5, 8, 11] rfl
    refine va_calli (va_runV (As := [.ref lv, .ref (tp 1), .int (zI rln)]) (rest := []) ⟨hx, hb, hml, hown, hts⟩ (c_X5_follow l dC dI cI cZ cL cT cJ H.size sl sh lc ru tr se tx ty tl lv w h ka ta sx sy fx fy lf un K (tp 1) (ti 1) (LN 1) (HF 1) FI rln (by first | assumption | omega) (by first | assumption | omega) (by first | assumption | omega) (by first | assumption | omega) (by first | assumption | omega) (by first | assumption | omega) (by first | assumption | omega) (by first | assumption | omega) (by first | assumption | omega) (by first | assumption | omega) (by first | assumption | omega) (by first | assumption | omega)) (cwV 3 hts gX5_ghost_X5_follow rfl rfl rfl (by decide +kernel) ⟨Nat.le_of_ble_eq_true rfl, Nat.le_of_ble_eq_true rfl⟩) ⟨zP_blind, va_recv hK hPc (ci := 5) (q0 := 0) rfl rfl, zP_pre hPc hDc hK⟩ rfl rfl hl.1 rfl (lv_room (Nat.le_of_ble_eq_true rfl)) dX5_ghost_42 ⟨Nat.le_of_ble_eq_true rfl, Nat.le_of_ble_eq_true rfl⟩) hS (fun q _ h => hFc q h) hFc (fun r_17 u_17 t H1 locs ht hvm hw hB hz1 hk1 hS => ?_)
    obtain ⟨x1_18, y1_19, l1_20, rr_21⟩ := u_17
    obtain ⟨hP1, hK1, hD1⟩ := hB
    rw [ht] at hP1
    have hP1 : va_P (dC, dI) vwCl [(sl, .inr (5, [.ref sh, .int (zI lc), .ref ru, .ref tr, .ref se])), (tr, .inr (0, [.int (zI x1_18), .int (zI y1_19), .int (zI l1_20)])), (lv, .inr (1, [.int (zI w), .int (zI h), .ref ka, .ref ta, .int (zI sx), .int (zI sy), .int (zI fx), .int (zI fy), .int (zI lf), .int (zI un)])), zA cI ka 96 K, (tp 1, .inr (4, [.ref (ti 1), .int (zI (LN 1)), .int (zI (HF 1))])), zA cI (ti 1) 100 FI] H1 := hP1
    obtain ⟨hP, hD⟩ := va_join (wr := [(ru, .inr (2, [.ref rh, .ref rt, .ref lv, .int (zI rp), .int (zI oc)])), (rt, .inr (4, [.ref ri, .int (zI rln), .int (zI rhf)])), zQ cT ta 4 tq, (tp 0, .inr (4, [.ref (ti 0), .int (zI (LN 0)), .int (zI (HF 0))])), (tp 2, .inr (4, [.ref (ti 2), .int (zI (LN 2)), .int (zI (HF 2))])), (tp 3, .inr (4, [.ref (ti 3), .int (zI (LN 3)), .int (zI (HF 3))]))]) (w1 := [(sl, .inr (5, [.ref sh, .int (zI lc), .ref ru, .ref tr, .ref se])), (tr, .inr (0, [.int (zI x1_18), .int (zI y1_19), .int (zI l1_20)])), (lv, .inr (1, [.int (zI w), .int (zI h), .ref ka, .ref ta, .int (zI sx), .int (zI sy), .int (zI fx), .int (zI fy), .int (zI lf), .int (zI un)])), zA cI ka 96 K, (tp 1, .inr (4, [.ref (ti 1), .int (zI (LN 1)), .int (zI (HF 1))])), zA cI (ti 1) 100 FI]) hP hD [0, 3, 4, 5, 8, 11] [1, 2, 6, 7, 9, 10] rfl rfl (by decide) (by decide) hk1 hFc hP1 hD1
    clear hP1 hD1 hk1 hFc hPc hDc hz1
    generalize H1 = H at hP hS ⊢
    have hP : va_P (dC, dI) vwCl [(sl, .inr (5, [.ref sh, .int (zI lc), .ref ru, .ref tr, .ref se])), (ru, .inr (2, [.ref rh, .ref rt, .ref lv, .int (zI rp), .int (zI oc)])), (rt, .inr (4, [.ref ri, .int (zI rln), .int (zI rhf)])), (tr, .inr (0, [.int (zI x1_18), .int (zI y1_19), .int (zI l1_20)])), (lv, .inr (1, [.int (zI w), .int (zI h), .ref ka, .ref ta, .int (zI sx), .int (zI sy), .int (zI fx), .int (zI fy), .int (zI lf), .int (zI un)])), zA cI ka 96 K, zQ cT ta 4 tq, (tp 0, .inr (4, [.ref (ti 0), .int (zI (LN 0)), .int (zI (HF 0))])), (tp 1, .inr (4, [.ref (ti 1), .int (zI (LN 1)), .int (zI (HF 1))])), (tp 2, .inr (4, [.ref (ti 2), .int (zI (LN 2)), .int (zI (HF 2))])), (tp 3, .inr (4, [.ref (ti 3), .int (zI (LN 3)), .int (zI (HF 3))])), zA cI (ti 1) 100 FI] H := hP.sub [6, 0, 1, 7, 8, 9, 2, 3, 10, 4, 5, 11] rfl
    have hD : va_D A [(sl, .inr (5, [.ref sh, .int (zI lc), .ref ru, .ref tr, .ref se])), (ru, .inr (2, [.ref rh, .ref rt, .ref lv, .int (zI rp), .int (zI oc)])), (rt, .inr (4, [.ref ri, .int (zI rln), .int (zI rhf)])), (tr, .inr (0, [.int (zI x1_18), .int (zI y1_19), .int (zI l1_20)])), (lv, .inr (1, [.int (zI w), .int (zI h), .ref ka, .ref ta, .int (zI sx), .int (zI sy), .int (zI fx), .int (zI fy), .int (zI lf), .int (zI un)])), zA cI ka 96 K, zQ cT ta 4 tq, (tp 0, .inr (4, [.ref (ti 0), .int (zI (LN 0)), .int (zI (HF 0))])), (tp 1, .inr (4, [.ref (ti 1), .int (zI (LN 1)), .int (zI (HF 1))])), (tp 2, .inr (4, [.ref (ti 2), .int (zI (LN 2)), .int (zI (HF 2))])), (tp 3, .inr (4, [.ref (ti 3), .int (zI (LN 3)), .int (zI (HF 3))])), zA cI (ti 1) 100 FI] := hD.sub [6, 0, 1, 7, 8, 9, 2, 3, 10, 4, 5, 11] (by decide) rfl
    clear hK1 hvm
    obtain ⟨rfl, po_22⟩ := hw
    have po_22 : (x1_18, y1_19, l1_20) = (smS K w h sx sy FI (min rln (LN 1)).toNat) ∧ rr_21 = (if (LN 1) ≤ rln then (LN 1) else -1) := po_22
    refine W.eq (g2 := F0 m 45 ls [.int (zI rr_21)]) rfl ?_
    refine lv_pop hx hb dX5_ghost_45 rfl ?_
    refine lv_bipush (v := zI 100) hx hb dX5_ghost_46 (by decide) ?_
    refine lv_aload_n hx hb dX5_ghost_48 rfl (lv_at hl 2 rfl) ?_
    refine va_get (D := (dC, dI)) (ci := 5) (v := .ref tr) (C := RX5) (T := TX5) (N := 5) hx hb hts i_5 hown hK hP 0 rfl rfl 3 (by decide) f_29 (fun _ h9 => h9) rfl dX5_ghost_49 ?_
    refine va_get (D := (dC, dI)) (ci := 0) (v := .int (zI y1_19)) (C := RX0) (T := TX0) (N := 3) hx hb hts i_0 hown hK hP 3 rfl rfl 1 (by decide) f_177 (fun _ h9 => h9) rfl dX5_ghost_52 ?_
    refine lz_imul (z := 100 * y1_19) hx hb dX5_ghost_55 (by rfl) ?_
    refine lv_aload_n hx hb dX5_ghost_56 rfl (lv_at hl 2 rfl) ?_
    refine va_get (D := (dC, dI)) (ci := 5) (v := .ref tr) (C := RX5) (T := TX5) (N := 5) hx hb hts i_5 hown hK hP 0 rfl rfl 3 (by decide) f_29 (fun _ h9 => h9) rfl dX5_ghost_57 ?_
    refine va_get (D := (dC, dI)) (ci := 0) (v := .int (zI x1_18)) (C := RX0) (T := TX0) (N := 3) hx hb hts i_0 hown hK hP 3 rfl rfl 0 (by decide) f_143 (fun _ h9 => h9) rfl dX5_ghost_60 ?_
    refine lz_iadd (z := (100 * y1_19) + x1_18) hx hb dX5_ghost_63 (by rfl) ?_
    have hP9 := hP.sub (ws' := [(sl, .inr (5, [.ref sh, .int (zI lc), .ref ru, .ref tr, .ref se])), (ru, .inr (2, [.ref rh, .ref rt, .ref lv, .int (zI rp), .int (zI oc)])), (rt, .inr (4, [.ref ri, .int (zI rln), .int (zI rhf)])), (tr, .inr (0, [.int (zI x1_18), .int (zI y1_19), .int (zI l1_20)])), (lv, .inr (1, [.int (zI w), .int (zI h), .ref ka, .ref ta, .int (zI sx), .int (zI sy), .int (zI fx), .int (zI fy), .int (zI lf), .int (zI un)])), zA cI ka 96 K, zQ cT ta 4 tq, (tp 0, .inr (4, [.ref (ti 0), .int (zI (LN 0)), .int (zI (HF 0))])), (tp 1, .inr (4, [.ref (ti 1), .int (zI (LN 1)), .int (zI (HF 1))])), (tp 2, .inr (4, [.ref (ti 2), .int (zI (LN 2)), .int (zI (HF 2))])), (tp 3, .inr (4, [.ref (ti 3), .int (zI (LN 3)), .int (zI (HF 3))])), zA cI (ti 1) 100 FI]) [0, 1, 2, 3, 4, 5, 6, 7, 8, 9, 10, 11] rfl
    have hD9 := hD.sub (ws' := [(sl, .inr (5, [.ref sh, .int (zI lc), .ref ru, .ref tr, .ref se])), (ru, .inr (2, [.ref rh, .ref rt, .ref lv, .int (zI rp), .int (zI oc)])), (rt, .inr (4, [.ref ri, .int (zI rln), .int (zI rhf)])), (tr, .inr (0, [.int (zI x1_18), .int (zI y1_19), .int (zI l1_20)])), (lv, .inr (1, [.int (zI w), .int (zI h), .ref ka, .ref ta, .int (zI sx), .int (zI sy), .int (zI fx), .int (zI fy), .int (zI lf), .int (zI un)])), zA cI ka 96 K, zQ cT ta 4 tq, (tp 0, .inr (4, [.ref (ti 0), .int (zI (LN 0)), .int (zI (HF 0))])), (tp 1, .inr (4, [.ref (ti 1), .int (zI (LN 1)), .int (zI (HF 1))])), (tp 2, .inr (4, [.ref (ti 2), .int (zI (LN 2)), .int (zI (HF 2))])), (tp 3, .inr (4, [.ref (ti 3), .int (zI (LN 3)), .int (zI (HF 3))])), zA cI (ti 1) 100 FI]) [0, 1, 2, 3, 4, 5, 6, 7, 8, 9, 10, 11] (by decide) rfl
    have po : zI ((100 * y1_19) + x1_18) = zI ((100 * y1_19) + x1_18) ∧ (((100 * y1_19) + x1_18) = 100 * (smS K w h sx sy FI (min rln (LN 1)).toNat).2.1 + (smS K w h sx sy FI (min rln (LN 1)).toNat).1) := by
      refine ⟨by first | rfl | (congr 1; omega) | (congr 1; simp [*]), ?_⟩
      rw [← po_22.1]
    exact W.iret (v := zI ((100 * y1_19) + x1_18)) hx hb hr (fun t ht hW => ⟨⟨zI ((100 * y1_19) + x1_18), (x1_18, y1_19, l1_20, (100 * y1_19) + x1_18), rfl, po, by rw [ht]; exact hP9, va_K.moved hW.alike hK, hD9⟩, hS.F ht⟩) hS.2.2 dX5_ghost_64
  · subst e9
    refine lv_aload_n hx hb dX5_ghost_14 rfl (lv_at hl 0 rfl) ?_
    refine lv_aload_n hx hb dX5_ghost_15 rfl (lv_at hl 0 rfl) ?_
    have hPc := hP.sub (ws' := [(lv, .inr (1, [.int (zI w), .int (zI h), .ref ka, .ref ta, .int (zI sx), .int (zI sy), .int (zI fx), .int (zI fy), .int (zI lf), .int (zI un)])), zQ cT ta 4 tq, (tp 0, .inr (4, [.ref (ti 0), .int (zI (LN 0)), .int (zI (HF 0))])), (tp 1, .inr (4, [.ref (ti 1), .int (zI (LN 1)), .int (zI (HF 1))])), (tp 2, .inr (4, [.ref (ti 2), .int (zI (LN 2)), .int (zI (HF 2))])), (tp 3, .inr (4, [.ref (ti 3), .int (zI (LN 3)), .int (zI (HF 3))]))]) [4, 6, 7, 8, 9, 10] rfl
    have hDc := hD.sub (ws' := [(lv, .inr (1, [.int (zI w), .int (zI h), .ref ka, .ref ta, .int (zI sx), .int (zI sy), .int (zI fx), .int (zI fy), .int (zI lf), .int (zI un)])), zQ cT ta 4 tq, (tp 0, .inr (4, [.ref (ti 0), .int (zI (LN 0)), .int (zI (HF 0))])), (tp 1, .inr (4, [.ref (ti 1), .int (zI (LN 1)), .int (zI (HF 1))])), (tp 2, .inr (4, [.ref (ti 2), .int (zI (LN 2)), .int (zI (HF 2))])), (tp 3, .inr (4, [.ref (ti 3), .int (zI (LN 3)), .int (zI (HF 3))]))]) [4, 6, 7, 8, 9, 10] (by decide) rfl
    have hFc := va_free (wc := [(lv, .inr (1, [.int (zI w), .int (zI h), .ref ka, .ref ta, .int (zI sx), .int (zI sy), .int (zI fx), .int (zI fy), .int (zI lf), .int (zI un)])), zQ cT ta 4 tq, (tp 0, .inr (4, [.ref (ti 0), .int (zI (LN 0)), .int (zI (HF 0))])), (tp 1, .inr (4, [.ref (ti 1), .int (zI (LN 1)), .int (zI (HF 1))])), (tp 2, .inr (4, [.ref (ti 2), .int (zI (LN 2)), .int (zI (HF 2))])), (tp 3, .inr (4, [.ref (ti 3), .int (zI (LN 3)), .int (zI (HF 3))]))]) hD hS hA [4, 6, 7, 8, 9, 10] rfl
    refine va_calli (va_runV (As := []) (rest := [.ref lv]) ⟨hx, hb, hml, hown, hts⟩ (c_X1_fastestPlayer l dC dI cI cZ cL cT cJ s.heap.size lv w h ka ta sx sy fx fy lf un tq tp ti LN HF (by first | assumption | omega) (by first | assumption | omega)) (cwV 0 hts gX5_ghost_X1_fastestPlayer rfl rfl rfl (by decide +kernel) ⟨Nat.le_of_ble_eq_true rfl, Nat.le_of_ble_eq_true rfl⟩) ⟨zP_blind, va_recv hK hPc (ci := 1) (q0 := 0) rfl rfl, zP_pre hPc hDc hK⟩ rfl rfl hl.1 rfl (lv_room (Nat.le_of_ble_eq_true rfl)) dX5_ghost_16 ⟨Nat.le_of_ble_eq_true rfl, Nat.le_of_ble_eq_true rfl⟩) hS (fun q _ h => hFc q h) hFc (fun r_23 u_23 t H1 locs ht hvm hw hB hz1 hk1 hS => ?_)
    obtain ⟨r_24, rfl⟩ : ∃ z, z = u_23 := ⟨_, rfl⟩
    obtain ⟨hP1, hK1, hD1⟩ := hB
    rw [ht] at hP1
    have hP1 : va_P (dC, dI) vwCl [(lv, .inr (1, [.int (zI w), .int (zI h), .ref ka, .ref ta, .int (zI sx), .int (zI sy), .int (zI fx), .int (zI fy), .int (zI lf), .int (zI un)])), zQ cT ta 4 tq, (tp 0, .inr (4, [.ref (ti 0), .int (zI (LN 0)), .int (zI (HF 0))])), (tp 1, .inr (4, [.ref (ti 1), .int (zI (LN 1)), .int (zI (HF 1))])), (tp 2, .inr (4, [.ref (ti 2), .int (zI (LN 2)), .int (zI (HF 2))])), (tp 3, .inr (4, [.ref (ti 3), .int (zI (LN 3)), .int (zI (HF 3))]))] H1 := hP1
    obtain ⟨hP, hD⟩ := va_join (wr := [(sl, .inr (5, [.ref sh, .int (zI lc), .ref ru, .ref tr, .ref se])), (ru, .inr (2, [.ref rh, .ref rt, .ref lv, .int (zI rp), .int (zI oc)])), (rt, .inr (4, [.ref ri, .int (zI rln), .int (zI rhf)])), (tr, .inr (0, [.int (zI tx), .int (zI ty), .int (zI tl)])), zA cI ka 96 K, zA cI (ti 2) 100 FI]) (w1 := [(lv, .inr (1, [.int (zI w), .int (zI h), .ref ka, .ref ta, .int (zI sx), .int (zI sy), .int (zI fx), .int (zI fy), .int (zI lf), .int (zI un)])), zQ cT ta 4 tq, (tp 0, .inr (4, [.ref (ti 0), .int (zI (LN 0)), .int (zI (HF 0))])), (tp 1, .inr (4, [.ref (ti 1), .int (zI (LN 1)), .int (zI (HF 1))])), (tp 2, .inr (4, [.ref (ti 2), .int (zI (LN 2)), .int (zI (HF 2))])), (tp 3, .inr (4, [.ref (ti 3), .int (zI (LN 3)), .int (zI (HF 3))]))]) hP hD [4, 6, 7, 8, 9, 10] [0, 1, 2, 3, 5, 11] rfl rfl (by decide) (by decide) hk1 hFc hP1 hD1
    clear hP1 hD1 hk1 hFc hPc hDc hz1
    generalize H1 = H at hP hS ⊢
    have hP : va_P (dC, dI) vwCl [(sl, .inr (5, [.ref sh, .int (zI lc), .ref ru, .ref tr, .ref se])), (ru, .inr (2, [.ref rh, .ref rt, .ref lv, .int (zI rp), .int (zI oc)])), (rt, .inr (4, [.ref ri, .int (zI rln), .int (zI rhf)])), (tr, .inr (0, [.int (zI tx), .int (zI ty), .int (zI tl)])), (lv, .inr (1, [.int (zI w), .int (zI h), .ref ka, .ref ta, .int (zI sx), .int (zI sy), .int (zI fx), .int (zI fy), .int (zI lf), .int (zI un)])), zA cI ka 96 K, zQ cT ta 4 tq, (tp 0, .inr (4, [.ref (ti 0), .int (zI (LN 0)), .int (zI (HF 0))])), (tp 1, .inr (4, [.ref (ti 1), .int (zI (LN 1)), .int (zI (HF 1))])), (tp 2, .inr (4, [.ref (ti 2), .int (zI (LN 2)), .int (zI (HF 2))])), (tp 3, .inr (4, [.ref (ti 3), .int (zI (LN 3)), .int (zI (HF 3))])), zA cI (ti 2) 100 FI] H := hP.sub [0, 1, 2, 3, 6, 4, 7, 8, 9, 10, 11, 5] rfl
    have hD : va_D A [(sl, .inr (5, [.ref sh, .int (zI lc), .ref ru, .ref tr, .ref se])), (ru, .inr (2, [.ref rh, .ref rt, .ref lv, .int (zI rp), .int (zI oc)])), (rt, .inr (4, [.ref ri, .int (zI rln), .int (zI rhf)])), (tr, .inr (0, [.int (zI tx), .int (zI ty), .int (zI tl)])), (lv, .inr (1, [.int (zI w), .int (zI h), .ref ka, .ref ta, .int (zI sx), .int (zI sy), .int (zI fx), .int (zI fy), .int (zI lf), .int (zI un)])), zA cI ka 96 K, zQ cT ta 4 tq, (tp 0, .inr (4, [.ref (ti 0), .int (zI (LN 0)), .int (zI (HF 0))])), (tp 1, .inr (4, [.ref (ti 1), .int (zI (LN 1)), .int (zI (HF 1))])), (tp 2, .inr (4, [.ref (ti 2), .int (zI (LN 2)), .int (zI (HF 2))])), (tp 3, .inr (4, [.ref (ti 3), .int (zI (LN 3)), .int (zI (HF 3))])), zA cI (ti 2) 100 FI] := hD.sub [0, 1, 2, 3, 6, 4, 7, 8, 9, 10, 11, 5] (by decide) rfl
    clear hK1 hvm
    obtain ⟨rfl, po_25⟩ := hw
    have po_25 : r_24 = (bp4 LN).1 := po_25
    refine W.eq (g2 := F0 m 19 ls [.int (zI r_24), .ref lv]) rfl ?_
    have hPc := hP.sub (ws' := [(lv, .inr (1, [.int (zI w), .int (zI h), .ref ka, .ref ta, .int (zI sx), .int (zI sy), .int (zI fx), .int (zI fy), .int (zI lf), .int (zI un)])), zQ cT ta 4 tq]) [4, 6] rfl
    have hDc := hD.sub (ws' := [(lv, .inr (1, [.int (zI w), .int (zI h), .ref ka, .ref ta, .int (zI sx), .int (zI sy), .int (zI fx), .int (zI fy), .int (zI lf), .int (zI un)])), zQ cT ta 4 tq]) [4, 6] (by decide) rfl
    have hFc := va_free (wc := [(lv, .inr (1, [.int (zI w), .int (zI h), .ref ka, .ref ta, .int (zI sx), .int (zI sy), .int (zI fx), .int (zI fy), .int (zI lf), .int (zI un)])), zQ cT ta 4 tq]) hD hS hA [4, 6] rfl
    refine va_callq (va_runV (As := [.int (zI r_24)]) (rest := []) ⟨hx, hb, hml, hown, hts⟩ (c_X1_tapeOf l dC dI cI cZ cL cT cJ H.size lv w h ka ta sx sy fx fy lf un tq tp r_24 2 (by first | assumption | omega) (by first | assumption | omega)) (cwV 1 hts gX5_ghost_X1_tapeOf rfl rfl rfl (by decide +kernel) ⟨Nat.le_of_ble_eq_true rfl, Nat.le_of_ble_eq_true rfl⟩) ⟨zP_blind, va_recv hK hPc (ci := 1) (q0 := 0) rfl rfl, zP_pre hPc hDc hK⟩ rfl rfl hl.1 rfl (lv_room (Nat.le_of_ble_eq_true rfl)) dX5_ghost_19 ⟨Nat.le_of_ble_eq_true rfl, Nat.le_of_ble_eq_true rfl⟩) hS (fun q _ h => hFc q h) hFc (fun r_26 u_26 t H1 locs ht hvm hw hB hz1 hk1 hS => ?_)
    obtain ⟨hP1, hK1, hD1⟩ := hB
    rw [ht] at hP1
    have hP1 : va_P (dC, dI) vwCl [(lv, .inr (1, [.int (zI w), .int (zI h), .ref ka, .ref ta, .int (zI sx), .int (zI sy), .int (zI fx), .int (zI fy), .int (zI lf), .int (zI un)])), zQ cT ta 4 tq] H1 := hP1
    obtain ⟨hP, hD⟩ := va_join (wr := [(sl, .inr (5, [.ref sh, .int (zI lc), .ref ru, .ref tr, .ref se])), (ru, .inr (2, [.ref rh, .ref rt, .ref lv, .int (zI rp), .int (zI oc)])), (rt, .inr (4, [.ref ri, .int (zI rln), .int (zI rhf)])), (tr, .inr (0, [.int (zI tx), .int (zI ty), .int (zI tl)])), zA cI ka 96 K, (tp 0, .inr (4, [.ref (ti 0), .int (zI (LN 0)), .int (zI (HF 0))])), (tp 1, .inr (4, [.ref (ti 1), .int (zI (LN 1)), .int (zI (HF 1))])), (tp 2, .inr (4, [.ref (ti 2), .int (zI (LN 2)), .int (zI (HF 2))])), (tp 3, .inr (4, [.ref (ti 3), .int (zI (LN 3)), .int (zI (HF 3))])), zA cI (ti 2) 100 FI]) (w1 := [(lv, .inr (1, [.int (zI w), .int (zI h), .ref ka, .ref ta, .int (zI sx), .int (zI sy), .int (zI fx), .int (zI fy), .int (zI lf), .int (zI un)])), zQ cT ta 4 tq]) hP hD [4, 6] [0, 1, 2, 3, 5, 7, 8, 9, 10, 11] rfl rfl (by decide) (by decide) hk1 hFc hP1 hD1
    clear hP1 hD1 hk1 hFc hPc hDc hz1
    generalize H1 = H at hP hS ⊢
    have hP : va_P (dC, dI) vwCl [(sl, .inr (5, [.ref sh, .int (zI lc), .ref ru, .ref tr, .ref se])), (ru, .inr (2, [.ref rh, .ref rt, .ref lv, .int (zI rp), .int (zI oc)])), (rt, .inr (4, [.ref ri, .int (zI rln), .int (zI rhf)])), (tr, .inr (0, [.int (zI tx), .int (zI ty), .int (zI tl)])), (lv, .inr (1, [.int (zI w), .int (zI h), .ref ka, .ref ta, .int (zI sx), .int (zI sy), .int (zI fx), .int (zI fy), .int (zI lf), .int (zI un)])), zA cI ka 96 K, zQ cT ta 4 tq, (tp 0, .inr (4, [.ref (ti 0), .int (zI (LN 0)), .int (zI (HF 0))])), (tp 1, .inr (4, [.ref (ti 1), .int (zI (LN 1)), .int (zI (HF 1))])), (tp 2, .inr (4, [.ref (ti 2), .int (zI (LN 2)), .int (zI (HF 2))])), (tp 3, .inr (4, [.ref (ti 3), .int (zI (LN 3)), .int (zI (HF 3))])), zA cI (ti 2) 100 FI] H := hP.sub [0, 1, 2, 3, 10, 4, 11, 5, 6, 7, 8, 9] rfl
    have hD : va_D A [(sl, .inr (5, [.ref sh, .int (zI lc), .ref ru, .ref tr, .ref se])), (ru, .inr (2, [.ref rh, .ref rt, .ref lv, .int (zI rp), .int (zI oc)])), (rt, .inr (4, [.ref ri, .int (zI rln), .int (zI rhf)])), (tr, .inr (0, [.int (zI tx), .int (zI ty), .int (zI tl)])), (lv, .inr (1, [.int (zI w), .int (zI h), .ref ka, .ref ta, .int (zI sx), .int (zI sy), .int (zI fx), .int (zI fy), .int (zI lf), .int (zI un)])), zA cI ka 96 K, zQ cT ta 4 tq, (tp 0, .inr (4, [.ref (ti 0), .int (zI (LN 0)), .int (zI (HF 0))])), (tp 1, .inr (4, [.ref (ti 1), .int (zI (LN 1)), .int (zI (HF 1))])), (tp 2, .inr (4, [.ref (ti 2), .int (zI (LN 2)), .int (zI (HF 2))])), (tp 3, .inr (4, [.ref (ti 3), .int (zI (LN 3)), .int (zI (HF 3))])), zA cI (ti 2) 100 FI] := hD.sub [0, 1, 2, 3, 10, 4, 11, 5, 6, 7, 8, 9] (by decide) rfl
    clear hK1 hvm
    obtain ⟨rfl, po_27⟩ := hw
    refine W.eq (g2 := F0 m 22 ls [.ref (tp 2)]) rfl ?_
    refine lv_astore_n (lv' := [(2, .ref (tp 2)), (1, .ref lv), (0, .ref sl)]) hx hb dX5_ghost_22 rfl hl (by decide) rfl (fun ls hl => ?_)
    refine lv_aload_n hx hb dX5_ghost_23 rfl (lv_at hl 0 rfl) ?_
    refine lv_ifnonnull (tgt := 29) hx hb dX5_ghost_24 (by decide) ?_
    refine lv_aload_n hx hb dX5_ghost_29 rfl (lv_at hl 2 rfl) ?_
    refine lv_aload_n hx hb dX5_ghost_30 rfl (lv_at hl 1 rfl) ?_
    refine lv_aload_n hx hb dX5_ghost_31 rfl (lv_at hl 0 rfl) ?_
    refine lv_aload_n hx hb dX5_ghost_32 rfl (lv_at hl 2 rfl) ?_
    refine va_get (D := (dC, dI)) (ci := 5) (v := .ref ru) (C := RX5) (T := TX5) (N := 5) hx hb hts i_5 hown hK hP 0 rfl rfl 2 (by decide) f_22 (fun _ h9 => h9) rfl dX5_ghost_33 ?_
    refine va_get (D := (dC, dI)) (ci := 2) (v := .ref rt) (C := RX2) (T := TX2) (N := 5) hx hb hts i_2 hown hK hP 1 rfl rfl 1 (by decide) f_164 (fun _ h9 => h9) rfl dX5_ghost_36 ?_
    refine va_get (D := (dC, dI)) (ci := 4) (v := .int (zI rln)) (C := RX4) (T := TX4) (N := 3) hx hb hts i_4 hown hK hP 2 rfl rfl 1 (by decide) f_172 (fun _ h9 => h9) rfl dX5_ghost_39 ?_
    have hPc := hP.sub (ws' := [(sl, .inr (5, [.ref sh, .int (zI lc), .ref ru, .ref tr, .ref se])), (tr, .inr (0, [.int (zI tx), .int (zI ty), .int (zI tl)])), (lv, .inr (1, [.int (zI w), .int (zI h), .ref ka, .ref ta, .int (zI sx), .int (zI sy), .int (zI fx), .int (zI fy), .int (zI lf), .int (zI un)])), zA cI ka 96 K, (tp 2, .inr (4, [.ref (ti 2), .int (zI (LN 2)), .int (zI (HF 2))])), zA cI (ti 2) 100 FI]) [0, 3, 4, 5, 9, 11] rfl
    have hDc := hD.sub (ws' := [(sl, .inr (5, [.ref sh, .int (zI lc), .ref ru, .ref tr, .ref se])), (tr, .inr (0, [.int (zI tx), .int (zI ty), .int (zI tl)])), (lv, .inr (1, [.int (zI w), .int (zI h), .ref ka, .ref ta, .int (zI sx), .int (zI sy), .int (zI fx), .int (zI fy), .int (zI lf), .int (zI un)])), zA cI ka 96 K, (tp 2, .inr (4, [.ref (ti 2), .int (zI (LN 2)), .int (zI (HF 2))])), zA cI (ti 2) 100 FI]) [0, 3, 4, 5, 9, 11] (by decide) rfl
    have hFc := va_free (wc := [(sl, .inr (5, [.ref sh, .int (zI lc), .ref ru, .ref tr, .ref se])), (tr, .inr (0, [.int (zI tx), .int (zI ty), .int (zI tl)])), (lv, .inr (1, [.int (zI w), .int (zI h), .ref ka, .ref ta, .int (zI sx), .int (zI sy), .int (zI fx), .int (zI fy), .int (zI lf), .int (zI un)])), zA cI ka 96 K, (tp 2, .inr (4, [.ref (ti 2), .int (zI (LN 2)), .int (zI (HF 2))])), zA cI (ti 2) 100 FI]) hD hS hA [0, 3, 4, 5, 9, 11] rfl
    refine va_calli (va_runV (As := [.ref lv, .ref (tp 2), .int (zI rln)]) (rest := []) ⟨hx, hb, hml, hown, hts⟩ (c_X5_follow l dC dI cI cZ cL cT cJ H.size sl sh lc ru tr se tx ty tl lv w h ka ta sx sy fx fy lf un K (tp 2) (ti 2) (LN 2) (HF 2) FI rln (by first | assumption | omega) (by first | assumption | omega) (by first | assumption | omega) (by first | assumption | omega) (by first | assumption | omega) (by first | assumption | omega) (by first | assumption | omega) (by first | assumption | omega) (by first | assumption | omega) (by first | assumption | omega) (by first | assumption | omega) (by first | assumption | omega)) (cwV 3 hts gX5_ghost_X5_follow rfl rfl rfl (by decide +kernel) ⟨Nat.le_of_ble_eq_true rfl, Nat.le_of_ble_eq_true rfl⟩) ⟨zP_blind, va_recv hK hPc (ci := 5) (q0 := 0) rfl rfl, zP_pre hPc hDc hK⟩ rfl rfl hl.1 rfl (lv_room (Nat.le_of_ble_eq_true rfl)) dX5_ghost_42 ⟨Nat.le_of_ble_eq_true rfl, Nat.le_of_ble_eq_true rfl⟩) hS (fun q _ h => hFc q h) hFc (fun r_28 u_28 t H1 locs ht hvm hw hB hz1 hk1 hS => ?_)
    obtain ⟨x1_29, y1_30, l1_31, rr_32⟩ := u_28
    obtain ⟨hP1, hK1, hD1⟩ := hB
    rw [ht] at hP1
    have hP1 : va_P (dC, dI) vwCl [(sl, .inr (5, [.ref sh, .int (zI lc), .ref ru, .ref tr, .ref se])), (tr, .inr (0, [.int (zI x1_29), .int (zI y1_30), .int (zI l1_31)])), (lv, .inr (1, [.int (zI w), .int (zI h), .ref ka, .ref ta, .int (zI sx), .int (zI sy), .int (zI fx), .int (zI fy), .int (zI lf), .int (zI un)])), zA cI ka 96 K, (tp 2, .inr (4, [.ref (ti 2), .int (zI (LN 2)), .int (zI (HF 2))])), zA cI (ti 2) 100 FI] H1 := hP1
    obtain ⟨hP, hD⟩ := va_join (wr := [(ru, .inr (2, [.ref rh, .ref rt, .ref lv, .int (zI rp), .int (zI oc)])), (rt, .inr (4, [.ref ri, .int (zI rln), .int (zI rhf)])), zQ cT ta 4 tq, (tp 0, .inr (4, [.ref (ti 0), .int (zI (LN 0)), .int (zI (HF 0))])), (tp 1, .inr (4, [.ref (ti 1), .int (zI (LN 1)), .int (zI (HF 1))])), (tp 3, .inr (4, [.ref (ti 3), .int (zI (LN 3)), .int (zI (HF 3))]))]) (w1 := [(sl, .inr (5, [.ref sh, .int (zI lc), .ref ru, .ref tr, .ref se])), (tr, .inr (0, [.int (zI x1_29), .int (zI y1_30), .int (zI l1_31)])), (lv, .inr (1, [.int (zI w), .int (zI h), .ref ka, .ref ta, .int (zI sx), .int (zI sy), .int (zI fx), .int (zI fy), .int (zI lf), .int (zI un)])), zA cI ka 96 K, (tp 2, .inr (4, [.ref (ti 2), .int (zI (LN 2)), .int (zI (HF 2))])), zA cI (ti 2) 100 FI]) hP hD [0, 3, 4, 5, 9, 11] [1, 2, 6, 7, 8, 10] rfl rfl (by decide) (by decide) hk1 hFc hP1 hD1
    clear hP1 hD1 hk1 hFc hPc hDc hz1
    generalize H1 = H at hP hS ⊢
    have hP : va_P (dC, dI) vwCl [(sl, .inr (5, [.ref sh, .int (zI lc), .ref ru, .ref tr, .ref se])), (ru, .inr (2, [.ref rh, .ref rt, .ref lv, .int (zI rp), .int (zI oc)])), (rt, .inr (4, [.ref ri, .int (zI rln), .int (zI rhf)])), (tr, .inr (0, [.int (zI x1_29), .int (zI y1_30), .int (zI l1_31)])), (lv, .inr (1, [.int (zI w), .int (zI h), .ref ka, .ref ta, .int (zI sx), .int (zI sy), .int (zI fx), .int (zI fy), .int (zI lf), .int (zI un)])), zA cI ka 96 K, zQ cT ta 4 tq, (tp 0, .inr (4, [.ref (ti 0), .int (zI (LN 0)), .int (zI (HF 0))])), (tp 1, .inr (4, [.ref (ti 1), .int (zI (LN 1)), .int (zI (HF 1))])), (tp 2, .inr (4, [.ref (ti 2), .int (zI (LN 2)), .int (zI (HF 2))])), (tp 3, .inr (4, [.ref (ti 3), .int (zI (LN 3)), .int (zI (HF 3))])), zA cI (ti 2) 100 FI] H := hP.sub [6, 0, 1, 7, 8, 9, 2, 3, 4, 10, 5, 11] rfl
    have hD : va_D A [(sl, .inr (5, [.ref sh, .int (zI lc), .ref ru, .ref tr, .ref se])), (ru, .inr (2, [.ref rh, .ref rt, .ref lv, .int (zI rp), .int (zI oc)])), (rt, .inr (4, [.ref ri, .int (zI rln), .int (zI rhf)])), (tr, .inr (0, [.int (zI x1_29), .int (zI y1_30), .int (zI l1_31)])), (lv, .inr (1, [.int (zI w), .int (zI h), .ref ka, .ref ta, .int (zI sx), .int (zI sy), .int (zI fx), .int (zI fy), .int (zI lf), .int (zI un)])), zA cI ka 96 K, zQ cT ta 4 tq, (tp 0, .inr (4, [.ref (ti 0), .int (zI (LN 0)), .int (zI (HF 0))])), (tp 1, .inr (4, [.ref (ti 1), .int (zI (LN 1)), .int (zI (HF 1))])), (tp 2, .inr (4, [.ref (ti 2), .int (zI (LN 2)), .int (zI (HF 2))])), (tp 3, .inr (4, [.ref (ti 3), .int (zI (LN 3)), .int (zI (HF 3))])), zA cI (ti 2) 100 FI] := hD.sub [6, 0, 1, 7, 8, 9, 2, 3, 4, 10, 5, 11] (by decide) rfl
    clear hK1 hvm
    obtain ⟨rfl, po_33⟩ := hw
    have po_33 : (x1_29, y1_30, l1_31) = (smS K w h sx sy FI (min rln (LN 2)).toNat) ∧ rr_32 = (if (LN 2) ≤ rln then (LN 2) else -1) := po_33
    refine W.eq (g2 := F0 m 45 ls [.int (zI rr_32)]) rfl ?_
    refine lv_pop hx hb dX5_ghost_45 rfl ?_
    refine lv_bipush (v := zI 100) hx hb dX5_ghost_46 (by decide) ?_
    refine lv_aload_n hx hb dX5_ghost_48 rfl (lv_at hl 2 rfl) ?_
    refine va_get (D := (dC, dI)) (ci := 5) (v := .ref tr) (C := RX5) (T := TX5) (N := 5) hx hb hts i_5 hown hK hP 0 rfl rfl 3 (by decide) f_29 (fun _ h9 => h9) rfl dX5_ghost_49 ?_
    refine va_get (D := (dC, dI)) (ci := 0) (v := .int (zI y1_30)) (C := RX0) (T := TX0) (N := 3) hx hb hts i_0 hown hK hP 3 rfl rfl 1 (by decide) f_177 (fun _ h9 => h9) rfl dX5_ghost_52 ?_
    refine lz_imul (z := 100 * y1_30) hx hb dX5_ghost_55 (by rfl) ?_
    refine lv_aload_n hx hb dX5_ghost_56 rfl (lv_at hl 2 rfl) ?_
    refine va_get (D := (dC, dI)) (ci := 5) (v := .ref tr) (C := RX5) (T := TX5) (N := 5) hx hb hts i_5 hown hK hP 0 rfl rfl 3 (by decide) f_29 (fun _ h9 => h9) rfl dX5_ghost_57 ?_
    refine va_get (D := (dC, dI)) (ci := 0) (v := .int (zI x1_29)) (C := RX0) (T := TX0) (N := 3) hx hb hts i_0 hown hK hP 3 rfl rfl 0 (by decide) f_143 (fun _ h9 => h9) rfl dX5_ghost_60 ?_
    refine lz_iadd (z := (100 * y1_30) + x1_29) hx hb dX5_ghost_63 (by rfl) ?_
    have hP9 := hP.sub (ws' := [(sl, .inr (5, [.ref sh, .int (zI lc), .ref ru, .ref tr, .ref se])), (ru, .inr (2, [.ref rh, .ref rt, .ref lv, .int (zI rp), .int (zI oc)])), (rt, .inr (4, [.ref ri, .int (zI rln), .int (zI rhf)])), (tr, .inr (0, [.int (zI x1_29), .int (zI y1_30), .int (zI l1_31)])), (lv, .inr (1, [.int (zI w), .int (zI h), .ref ka, .ref ta, .int (zI sx), .int (zI sy), .int (zI fx), .int (zI fy), .int (zI lf), .int (zI un)])), zA cI ka 96 K, zQ cT ta 4 tq, (tp 0, .inr (4, [.ref (ti 0), .int (zI (LN 0)), .int (zI (HF 0))])), (tp 1, .inr (4, [.ref (ti 1), .int (zI (LN 1)), .int (zI (HF 1))])), (tp 2, .inr (4, [.ref (ti 2), .int (zI (LN 2)), .int (zI (HF 2))])), (tp 3, .inr (4, [.ref (ti 3), .int (zI (LN 3)), .int (zI (HF 3))])), zA cI (ti 2) 100 FI]) [0, 1, 2, 3, 4, 5, 6, 7, 8, 9, 10, 11] rfl
    have hD9 := hD.sub (ws' := [(sl, .inr (5, [.ref sh, .int (zI lc), .ref ru, .ref tr, .ref se])), (ru, .inr (2, [.ref rh, .ref rt, .ref lv, .int (zI rp), .int (zI oc)])), (rt, .inr (4, [.ref ri, .int (zI rln), .int (zI rhf)])), (tr, .inr (0, [.int (zI x1_29), .int (zI y1_30), .int (zI l1_31)])), (lv, .inr (1, [.int (zI w), .int (zI h), .ref ka, .ref ta, .int (zI sx), .int (zI sy), .int (zI fx), .int (zI fy), .int (zI lf), .int (zI un)])), zA cI ka 96 K, zQ cT ta 4 tq, (tp 0, .inr (4, [.ref (ti 0), .int (zI (LN 0)), .int (zI (HF 0))])), (tp 1, .inr (4, [.ref (ti 1), .int (zI (LN 1)), .int (zI (HF 1))])), (tp 2, .inr (4, [.ref (ti 2), .int (zI (LN 2)), .int (zI (HF 2))])), (tp 3, .inr (4, [.ref (ti 3), .int (zI (LN 3)), .int (zI (HF 3))])), zA cI (ti 2) 100 FI]) [0, 1, 2, 3, 4, 5, 6, 7, 8, 9, 10, 11] (by decide) rfl
    have po : zI ((100 * y1_30) + x1_29) = zI ((100 * y1_30) + x1_29) ∧ (((100 * y1_30) + x1_29) = 100 * (smS K w h sx sy FI (min rln (LN 2)).toNat).2.1 + (smS K w h sx sy FI (min rln (LN 2)).toNat).1) := by
      refine ⟨by first | rfl | (congr 1; omega) | (congr 1; simp [*]), ?_⟩
      rw [← po_33.1]
    exact W.iret (v := zI ((100 * y1_30) + x1_29)) hx hb hr (fun t ht hW => ⟨⟨zI ((100 * y1_30) + x1_29), (x1_29, y1_30, l1_31, (100 * y1_30) + x1_29), rfl, po, by rw [ht]; exact hP9, va_K.moved hW.alike hK, hD9⟩, hS.F ht⟩) hS.2.2 dX5_ghost_64
  · subst e9
    refine lv_aload_n hx hb dX5_ghost_14 rfl (lv_at hl 0 rfl) ?_
    refine lv_aload_n hx hb dX5_ghost_15 rfl (lv_at hl 0 rfl) ?_
    have hPc := hP.sub (ws' := [(lv, .inr (1, [.int (zI w), .int (zI h), .ref ka, .ref ta, .int (zI sx), .int (zI sy), .int (zI fx), .int (zI fy), .int (zI lf), .int (zI un)])), zQ cT ta 4 tq, (tp 0, .inr (4, [.ref (ti 0), .int (zI (LN 0)), .int (zI (HF 0))])), (tp 1, .inr (4, [.ref (ti 1), .int (zI (LN 1)), .int (zI (HF 1))])), (tp 2, .inr (4, [.ref (ti 2), .int (zI (LN 2)), .int (zI (HF 2))])), (tp 3, .inr (4, [.ref (ti 3), .int (zI (LN 3)), .int (zI (HF 3))]))]) [4, 6, 7, 8, 9, 10] rfl
    have hDc := hD.sub (ws' := [(lv, .inr (1, [.int (zI w), .int (zI h), .ref ka, .ref ta, .int (zI sx), .int (zI sy), .int (zI fx), .int (zI fy), .int (zI lf), .int (zI un)])), zQ cT ta 4 tq, (tp 0, .inr (4, [.ref (ti 0), .int (zI (LN 0)), .int (zI (HF 0))])), (tp 1, .inr (4, [.ref (ti 1), .int (zI (LN 1)), .int (zI (HF 1))])), (tp 2, .inr (4, [.ref (ti 2), .int (zI (LN 2)), .int (zI (HF 2))])), (tp 3, .inr (4, [.ref (ti 3), .int (zI (LN 3)), .int (zI (HF 3))]))]) [4, 6, 7, 8, 9, 10] (by decide) rfl
    have hFc := va_free (wc := [(lv, .inr (1, [.int (zI w), .int (zI h), .ref ka, .ref ta, .int (zI sx), .int (zI sy), .int (zI fx), .int (zI fy), .int (zI lf), .int (zI un)])), zQ cT ta 4 tq, (tp 0, .inr (4, [.ref (ti 0), .int (zI (LN 0)), .int (zI (HF 0))])), (tp 1, .inr (4, [.ref (ti 1), .int (zI (LN 1)), .int (zI (HF 1))])), (tp 2, .inr (4, [.ref (ti 2), .int (zI (LN 2)), .int (zI (HF 2))])), (tp 3, .inr (4, [.ref (ti 3), .int (zI (LN 3)), .int (zI (HF 3))]))]) hD hS hA [4, 6, 7, 8, 9, 10] rfl
    refine va_calli (va_runV (As := []) (rest := [.ref lv]) ⟨hx, hb, hml, hown, hts⟩ (c_X1_fastestPlayer l dC dI cI cZ cL cT cJ s.heap.size lv w h ka ta sx sy fx fy lf un tq tp ti LN HF (by first | assumption | omega) (by first | assumption | omega)) (cwV 0 hts gX5_ghost_X1_fastestPlayer rfl rfl rfl (by decide +kernel) ⟨Nat.le_of_ble_eq_true rfl, Nat.le_of_ble_eq_true rfl⟩) ⟨zP_blind, va_recv hK hPc (ci := 1) (q0 := 0) rfl rfl, zP_pre hPc hDc hK⟩ rfl rfl hl.1 rfl (lv_room (Nat.le_of_ble_eq_true rfl)) dX5_ghost_16 ⟨Nat.le_of_ble_eq_true rfl, Nat.le_of_ble_eq_true rfl⟩) hS (fun q _ h => hFc q h) hFc (fun r_34 u_34 t H1 locs ht hvm hw hB hz1 hk1 hS => ?_)
    obtain ⟨r_35, rfl⟩ : ∃ z, z = u_34 := ⟨_, rfl⟩
    obtain ⟨hP1, hK1, hD1⟩ := hB
    rw [ht] at hP1
    have hP1 : va_P (dC, dI) vwCl [(lv, .inr (1, [.int (zI w), .int (zI h), .ref ka, .ref ta, .int (zI sx), .int (zI sy), .int (zI fx), .int (zI fy), .int (zI lf), .int (zI un)])), zQ cT ta 4 tq, (tp 0, .inr (4, [.ref (ti 0), .int (zI (LN 0)), .int (zI (HF 0))])), (tp 1, .inr (4, [.ref (ti 1), .int (zI (LN 1)), .int (zI (HF 1))])), (tp 2, .inr (4, [.ref (ti 2), .int (zI (LN 2)), .int (zI (HF 2))])), (tp 3, .inr (4, [.ref (ti 3), .int (zI (LN 3)), .int (zI (HF 3))]))] H1 := hP1
    obtain ⟨hP, hD⟩ := va_join (wr := [(sl, .inr (5, [.ref sh, .int (zI lc), .ref ru, .ref tr, .ref se])), (ru, .inr (2, [.ref rh, .ref rt, .ref lv, .int (zI rp), .int (zI oc)])), (rt, .inr (4, [.ref ri, .int (zI rln), .int (zI rhf)])), (tr, .inr (0, [.int (zI tx), .int (zI ty), .int (zI tl)])), zA cI ka 96 K, zA cI (ti 3) 100 FI]) (w1 := [(lv, .inr (1, [.int (zI w), .int (zI h), .ref ka, .ref ta, .int (zI sx), .int (zI sy), .int (zI fx), .int (zI fy), .int (zI lf), .int (zI un)])), zQ cT ta 4 tq, (tp 0, .inr (4, [.ref (ti 0), .int (zI (LN 0)), .int (zI (HF 0))])), (tp 1, .inr (4, [.ref (ti 1), .int (zI (LN 1)), .int (zI (HF 1))])), (tp 2, .inr (4, [.ref (ti 2), .int (zI (LN 2)), .int (zI (HF 2))])), (tp 3, .inr (4, [.ref (ti 3), .int (zI (LN 3)), .int (zI (HF 3))]))]) hP hD [4, 6, 7, 8, 9, 10] [0, 1, 2, 3, 5, 11] rfl rfl (by decide) (by decide) hk1 hFc hP1 hD1
    clear hP1 hD1 hk1 hFc hPc hDc hz1
    generalize H1 = H at hP hS ⊢
    have hP : va_P (dC, dI) vwCl [(sl, .inr (5, [.ref sh, .int (zI lc), .ref ru, .ref tr, .ref se])), (ru, .inr (2, [.ref rh, .ref rt, .ref lv, .int (zI rp), .int (zI oc)])), (rt, .inr (4, [.ref ri, .int (zI rln), .int (zI rhf)])), (tr, .inr (0, [.int (zI tx), .int (zI ty), .int (zI tl)])), (lv, .inr (1, [.int (zI w), .int (zI h), .ref ka, .ref ta, .int (zI sx), .int (zI sy), .int (zI fx), .int (zI fy), .int (zI lf), .int (zI un)])), zA cI ka 96 K, zQ cT ta 4 tq, (tp 0, .inr (4, [.ref (ti 0), .int (zI (LN 0)), .int (zI (HF 0))])), (tp 1, .inr (4, [.ref (ti 1), .int (zI (LN 1)), .int (zI (HF 1))])), (tp 2, .inr (4, [.ref (ti 2), .int (zI (LN 2)), .int (zI (HF 2))])), (tp 3, .inr (4, [.ref (ti 3), .int (zI (LN 3)), .int (zI (HF 3))])), zA cI (ti 3) 100 FI] H := hP.sub [0, 1, 2, 3, 6, 4, 7, 8, 9, 10, 11, 5] rfl
    have hD : va_D A [(sl, .inr (5, [.ref sh, .int (zI lc), .ref ru, .ref tr, .ref se])), (ru, .inr (2, [.ref rh, .ref rt, .ref lv, .int (zI rp), .int (zI oc)])), (rt, .inr (4, [.ref ri, .int (zI rln), .int (zI rhf)])), (tr, .inr (0, [.int (zI tx), .int (zI ty), .int (zI tl)])), (lv, .inr (1, [.int (zI w), .int (zI h), .ref ka, .ref ta, .int (zI sx), .int (zI sy), .int (zI fx), .int (zI fy), .int (zI lf), .int (zI un)])), zA cI ka 96 K, zQ cT ta 4 tq, (tp 0, .inr (4, [.ref (ti 0), .int (zI (LN 0)), .int (zI (HF 0))])), (tp 1, .inr (4, [.ref (ti 1), .int (zI (LN 1)), .int (zI (HF 1))])), (tp 2, .inr (4, [.ref (ti 2), .int (zI (LN 2)), .int (zI (HF 2))])), (tp 3, .inr (4, [.ref (ti 3), .int (zI (LN 3)), .int (zI (HF 3))])), zA cI (ti 3) 100 FI] := hD.sub [0, 1, 2, 3, 6, 4, 7, 8, 9, 10, 11, 5] (by decide) rfl
    clear hK1 hvm
    obtain ⟨rfl, po_36⟩ := hw
    have po_36 : r_35 = (bp4 LN).1 := po_36
    refine W.eq (g2 := F0 m 19 ls [.int (zI r_35), .ref lv]) rfl ?_
    have hPc := hP.sub (ws' := [(lv, .inr (1, [.int (zI w), .int (zI h), .ref ka, .ref ta, .int (zI sx), .int (zI sy), .int (zI fx), .int (zI fy), .int (zI lf), .int (zI un)])), zQ cT ta 4 tq]) [4, 6] rfl
    have hDc := hD.sub (ws' := [(lv, .inr (1, [.int (zI w), .int (zI h), .ref ka, .ref ta, .int (zI sx), .int (zI sy), .int (zI fx), .int (zI fy), .int (zI lf), .int (zI un)])), zQ cT ta 4 tq]) [4, 6] (by decide) rfl
    have hFc := va_free (wc := [(lv, .inr (1, [.int (zI w), .int (zI h), .ref ka, .ref ta, .int (zI sx), .int (zI sy), .int (zI fx), .int (zI fy), .int (zI lf), .int (zI un)])), zQ cT ta 4 tq]) hD hS hA [4, 6] rfl
    refine va_callq (va_runV (As := [.int (zI r_35)]) (rest := []) ⟨hx, hb, hml, hown, hts⟩ (c_X1_tapeOf l dC dI cI cZ cL cT cJ H.size lv w h ka ta sx sy fx fy lf un tq tp r_35 3 (by first | assumption | omega) (by first | assumption | omega)) (cwV 1 hts gX5_ghost_X1_tapeOf rfl rfl rfl (by decide +kernel) ⟨Nat.le_of_ble_eq_true rfl, Nat.le_of_ble_eq_true rfl⟩) ⟨zP_blind, va_recv hK hPc (ci := 1) (q0 := 0) rfl rfl, zP_pre hPc hDc hK⟩ rfl rfl hl.1 rfl (lv_room (Nat.le_of_ble_eq_true rfl)) dX5_ghost_19 ⟨Nat.le_of_ble_eq_true rfl, Nat.le_of_ble_eq_true rfl⟩) hS (fun q _ h => hFc q h) hFc (fun r_37 u_37 t H1 locs ht hvm hw hB hz1 hk1 hS => ?_)
    obtain ⟨hP1, hK1, hD1⟩ := hB
    rw [ht] at hP1
    have hP1 : va_P (dC, dI) vwCl [(lv, .inr (1, [.int (zI w), .int (zI h), .ref ka, .ref ta, .int (zI sx), .int (zI sy), .int (zI fx), .int (zI fy), .int (zI lf), .int (zI un)])), zQ cT ta 4 tq] H1 := hP1
    obtain ⟨hP, hD⟩ := va_join (wr := [(sl, .inr (5, [.ref sh, .int (zI lc), .ref ru, .ref tr, .ref se])), (ru, .inr (2, [.ref rh, .ref rt, .ref lv, .int (zI rp), .int (zI oc)])), (rt, .inr (4, [.ref ri, .int (zI rln), .int (zI rhf)])), (tr, .inr (0, [.int (zI tx), .int (zI ty), .int (zI tl)])), zA cI ka 96 K, (tp 0, .inr (4, [.ref (ti 0), .int (zI (LN 0)), .int (zI (HF 0))])), (tp 1, .inr (4, [.ref (ti 1), .int (zI (LN 1)), .int (zI (HF 1))])), (tp 2, .inr (4, [.ref (ti 2), .int (zI (LN 2)), .int (zI (HF 2))])), (tp 3, .inr (4, [.ref (ti 3), .int (zI (LN 3)), .int (zI (HF 3))])), zA cI (ti 3) 100 FI]) (w1 := [(lv, .inr (1, [.int (zI w), .int (zI h), .ref ka, .ref ta, .int (zI sx), .int (zI sy), .int (zI fx), .int (zI fy), .int (zI lf), .int (zI un)])), zQ cT ta 4 tq]) hP hD [4, 6] [0, 1, 2, 3, 5, 7, 8, 9, 10, 11] rfl rfl (by decide) (by decide) hk1 hFc hP1 hD1
    clear hP1 hD1 hk1 hFc hPc hDc hz1
    generalize H1 = H at hP hS ⊢
    have hP : va_P (dC, dI) vwCl [(sl, .inr (5, [.ref sh, .int (zI lc), .ref ru, .ref tr, .ref se])), (ru, .inr (2, [.ref rh, .ref rt, .ref lv, .int (zI rp), .int (zI oc)])), (rt, .inr (4, [.ref ri, .int (zI rln), .int (zI rhf)])), (tr, .inr (0, [.int (zI tx), .int (zI ty), .int (zI tl)])), (lv, .inr (1, [.int (zI w), .int (zI h), .ref ka, .ref ta, .int (zI sx), .int (zI sy), .int (zI fx), .int (zI fy), .int (zI lf), .int (zI un)])), zA cI ka 96 K, zQ cT ta 4 tq, (tp 0, .inr (4, [.ref (ti 0), .int (zI (LN 0)), .int (zI (HF 0))])), (tp 1, .inr (4, [.ref (ti 1), .int (zI (LN 1)), .int (zI (HF 1))])), (tp 2, .inr (4, [.ref (ti 2), .int (zI (LN 2)), .int (zI (HF 2))])), (tp 3, .inr (4, [.ref (ti 3), .int (zI (LN 3)), .int (zI (HF 3))])), zA cI (ti 3) 100 FI] H := hP.sub [0, 1, 2, 3, 10, 4, 11, 5, 6, 7, 8, 9] rfl
    have hD : va_D A [(sl, .inr (5, [.ref sh, .int (zI lc), .ref ru, .ref tr, .ref se])), (ru, .inr (2, [.ref rh, .ref rt, .ref lv, .int (zI rp), .int (zI oc)])), (rt, .inr (4, [.ref ri, .int (zI rln), .int (zI rhf)])), (tr, .inr (0, [.int (zI tx), .int (zI ty), .int (zI tl)])), (lv, .inr (1, [.int (zI w), .int (zI h), .ref ka, .ref ta, .int (zI sx), .int (zI sy), .int (zI fx), .int (zI fy), .int (zI lf), .int (zI un)])), zA cI ka 96 K, zQ cT ta 4 tq, (tp 0, .inr (4, [.ref (ti 0), .int (zI (LN 0)), .int (zI (HF 0))])), (tp 1, .inr (4, [.ref (ti 1), .int (zI (LN 1)), .int (zI (HF 1))])), (tp 2, .inr (4, [.ref (ti 2), .int (zI (LN 2)), .int (zI (HF 2))])), (tp 3, .inr (4, [.ref (ti 3), .int (zI (LN 3)), .int (zI (HF 3))])), zA cI (ti 3) 100 FI] := hD.sub [0, 1, 2, 3, 10, 4, 11, 5, 6, 7, 8, 9] (by decide) rfl
    clear hK1 hvm
    obtain ⟨rfl, po_38⟩ := hw
    refine W.eq (g2 := F0 m 22 ls [.ref (tp 3)]) rfl ?_
    refine lv_astore_n (lv' := [(2, .ref (tp 3)), (1, .ref lv), (0, .ref sl)]) hx hb dX5_ghost_22 rfl hl (by decide) rfl (fun ls hl => ?_)
    refine lv_aload_n hx hb dX5_ghost_23 rfl (lv_at hl 0 rfl) ?_
    refine lv_ifnonnull (tgt := 29) hx hb dX5_ghost_24 (by decide) ?_
    refine lv_aload_n hx hb dX5_ghost_29 rfl (lv_at hl 2 rfl) ?_
    refine lv_aload_n hx hb dX5_ghost_30 rfl (lv_at hl 1 rfl) ?_
    refine lv_aload_n hx hb dX5_ghost_31 rfl (lv_at hl 0 rfl) ?_
    refine lv_aload_n hx hb dX5_ghost_32 rfl (lv_at hl 2 rfl) ?_
    refine va_get (D := (dC, dI)) (ci := 5) (v := .ref ru) (C := RX5) (T := TX5) (N := 5) hx hb hts i_5 hown hK hP 0 rfl rfl 2 (by decide) f_22 (fun _ h9 => h9) rfl dX5_ghost_33 ?_
    refine va_get (D := (dC, dI)) (ci := 2) (v := .ref rt) (C := RX2) (T := TX2) (N := 5) hx hb hts i_2 hown hK hP 1 rfl rfl 1 (by decide) f_164 (fun _ h9 => h9) rfl dX5_ghost_36 ?_
    refine va_get (D := (dC, dI)) (ci := 4) (v := .int (zI rln)) (C := RX4) (T := TX4) (N := 3) hx hb hts i_4 hown hK hP 2 rfl rfl 1 (by decide) f_172 (fun _ h9 => h9) rfl dX5_ghost_39 ?_
    have hPc := hP.sub (ws' := [(sl, .inr (5, [.ref sh, .int (zI lc), .ref ru, .ref tr, .ref se])), (tr, .inr (0, [.int (zI tx), .int (zI ty), .int (zI tl)])), (lv, .inr (1, [.int (zI w), .int (zI h), .ref ka, .ref ta, .int (zI sx), .int (zI sy), .int (zI fx), .int (zI fy), .int (zI lf), .int (zI un)])), zA cI ka 96 K, (tp 3, .inr (4, [.ref (ti 3), .int (zI (LN 3)), .int (zI (HF 3))])), zA cI (ti 3) 100 FI]) [0, 3, 4, 5, 10, 11] rfl
    have hDc := hD.sub (ws' := [(sl, .inr (5, [.ref sh, .int (zI lc), .ref ru, .ref tr, .ref se])), (tr, .inr (0, [.int (zI tx), .int (zI ty), .int (zI tl)])), (lv, .inr (1, [.int (zI w), .int (zI h), .ref ka, .ref ta, .int (zI sx), .int (zI sy), .int (zI fx), .int (zI fy), .int (zI lf), .int (zI un)])), zA cI ka 96 K, (tp 3, .inr (4, [.ref (ti 3), .int (zI (LN 3)), .int (zI (HF 3))])), zA cI (ti 3) 100 FI]) [0, 3, 4, 5, 10, 11] (by decide) rfl
    have hFc := va_free (wc := [(sl, .inr (5, [.ref sh, .int (zI lc), .ref ru, .ref tr, .ref se])), (tr, .inr (0, [.int (zI tx), .int (zI ty), .int (zI tl)])), (lv, .inr (1, [.int (zI w), .int (zI h), .ref ka, .ref ta, .int (zI sx), .int (zI sy), .int (zI fx), .int (zI fy), .int (zI lf), .int (zI un)])), zA cI ka 96 K, (tp 3, .inr (4, [.ref (ti 3), .int (zI (LN 3)), .int (zI (HF 3))])), zA cI (ti 3) 100 FI]) hD hS hA [0, 3, 4, 5, 10, 11] rfl
    refine va_calli (va_runV (As := [.ref lv, .ref (tp 3), .int (zI rln)]) (rest := []) ⟨hx, hb, hml, hown, hts⟩ (c_X5_follow l dC dI cI cZ cL cT cJ H.size sl sh lc ru tr se tx ty tl lv w h ka ta sx sy fx fy lf un K (tp 3) (ti 3) (LN 3) (HF 3) FI rln (by first | assumption | omega) (by first | assumption | omega) (by first | assumption | omega) (by first | assumption | omega) (by first | assumption | omega) (by first | assumption | omega) (by first | assumption | omega) (by first | assumption | omega) (by first | assumption | omega) (by first | assumption | omega) (by first | assumption | omega) (by first | assumption | omega)) (cwV 3 hts gX5_ghost_X5_follow rfl rfl rfl (by decide +kernel) ⟨Nat.le_of_ble_eq_true rfl, Nat.le_of_ble_eq_true rfl⟩) ⟨zP_blind, va_recv hK hPc (ci := 5) (q0 := 0) rfl rfl, zP_pre hPc hDc hK⟩ rfl rfl hl.1 rfl (lv_room (Nat.le_of_ble_eq_true rfl)) dX5_ghost_42 ⟨Nat.le_of_ble_eq_true rfl, Nat.le_of_ble_eq_true rfl⟩) hS (fun q _ h => hFc q h) hFc (fun r_39 u_39 t H1 locs ht hvm hw hB hz1 hk1 hS => ?_)
    obtain ⟨x1_40, y1_41, l1_42, rr_43⟩ := u_39
    obtain ⟨hP1, hK1, hD1⟩ := hB
    rw [ht] at hP1
    have hP1 : va_P (dC, dI) vwCl [(sl, .inr (5, [.ref sh, .int (zI lc), .ref ru, .ref tr, .ref se])), (tr, .inr (0, [.int (zI x1_40), .int (zI y1_41), .int (zI l1_42)])), (lv, .inr (1, [.int (zI w), .int (zI h), .ref ka, .ref ta, .int (zI sx), .int (zI sy), .int (zI fx), .int (zI fy), .int (zI lf), .int (zI un)])), zA cI ka 96 K, (tp 3, .inr (4, [.ref (ti 3), .int (zI (LN 3)), .int (zI (HF 3))])), zA cI (ti 3) 100 FI] H1 := hP1
    obtain ⟨hP, hD⟩ := va_join (wr := [(ru, .inr (2, [.ref rh, .ref rt, .ref lv, .int (zI rp), .int (zI oc)])), (rt, .inr (4, [.ref ri, .int (zI rln), .int (zI rhf)])), zQ cT ta 4 tq, (tp 0, .inr (4, [.ref (ti 0), .int (zI (LN 0)), .int (zI (HF 0))])), (tp 1, .inr (4, [.ref (ti 1), .int (zI (LN 1)), .int (zI (HF 1))])), (tp 2, .inr (4, [.ref (ti 2), .int (zI (LN 2)), .int (zI (HF 2))]))]) (w1 := [(sl, .inr (5, [.ref sh, .int (zI lc), .ref ru, .ref tr, .ref se])), (tr, .inr (0, [.int (zI x1_40), .int (zI y1_41), .int (zI l1_42)])), (lv, .inr (1, [.int (zI w), .int (zI h), .ref ka, .ref ta, .int (zI sx), .int (zI sy), .int (zI fx), .int (zI fy), .int (zI lf), .int (zI un)])), zA cI ka 96 K, (tp 3, .inr (4, [.ref (ti 3), .int (zI (LN 3)), .int (zI (HF 3))])), zA cI (ti 3) 100 FI]) hP hD [0, 3, 4, 5, 10, 11] [1, 2, 6, 7, 8, 9] rfl rfl (by decide) (by decide) hk1 hFc hP1 hD1
    clear hP1 hD1 hk1 hFc hPc hDc hz1
    generalize H1 = H at hP hS ⊢
    have hP : va_P (dC, dI) vwCl [(sl, .inr (5, [.ref sh, .int (zI lc), .ref ru, .ref tr, .ref se])), (ru, .inr (2, [.ref rh, .ref rt, .ref lv, .int (zI rp), .int (zI oc)])), (rt, .inr (4, [.ref ri, .int (zI rln), .int (zI rhf)])), (tr, .inr (0, [.int (zI x1_40), .int (zI y1_41), .int (zI l1_42)])), (lv, .inr (1, [.int (zI w), .int (zI h), .ref ka, .ref ta, .int (zI sx), .int (zI sy), .int (zI fx), .int (zI fy), .int (zI lf), .int (zI un)])), zA cI ka 96 K, zQ cT ta 4 tq, (tp 0, .inr (4, [.ref (ti 0), .int (zI (LN 0)), .int (zI (HF 0))])), (tp 1, .inr (4, [.ref (ti 1), .int (zI (LN 1)), .int (zI (HF 1))])), (tp 2, .inr (4, [.ref (ti 2), .int (zI (LN 2)), .int (zI (HF 2))])), (tp 3, .inr (4, [.ref (ti 3), .int (zI (LN 3)), .int (zI (HF 3))])), zA cI (ti 3) 100 FI] H := hP.sub [6, 0, 1, 7, 8, 9, 2, 3, 4, 5, 10, 11] rfl
    have hD : va_D A [(sl, .inr (5, [.ref sh, .int (zI lc), .ref ru, .ref tr, .ref se])), (ru, .inr (2, [.ref rh, .ref rt, .ref lv, .int (zI rp), .int (zI oc)])), (rt, .inr (4, [.ref ri, .int (zI rln), .int (zI rhf)])), (tr, .inr (0, [.int (zI x1_40), .int (zI y1_41), .int (zI l1_42)])), (lv, .inr (1, [.int (zI w), .int (zI h), .ref ka, .ref ta, .int (zI sx), .int (zI sy), .int (zI fx), .int (zI fy), .int (zI lf), .int (zI un)])), zA cI ka 96 K, zQ cT ta 4 tq, (tp 0, .inr (4, [.ref (ti 0), .int (zI (LN 0)), .int (zI (HF 0))])), (tp 1, .inr (4, [.ref (ti 1), .int (zI (LN 1)), .int (zI (HF 1))])), (tp 2, .inr (4, [.ref (ti 2), .int (zI (LN 2)), .int (zI (HF 2))])), (tp 3, .inr (4, [.ref (ti 3), .int (zI (LN 3)), .int (zI (HF 3))])), zA cI (ti 3) 100 FI] := hD.sub [6, 0, 1, 7, 8, 9, 2, 3, 4, 5, 10, 11] (by decide) rfl
    clear hK1 hvm
    obtain ⟨rfl, po_44⟩ := hw
    have po_44 : (x1_40, y1_41, l1_42) = (smS K w h sx sy FI (min rln (LN 3)).toNat) ∧ rr_43 = (if (LN 3) ≤ rln then (LN 3) else -1) := po_44
    refine W.eq (g2 := F0 m 45 ls [.int (zI rr_43)]) rfl ?_
    refine lv_pop hx hb dX5_ghost_45 rfl ?_
    refine lv_bipush (v := zI 100) hx hb dX5_ghost_46 (by decide) ?_
    refine lv_aload_n hx hb dX5_ghost_48 rfl (lv_at hl 2 rfl) ?_
    refine va_get (D := (dC, dI)) (ci := 5) (v := .ref tr) (C := RX5) (T := TX5) (N := 5) hx hb hts i_5 hown hK hP 0 rfl rfl 3 (by decide) f_29 (fun _ h9 => h9) rfl dX5_ghost_49 ?_
    refine va_get (D := (dC, dI)) (ci := 0) (v := .int (zI y1_41)) (C := RX0) (T := TX0) (N := 3) hx hb hts i_0 hown hK hP 3 rfl rfl 1 (by decide) f_177 (fun _ h9 => h9) rfl dX5_ghost_52 ?_
    refine lz_imul (z := 100 * y1_41) hx hb dX5_ghost_55 (by rfl) ?_
    refine lv_aload_n hx hb dX5_ghost_56 rfl (lv_at hl 2 rfl) ?_
    refine va_get (D := (dC, dI)) (ci := 5) (v := .ref tr) (C := RX5) (T := TX5) (N := 5) hx hb hts i_5 hown hK hP 0 rfl rfl 3 (by decide) f_29 (fun _ h9 => h9) rfl dX5_ghost_57 ?_
    refine va_get (D := (dC, dI)) (ci := 0) (v := .int (zI x1_40)) (C := RX0) (T := TX0) (N := 3) hx hb hts i_0 hown hK hP 3 rfl rfl 0 (by decide) f_143 (fun _ h9 => h9) rfl dX5_ghost_60 ?_
    refine lz_iadd (z := (100 * y1_41) + x1_40) hx hb dX5_ghost_63 (by rfl) ?_
    have hP9 := hP.sub (ws' := [(sl, .inr (5, [.ref sh, .int (zI lc), .ref ru, .ref tr, .ref se])), (ru, .inr (2, [.ref rh, .ref rt, .ref lv, .int (zI rp), .int (zI oc)])), (rt, .inr (4, [.ref ri, .int (zI rln), .int (zI rhf)])), (tr, .inr (0, [.int (zI x1_40), .int (zI y1_41), .int (zI l1_42)])), (lv, .inr (1, [.int (zI w), .int (zI h), .ref ka, .ref ta, .int (zI sx), .int (zI sy), .int (zI fx), .int (zI fy), .int (zI lf), .int (zI un)])), zA cI ka 96 K, zQ cT ta 4 tq, (tp 0, .inr (4, [.ref (ti 0), .int (zI (LN 0)), .int (zI (HF 0))])), (tp 1, .inr (4, [.ref (ti 1), .int (zI (LN 1)), .int (zI (HF 1))])), (tp 2, .inr (4, [.ref (ti 2), .int (zI (LN 2)), .int (zI (HF 2))])), (tp 3, .inr (4, [.ref (ti 3), .int (zI (LN 3)), .int (zI (HF 3))])), zA cI (ti 3) 100 FI]) [0, 1, 2, 3, 4, 5, 6, 7, 8, 9, 10, 11] rfl
    have hD9 := hD.sub (ws' := [(sl, .inr (5, [.ref sh, .int (zI lc), .ref ru, .ref tr, .ref se])), (ru, .inr (2, [.ref rh, .ref rt, .ref lv, .int (zI rp), .int (zI oc)])), (rt, .inr (4, [.ref ri, .int (zI rln), .int (zI rhf)])), (tr, .inr (0, [.int (zI x1_40), .int (zI y1_41), .int (zI l1_42)])), (lv, .inr (1, [.int (zI w), .int (zI h), .ref ka, .ref ta, .int (zI sx), .int (zI sy), .int (zI fx), .int (zI fy), .int (zI lf), .int (zI un)])), zA cI ka 96 K, zQ cT ta 4 tq, (tp 0, .inr (4, [.ref (ti 0), .int (zI (LN 0)), .int (zI (HF 0))])), (tp 1, .inr (4, [.ref (ti 1), .int (zI (LN 1)), .int (zI (HF 1))])), (tp 2, .inr (4, [.ref (ti 2), .int (zI (LN 2)), .int (zI (HF 2))])), (tp 3, .inr (4, [.ref (ti 3), .int (zI (LN 3)), .int (zI (HF 3))])), zA cI (ti 3) 100 FI]) [0, 1, 2, 3, 4, 5, 6, 7, 8, 9, 10, 11] (by decide) rfl
    have po : zI ((100 * y1_41) + x1_40) = zI ((100 * y1_41) + x1_40) ∧ (((100 * y1_41) + x1_40) = 100 * (smS K w h sx sy FI (min rln (LN 3)).toNat).2.1 + (smS K w h sx sy FI (min rln (LN 3)).toNat).1) := by
      refine ⟨by first | rfl | (congr 1; omega) | (congr 1; simp [*]), ?_⟩
      rw [← po_44.1]
    exact W.iret (v := zI ((100 * y1_41) + x1_40)) hx hb hr (fun t ht hW => ⟨⟨zI ((100 * y1_41) + x1_40), (x1_40, y1_41, l1_42, (100 * y1_41) + x1_40), rfl, po, by rw [ht]; exact hP9, va_K.moved hW.alike hK, hD9⟩, hS.F ht⟩) hS.2.2 dX5_ghost_64
set_option maxHeartbeats 4000000 in
set_option maxRecDepth 100000 in
theorem c_X5_init (l : Launch) (dC : Nat → ClassId) (dI : Nat → Nat → Nat) (cI cZ cL cT cJ : ClassId) (sz : Nat) (sl : Nat)  : Met l yX5_init wsX5_init ({ frames := 3, cells := 11, slots := 1570, locals := 52 }) (zPo (dC, dI) (zT cI cZ cL cT cJ) sz [.ref sl] [(sl, .inr (5, [.null, .int (zI 0), .null, .null, .null]))]) (va_Qv (fun (u9 : Nat × Nat × Nat × Nat × Nat × Nat × Nat × Nat × Nat × Nat × Nat) => match u9 with | (sh, ru, tr, se, rh, rt, ri, de, fi, qu, pr) => (True)) (zB (dC, dI) (zT cI cZ cL cT cJ) (va_A [(sl, .inr (5, [.null, .int (zI 0), .null, .null, .null]))] sz) (fun (u9 : Nat × Nat × Nat × Nat × Nat × Nat × Nat × Nat × Nat × Nat × Nat) => match u9 with | (sh, ru, tr, se, rh, rt, ri, de, fi, qu, pr) => [(sl, .inr (5, [.ref sh, .int (zI 0), .ref ru, .ref tr, .ref se])), zQ cL sh 6 (fun _ => none), (ru, .inr (2, [.ref rh, .ref rt, .null, .int (zI 0), .int (zI 0)])), (rh, .inr (0, [.int (zI 0), .int (zI 0), .int (zI 0)])), (rt, .inr (4, [.ref ri, .int (zI (-1)), .int (zI (-1))])), zA cI ri 100 (fun _ => 0), (tr, .inr (0, [.int (zI 0), .int (zI 0), .int (zI 0)])), (se, .inr (3, [.ref de, .ref fi, .ref qu, .ref pr, .int (zI 0), .int (zI (-1)), .int (zI (-1))])), zA cI de 480 (fun _ => 0), zA cI fi 480 (fun _ => 0), zA cI qu 480 (fun _ => 0), (pr, .inr (0, [.int (zI 0), .int (zI 0), .int (zI 0)]))])) (va_A [(sl, .inr (5, [.null, .int (zI 0), .null, .null, .null]))] sz)) 11 1570 (va_A [(sl, .inr (5, [.null, .int (zI 0), .null, .null, .null]))] sz) := by
  refine Met.ofW (cc := cX5_init) (maxL := 1) (ret := none) (by decide) rfl ?_
  intro p e s m args below meth c s₁ B hml hv
  obtain ⟨rfl, hsz, hP, hK, hD0, hAo⟩ := hv
  have hx := B.exec
  have hb := B.bytes
  have hr := B.returns
  have hts := atoms_spec (ws := wsX5_init) B.pre
  have hown : s.vm.findClass RX5 = some m.cls := findClass_of_methodNamed B.named
  have hlocks := B.notSynchronized
  have hin : meth.name = "<init>" := (name_of_methodNamed B.named B.method).1
  subst hsz
  have hD := hD0.self (sz := s.heap.size)
  generalize hAe : va_A [(sl, .inr (5, [.null, .int (zI 0), .null, .null, .null]))] s.heap.size = A at hD ⊢
  have hA : ∀ q : Nat, s.heap.size ≤ q → A q := fun q h => by rw [← hAe]; exact Or.inr h
  clear hAe hD0
  have hS : va_S A s.heap s.heap [] := va_S.rf
  have hP : va_P (dC, dI) vwCl [(sl, .inr (5, [.null, .int (zI 0), .null, .null, .null]))] s.heap := hP
  have f_11 := hts (.fieldLink RX5 11 "SpringLevels" "shelf" "[LSpringLevels$Level;") (by decide +kernel)
  have f_15 := hts (.fieldLink RX5 15 "SpringLevels" "levelCount" "I") (by decide +kernel)
  have f_22 := hts (.fieldLink RX5 22 "SpringLevels" "run" "LSpringLevels$Run;") (by decide +kernel)
  have f_29 := hts (.fieldLink RX5 29 "SpringLevels" "trial" "LSpringLevels$Hero;") (by decide +kernel)
  have f_36 := hts (.fieldLink RX5 36 "SpringLevels" "search" "LSpringLevels$Search;") (by decide +kernel)
  have i_0 : ∀ w ∈ wsX00, w ∈ wsX5_init := by decide +kernel
  have i_2 : ∀ w ∈ wsX20, w ∈ wsX5_init := by decide +kernel
  have i_3 : ∀ w ∈ wsX30, w ∈ wsX5_init := by decide +kernel
  have i_5 : ∀ w ∈ wsX50, w ∈ wsX5_init := by decide +kernel
  have hl := lv_entry ([.ref sl]) (n := 1) (Nat.le_of_ble_eq_true rfl)
  rw [lg_entry_eq]
  generalize (lg_sl ([.ref sl]) ++ List.replicate (1 - (lg_sl ([.ref sl])).length) Slot.unset).toArray = ls at hl ⊢
  have hl : lv_has ls 1 [(0, .ref sl)] := hl
  refine lv_aload_n hx hb dX5_init_0 rfl (lv_at hl 0 rfl) ?_
  refine W.objInit hx hb hown (hts (.methodLink RX5 3 objectInit) (by decide +kernel)) (hts (.instanceMethod objectInit) (by decide +kernel)) (hts (.code objectInit ⟨#[0xb1]⟩ 1 none) (by decide +kernel)) rfl (by rw [hml]; exact hl.1) rfl dX5_init_1 (Nat.le_of_ble_eq_true rfl) (Nat.le_of_ble_eq_true rfl) ?_
  refine W.eq (g2 := F0 m 4 ls []) rfl ?_
  refine lv_aload_n hx hb dX5_init_4 rfl (lv_at hl 0 rfl) ?_
  refine lv_bipush (v := zI 6) hx hb dX5_init_5 (by decide) ?_
  refine lz_newq (C := RX1) (N := 6) hx hb hown (hts (.classLink RX5 9 RX1) (by decide +kernel)) hAo.1 hK hP hD hS hA 2 rfl (by decide) (Nat.le_of_ble_eq_true rfl) (Nat.le_of_ble_eq_true rfl) dX5_init_7 (fun q_1 H hP hD hS => ?_)
  have hP : va_P (dC, dI) vwCl [(sl, .inr (5, [.null, .int (zI 0), .null, .null, .null])), zQ cL q_1 6 (fun _ => none)] H := hP
  have hD : va_D A [(sl, .inr (5, [.null, .int (zI 0), .null, .null, .null])), zQ cL q_1 6 (fun _ => none)] := hD
  refine va_putF (D := (dC, dI)) (ci := 5) (v := .ref q_1) (ty := .array (.object "SpringLevels$Level")) (C := RX5) (T := TX5) (N := 5) hx hb hts i_5 tyX5 tyX5_ok nmX5 hown hK hP hD hS 0 rfl rfl 0 (by decide) f_11 (fun _ h9 => h9) rfl hin rfl (by decide +kernel) rfl rfl (Nat.le_of_ble_eq_true rfl) dX5_init_10 (fun H locs hP hD hS => ?_)
  have hP : va_P (dC, dI) vwCl [(sl, .inr (5, [.ref q_1, .int (zI 0), .null, .null, .null])), zQ cL q_1 6 (fun _ => none)] H := hP
  have hD : va_D A [(sl, .inr (5, [.ref q_1, .int (zI 0), .null, .null, .null])), zQ cL q_1 6 (fun _ => none)] := hD
  refine lv_aload_n hx hb dX5_init_13 rfl (lv_at hl 0 rfl) ?_
  refine lv_iconst (v := zI 0) hx hb dX5_init_14 (rfl) ?_
  refine va_put (D := (dC, dI)) (ci := 5) (v := .int (zI 0)) (ty := .int) (C := RX5) (T := TX5) (N := 5) hx hb hts i_5 tyX5 tyX5_ok nmX5 hown hK hP hD hS 0 rfl rfl 1 (by decide) f_15 (fun _ h9 => h9) rfl (by decide +kernel) rfl rfl (Nat.le_of_ble_eq_true rfl) dX5_init_15 (fun H locs hP hD hS => ?_)
  have hP : va_P (dC, dI) vwCl [(sl, .inr (5, [.ref q_1, .int (zI 0), .null, .null, .null])), zQ cL q_1 6 (fun _ => none)] H := hP
  have hD : va_D A [(sl, .inr (5, [.ref q_1, .int (zI 0), .null, .null, .null])), zQ cL q_1 6 (fun _ => none)] := hD
  refine lv_aload_n hx hb dX5_init_18 rfl (lv_at hl 0 rfl) ?_
  refine va_new (ci := 2) (fs := [.null, .null, .null, .int (zI 0), .int (zI 0)]) (C := RX2) (T := TX2) (N := 5) hx hb hts i_2 tyX2 tyX2_ok hown (hts (.classLink RX5 19 RX2) (by decide +kernel)) (hts (.instantiable RX2 5) (by decide +kernel)) (hts (.initialized RX2) (by decide +kernel)) hK hP hD hS hA rfl (fun j hj => by rcases (show j = 0 ∨ j = 1 ∨ j = 2 ∨ j = 3 ∨ j = 4 by omega) with rfl | rfl | rfl | rfl | rfl <;> rfl) (Nat.le_of_ble_eq_true rfl) (Nat.le_of_ble_eq_true rfl) dX5_init_19 (fun q_2 H hP hD hS => ?_)
  have hP : va_P (dC, dI) vwCl [(sl, .inr (5, [.ref q_1, .int (zI 0), .null, .null, .null])), zQ cL q_1 6 (fun _ => none), (q_2, .inr (2, [.null, .null, .null, .int (zI 0), .int (zI 0)]))] H := hP
  have hD : va_D A [(sl, .inr (5, [.ref q_1, .int (zI 0), .null, .null, .null])), zQ cL q_1 6 (fun _ => none), (q_2, .inr (2, [.null, .null, .null, .int (zI 0), .int (zI 0)]))] := hD
  refine lv_dup hx hb dX5_init_22 rfl ?_
  have hPc := hP.sub (ws' := [(q_2, .inr (2, [.null, .null, .null, .int (zI 0), .int (zI 0)]))]) [2] rfl
  have hDc := hD.sub (ws' := [(q_2, .inr (2, [.null, .null, .null, .int (zI 0), .int (zI 0)]))]) [2] (by decide) rfl
  have hFc := va_free (wc := [(q_2, .inr (2, [.null, .null, .null, .int (zI 0), .int (zI 0)]))]) hD hS hA [2] rfl
  refine va_callv (va_runI (As := []) (rest := [.ref q_2, .ref sl]) ⟨hx, hb, hml, hown, hts⟩ (c_X2_init l dC dI cI cZ cL cT cJ H.size q_2 ) (cwI 0 hts ggX5_init_X2_init rfl rfl rfl (hts (.initialized RX2) (by decide +kernel)) (hts (.methodLink RX5 21 yX2_init) (by decide +kernel)) (hts (.instanceMethod yX2_init) (by decide +kernel)) rfl (by decide +kernel) ⟨Nat.le_of_ble_eq_true rfl, Nat.le_of_ble_eq_true rfl⟩) ⟨zPo_blind, zPo_pre hPc hDc hK hAo⟩ rfl rfl hl.1 rfl (lv_room (Nat.le_of_ble_eq_true rfl)) dX5_init_23 ⟨Nat.le_of_ble_eq_true rfl, Nat.le_of_ble_eq_true rfl⟩) hS (fun q _ h => hFc q h) hFc (fun u_3 t H1 locs ht hvm hw hB hz1 hk1 hS => ?_)
  obtain ⟨rh_4, tp_5, ti_6⟩ := u_3
  obtain ⟨hP1, hK1, hD1⟩ := hB
  rw [ht] at hP1
  have hP1 : va_P (dC, dI) vwCl [(q_2, .inr (2, [.ref rh_4, .ref tp_5, .null, .int (zI 0), .int (zI 0)])), (rh_4, .inr (0, [.int (zI 0), .int (zI 0), .int (zI 0)])), (tp_5, .inr (4, [.ref ti_6, .int (zI (-1)), .int (zI (-1))])), zA cI ti_6 100 (fun _ => 0)] H1 := hP1
  obtain ⟨hP, hD⟩ := va_join (wr := [(sl, .inr (5, [.ref q_1, .int (zI 0), .null, .null, .null])), zQ cL q_1 6 (fun _ => none)]) (w1 := [(q_2, .inr (2, [.ref rh_4, .ref tp_5, .null, .int (zI 0), .int (zI 0)])), (rh_4, .inr (0, [.int (zI 0), .int (zI 0), .int (zI 0)])), (tp_5, .inr (4, [.ref ti_6, .int (zI (-1)), .int (zI (-1))])), zA cI ti_6 100 (fun _ => 0)]) hP hD [2] [0, 1] rfl rfl (by decide) (by decide) hk1 hFc hP1 hD1
  clear hP1 hD1 hk1 hFc hPc hDc hz1
  generalize H1 = H at hP hS ⊢
  have hP : va_P (dC, dI) vwCl [(sl, .inr (5, [.ref q_1, .int (zI 0), .null, .null, .null])), zQ cL q_1 6 (fun _ => none), (q_2, .inr (2, [.ref rh_4, .ref tp_5, .null, .int (zI 0), .int (zI 0)])), (rh_4, .inr (0, [.int (zI 0), .int (zI 0), .int (zI 0)])), (tp_5, .inr (4, [.ref ti_6, .int (zI (-1)), .int (zI (-1))])), zA cI ti_6 100 (fun _ => 0)] H := hP.sub [0, 1, 2, 3, 4, 5] rfl
  have hD : va_D A [(sl, .inr (5, [.ref q_1, .int (zI 0), .null, .null, .null])), zQ cL q_1 6 (fun _ => none), (q_2, .inr (2, [.ref rh_4, .ref tp_5, .null, .int (zI 0), .int (zI 0)])), (rh_4, .inr (0, [.int (zI 0), .int (zI 0), .int (zI 0)])), (tp_5, .inr (4, [.ref ti_6, .int (zI (-1)), .int (zI (-1))])), zA cI ti_6 100 (fun _ => 0)] := hD.sub [0, 1, 2, 3, 4, 5] (by decide) rfl
  clear hK1 hvm
  refine W.eq (g2 := F0 m 26 ls [.ref q_2, .ref sl]) rfl ?_
  refine va_putF (D := (dC, dI)) (ci := 5) (v := .ref q_2) (ty := .object "SpringLevels$Run") (C := RX5) (T := TX5) (N := 5) hx hb hts i_5 tyX5 tyX5_ok nmX5 hown hK hP hD hS 0 rfl rfl 2 (by decide) f_22 (fun _ h9 => h9) rfl hin rfl (by decide +kernel) rfl rfl (Nat.le_of_ble_eq_true rfl) dX5_init_26 (fun H locs hP hD hS => ?_)
  have hP : va_P (dC, dI) vwCl [(sl, .inr (5, [.ref q_1, .int (zI 0), .ref q_2, .null, .null])), zQ cL q_1 6 (fun _ => none), (q_2, .inr (2, [.ref rh_4, .ref tp_5, .null, .int (zI 0), .int (zI 0)])), (rh_4, .inr (0, [.int (zI 0), .int (zI 0), .int (zI 0)])), (tp_5, .inr (4, [.ref ti_6, .int (zI (-1)), .int (zI (-1))])), zA cI ti_6 100 (fun _ => 0)] H := hP
  have hD : va_D A [(sl, .inr (5, [.ref q_1, .int (zI 0), .ref q_2, .null, .null])), zQ cL q_1 6 (fun _ => none), (q_2, .inr (2, [.ref rh_4, .ref tp_5, .null, .int (zI 0), .int (zI 0)])), (rh_4, .inr (0, [.int (zI 0), .int (zI 0), .int (zI 0)])), (tp_5, .inr (4, [.ref ti_6, .int (zI (-1)), .int (zI (-1))])), zA cI ti_6 100 (fun _ => 0)] := hD
  refine lv_aload_n hx hb dX5_init_29 rfl (lv_at hl 0 rfl) ?_
  refine va_new (ci := 0) (fs := [.int (zI 0), .int (zI 0), .int (zI 0)]) (C := RX0) (T := TX0) (N := 3) hx hb hts i_0 tyX0 tyX0_ok hown (hts (.classLink RX5 26 RX0) (by decide +kernel)) (hts (.instantiable RX0 3) (by decide +kernel)) (hts (.initialized RX0) (by decide +kernel)) hK hP hD hS hA rfl (fun j hj => by rcases (show j = 0 ∨ j = 1 ∨ j = 2 by omega) with rfl | rfl | rfl <;> rfl) (Nat.le_of_ble_eq_true rfl) (Nat.le_of_ble_eq_true rfl) dX5_init_30 (fun q_8 H hP hD hS => ?_)
  have hP : va_P (dC, dI) vwCl [(sl, .inr (5, [.ref q_1, .int (zI 0), .ref q_2, .null, .null])), zQ cL q_1 6 (fun _ => none), (q_2, .inr (2, [.ref rh_4, .ref tp_5, .null, .int (zI 0), .int (zI 0)])), (rh_4, .inr (0, [.int (zI 0), .int (zI 0), .int (zI 0)])), (tp_5, .inr (4, [.ref ti_6, .int (zI (-1)), .int (zI (-1))])), zA cI ti_6 100 (fun _ => 0), (q_8, .inr (0, [.int (zI 0), .int (zI 0), .int (zI 0)]))] H := hP
  have hD : va_D A [(sl, .inr (5, [.ref q_1, .int (zI 0), .ref q_2, .null, .null])), zQ cL q_1 6 (fun _ => none), (q_2, .inr (2, [.ref rh_4, .ref tp_5, .null, .int (zI 0), .int (zI 0)])), (rh_4, .inr (0, [.int (zI 0), .int (zI 0), .int (zI 0)])), (tp_5, .inr (4, [.ref ti_6, .int (zI (-1)), .int (zI (-1))])), zA cI ti_6 100 (fun _ => 0), (q_8, .inr (0, [.int (zI 0), .int (zI 0), .int (zI 0)]))] := hD
  refine lv_dup hx hb dX5_init_33 rfl ?_
  have hPc := hP.sub (ws' := [(q_8, .inr (0, [.int (zI 0), .int (zI 0), .int (zI 0)]))]) [6] rfl
  have hDc := hD.sub (ws' := [(q_8, .inr (0, [.int (zI 0), .int (zI 0), .int (zI 0)]))]) [6] (by decide) rfl
  have hFc := va_free (wc := [(q_8, .inr (0, [.int (zI 0), .int (zI 0), .int (zI 0)]))]) hD hS hA [6] rfl
  refine va_callv (va_runIN (As := []) (rest := [.ref q_8, .ref sl]) ⟨hx, hb, hml, hown, hts⟩ (c_X0_init l dC dI cI cZ cL cT cJ H.size q_8 0 0 0 ) ⟨va_cnB 0 hts ggX5_init_X0_init rfl rfl rfl hAo.2.2.1 (hts (.initialized RX0) (by decide +kernel)) (by decide +kernel) ⟨Nat.le_of_ble_eq_true rfl, Nat.le_of_ble_eq_true rfl⟩, rfl, hts (.instanceMethod yX0_init) (by decide +kernel)⟩ ⟨zP_blind, zP_pre hPc hDc hK⟩ rfl rfl hl.1 rfl (lv_room (Nat.le_of_ble_eq_true rfl)) dX5_init_34 ⟨Nat.le_of_ble_eq_true rfl, Nat.le_of_ble_eq_true rfl⟩) hS (fun q _ h => hFc q h) hFc (fun u_9 t H1 locs ht hvm hw hB hz1 hk1 hS => ?_)
  obtain ⟨hP1, hK1, hD1⟩ := hB
  rw [ht] at hP1
  have hP1 : va_P (dC, dI) vwCl [(q_8, .inr (0, [.int (zI 0), .int (zI 0), .int (zI 0)]))] H1 := hP1
  obtain ⟨hP, hD⟩ := va_join (wr := [(sl, .inr (5, [.ref q_1, .int (zI 0), .ref q_2, .null, .null])), zQ cL q_1 6 (fun _ => none), (q_2, .inr (2, [.ref rh_4, .ref tp_5, .null, .int (zI 0), .int (zI 0)])), (rh_4, .inr (0, [.int (zI 0), .int (zI 0), .int (zI 0)])), (tp_5, .inr (4, [.ref ti_6, .int (zI (-1)), .int (zI (-1))])), zA cI ti_6 100 (fun _ => 0)]) (w1 := [(q_8, .inr (0, [.int (zI 0), .int (zI 0), .int (zI 0)]))]) hP hD [6] [0, 1, 2, 3, 4, 5] rfl rfl (by decide) (by decide) hk1 hFc hP1 hD1
  clear hP1 hD1 hk1 hFc hPc hDc hz1
  generalize H1 = H at hP hS ⊢
  have hP : va_P (dC, dI) vwCl [(sl, .inr (5, [.ref q_1, .int (zI 0), .ref q_2, .null, .null])), zQ cL q_1 6 (fun _ => none), (q_2, .inr (2, [.ref rh_4, .ref tp_5, .null, .int (zI 0), .int (zI 0)])), (rh_4, .inr (0, [.int (zI 0), .int (zI 0), .int (zI 0)])), (tp_5, .inr (4, [.ref ti_6, .int (zI (-1)), .int (zI (-1))])), zA cI ti_6 100 (fun _ => 0), (q_8, .inr (0, [.int (zI 0), .int (zI 0), .int (zI 0)]))] H := hP.sub [0, 1, 2, 3, 4, 5, 6] rfl
  have hD : va_D A [(sl, .inr (5, [.ref q_1, .int (zI 0), .ref q_2, .null, .null])), zQ cL q_1 6 (fun _ => none), (q_2, .inr (2, [.ref rh_4, .ref tp_5, .null, .int (zI 0), .int (zI 0)])), (rh_4, .inr (0, [.int (zI 0), .int (zI 0), .int (zI 0)])), (tp_5, .inr (4, [.ref ti_6, .int (zI (-1)), .int (zI (-1))])), zA cI ti_6 100 (fun _ => 0), (q_8, .inr (0, [.int (zI 0), .int (zI 0), .int (zI 0)]))] := hD.sub [0, 1, 2, 3, 4, 5, 6] (by decide) rfl
  clear hK1 hvm
  refine W.eq (g2 := F0 m 37 ls [.ref q_8, .ref sl]) rfl ?_
  refine va_putF (D := (dC, dI)) (ci := 5) (v := .ref q_8) (ty := .object "SpringLevels$Hero") (C := RX5) (T := TX5) (N := 5) hx hb hts i_5 tyX5 tyX5_ok nmX5 hown hK hP hD hS 0 rfl rfl 3 (by decide) f_29 (fun _ h9 => h9) rfl hin rfl (by decide +kernel) rfl rfl (Nat.le_of_ble_eq_true rfl) dX5_init_37 (fun H locs hP hD hS => ?_)
  have hP : va_P (dC, dI) vwCl [(sl, .inr (5, [.ref q_1, .int (zI 0), .ref q_2, .ref q_8, .null])), zQ cL q_1 6 (fun _ => none), (q_2, .inr (2, [.ref rh_4, .ref tp_5, .null, .int (zI 0), .int (zI 0)])), (rh_4, .inr (0, [.int (zI 0), .int (zI 0), .int (zI 0)])), (tp_5, .inr (4, [.ref ti_6, .int (zI (-1)), .int (zI (-1))])), zA cI ti_6 100 (fun _ => 0), (q_8, .inr (0, [.int (zI 0), .int (zI 0), .int (zI 0)]))] H := hP
  have hD : va_D A [(sl, .inr (5, [.ref q_1, .int (zI 0), .ref q_2, .ref q_8, .null])), zQ cL q_1 6 (fun _ => none), (q_2, .inr (2, [.ref rh_4, .ref tp_5, .null, .int (zI 0), .int (zI 0)])), (rh_4, .inr (0, [.int (zI 0), .int (zI 0), .int (zI 0)])), (tp_5, .inr (4, [.ref ti_6, .int (zI (-1)), .int (zI (-1))])), zA cI ti_6 100 (fun _ => 0), (q_8, .inr (0, [.int (zI 0), .int (zI 0), .int (zI 0)]))] := hD
  refine lv_aload_n hx hb dX5_init_40 rfl (lv_at hl 0 rfl) ?_
  refine va_new (ci := 3) (fs := [.null, .null, .null, .null, .int (zI 0), .int (zI 0), .int (zI 0)]) (C := RX3) (T := TX3) (N := 7) hx hb hts i_3 tyX3 tyX3_ok hown (hts (.classLink RX5 33 RX3) (by decide +kernel)) (hts (.instantiable RX3 7) (by decide +kernel)) (hts (.initialized RX3) (by decide +kernel)) hK hP hD hS hA rfl (fun j hj => by rcases (show j = 0 ∨ j = 1 ∨ j = 2 ∨ j = 3 ∨ j = 4 ∨ j = 5 ∨ j = 6 by omega) with rfl | rfl | rfl | rfl | rfl | rfl | rfl <;> rfl) (Nat.le_of_ble_eq_true rfl) (Nat.le_of_ble_eq_true rfl) dX5_init_41 (fun q_11 H hP hD hS => ?_)
  have hP : va_P (dC, dI) vwCl [(sl, .inr (5, [.ref q_1, .int (zI 0), .ref q_2, .ref q_8, .null])), zQ cL q_1 6 (fun _ => none), (q_2, .inr (2, [.ref rh_4, .ref tp_5, .null, .int (zI 0), .int (zI 0)])), (rh_4, .inr (0, [.int (zI 0), .int (zI 0), .int (zI 0)])), (tp_5, .inr (4, [.ref ti_6, .int (zI (-1)), .int (zI (-1))])), zA cI ti_6 100 (fun _ => 0), (q_8, .inr (0, [.int (zI 0), .int (zI 0), .int (zI 0)])), (q_11, .inr (3, [.null, .null, .null, .null, .int (zI 0), .int (zI 0), .int (zI 0)]))] H := hP
  have hD : va_D A [(sl, .inr (5, [.ref q_1, .int (zI 0), .ref q_2, .ref q_8, .null])), zQ cL q_1 6 (fun _ => none), (q_2, .inr (2, [.ref rh_4, .ref tp_5, .null, .int (zI 0), .int (zI 0)])), (rh_4, .inr (0, [.int (zI 0), .int (zI 0), .int (zI 0)])), (tp_5, .inr (4, [.ref ti_6, .int (zI (-1)), .int (zI (-1))])), zA cI ti_6 100 (fun _ => 0), (q_8, .inr (0, [.int (zI 0), .int (zI 0), .int (zI 0)])), (q_11, .inr (3, [.null, .null, .null, .null, .int (zI 0), .int (zI 0), .int (zI 0)]))] := hD
  refine lv_dup hx hb dX5_init_44 rfl ?_
  have hPc := hP.sub (ws' := [(q_11, .inr (3, [.null, .null, .null, .null, .int (zI 0), .int (zI 0), .int (zI 0)]))]) [7] rfl
  have hDc := hD.sub (ws' := [(q_11, .inr (3, [.null, .null, .null, .null, .int (zI 0), .int (zI 0), .int (zI 0)]))]) [7] (by decide) rfl
  have hFc := va_free (wc := [(q_11, .inr (3, [.null, .null, .null, .null, .int (zI 0), .int (zI 0), .int (zI 0)]))]) hD hS hA [7] rfl
  refine va_callv (va_runI (As := []) (rest := [.ref q_11, .ref sl]) ⟨hx, hb, hml, hown, hts⟩ (c_X3_init l dC dI cI cZ cL cT cJ H.size q_11 ) (cwI 0 hts ggX5_init_X3_init rfl rfl rfl (hts (.initialized RX3) (by decide +kernel)) (hts (.methodLink RX5 35 yX3_init) (by decide +kernel)) (hts (.instanceMethod yX3_init) (by decide +kernel)) rfl (by decide +kernel) ⟨Nat.le_of_ble_eq_true rfl, Nat.le_of_ble_eq_true rfl⟩) ⟨zPo_blind, zPo_pre hPc hDc hK hAo⟩ rfl rfl hl.1 rfl (lv_room (Nat.le_of_ble_eq_true rfl)) dX5_init_45 ⟨Nat.le_of_ble_eq_true rfl, Nat.le_of_ble_eq_true rfl⟩) hS (fun q _ h => hFc q h) hFc (fun u_12 t H1 locs ht hvm hw hB hz1 hk1 hS => ?_)
  obtain ⟨de_13, fi_14, qu_15, pr_16⟩ := u_12
  obtain ⟨hP1, hK1, hD1⟩ := hB
  rw [ht] at hP1
  have hP1 : va_P (dC, dI) vwCl [(q_11, .inr (3, [.ref de_13, .ref fi_14, .ref qu_15, .ref pr_16, .int (zI 0), .int (zI (-1)), .int (zI (-1))])), zA cI de_13 480 (fun _ => 0), zA cI fi_14 480 (fun _ => 0), zA cI qu_15 480 (fun _ => 0), (pr_16, .inr (0, [.int (zI 0), .int (zI 0), .int (zI 0)]))] H1 := hP1
  obtain ⟨hP, hD⟩ := va_join (wr := [(sl, .inr (5, [.ref q_1, .int (zI 0), .ref q_2, .ref q_8, .null])), zQ cL q_1 6 (fun _ => none), (q_2, .inr (2, [.ref rh_4, .ref tp_5, .null, .int (zI 0), .int (zI 0)])), (rh_4, .inr (0, [.int (zI 0), .int (zI 0), .int (zI 0)])), (tp_5, .inr (4, [.ref ti_6, .int (zI (-1)), .int (zI (-1))])), zA cI ti_6 100 (fun _ => 0), (q_8, .inr (0, [.int (zI 0), .int (zI 0), .int (zI 0)]))]) (w1 := [(q_11, .inr (3, [.ref de_13, .ref fi_14, .ref qu_15, .ref pr_16, .int (zI 0), .int (zI (-1)), .int (zI (-1))])), zA cI de_13 480 (fun _ => 0), zA cI fi_14 480 (fun _ => 0), zA cI qu_15 480 (fun _ => 0), (pr_16, .inr (0, [.int (zI 0), .int (zI 0), .int (zI 0)]))]) hP hD [7] [0, 1, 2, 3, 4, 5, 6] rfl rfl (by decide) (by decide) hk1 hFc hP1 hD1
  clear hP1 hD1 hk1 hFc hPc hDc hz1
  generalize H1 = H at hP hS ⊢
  have hP : va_P (dC, dI) vwCl [(sl, .inr (5, [.ref q_1, .int (zI 0), .ref q_2, .ref q_8, .null])), zQ cL q_1 6 (fun _ => none), (q_2, .inr (2, [.ref rh_4, .ref tp_5, .null, .int (zI 0), .int (zI 0)])), (rh_4, .inr (0, [.int (zI 0), .int (zI 0), .int (zI 0)])), (tp_5, .inr (4, [.ref ti_6, .int (zI (-1)), .int (zI (-1))])), zA cI ti_6 100 (fun _ => 0), (q_8, .inr (0, [.int (zI 0), .int (zI 0), .int (zI 0)])), (q_11, .inr (3, [.ref de_13, .ref fi_14, .ref qu_15, .ref pr_16, .int (zI 0), .int (zI (-1)), .int (zI (-1))])), zA cI de_13 480 (fun _ => 0), zA cI fi_14 480 (fun _ => 0), zA cI qu_15 480 (fun _ => 0), (pr_16, .inr (0, [.int (zI 0), .int (zI 0), .int (zI 0)]))] H := hP.sub [0, 1, 2, 3, 4, 5, 6, 7, 8, 9, 10, 11] rfl
  have hD : va_D A [(sl, .inr (5, [.ref q_1, .int (zI 0), .ref q_2, .ref q_8, .null])), zQ cL q_1 6 (fun _ => none), (q_2, .inr (2, [.ref rh_4, .ref tp_5, .null, .int (zI 0), .int (zI 0)])), (rh_4, .inr (0, [.int (zI 0), .int (zI 0), .int (zI 0)])), (tp_5, .inr (4, [.ref ti_6, .int (zI (-1)), .int (zI (-1))])), zA cI ti_6 100 (fun _ => 0), (q_8, .inr (0, [.int (zI 0), .int (zI 0), .int (zI 0)])), (q_11, .inr (3, [.ref de_13, .ref fi_14, .ref qu_15, .ref pr_16, .int (zI 0), .int (zI (-1)), .int (zI (-1))])), zA cI de_13 480 (fun _ => 0), zA cI fi_14 480 (fun _ => 0), zA cI qu_15 480 (fun _ => 0), (pr_16, .inr (0, [.int (zI 0), .int (zI 0), .int (zI 0)]))] := hD.sub [0, 1, 2, 3, 4, 5, 6, 7, 8, 9, 10, 11] (by decide) rfl
  clear hK1 hvm
  refine W.eq (g2 := F0 m 48 ls [.ref q_11, .ref sl]) rfl ?_
  refine va_putF (D := (dC, dI)) (ci := 5) (v := .ref q_11) (ty := .object "SpringLevels$Search") (C := RX5) (T := TX5) (N := 5) hx hb hts i_5 tyX5 tyX5_ok nmX5 hown hK hP hD hS 0 rfl rfl 4 (by decide) f_36 (fun _ h9 => h9) rfl hin rfl (by decide +kernel) rfl rfl (Nat.le_of_ble_eq_true rfl) dX5_init_48 (fun H locs hP hD hS => ?_)
  have hP : va_P (dC, dI) vwCl [(sl, .inr (5, [.ref q_1, .int (zI 0), .ref q_2, .ref q_8, .ref q_11])), zQ cL q_1 6 (fun _ => none), (q_2, .inr (2, [.ref rh_4, .ref tp_5, .null, .int (zI 0), .int (zI 0)])), (rh_4, .inr (0, [.int (zI 0), .int (zI 0), .int (zI 0)])), (tp_5, .inr (4, [.ref ti_6, .int (zI (-1)), .int (zI (-1))])), zA cI ti_6 100 (fun _ => 0), (q_8, .inr (0, [.int (zI 0), .int (zI 0), .int (zI 0)])), (q_11, .inr (3, [.ref de_13, .ref fi_14, .ref qu_15, .ref pr_16, .int (zI 0), .int (zI (-1)), .int (zI (-1))])), zA cI de_13 480 (fun _ => 0), zA cI fi_14 480 (fun _ => 0), zA cI qu_15 480 (fun _ => 0), (pr_16, .inr (0, [.int (zI 0), .int (zI 0), .int (zI 0)]))] H := hP
  have hD : va_D A [(sl, .inr (5, [.ref q_1, .int (zI 0), .ref q_2, .ref q_8, .ref q_11])), zQ cL q_1 6 (fun _ => none), (q_2, .inr (2, [.ref rh_4, .ref tp_5, .null, .int (zI 0), .int (zI 0)])), (rh_4, .inr (0, [.int (zI 0), .int (zI 0), .int (zI 0)])), (tp_5, .inr (4, [.ref ti_6, .int (zI (-1)), .int (zI (-1))])), zA cI ti_6 100 (fun _ => 0), (q_8, .inr (0, [.int (zI 0), .int (zI 0), .int (zI 0)])), (q_11, .inr (3, [.ref de_13, .ref fi_14, .ref qu_15, .ref pr_16, .int (zI 0), .int (zI (-1)), .int (zI (-1))])), zA cI de_13 480 (fun _ => 0), zA cI fi_14 480 (fun _ => 0), zA cI qu_15 480 (fun _ => 0), (pr_16, .inr (0, [.int (zI 0), .int (zI 0), .int (zI 0)]))] := hD
  have hP9 := hP.sub (ws' := [(sl, .inr (5, [.ref q_1, .int (zI 0), .ref q_2, .ref q_8, .ref q_11])), zQ cL q_1 6 (fun _ => none), (q_2, .inr (2, [.ref rh_4, .ref tp_5, .null, .int (zI 0), .int (zI 0)])), (rh_4, .inr (0, [.int (zI 0), .int (zI 0), .int (zI 0)])), (tp_5, .inr (4, [.ref ti_6, .int (zI (-1)), .int (zI (-1))])), zA cI ti_6 100 (fun _ => 0), (q_8, .inr (0, [.int (zI 0), .int (zI 0), .int (zI 0)])), (q_11, .inr (3, [.ref de_13, .ref fi_14, .ref qu_15, .ref pr_16, .int (zI 0), .int (zI (-1)), .int (zI (-1))])), zA cI de_13 480 (fun _ => 0), zA cI fi_14 480 (fun _ => 0), zA cI qu_15 480 (fun _ => 0), (pr_16, .inr (0, [.int (zI 0), .int (zI 0), .int (zI 0)]))]) [0, 1, 2, 3, 4, 5, 6, 7, 8, 9, 10, 11] rfl
  have hD9 := hD.sub (ws' := [(sl, .inr (5, [.ref q_1, .int (zI 0), .ref q_2, .ref q_8, .ref q_11])), zQ cL q_1 6 (fun _ => none), (q_2, .inr (2, [.ref rh_4, .ref tp_5, .null, .int (zI 0), .int (zI 0)])), (rh_4, .inr (0, [.int (zI 0), .int (zI 0), .int (zI 0)])), (tp_5, .inr (4, [.ref ti_6, .int (zI (-1)), .int (zI (-1))])), zA cI ti_6 100 (fun _ => 0), (q_8, .inr (0, [.int (zI 0), .int (zI 0), .int (zI 0)])), (q_11, .inr (3, [.ref de_13, .ref fi_14, .ref qu_15, .ref pr_16, .int (zI 0), .int (zI (-1)), .int (zI (-1))])), zA cI de_13 480 (fun _ => 0), zA cI fi_14 480 (fun _ => 0), zA cI qu_15 480 (fun _ => 0), (pr_16, .inr (0, [.int (zI 0), .int (zI 0), .int (zI 0)]))]) [0, 1, 2, 3, 4, 5, 6, 7, 8, 9, 10, 11] (by decide) rfl
  refine W.widen (k := 11) (n := 1570) (Nat.le_of_ble_eq_true rfl) (Nat.le_of_ble_eq_true rfl) ?_
  have po : (True) := by
    trivial
  exact W.vret hx hb hr (fun t ht hW => ⟨⟨(q_1, q_2, q_8, q_11, rh_4, tp_5, ti_6, de_13, fi_14, qu_15, pr_16), rfl, po, by rw [ht]; exact hP9, va_K.moved hW.alike hK, hD9⟩, hS.F ht⟩) hS.2.2 dX5_init_51
set_option maxHeartbeats 4000000 in
set_option maxRecDepth 100000 in
theorem c_X5_addLevel (l : Launch) (dC : Nat → ClassId) (dI : Nat → Nat → Nat) (cI cZ cL cT cJ : ClassId) (sz : Nat) (sl : Nat) (sh : Nat) (lc : Int) (ru : Nat) (tr : Nat) (se : Nat) (sf : Nat → Option Nat) (k : Nat) (a : Int) (b : Int) (ga : 2 ≤ a ∧ a ≤ 12) (gb : 2 ≤ b ∧ b ≤ 8) (gk : lc = (k : Int) ∧ k < 6) : Met l yX5_addLevel wsX5_addLevel ({ frames := 3, cells := 11, slots := 522, locals := 69 }) (zPo (dC, dI) (zT cI cZ cL cT cJ) sz [.ref sl, .int (zI a), .int (zI b)] [(sl, .inr (5, [.ref sh, .int (zI lc), .ref ru, .ref tr, .ref se])), zQ cL sh 6 sf]) (va_Qi (fun (r9 : Int32) (u9 : Nat × Nat × Nat × Nat × Nat × Nat × Nat × Nat × Nat × Nat × Nat × (Int → Int) × (Nat → Option Nat)) => match u9 with | (lv, ka, ta, t0, t1, t2, t3, j0, j1, j2, j3, K1, tq) => r9 = zI lc ∧ (Kin K1 ∧ (∀ x y, 0 ≤ x → x < a → 0 ≤ y → y < b → K1 (y * 12 + x) = if y = b - 1 then 1 else 0) ∧ tq 0 = some t0 ∧ tq 1 = some t1 ∧ tq 2 = some t2 ∧ tq 3 = some t3)) (zB (dC, dI) (zT cI cZ cL cT cJ) (va_A [(sl, .inr (5, [.ref sh, .int (zI lc), .ref ru, .ref tr, .ref se])), zQ cL sh 6 sf] sz) (fun (u9 : Nat × Nat × Nat × Nat × Nat × Nat × Nat × Nat × Nat × Nat × Nat × (Int → Int) × (Nat → Option Nat)) => match u9 with | (lv, ka, ta, t0, t1, t2, t3, j0, j1, j2, j3, K1, tq) => [(sl, .inr (5, [.ref sh, .int (zI (lc + 1)), .ref ru, .ref tr, .ref se])), zQ cL sh 6 (va_up sf k (some lv)), (lv, .inr (1, [.int (zI a), .int (zI b), .ref ka, .ref ta, .int (zI 0), .int (zI (b - 2)), .int (zI (a - 1)), .int (zI (b - 2)), .int (zI (-1)), .int (zI 0)])), zA cI ka 96 K1, zQ cT ta 4 tq, (t0, .inr (4, [.ref j0, .int (zI (-1)), .int (zI (-1))])), (t1, .inr (4, [.ref j1, .int (zI (-1)), .int (zI (-1))])), (t2, .inr (4, [.ref j2, .int (zI (-1)), .int (zI (-1))])), (t3, .inr (4, [.ref j3, .int (zI (-1)), .int (zI (-1))])), zA cI j0 100 (fun _ => 0), zA cI j1 100 (fun _ => 0), zA cI j2 100 (fun _ => 0), zA cI j3 100 (fun _ => 0)])) (va_A [(sl, .inr (5, [.ref sh, .int (zI lc), .ref ru, .ref tr, .ref se])), zQ cL sh 6 sf] sz)) 11 522 (va_A [(sl, .inr (5, [.ref sh, .int (zI lc), .ref ru, .ref tr, .ref se])), zQ cL sh 6 sf] sz) := by
  refine Met.ofW (cc := cX5_addLevel) (maxL := 4) (ret := (some .int)) (by decide) rfl ?_
  intro p e s m args below meth c s₁ B hml hv
  obtain ⟨rfl, hsz, hP, hK, hD0, hAo⟩ := hv
  have hx := B.exec
  have hb := B.bytes
  have hr := B.returns
  have hts := atoms_spec (ws := wsX5_addLevel) B.pre
  have hown : s.vm.findClass RX5 = some m.cls := findClass_of_methodNamed B.named
  have hlocks := B.notSynchronized
  subst hsz
  have hD := hD0.self (sz := s.heap.size)
  generalize hAe : va_A [(sl, .inr (5, [.ref sh, .int (zI lc), .ref ru, .ref tr, .ref se])), zQ cL sh 6 sf] s.heap.size = A at hD ⊢
  have hA : ∀ q : Nat, s.heap.size ≤ q → A q := fun q h => by rw [← hAe]; exact Or.inr h
  clear hAe hD0
  have hS : va_S A s.heap s.heap [] := va_S.rf
  have hP : va_P (dC, dI) vwCl [(sl, .inr (5, [.ref sh, .int (zI lc), .ref ru, .ref tr, .ref se])), zQ cL sh 6 sf] s.heap := hP
  have f_11 := hts (.fieldLink RX5 11 "SpringLevels" "shelf" "[LSpringLevels$Level;") (by decide +kernel)
  have f_15 := hts (.fieldLink RX5 15 "SpringLevels" "levelCount" "I") (by decide +kernel)
  have i_1 : ∀ w ∈ wsX10, w ∈ wsX5_addLevel := by decide +kernel
  have i_5 : ∀ w ∈ wsX50, w ∈ wsX5_addLevel := by decide +kernel
  have hl := lv_entry ([.ref sl, .int (zI a), .int (zI b)]) (n := 4) (Nat.le_of_ble_eq_true rfl)
  rw [lg_entry_eq]
  generalize (lg_sl ([.ref sl, .int (zI a), .int (zI b)]) ++ List.replicate (4 - (lg_sl ([.ref sl, .int (zI a), .int (zI b)])).length) Slot.unset).toArray = ls at hl ⊢
  have hl : lv_has ls 4 [(0, .ref sl), (1, .int (zI a)), (2, .int (zI b))] := hl
  refine lv_iload_n hx hb dX5_addLevel_0 rfl (lv_at hl 1 rfl) ?_
  refine lv_iconst (v := zI 2) hx hb dX5_addLevel_1 (rfl) ?_
  refine lz_icmp_lt (tgt := 22) hx hb dX5_addLevel_2 (by decide) (by omega) ⟨by decide, by decide⟩ (fun c_1 => ?_) (fun c_1 => ?_)
  · exfalso; omega
  ·
    refine lv_iload_n hx hb dX5_addLevel_5 rfl (lv_at hl 1 rfl) ?_
    refine lv_bipush (v := zI 12) hx hb dX5_addLevel_6 (by decide) ?_
    refine lz_icmp_gt (tgt := 22) hx hb dX5_addLevel_8 (by decide) (by omega) ⟨by decide, by decide⟩ (fun c_2 => ?_) (fun c_2 => ?_)
    · exfalso; omega
    ·
      refine lv_iload_n hx hb dX5_addLevel_11 rfl (lv_at hl 2 rfl) ?_
      refine lv_iconst (v := zI 2) hx hb dX5_addLevel_12 (rfl) ?_
      refine lz_icmp_lt (tgt := 22) hx hb dX5_addLevel_13 (by decide) (by omega) ⟨by decide, by decide⟩ (fun c_3 => ?_) (fun c_3 => ?_)
      · exfalso; omega
      ·
        refine lv_iload_n hx hb dX5_addLevel_16 rfl (lv_at hl 2 rfl) ?_
        refine lv_bipush (v := zI 8) hx hb dX5_addLevel_17 (by decide) ?_
        refine lz_icmp_le (tgt := 32) hx hb dX5_addLevel_19 (by decide) (by omega) ⟨by decide, by decide⟩ (fun c_4 => ?_) (fun c_4 => ?_)
        ·
          refine lv_aload_n hx hb dX5_addLevel_32 rfl (lv_at hl 0 rfl) ?_
          refine va_get (D := (dC, dI)) (ci := 5) (v := .int (zI lc)) (C := RX5) (T := TX5) (N := 5) hx hb hts i_5 hown hK hP 0 rfl rfl 1 (by decide) f_15 (fun _ h9 => h9) rfl dX5_addLevel_33 ?_
          refine lz_if_lt (tgt := 51) hx hb dX5_addLevel_36 (by decide) (by omega) (fun c_5 => ?_) (fun c_5 => ?_)
          · exfalso; omega
          ·
            refine lv_aload_n hx hb dX5_addLevel_39 rfl (lv_at hl 0 rfl) ?_
            refine va_get (D := (dC, dI)) (ci := 5) (v := .int (zI lc)) (C := RX5) (T := TX5) (N := 5) hx hb hts i_5 hown hK hP 0 rfl rfl 1 (by decide) f_15 (fun _ h9 => h9) rfl dX5_addLevel_40 ?_
            refine lv_aload_n hx hb dX5_addLevel_43 rfl (lv_at hl 0 rfl) ?_
            refine va_get (D := (dC, dI)) (ci := 5) (v := .ref sh) (C := RX5) (T := TX5) (N := 5) hx hb hts i_5 hown hK hP 0 rfl rfl 0 (by decide) f_11 (fun _ h9 => h9) rfl dX5_addLevel_44 ?_
            refine va_alen (v := zI 6) hx hb hK hP 1 2 rfl rfl rfl dX5_addLevel_47 ?_
            refine lz_icmp_lt (tgt := 61) hx hb dX5_addLevel_48 (by decide) (by omega) ⟨by decide, by decide⟩ (fun c_6 => ?_) (fun c_6 => ?_)
            ·
              refine lv_aload_n hx hb dX5_addLevel_61 rfl (lv_at hl 0 rfl) ?_
              refine va_get (D := (dC, dI)) (ci := 5) (v := .int (zI lc)) (C := RX5) (T := TX5) (N := 5) hx hb hts i_5 hown hK hP 0 rfl rfl 1 (by decide) f_15 (fun _ h9 => h9) rfl dX5_addLevel_62 ?_
              refine lv_istore_n (lv' := [(3, .int (zI lc)), (0, .ref sl), (1, .int (zI a)), (2, .int (zI b))]) hx hb dX5_addLevel_65 rfl hl (by decide) rfl (fun ls hl => ?_)
              refine lv_aload_n hx hb dX5_addLevel_66 rfl (lv_at hl 1 rfl) ?_
              refine va_get (D := (dC, dI)) (ci := 5) (v := .ref sh) (C := RX5) (T := TX5) (N := 5) hx hb hts i_5 hown hK hP 0 rfl rfl 0 (by decide) f_11 (fun _ h9 => h9) rfl dX5_addLevel_67 ?_
              refine lv_iload_n hx hb dX5_addLevel_70 rfl (lv_at hl 0 rfl) ?_
              refine va_new (ci := 1) (fs := [.int (zI 0), .int (zI 0), .null, .null, .int (zI 0), .int (zI 0), .int (zI 0), .int (zI 0), .int (zI 0), .int (zI 0)]) (C := RX1) (T := TX1) (N := 10) hx hb hts i_1 tyX1 tyX1_ok hown (hts (.classLink RX5 9 RX1) (by decide +kernel)) (hts (.instantiable RX1 10) (by decide +kernel)) (hts (.initialized RX1) (by decide +kernel)) hK hP hD hS hA rfl (fun j hj => by rcases (show j = 0 ∨ j = 1 ∨ j = 2 ∨ j = 3 ∨ j = 4 ∨ j = 5 ∨ j = 6 ∨ j = 7 ∨ j = 8 ∨ j = 9 by omega) with rfl | rfl | rfl | rfl | rfl | rfl | rfl | rfl | rfl | rfl <;> rfl) (Nat.le_of_ble_eq_true rfl) (Nat.le_of_ble_eq_true rfl) dX5_addLevel_71 (fun q_7 H hP hD hS => ?_)
              have hP : va_P (dC, dI) vwCl [(sl, .inr (5, [.ref sh, .int (zI lc), .ref ru, .ref tr, .ref se])), zQ cL sh 6 sf, (q_7, .inr (1, [.int (zI 0), .int (zI 0), .null, .null, .int (zI 0), .int (zI 0), .int (zI 0), .int (zI 0), .int (zI 0), .int (zI 0)]))] H := hP
              have hD : va_D A [(sl, .inr (5, [.ref sh, .int (zI lc), .ref ru, .ref tr, .ref se])), zQ cL sh 6 sf, (q_7, .inr (1, [.int (zI 0), .int (zI 0), .null, .null, .int (zI 0), .int (zI 0), .int (zI 0), .int (zI 0), .int (zI 0), .int (zI 0)]))] := hD
              refine lv_dup hx hb dX5_addLevel_74 rfl ?_
              refine lv_iload_n hx hb dX5_addLevel_75 rfl (lv_at hl 2 rfl) ?_
              refine lv_iload_n hx hb dX5_addLevel_76 rfl (lv_at hl 3 rfl) ?_
              have hPc := hP.sub (ws' := [(q_7, .inr (1, [.int (zI 0), .int (zI 0), .null, .null, .int (zI 0), .int (zI 0), .int (zI 0), .int (zI 0), .int (zI 0), .int (zI 0)]))]) [2] rfl
              have hDc := hD.sub (ws' := [(q_7, .inr (1, [.int (zI 0), .int (zI 0), .null, .null, .int (zI 0), .int (zI 0), .int (zI 0), .int (zI 0), .int (zI 0), .int (zI 0)]))]) [2] (by decide) rfl
              have hFc := va_free (wc := [(q_7, .inr (1, [.int (zI 0), .int (zI 0), .null, .null, .int (zI 0), .int (zI 0), .int (zI 0), .int (zI 0), .int (zI 0), .int (zI 0)]))]) hD hS hA [2] rfl
              refine va_callv (va_runI (As := [.int (zI a), .int (zI b)]) (rest := [.ref q_7, .int (zI lc), .ref sh]) ⟨hx, hb, hml, hown, hts⟩ (c_X1_init l dC dI cI cZ cL cT cJ H.size q_7 a b (by first | assumption | omega) (by first | assumption | omega)) (cwI 2 hts ggX5_addLevel_X1_init rfl rfl rfl (hts (.initialized RX1) (by decide +kernel)) (hts (.methodLink RX5 52 yX1_init) (by decide +kernel)) (hts (.instanceMethod yX1_init) (by decide +kernel)) rfl (by decide +kernel) ⟨Nat.le_of_ble_eq_true rfl, Nat.le_of_ble_eq_true rfl⟩) ⟨zPo_blind, zPo_pre hPc hDc hK hAo⟩ rfl rfl hl.1 rfl (lv_room (Nat.le_of_ble_eq_true rfl)) dX5_addLevel_77 ⟨Nat.le_of_ble_eq_true rfl, Nat.le_of_ble_eq_true rfl⟩) hS (fun q _ h => hFc q h) hFc (fun u_8 t H1 locs ht hvm hw hB hz1 hk1 hS => ?_)
              obtain ⟨ka_9, ta_10, t0_11, t1_12, t2_13, t3_14, j0_15, j1_16, j2_17, j3_18, K1_19, tq_20⟩ := u_8
              obtain ⟨hP1, hK1, hD1⟩ := hB
              rw [ht] at hP1
              have hP1 : va_P (dC, dI) vwCl [(q_7, .inr (1, [.int (zI a), .int (zI b), .ref ka_9, .ref ta_10, .int (zI 0), .int (zI (b - 2)), .int (zI (a - 1)), .int (zI (b - 2)), .int (zI (-1)), .int (zI 0)])), zA cI ka_9 96 K1_19, zQ cT ta_10 4 tq_20, (t0_11, .inr (4, [.ref j0_15, .int (zI (-1)), .int (zI (-1))])), (t1_12, .inr (4, [.ref j1_16, .int (zI (-1)), .int (zI (-1))])), (t2_13, .inr (4, [.ref j2_17, .int (zI (-1)), .int (zI (-1))])), (t3_14, .inr (4, [.ref j3_18, .int (zI (-1)), .int (zI (-1))])), zA cI j0_15 100 (fun _ => 0), zA cI j1_16 100 (fun _ => 0), zA cI j2_17 100 (fun _ => 0), zA cI j3_18 100 (fun _ => 0)] H1 := hP1
              obtain ⟨hP, hD⟩ := va_join (wr := [(sl, .inr (5, [.ref sh, .int (zI lc), .ref ru, .ref tr, .ref se])), zQ cL sh 6 sf]) (w1 := [(q_7, .inr (1, [.int (zI a), .int (zI b), .ref ka_9, .ref ta_10, .int (zI 0), .int (zI (b - 2)), .int (zI (a - 1)), .int (zI (b - 2)), .int (zI (-1)), .int (zI 0)])), zA cI ka_9 96 K1_19, zQ cT ta_10 4 tq_20, (t0_11, .inr (4, [.ref j0_15, .int (zI (-1)), .int (zI (-1))])), (t1_12, .inr (4, [.ref j1_16, .int (zI (-1)), .int (zI (-1))])), (t2_13, .inr (4, [.ref j2_17, .int (zI (-1)), .int (zI (-1))])), (t3_14, .inr (4, [.ref j3_18, .int (zI (-1)), .int (zI (-1))])), zA cI j0_15 100 (fun _ => 0), zA cI j1_16 100 (fun _ => 0), zA cI j2_17 100 (fun _ => 0), zA cI j3_18 100 (fun _ => 0)]) hP hD [2] [0, 1] rfl rfl (by decide) (by decide) hk1 hFc hP1 hD1
              clear hP1 hD1 hk1 hFc hPc hDc hz1
              generalize H1 = H at hP hS ⊢
              have hP : va_P (dC, dI) vwCl [(sl, .inr (5, [.ref sh, .int (zI lc), .ref ru, .ref tr, .ref se])), zQ cL sh 6 sf, (q_7, .inr (1, [.int (zI a), .int (zI b), .ref ka_9, .ref ta_10, .int (zI 0), .int (zI (b - 2)), .int (zI (a - 1)), .int (zI (b - 2)), .int (zI (-1)), .int (zI 0)])), zA cI ka_9 96 K1_19, zQ cT ta_10 4 tq_20, (t0_11, .inr (4, [.ref j0_15, .int (zI (-1)), .int (zI (-1))])), (t1_12, .inr (4, [.ref j1_16, .int (zI (-1)), .int (zI (-1))])), (t2_13, .inr (4, [.ref j2_17, .int (zI (-1)), .int (zI (-1))])), (t3_14, .inr (4, [.ref j3_18, .int (zI (-1)), .int (zI (-1))])), zA cI j0_15 100 (fun _ => 0), zA cI j1_16 100 (fun _ => 0), zA cI j2_17 100 (fun _ => 0), zA cI j3_18 100 (fun _ => 0)] H := hP.sub [0, 1, 2, 3, 4, 5, 6, 7, 8, 9, 10, 11, 12] rfl
              have hD : va_D A [(sl, .inr (5, [.ref sh, .int (zI lc), .ref ru, .ref tr, .ref se])), zQ cL sh 6 sf, (q_7, .inr (1, [.int (zI a), .int (zI b), .ref ka_9, .ref ta_10, .int (zI 0), .int (zI (b - 2)), .int (zI (a - 1)), .int (zI (b - 2)), .int (zI (-1)), .int (zI 0)])), zA cI ka_9 96 K1_19, zQ cT ta_10 4 tq_20, (t0_11, .inr (4, [.ref j0_15, .int (zI (-1)), .int (zI (-1))])), (t1_12, .inr (4, [.ref j1_16, .int (zI (-1)), .int (zI (-1))])), (t2_13, .inr (4, [.ref j2_17, .int (zI (-1)), .int (zI (-1))])), (t3_14, .inr (4, [.ref j3_18, .int (zI (-1)), .int (zI (-1))])), zA cI j0_15 100 (fun _ => 0), zA cI j1_16 100 (fun _ => 0), zA cI j2_17 100 (fun _ => 0), zA cI j3_18 100 (fun _ => 0)] := hD.sub [0, 1, 2, 3, 4, 5, 6, 7, 8, 9, 10, 11, 12] (by decide) rfl
              clear hK1 hvm
              have po_21 : Kin K1_19 ∧ (∀ x y, 0 ≤ x → x < a → 0 ≤ y → y < b → K1_19 (y * 12 + x) = if y = b - 1 then 1 else 0) ∧ tq_20 0 = some t0_11 ∧ tq_20 1 = some t1_12 ∧ tq_20 2 = some t2_13 ∧ tq_20 3 = some t3_14 := hw
              refine W.eq (g2 := F0 m 80 ls [.ref q_7, .int (zI lc), .ref sh]) rfl ?_
              refine lz_astq (k := k) (f := sf) hx hb hK hP hD hS 1 2 2 1 rfl rfl rfl rfl (by omega) (by omega) (by decide) dX5_addLevel_80 (fun H locs hP hD hS => ?_)
              have hP : va_P (dC, dI) vwCl [(sl, .inr (5, [.ref sh, .int (zI lc), .ref ru, .ref tr, .ref se])), zQ cL sh 6 (va_up sf k (some q_7)), (q_7, .inr (1, [.int (zI a), .int (zI b), .ref ka_9, .ref ta_10, .int (zI 0), .int (zI (b - 2)), .int (zI (a - 1)), .int (zI (b - 2)), .int (zI (-1)), .int (zI 0)])), zA cI ka_9 96 K1_19, zQ cT ta_10 4 tq_20, (t0_11, .inr (4, [.ref j0_15, .int (zI (-1)), .int (zI (-1))])), (t1_12, .inr (4, [.ref j1_16, .int (zI (-1)), .int (zI (-1))])), (t2_13, .inr (4, [.ref j2_17, .int (zI (-1)), .int (zI (-1))])), (t3_14, .inr (4, [.ref j3_18, .int (zI (-1)), .int (zI (-1))])), zA cI j0_15 100 (fun _ => 0), zA cI j1_16 100 (fun _ => 0), zA cI j2_17 100 (fun _ => 0), zA cI j3_18 100 (fun _ => 0)] H := hP
              have hD : va_D A [(sl, .inr (5, [.ref sh, .int (zI lc), .ref ru, .ref tr, .ref se])), zQ cL sh 6 (va_up sf k (some q_7)), (q_7, .inr (1, [.int (zI a), .int (zI b), .ref ka_9, .ref ta_10, .int (zI 0), .int (zI (b - 2)), .int (zI (a - 1)), .int (zI (b - 2)), .int (zI (-1)), .int (zI 0)])), zA cI ka_9 96 K1_19, zQ cT ta_10 4 tq_20, (t0_11, .inr (4, [.ref j0_15, .int (zI (-1)), .int (zI (-1))])), (t1_12, .inr (4, [.ref j1_16, .int (zI (-1)), .int (zI (-1))])), (t2_13, .inr (4, [.ref j2_17, .int (zI (-1)), .int (zI (-1))])), (t3_14, .inr (4, [.ref j3_18, .int (zI (-1)), .int (zI (-1))])), zA cI j0_15 100 (fun _ => 0), zA cI j1_16 100 (fun _ => 0), zA cI j2_17 100 (fun _ => 0), zA cI j3_18 100 (fun _ => 0)] := hD
              refine lv_aload_n hx hb dX5_addLevel_81 rfl (lv_at hl 1 rfl) ?_
              refine lv_iload_n hx hb dX5_addLevel_82 rfl (lv_at hl 0 rfl) ?_
              refine lv_iconst (v := zI 1) hx hb dX5_addLevel_83 (rfl) ?_
              refine lz_iadd (z := lc + 1) hx hb dX5_addLevel_84 (by rfl) ?_
              refine va_put (D := (dC, dI)) (ci := 5) (v := .int (zI (lc + 1))) (ty := .int) (C := RX5) (T := TX5) (N := 5) hx hb hts i_5 tyX5 tyX5_ok nmX5 hown hK hP hD hS 0 rfl rfl 1 (by decide) f_15 (fun _ h9 => h9) rfl (by decide +kernel) rfl rfl (Nat.le_of_ble_eq_true rfl) dX5_addLevel_85 (fun H locs hP hD hS => ?_)
              have hP : va_P (dC, dI) vwCl [(sl, .inr (5, [.ref sh, .int (zI (lc + 1)), .ref ru, .ref tr, .ref se])), zQ cL sh 6 (va_up sf k (some q_7)), (q_7, .inr (1, [.int (zI a), .int (zI b), .ref ka_9, .ref ta_10, .int (zI 0), .int (zI (b - 2)), .int (zI (a - 1)), .int (zI (b - 2)), .int (zI (-1)), .int (zI 0)])), zA cI ka_9 96 K1_19, zQ cT ta_10 4 tq_20, (t0_11, .inr (4, [.ref j0_15, .int (zI (-1)), .int (zI (-1))])), (t1_12, .inr (4, [.ref j1_16, .int (zI (-1)), .int (zI (-1))])), (t2_13, .inr (4, [.ref j2_17, .int (zI (-1)), .int (zI (-1))])), (t3_14, .inr (4, [.ref j3_18, .int (zI (-1)), .int (zI (-1))])), zA cI j0_15 100 (fun _ => 0), zA cI j1_16 100 (fun _ => 0), zA cI j2_17 100 (fun _ => 0), zA cI j3_18 100 (fun _ => 0)] H := hP
              have hD : va_D A [(sl, .inr (5, [.ref sh, .int (zI (lc + 1)), .ref ru, .ref tr, .ref se])), zQ cL sh 6 (va_up sf k (some q_7)), (q_7, .inr (1, [.int (zI a), .int (zI b), .ref ka_9, .ref ta_10, .int (zI 0), .int (zI (b - 2)), .int (zI (a - 1)), .int (zI (b - 2)), .int (zI (-1)), .int (zI 0)])), zA cI ka_9 96 K1_19, zQ cT ta_10 4 tq_20, (t0_11, .inr (4, [.ref j0_15, .int (zI (-1)), .int (zI (-1))])), (t1_12, .inr (4, [.ref j1_16, .int (zI (-1)), .int (zI (-1))])), (t2_13, .inr (4, [.ref j2_17, .int (zI (-1)), .int (zI (-1))])), (t3_14, .inr (4, [.ref j3_18, .int (zI (-1)), .int (zI (-1))])), zA cI j0_15 100 (fun _ => 0), zA cI j1_16 100 (fun _ => 0), zA cI j2_17 100 (fun _ => 0), zA cI j3_18 100 (fun _ => 0)] := hD
              refine lv_iload_n hx hb dX5_addLevel_88 rfl (lv_at hl 0 rfl) ?_
              have hP9 := hP.sub (ws' := [(sl, .inr (5, [.ref sh, .int (zI (lc + 1)), .ref ru, .ref tr, .ref se])), zQ cL sh 6 (va_up sf k (some q_7)), (q_7, .inr (1, [.int (zI a), .int (zI b), .ref ka_9, .ref ta_10, .int (zI 0), .int (zI (b - 2)), .int (zI (a - 1)), .int (zI (b - 2)), .int (zI (-1)), .int (zI 0)])), zA cI ka_9 96 K1_19, zQ cT ta_10 4 tq_20, (t0_11, .inr (4, [.ref j0_15, .int (zI (-1)), .int (zI (-1))])), (t1_12, .inr (4, [.ref j1_16, .int (zI (-1)), .int (zI (-1))])), (t2_13, .inr (4, [.ref j2_17, .int (zI (-1)), .int (zI (-1))])), (t3_14, .inr (4, [.ref j3_18, .int (zI (-1)), .int (zI (-1))])), zA cI j0_15 100 (fun _ => 0), zA cI j1_16 100 (fun _ => 0), zA cI j2_17 100 (fun _ => 0), zA cI j3_18 100 (fun _ => 0)]) [0, 1, 2, 3, 4, 5, 6, 7, 8, 9, 10, 11, 12] rfl
              have hD9 := hD.sub (ws' := [(sl, .inr (5, [.ref sh, .int (zI (lc + 1)), .ref ru, .ref tr, .ref se])), zQ cL sh 6 (va_up sf k (some q_7)), (q_7, .inr (1, [.int (zI a), .int (zI b), .ref ka_9, .ref ta_10, .int (zI 0), .int (zI (b - 2)), .int (zI (a - 1)), .int (zI (b - 2)), .int (zI (-1)), .int (zI 0)])), zA cI ka_9 96 K1_19, zQ cT ta_10 4 tq_20, (t0_11, .inr (4, [.ref j0_15, .int (zI (-1)), .int (zI (-1))])), (t1_12, .inr (4, [.ref j1_16, .int (zI (-1)), .int (zI (-1))])), (t2_13, .inr (4, [.ref j2_17, .int (zI (-1)), .int (zI (-1))])), (t3_14, .inr (4, [.ref j3_18, .int (zI (-1)), .int (zI (-1))])), zA cI j0_15 100 (fun _ => 0), zA cI j1_16 100 (fun _ => 0), zA cI j2_17 100 (fun _ => 0), zA cI j3_18 100 (fun _ => 0)]) [0, 1, 2, 3, 4, 5, 6, 7, 8, 9, 10, 11, 12] (by decide) rfl
              refine W.widen (k := 11) (n := 522) (Nat.le_of_ble_eq_true rfl) (Nat.le_of_ble_eq_true rfl) ?_
              have po : zI lc = zI lc ∧ (Kin K1_19 ∧ (∀ x y, 0 ≤ x → x < a → 0 ≤ y → y < b → K1_19 (y * 12 + x) = if y = b - 1 then 1 else 0) ∧ tq_20 0 = some t0_11 ∧ tq_20 1 = some t1_12 ∧ tq_20 2 = some t2_13 ∧ tq_20 3 = some t3_14) := by
                refine ⟨by first | rfl | (congr 1; omega) | (congr 1; simp [*]), ?_⟩
                exact po_21
              exact W.iret (v := zI lc) hx hb hr (fun t ht hW => ⟨⟨zI lc, (q_7, ka_9, ta_10, t0_11, t1_12, t2_13, t3_14, j0_15, j1_16, j2_17, j3_18, K1_19, tq_20), rfl, po, by rw [ht]; exact hP9, va_K.moved hW.alike hK, hD9⟩, hS.F ht⟩) hS.2.2 dX5_addLevel_89
            · exfalso; omega
        · exfalso; omega
