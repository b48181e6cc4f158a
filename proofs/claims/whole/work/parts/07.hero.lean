set_option maxHeartbeats 4000000 in
set_option maxRecDepth 100000 in
/-- Hero() -/
theorem c_X0_init (l : Launch) (dC : Nat → ClassId) (dI : Nat → Nat → Nat) (cI cZ cL cT cJ : ClassId) (sz : Nat) (he : Nat) (x : Int) (y : Int) (li : Int)  : Met l yX0_init wsX0_init ({ frames := 1, cells := 0, slots := 0, locals := 12 }) (zP (dC, dI) (zT cI cZ cL cT cJ) sz [.ref he] [(he, .inr (0, [.int (zI x), .int (zI y), .int (zI li)]))]) (va_Qv (fun (u9 : Unit) => match u9 with | _ => (True)) (zB (dC, dI) (zT cI cZ cL cT cJ) (va_A [(he, .inr (0, [.int (zI x), .int (zI y), .int (zI li)]))] sz) (fun (u9 : Unit) => match u9 with | _ => [(he, .inr (0, [.int (zI x), .int (zI y), .int (zI li)]))])) (va_A [(he, .inr (0, [.int (zI x), .int (zI y), .int (zI li)]))] sz)) 0 0 (va_A [(he, .inr (0, [.int (zI x), .int (zI y), .int (zI li)]))] sz) := by
  refine Met.ofW (cc := cX0_init) (maxL := 1) (ret := none) (by decide) rfl ?_
  intro p e s m args below meth c s₁ B hml hv
  obtain ⟨rfl, hsz, hP, hK, hD0⟩ := hv
  have hx := B.exec
  have hb := B.bytes
  have hr := B.returns
  have hts := atoms_spec (ws := wsX0_init) B.pre
  have hown : s.vm.findClass RX0 = some m.cls := findClass_of_methodNamed B.named
  have hlocks := B.notSynchronized
  have hin : meth.name = "<init>" := (name_of_methodNamed B.named B.method).1
  subst hsz
  have hD := hD0.self (sz := s.heap.size)
  generalize hAe : va_A [(he, .inr (0, [.int (zI x), .int (zI y), .int (zI li)]))] s.heap.size = A at hD ⊢
  have hA : ∀ q : Nat, s.heap.size ≤ q → A q := fun q h => by rw [← hAe]; exact Or.inr h
  clear hAe hD0
  have hS : va_S A s.heap s.heap [] := va_S.rf
  have hP : va_P (dC, dI) vwCl [(he, .inr (0, [.int (zI x), .int (zI y), .int (zI li)]))] s.heap := hP
  have hl := lv_entry ([.ref he]) (n := 1) (Nat.le_of_ble_eq_true rfl)
  rw [lg_entry_eq]
  generalize (lg_sl ([.ref he]) ++ List.replicate (1 - (lg_sl ([.ref he])).length) Slot.unset).toArray = ls at hl ⊢
  have hl : lv_has ls 1 [(0, .ref he)] := hl
  refine lv_aload_n hx hb dX0_init_0 rfl (lv_at hl 0 rfl) ?_
  refine W.objInit hx hb hown (hts (.methodLink RX0 3 objectInit) (by decide +kernel)) (hts (.instanceMethod objectInit) (by decide +kernel)) (hts (.code objectInit ⟨#[0xb1]⟩ 1 none) (by decide +kernel)) rfl (by rw [hml]; exact hl.1) rfl dX0_init_1 (Nat.le_of_ble_eq_true rfl) (Nat.le_of_ble_eq_true rfl) ?_
  refine W.eq (g2 := F0 m 4 ls []) rfl ?_
  have hP9 := hP.sub (ws' := [(he, .inr (0, [.int (zI x), .int (zI y), .int (zI li)]))]) [0] rfl
  have hD9 := hD.sub (ws' := [(he, .inr (0, [.int (zI x), .int (zI y), .int (zI li)]))]) [0] (by decide) rfl
  have po : (True) := by
    trivial
  exact W.vret hx hb hr (fun t ht hW => ⟨⟨(), rfl, po, by rw [ht]; exact hP9, va_K.moved hW.alike hK, hD9⟩, hS.F ht⟩) hS.2.2 dX0_init_4
set_option maxHeartbeats 4000000 in
set_option maxRecDepth 100000 in
/-- Hero.place -/
theorem c_X0_place (l : Launch) (dC : Nat → ClassId) (dI : Nat → Nat → Nat) (cI cZ cL cT cJ : ClassId) (sz : Nat) (he : Nat) (x : Int) (y : Int) (li : Int) (nx : Int) (ny : Int) (nl : Int)  : Met l yX0_place wsX0_place ({ frames := 0, cells := 0, slots := 0, locals := 0 }) (zP (dC, dI) (zT cI cZ cL cT cJ) sz [.ref he, .int (zI nx), .int (zI ny), .int (zI nl)] [(he, .inr (0, [.int (zI x), .int (zI y), .int (zI li)]))]) (va_Qv (fun (u9 : Unit) => match u9 with | _ => (True)) (zB (dC, dI) (zT cI cZ cL cT cJ) (va_A [(he, .inr (0, [.int (zI x), .int (zI y), .int (zI li)]))] sz) (fun (u9 : Unit) => match u9 with | _ => [(he, .inr (0, [.int (zI nx), .int (zI ny), .int (zI nl)]))])) (va_A [(he, .inr (0, [.int (zI x), .int (zI y), .int (zI li)]))] sz)) 0 0 (va_A [(he, .inr (0, [.int (zI x), .int (zI y), .int (zI li)]))] sz) := by
  refine Met.ofW (cc := cX0_place) (maxL := 4) (ret := none) (by decide) rfl ?_
  intro p e s m args below meth c s₁ B hml hv
  obtain ⟨rfl, hsz, hP, hK, hD0⟩ := hv
  have hx := B.exec
  have hb := B.bytes
  have hr := B.returns
  have hts := atoms_spec (ws := wsX0_place) B.pre
  have hown : s.vm.findClass RX0 = some m.cls := findClass_of_methodNamed B.named
  have hlocks := B.notSynchronized
  subst hsz
  have hD := hD0.self (sz := s.heap.size)
  generalize hAe : va_A [(he, .inr (0, [.int (zI x), .int (zI y), .int (zI li)]))] s.heap.size = A at hD ⊢
  have hA : ∀ q : Nat, s.heap.size ≤ q → A q := fun q h => by rw [← hAe]; exact Or.inr h
  clear hAe hD0
  have hS : va_S A s.heap s.heap [] := va_S.rf
  have hP : va_P (dC, dI) vwCl [(he, .inr (0, [.int (zI x), .int (zI y), .int (zI li)]))] s.heap := hP
  have f_9 := hts (.fieldLink RX0 9 "SpringLevels$Hero" "x" "I") (by decide +kernel)
  have f_15 := hts (.fieldLink RX0 15 "SpringLevels$Hero" "y" "I") (by decide +kernel)
  have f_18 := hts (.fieldLink RX0 18 "SpringLevels$Hero" "lift" "I") (by decide +kernel)
  have i_0 : ∀ w ∈ wsX00, w ∈ wsX0_place := by decide +kernel
  have hl := lv_entry ([.ref he, .int (zI nx), .int (zI ny), .int (zI nl)]) (n := 4) (Nat.le_of_ble_eq_true rfl)
  rw [lg_entry_eq]
  generalize (lg_sl ([.ref he, .int (zI nx), .int (zI ny), .int (zI nl)]) ++ List.replicate (4 - (lg_sl ([.ref he, .int (zI nx), .int (zI ny), .int (zI nl)])).length) Slot.unset).toArray = ls at hl ⊢
  have hl : lv_has ls 4 [(0, .ref he), (1, .int (zI nx)), (2, .int (zI ny)), (3, .int (zI nl))] := hl
  refine lv_aload_n hx hb dX0_place_0 rfl (lv_at hl 0 rfl) ?_
  refine lv_iload_n hx hb dX0_place_1 rfl (lv_at hl 1 rfl) ?_
  refine va_put (D := (dC, dI)) (ci := 0) (v := .int (zI nx)) (ty := .int) (C := RX0) (T := TX0) (N := 3) hx hb hts i_0 tyX0 tyX0_ok nmX0 hown hK hP hD hS 0 rfl rfl 0 (by decide) f_9 (fun _ h9 => h9) rfl (by decide +kernel) rfl rfl (Nat.le_of_ble_eq_true rfl) dX0_place_2 (fun H locs hP hD hS => ?_)
  have hP : va_P (dC, dI) vwCl [(he, .inr (0, [.int (zI nx), .int (zI y), .int (zI li)]))] H := hP
  have hD : va_D A [(he, .inr (0, [.int (zI nx), .int (zI y), .int (zI li)]))] := hD
  refine lv_aload_n hx hb dX0_place_5 rfl (lv_at hl 0 rfl) ?_
  refine lv_iload_n hx hb dX0_place_6 rfl (lv_at hl 2 rfl) ?_
  refine va_put (D := (dC, dI)) (ci := 0) (v := .int (zI ny)) (ty := .int) (C := RX0) (T := TX0) (N := 3) hx hb hts i_0 tyX0 tyX0_ok nmX0 hown hK hP hD hS 0 rfl rfl 1 (by decide) f_15 (fun _ h9 => h9) rfl (by decide +kernel) rfl rfl (Nat.le_of_ble_eq_true rfl) dX0_place_7 (fun H locs hP hD hS => ?_)
  have hP : va_P (dC, dI) vwCl [(he, .inr (0, [.int (zI nx), .int (zI ny), .int (zI li)]))] H := hP
  have hD : va_D A [(he, .inr (0, [.int (zI nx), .int (zI ny), .int (zI li)]))] := hD
  refine lv_aload_n hx hb dX0_place_10 rfl (lv_at hl 0 rfl) ?_
  refine lv_iload_n hx hb dX0_place_11 rfl (lv_at hl 3 rfl) ?_
  refine va_put (D := (dC, dI)) (ci := 0) (v := .int (zI nl)) (ty := .int) (C := RX0) (T := TX0) (N := 3) hx hb hts i_0 tyX0 tyX0_ok nmX0 hown hK hP hD hS 0 rfl rfl 2 (by decide) f_18 (fun _ h9 => h9) rfl (by decide +kernel) rfl rfl (Nat.le_of_ble_eq_true rfl) dX0_place_12 (fun H locs hP hD hS => ?_)
  have hP : va_P (dC, dI) vwCl [(he, .inr (0, [.int (zI nx), .int (zI ny), .int (zI nl)]))] H := hP
  have hD : va_D A [(he, .inr (0, [.int (zI nx), .int (zI ny), .int (zI nl)]))] := hD
  have hP9 := hP.sub (ws' := [(he, .inr (0, [.int (zI nx), .int (zI ny), .int (zI nl)]))]) [0] rfl
  have hD9 := hD.sub (ws' := [(he, .inr (0, [.int (zI nx), .int (zI ny), .int (zI nl)]))]) [0] (by decide) rfl
  have po : (True) := by
    trivial
  exact W.vret hx hb hr (fun t ht hW => ⟨⟨(), rfl, po, by rw [ht]; exact hP9, va_K.moved hW.alike hK, hD9⟩, hS.F ht⟩) hS.2.2 dX0_place_15
set_option maxHeartbeats 4000000 in
set_option maxRecDepth 100000 in
/-- Hero.toStart -/
theorem c_X0_toStart (l : Launch) (dC : Nat → ClassId) (dI : Nat → Nat → Nat) (cI cZ cL cT cJ : ClassId) (sz : Nat) (he : Nat) (x : Int) (y : Int) (li : Int) (lv : Nat) (w : Int) (h : Int) (ka : Nat) (ta : Nat) (sx : Int) (sy : Int) (fx : Int) (fy : Int) (lf : Int) (un : Int)  : Met l yX0_toStart wsX0_toStart ({ frames := 1, cells := 0, slots := 0, locals := 23 }) (zP (dC, dI) (zT cI cZ cL cT cJ) sz [.ref he, .ref lv] [(he, .inr (0, [.int (zI x), .int (zI y), .int (zI li)])), (lv, .inr (1, [.int (zI w), .int (zI h), .ref ka, .ref ta, .int (zI sx), .int (zI sy), .int (zI fx), .int (zI fy), .int (zI lf), .int (zI un)]))]) (va_Qv (fun (u9 : Unit) => match u9 with | _ => (True)) (zB (dC, dI) (zT cI cZ cL cT cJ) (va_A [(he, .inr (0, [.int (zI x), .int (zI y), .int (zI li)])), (lv, .inr (1, [.int (zI w), .int (zI h), .ref ka, .ref ta, .int (zI sx), .int (zI sy), .int (zI fx), .int (zI fy), .int (zI lf), .int (zI un)]))] sz) (fun (u9 : Unit) => match u9 with | _ => [(he, .inr (0, [.int (zI sx), .int (zI sy), .int (zI 0)])), (lv, .inr (1, [.int (zI w), .int (zI h), .ref ka, .ref ta, .int (zI sx), .int (zI sy), .int (zI fx), .int (zI fy), .int (zI lf), .int (zI un)]))])) (va_A [(he, .inr (0, [.int (zI x), .int (zI y), .int (zI li)])), (lv, .inr (1, [.int (zI w), .int (zI h), .ref ka, .ref ta, .int (zI sx), .int (zI sy), .int (zI fx), .int (zI fy), .int (zI lf), .int (zI un)]))] sz)) 0 0 (va_A [(he, .inr (0, [.int (zI x), .int (zI y), .int (zI li)])), (lv, .inr (1, [.int (zI w), .int (zI h), .ref ka, .ref ta, .int (zI sx), .int (zI sy), .int (zI fx), .int (zI fy), .int (zI lf), .int (zI un)]))] sz) := by
  refine Met.ofW (cc := cX0_toStart) (maxL := 2) (ret := none) (by decide) rfl ?_
  intro p e s m args below meth c s₁ B hml hv
  obtain ⟨rfl, hsz, hP, hK, hD0⟩ := hv
  have hx := B.exec
  have hb := B.bytes
  have hr := B.returns
  have hts := atoms_spec (ws := wsX0_toStart) B.pre
  have hown : s.vm.findClass RX0 = some m.cls := findClass_of_methodNamed B.named
  have hlocks := B.notSynchronized
  subst hsz
  have hD := hD0.self (sz := s.heap.size)
  generalize hAe : va_A [(he, .inr (0, [.int (zI x), .int (zI y), .int (zI li)])), (lv, .inr (1, [.int (zI w), .int (zI h), .ref ka, .ref ta, .int (zI sx), .int (zI sy), .int (zI fx), .int (zI fy), .int (zI lf), .int (zI un)]))] s.heap.size = A at hD ⊢
  have hA : ∀ q : Nat, s.heap.size ≤ q → A q := fun q h => by rw [← hAe]; exact Or.inr h
  clear hAe hD0
  have hS : va_S A s.heap s.heap [] := va_S.rf
  have hP : va_P (dC, dI) vwCl [(he, .inr (0, [.int (zI x), .int (zI y), .int (zI li)])), (lv, .inr (1, [.int (zI w), .int (zI h), .ref ka, .ref ta, .int (zI sx), .int (zI sy), .int (zI fx), .int (zI fy), .int (zI lf), .int (zI un)]))] s.heap := hP
  have f_21 := hts (.fieldLink RX0 21 "SpringLevels$Level" "startX" "I") (by decide +kernel)
  have f_26 := hts (.fieldLink RX0 26 "SpringLevels$Level" "startY" "I") (by decide +kernel)
  have i_1 : ∀ w ∈ wsX10, w ∈ wsX0_toStart := by decide +kernel
  have hl := lv_entry ([.ref he, .ref lv]) (n := 2) (Nat.le_of_ble_eq_true rfl)
  rw [lg_entry_eq]
  generalize (lg_sl ([.ref he, .ref lv]) ++ List.replicate (2 - (lg_sl ([.ref he, .ref lv])).length) Slot.unset).toArray = ls at hl ⊢
  have hl : lv_has ls 2 [(0, .ref he), (1, .ref lv)] := hl
  refine lv_aload_n hx hb dX0_toStart_0 rfl (lv_at hl 0 rfl) ?_
  refine lv_aload_n hx hb dX0_toStart_1 rfl (lv_at hl 1 rfl) ?_
  refine va_get (D := (dC, dI)) (ci := 1) (v := .int (zI sx)) (C := RX1) (T := TX1) (N := 10) hx hb hts i_1 hown hK hP 1 rfl rfl 4 (by decide) f_21 (fun _ h9 => h9) rfl dX0_toStart_2 ?_
  refine lv_aload_n hx hb dX0_toStart_5 rfl (lv_at hl 1 rfl) ?_
  refine va_get (D := (dC, dI)) (ci := 1) (v := .int (zI sy)) (C := RX1) (T := TX1) (N := 10) hx hb hts i_1 hown hK hP 1 rfl rfl 5 (by decide) f_26 (fun _ h9 => h9) rfl dX0_toStart_6 ?_
  refine lv_iconst (v := zI 0) hx hb dX0_toStart_9 (rfl) ?_
  have hPc := hP.sub (ws' := [(he, .inr (0, [.int (zI x), .int (zI y), .int (zI li)]))]) [0] rfl
  have hDc := hD.sub (ws' := [(he, .inr (0, [.int (zI x), .int (zI y), .int (zI li)]))]) [0] (by decide) rfl
  have hFc := va_free (wc := [(he, .inr (0, [.int (zI x), .int (zI y), .int (zI li)]))]) hD hS hA [0] rfl
  refine va_callv (va_runV (As := [.int (zI sx), .int (zI sy), .int (zI 0)]) (rest := []) ⟨hx, hb, hml, hown, hts⟩ (c_X0_place l dC dI cI cZ cL cT cJ s.heap.size he x y li sx sy 0 ) (cwV 3 hts gX0_toStart_X0_place rfl rfl rfl (by decide +kernel) ⟨Nat.le_of_ble_eq_true rfl, Nat.le_of_ble_eq_true rfl⟩) ⟨zP_blind, va_recv hK hPc (ci := 0) (q0 := 0) rfl rfl, zP_pre hPc hDc hK⟩ rfl rfl hl.1 rfl (lv_room (Nat.le_of_ble_eq_true rfl)) dX0_toStart_10 ⟨Nat.le_of_ble_eq_true rfl, Nat.le_of_ble_eq_true rfl⟩) hS (fun q _ h => hFc q h) hFc (fun u_1 t H1 locs ht hvm hw hB hz1 hk1 hS => ?_)
  obtain ⟨hP1, hK1, hD1⟩ := hB
  rw [ht] at hP1
  have hP1 : va_P (dC, dI) vwCl [(he, .inr (0, [.int (zI sx), .int (zI sy), .int (zI 0)]))] H1 := hP1
  obtain ⟨hP, hD⟩ := va_join (wr := [(lv, .inr (1, [.int (zI w), .int (zI h), .ref ka, .ref ta, .int (zI sx), .int (zI sy), .int (zI fx), .int (zI fy), .int (zI lf), .int (zI un)]))]) (w1 := [(he, .inr (0, [.int (zI sx), .int (zI sy), .int (zI 0)]))]) hP hD [0] [1] rfl rfl (by decide) (by decide) hk1 hFc hP1 hD1
  clear hP1 hD1 hk1 hFc hPc hDc hz1
  generalize H1 = H at hP hS ⊢
  have hP : va_P (dC, dI) vwCl [(he, .inr (0, [.int (zI sx), .int (zI sy), .int (zI 0)])), (lv, .inr (1, [.int (zI w), .int (zI h), .ref ka, .ref ta, .int (zI sx), .int (zI sy), .int (zI fx), .int (zI fy), .int (zI lf), .int (zI un)]))] H := hP.sub [1, 0] rfl
  have hD : va_D A [(he, .inr (0, [.int (zI sx), .int (zI sy), .int (zI 0)])), (lv, .inr (1, [.int (zI w), .int (zI h), .ref ka, .ref ta, .int (zI sx), .int (zI sy), .int (zI fx), .int (zI fy), .int (zI lf), .int (zI un)]))] := hD.sub [1, 0] (by decide) rfl
  clear hK1 hvm
  refine W.eq (g2 := F0 m 13 ls []) rfl ?_
  have hP9 := hP.sub (ws' := [(he, .inr (0, [.int (zI sx), .int (zI sy), .int (zI 0)])), (lv, .inr (1, [.int (zI w), .int (zI h), .ref ka, .ref ta, .int (zI sx), .int (zI sy), .int (zI fx), .int (zI fy), .int (zI lf), .int (zI un)]))]) [0, 1] rfl
  have hD9 := hD.sub (ws' := [(he, .inr (0, [.int (zI sx), .int (zI sy), .int (zI 0)])), (lv, .inr (1, [.int (zI w), .int (zI h), .ref ka, .ref ta, .int (zI sx), .int (zI sy), .int (zI fx), .int (zI fy), .int (zI lf), .int (zI un)]))]) [0, 1] (by decide) rfl
  have po : (True) := by
    trivial
  exact W.vret hx hb hr (fun t ht hW => ⟨⟨(), rfl, po, by rw [ht]; exact hP9, va_K.moved hW.alike hK, hD9⟩, hS.F ht⟩) hS.2.2 dX0_toStart_13
set_option maxHeartbeats 4000000 in
set_option maxRecDepth 100000 in
/-- Level.kindAt -/
theorem c_X1_kindAt (l : Launch) (dC : Nat → ClassId) (dI : Nat → Nat → Nat) (cI cZ cL cT cJ : ClassId) (sz : Nat) (lv : Nat) (w : Int) (h : Int) (ka : Nat) (tv : Value) (sx : Int) (sy : Int) (fx : Int) (fy : Int) (lf : Int) (un : Int) (K : Int → Int) (x : Int) (y : Int) (gw : 0 < w ∧ w ≤ 12) (gh : 0 < h ∧ h ≤ 8) (gK : Kin K) (gx : -2147483648 ≤ x ∧ x < 2147483648) (gy : -2147483648 ≤ y ∧ y < 2147483648) : Met l yX1_kindAt wsX1_kindAt ({ frames := 0, cells := 0, slots := 0, locals := 0 }) (zP (dC, dI) (zT cI cZ cL cT cJ) sz [.ref lv, .int (zI x), .int (zI y)] [(lv, .inr (1, [.int (zI w), .int (zI h), .ref ka, tv, .int (zI sx), .int (zI sy), .int (zI fx), .int (zI fy), .int (zI lf), .int (zI un)])), zA cI ka 96 K]) (va_Qi (fun (r9 : Int32) (u9 : Int) => match u9 with | r => r9 = zI r ∧ (r = kd K w h x y ∧ -1 ≤ r ∧ r ≤ 3)) (zB (dC, dI) (zT cI cZ cL cT cJ) (va_A [(lv, .inr (1, [.int (zI w), .int (zI h), .ref ka, tv, .int (zI sx), .int (zI sy), .int (zI fx), .int (zI fy), .int (zI lf), .int (zI un)])), zA cI ka 96 K] sz) (fun (u9 : Int) => match u9 with | r => [(lv, .inr (1, [.int (zI w), .int (zI h), .ref ka, tv, .int (zI sx), .int (zI sy), .int (zI fx), .int (zI fy), .int (zI lf), .int (zI un)])), zA cI ka 96 K])) (va_A [(lv, .inr (1, [.int (zI w), .int (zI h), .ref ka, tv, .int (zI sx), .int (zI sy), .int (zI fx), .int (zI fy), .int (zI lf), .int (zI un)])), zA cI ka 96 K] sz)) 0 0 (va_A [(lv, .inr (1, [.int (zI w), .int (zI h), .ref ka, tv, .int (zI sx), .int (zI sy), .int (zI fx), .int (zI fy), .int (zI lf), .int (zI un)])), zA cI ka 96 K] sz) := by
  refine Met.ofW (cc := cX1_kindAt) (maxL := 4) (ret := (some .int)) (by decide) rfl ?_
  intro p e s m args below meth c s₁ B hml hv
  obtain ⟨rfl, hsz, hP, hK, hD0⟩ := hv
  have hx := B.exec
  have hb := B.bytes
  have hr := B.returns
  have hts := atoms_spec (ws := wsX1_kindAt) B.pre
  have hown : s.vm.findClass RX1 = some m.cls := findClass_of_methodNamed B.named
  have hlocks := B.notSynchronized
  subst hsz
  have hD := hD0.self (sz := s.heap.size)
  generalize hAe : va_A [(lv, .inr (1, [.int (zI w), .int (zI h), .ref ka, tv, .int (zI sx), .int (zI sy), .int (zI fx), .int (zI fy), .int (zI lf), .int (zI un)])), zA cI ka 96 K] s.heap.size = A at hD ⊢
  have hA : ∀ q : Nat, s.heap.size ≤ q → A q := fun q h => by rw [← hAe]; exact Or.inr h
  clear hAe hD0
  have hS : va_S A s.heap s.heap [] := va_S.rf
  have hP : va_P (dC, dI) vwCl [(lv, .inr (1, [.int (zI w), .int (zI h), .ref ka, tv, .int (zI sx), .int (zI sy), .int (zI fx), .int (zI fy), .int (zI lf), .int (zI un)])), zA cI ka 96 K] s.heap := hP
  have f_9 := hts (.fieldLink RX1 9 "SpringLevels$Level" "width" "I") (by decide +kernel)
  have f_15 := hts (.fieldLink RX1 15 "SpringLevels$Level" "height" "I") (by decide +kernel)
  have f_18 := hts (.fieldLink RX1 18 "SpringLevels$Level" "kinds" "[I") (by decide +kernel)
  have i_1 : ∀ w ∈ wsX10, w ∈ wsX1_kindAt := by decide +kernel
  have hl := lv_entry ([.ref lv, .int (zI x), .int (zI y)]) (n := 4) (Nat.le_of_ble_eq_true rfl)
  rw [lg_entry_eq]
  generalize (lg_sl ([.ref lv, .int (zI x), .int (zI y)]) ++ List.replicate (4 - (lg_sl ([.ref lv, .int (zI x), .int (zI y)])).length) Slot.unset).toArray = ls at hl ⊢
  have hl : lv_has ls 4 [(0, .ref lv), (1, .int (zI x)), (2, .int (zI y))] := hl
  refine lv_iload_n hx hb dX1_kindAt_0 rfl (lv_at hl 1 rfl) ?_
  refine lz_if_lt (tgt := 28) hx hb dX1_kindAt_1 (by decide) (by omega) (fun c_1 => ?_) (fun c_1 => ?_)
  ·
    refine lv_iconst (v := zI 0) hx hb dX1_kindAt_28 (rfl) ?_
    refine lv_istore_n (lv' := [(3, .int (zI 0)), (0, .ref lv), (1, .int (zI x)), (2, .int (zI y))]) hx hb dX1_kindAt_29 rfl hl (by decide) rfl (fun ls hl => ?_)
    refine lv_iload_n hx hb dX1_kindAt_30 rfl (lv_at hl 0 rfl) ?_
    refine lz_if_eq (tgt := 48) hx hb dX1_kindAt_31 (by decide) ⟨by decide, by decide⟩ (fun c_2 => ?_) (fun c_2 => ?_)
    ·
      refine lv_iconst (v := zI (-1)) hx hb dX1_kindAt_48 (rfl) ?_
      have hP9 := hP.sub (ws' := [(lv, .inr (1, [.int (zI w), .int (zI h), .ref ka, tv, .int (zI sx), .int (zI sy), .int (zI fx), .int (zI fy), .int (zI lf), .int (zI un)])), zA cI ka 96 K]) [0, 1] rfl
      have hD9 := hD.sub (ws' := [(lv, .inr (1, [.int (zI w), .int (zI h), .ref ka, tv, .int (zI sx), .int (zI sy), .int (zI fx), .int (zI fy), .int (zI lf), .int (zI un)])), zA cI ka 96 K]) [0, 1] (by decide) rfl
      have po : zI (-1) = zI (-1 : Int) ∧ ((-1 : Int) = kd K w h x y ∧ -1 ≤ (-1 : Int) ∧ (-1 : Int) ≤ 3) := by
        refine ⟨by first | rfl | (congr 1; omega) | (congr 1; simp [*]), ?_⟩
        have e9 := kd_rng gK w h x y
        first | (rw [kd, if_pos (by omega)] at e9 ⊢; exact ⟨rfl, e9⟩) | (rw [kd, if_neg (by omega)] at e9 ⊢; exact ⟨rfl, e9⟩)
      exact W.iret (v := zI (-1)) hx hb hr (fun t ht hW => ⟨⟨zI (-1), -1, rfl, po, by rw [ht]; exact hP9, va_K.moved hW.alike hK, hD9⟩, hS.F ht⟩) hS.2.2 dX1_kindAt_49
    · exact absurd c_2 (by decide)
  ·
    refine lv_iload_n hx hb dX1_kindAt_4 rfl (lv_at hl 1 rfl) ?_
    refine lv_aload_n hx hb dX1_kindAt_5 rfl (lv_at hl 0 rfl) ?_
    refine va_get (D := (dC, dI)) (ci := 1) (v := .int (zI w)) (C := RX1) (T := TX1) (N := 10) hx hb hts i_1 hown hK hP 0 rfl rfl 0 (by decide) f_9 (fun _ h9 => h9) rfl dX1_kindAt_6 ?_
    refine lz_icmp_ge (tgt := 28) hx hb dX1_kindAt_9 (by decide) (by omega) (by omega) (fun c_3 => ?_) (fun c_3 => ?_)
    ·
      refine lv_iconst (v := zI 0) hx hb dX1_kindAt_28 (rfl) ?_
      refine lv_istore_n (lv' := [(3, .int (zI 0)), (0, .ref lv), (1, .int (zI x)), (2, .int (zI y))]) hx hb dX1_kindAt_29 rfl hl (by decide) rfl (fun ls hl => ?_)
      refine lv_iload_n hx hb dX1_kindAt_30 rfl (lv_at hl 0 rfl) ?_
      refine lz_if_eq (tgt := 48) hx hb dX1_kindAt_31 (by decide) ⟨by decide, by decide⟩ (fun c_4 => ?_) (fun c_4 => ?_)
      ·
        refine lv_iconst (v := zI (-1)) hx hb dX1_kindAt_48 (rfl) ?_
        have hP9 := hP.sub (ws' := [(lv, .inr (1, [.int (zI w), .int (zI h), .ref ka, tv, .int (zI sx), .int (zI sy), .int (zI fx), .int (zI fy), .int (zI lf), .int (zI un)])), zA cI ka 96 K]) [0, 1] rfl
        have hD9 := hD.sub (ws' := [(lv, .inr (1, [.int (zI w), .int (zI h), .ref ka, tv, .int (zI sx), .int (zI sy), .int (zI fx), .int (zI fy), .int (zI lf), .int (zI un)])), zA cI ka 96 K]) [0, 1] (by decide) rfl
        have po : zI (-1) = zI (-1 : Int) ∧ ((-1 : Int) = kd K w h x y ∧ -1 ≤ (-1 : Int) ∧ (-1 : Int) ≤ 3) := by
          refine ⟨by first | rfl | (congr 1; omega) | (congr 1; simp [*]), ?_⟩
          have e9 := kd_rng gK w h x y
          first | (rw [kd, if_pos (by omega)] at e9 ⊢; exact ⟨rfl, e9⟩) | (rw [kd, if_neg (by omega)] at e9 ⊢; exact ⟨rfl, e9⟩)
        exact W.iret (v := zI (-1)) hx hb hr (fun t ht hW => ⟨⟨zI (-1), -1, rfl, po, by rw [ht]; exact hP9, va_K.moved hW.alike hK, hD9⟩, hS.F ht⟩) hS.2.2 dX1_kindAt_49
      · exact absurd c_4 (by decide)
    ·
      refine lv_iload_n hx hb dX1_kindAt_12 rfl (lv_at hl 2 rfl) ?_
      refine lz_if_lt (tgt := 28) hx hb dX1_kindAt_13 (by decide) (by omega) (fun c_5 => ?_) (fun c_5 => ?_)
      ·
        refine lv_iconst (v := zI 0) hx hb dX1_kindAt_28 (rfl) ?_
        refine lv_istore_n (lv' := [(3, .int (zI 0)), (0, .ref lv), (1, .int (zI x)), (2, .int (zI y))]) hx hb dX1_kindAt_29 rfl hl (by decide) rfl (fun ls hl => ?_)
        refine lv_iload_n hx hb dX1_kindAt_30 rfl (lv_at hl 0 rfl) ?_
        refine lz_if_eq (tgt := 48) hx hb dX1_kindAt_31 (by decide) ⟨by decide, by decide⟩ (fun c_6 => ?_) (fun c_6 => ?_)
        ·
          refine lv_iconst (v := zI (-1)) hx hb dX1_kindAt_48 (rfl) ?_
          have hP9 := hP.sub (ws' := [(lv, .inr (1, [.int (zI w), .int (zI h), .ref ka, tv, .int (zI sx), .int (zI sy), .int (zI fx), .int (zI fy), .int (zI lf), .int (zI un)])), zA cI ka 96 K]) [0, 1] rfl
          have hD9 := hD.sub (ws' := [(lv, .inr (1, [.int (zI w), .int (zI h), .ref ka, tv, .int (zI sx), .int (zI sy), .int (zI fx), .int (zI fy), .int (zI lf), .int (zI un)])), zA cI ka 96 K]) [0, 1] (by decide) rfl
          have po : zI (-1) = zI (-1 : Int) ∧ ((-1 : Int) = kd K w h x y ∧ -1 ≤ (-1 : Int) ∧ (-1 : Int) ≤ 3) := by
            refine ⟨by first | rfl | (congr 1; omega) | (congr 1; simp [*]), ?_⟩
            have e9 := kd_rng gK w h x y
            first | (rw [kd, if_pos (by omega)] at e9 ⊢; exact ⟨rfl, e9⟩) | (rw [kd, if_neg (by omega)] at e9 ⊢; exact ⟨rfl, e9⟩)
          exact W.iret (v := zI (-1)) hx hb hr (fun t ht hW => ⟨⟨zI (-1), -1, rfl, po, by rw [ht]; exact hP9, va_K.moved hW.alike hK, hD9⟩, hS.F ht⟩) hS.2.2 dX1_kindAt_49
        · exact absurd c_6 (by decide)
      ·
        refine lv_iload_n hx hb dX1_kindAt_16 rfl (lv_at hl 2 rfl) ?_
        refine lv_aload_n hx hb dX1_kindAt_17 rfl (lv_at hl 0 rfl) ?_
        refine va_get (D := (dC, dI)) (ci := 1) (v := .int (zI h)) (C := RX1) (T := TX1) (N := 10) hx hb hts i_1 hown hK hP 0 rfl rfl 1 (by decide) f_15 (fun _ h9 => h9) rfl dX1_kindAt_18 ?_
        refine lz_icmp_ge (tgt := 28) hx hb dX1_kindAt_21 (by decide) (by omega) (by omega) (fun c_7 => ?_) (fun c_7 => ?_)
        ·
          refine lv_iconst (v := zI 0) hx hb dX1_kindAt_28 (rfl) ?_
          refine lv_istore_n (lv' := [(3, .int (zI 0)), (0, .ref lv), (1, .int (zI x)), (2, .int (zI y))]) hx hb dX1_kindAt_29 rfl hl (by decide) rfl (fun ls hl => ?_)
          refine lv_iload_n hx hb dX1_kindAt_30 rfl (lv_at hl 0 rfl) ?_
          refine lz_if_eq (tgt := 48) hx hb dX1_kindAt_31 (by decide) ⟨by decide, by decide⟩ (fun c_8 => ?_) (fun c_8 => ?_)
          ·
            refine lv_iconst (v := zI (-1)) hx hb dX1_kindAt_48 (rfl) ?_
            have hP9 := hP.sub (ws' := [(lv, .inr (1, [.int (zI w), .int (zI h), .ref ka, tv, .int (zI sx), .int (zI sy), .int (zI fx), .int (zI fy), .int (zI lf), .int (zI un)])), zA cI ka 96 K]) [0, 1] rfl
            have hD9 := hD.sub (ws' := [(lv, .inr (1, [.int (zI w), .int (zI h), .ref ka, tv, .int (zI sx), .int (zI sy), .int (zI fx), .int (zI fy), .int (zI lf), .int (zI un)])), zA cI ka 96 K]) [0, 1] (by decide) rfl
            have po : zI (-1) = zI (-1 : Int) ∧ ((-1 : Int) = kd K w h x y ∧ -1 ≤ (-1 : Int) ∧ (-1 : Int) ≤ 3) := by
              refine ⟨by first | rfl | (congr 1; omega) | (congr 1; simp [*]), ?_⟩
              have e9 := kd_rng gK w h x y
              first | (rw [kd, if_pos (by omega)] at e9 ⊢; exact ⟨rfl, e9⟩) | (rw [kd, if_neg (by omega)] at e9 ⊢; exact ⟨rfl, e9⟩)
            exact W.iret (v := zI (-1)) hx hb hr (fun t ht hW => ⟨⟨zI (-1), -1, rfl, po, by rw [ht]; exact hP9, va_K.moved hW.alike hK, hD9⟩, hS.F ht⟩) hS.2.2 dX1_kindAt_49
          · exact absurd c_8 (by decide)
        ·
          refine lv_iconst (v := zI 1) hx hb dX1_kindAt_24 (rfl) ?_
          refine lv_goto (tgt := 29) hx hb dX1_kindAt_25 (by decide) ?_
          refine lv_istore_n (lv' := [(3, .int (zI 1)), (0, .ref lv), (1, .int (zI x)), (2, .int (zI y))]) hx hb dX1_kindAt_29 rfl hl (by decide) rfl (fun ls hl => ?_)
          refine lv_iload_n hx hb dX1_kindAt_30 rfl (lv_at hl 0 rfl) ?_
          refine lz_if_eq (tgt := 48) hx hb dX1_kindAt_31 (by decide) ⟨by decide, by decide⟩ (fun c_9 => ?_) (fun c_9 => ?_)
          · exact absurd c_9 (by decide)
          ·
            refine lv_aload_n hx hb dX1_kindAt_34 rfl (lv_at hl 1 rfl) ?_
            refine va_get (D := (dC, dI)) (ci := 1) (v := .ref ka) (C := RX1) (T := TX1) (N := 10) hx hb hts i_1 hown hK hP 0 rfl rfl 2 (by decide) f_18 (fun _ h9 => h9) rfl dX1_kindAt_35 ?_
            refine lv_iload_n hx hb dX1_kindAt_38 rfl (lv_at hl 3 rfl) ?_
            refine lv_bipush (v := zI 12) hx hb dX1_kindAt_39 (by decide) ?_
            refine lz_imul (z := y * 12) hx hb dX1_kindAt_41 (by rfl) ?_
            refine lv_iload_n hx hb dX1_kindAt_42 rfl (lv_at hl 2 rfl) ?_
            refine lz_iadd (z := (y * 12) + x) hx hb dX1_kindAt_43 (by rfl) ?_
            refine lz_iald (F := K) (i := (y * 12) + x) hx hb hK hP 1 0 rfl rfl (by omega) (by omega) (by decide) dX1_kindAt_44 ?_
            refine lv_goto (tgt := 49) hx hb dX1_kindAt_45 (by decide) ?_
            have hP9 := hP.sub (ws' := [(lv, .inr (1, [.int (zI w), .int (zI h), .ref ka, tv, .int (zI sx), .int (zI sy), .int (zI fx), .int (zI fy), .int (zI lf), .int (zI un)])), zA cI ka 96 K]) [0, 1] rfl
            have hD9 := hD.sub (ws' := [(lv, .inr (1, [.int (zI w), .int (zI h), .ref ka, tv, .int (zI sx), .int (zI sy), .int (zI fx), .int (zI fy), .int (zI lf), .int (zI un)])), zA cI ka 96 K]) [0, 1] (by decide) rfl
            have po : zI (K ((y * 12) + x)) = zI (K ((y * 12) + x)) ∧ ((K ((y * 12) + x)) = kd K w h x y ∧ -1 ≤ (K ((y * 12) + x)) ∧ (K ((y * 12) + x)) ≤ 3) := by
              refine ⟨by first | rfl | (congr 1; omega) | (congr 1; simp [*]), ?_⟩
              have e9 := kd_rng gK w h x y
              first | (rw [kd, if_pos (by omega)] at e9 ⊢; exact ⟨rfl, e9⟩) | (rw [kd, if_neg (by omega)] at e9 ⊢; exact ⟨rfl, e9⟩)
            exact W.iret (v := zI (K ((y * 12) + x))) hx hb hr (fun t ht hW => ⟨⟨zI (K ((y * 12) + x)), K ((y * 12) + x), rfl, po, by rw [ht]; exact hP9, va_K.moved hW.alike hK, hD9⟩, hS.F ht⟩) hS.2.2 dX1_kindAt_49
set_option maxHeartbeats 4000000 in
set_option maxRecDepth 100000 in
/-- Level.flagAt -/
theorem c_X1_flagAt (l : Launch) (dC : Nat → ClassId) (dI : Nat → Nat → Nat) (cI cZ cL cT cJ : ClassId) (sz : Nat) (lv : Nat) (w : Int) (h : Int) (ka : Nat) (ta : Nat) (sx : Int) (sy : Int) (fx : Int) (fy : Int) (lf : Int) (un : Int) (x : Int) (y : Int) (gf : -2147483648 ≤ fx ∧ fx < 2147483648) (gf2 : -2147483648 ≤ fy ∧ fy < 2147483648) (gx : -2147483648 ≤ x ∧ x < 2147483648) (gy : -2147483648 ≤ y ∧ y < 2147483648) : Met l yX1_flagAt wsX1_flagAt ({ frames := 0, cells := 0, slots := 0, locals := 0 }) (zP (dC, dI) (zT cI cZ cL cT cJ) sz [.ref lv, .int (zI x), .int (zI y)] [(lv, .inr (1, [.int (zI w), .int (zI h), .ref ka, .ref ta, .int (zI sx), .int (zI sy), .int (zI fx), .int (zI fy), .int (zI lf), .int (zI un)]))]) (va_Qi (fun (r9 : Int32) (u9 : Int) => match u9 with | r => r9 = zI r ∧ (r = fgO fx fy x y ∧ 0 ≤ r ∧ r ≤ 1)) (zB (dC, dI) (zT cI cZ cL cT cJ) (va_A [(lv, .inr (1, [.int (zI w), .int (zI h), .ref ka, .ref ta, .int (zI sx), .int (zI sy), .int (zI fx), .int (zI fy), .int (zI lf), .int (zI un)]))] sz) (fun (u9 : Int) => match u9 with | r => [(lv, .inr (1, [.int (zI w), .int (zI h), .ref ka, .ref ta, .int (zI sx), .int (zI sy), .int (zI fx), .int (zI fy), .int (zI lf), .int (zI un)]))])) (va_A [(lv, .inr (1, [.int (zI w), .int (zI h), .ref ka, .ref ta, .int (zI sx), .int (zI sy), .int (zI fx), .int (zI fy), .int (zI lf), .int (zI un)]))] sz)) 0 0 (va_A [(lv, .inr (1, [.int (zI w), .int (zI h), .ref ka, .ref ta, .int (zI sx), .int (zI sy), .int (zI fx), .int (zI fy), .int (zI lf), .int (zI un)]))] sz) := by
  refine Met.ofW (cc := cX1_flagAt) (maxL := 3) (ret := (some .boolean)) (by decide) rfl ?_
  intro p e s m args below meth c s₁ B hml hv
  obtain ⟨rfl, hsz, hP, hK, hD0⟩ := hv
  have hx := B.exec
  have hb := B.bytes
  have hr := B.returns
  have hts := atoms_spec (ws := wsX1_flagAt) B.pre
  have hown : s.vm.findClass RX1 = some m.cls := findClass_of_methodNamed B.named
  have hlocks := B.notSynchronized
  subst hsz
  have hD := hD0.self (sz := s.heap.size)
  generalize hAe : va_A [(lv, .inr (1, [.int (zI w), .int (zI h), .ref ka, .ref ta, .int (zI sx), .int (zI sy), .int (zI fx), .int (zI fy), .int (zI lf), .int (zI un)]))] s.heap.size = A at hD ⊢
  have hA : ∀ q : Nat, s.heap.size ≤ q → A q := fun q h => by rw [← hAe]; exact Or.inr h
  clear hAe hD0
  have hS : va_S A s.heap s.heap [] := va_S.rf
  have hP : va_P (dC, dI) vwCl [(lv, .inr (1, [.int (zI w), .int (zI h), .ref ka, .ref ta, .int (zI sx), .int (zI sy), .int (zI fx), .int (zI fy), .int (zI lf), .int (zI un)]))] s.heap := hP
  have f_39 := hts (.fieldLink RX1 39 "SpringLevels$Level" "flagX" "I") (by decide +kernel)
  have f_42 := hts (.fieldLink RX1 42 "SpringLevels$Level" "flagY" "I") (by decide +kernel)
  have i_1 : ∀ w ∈ wsX10, w ∈ wsX1_flagAt := by decide +kernel
  have hl := lv_entry ([.ref lv, .int (zI x), .int (zI y)]) (n := 3) (Nat.le_of_ble_eq_true rfl)
  rw [lg_entry_eq]
  generalize (lg_sl ([.ref lv, .int (zI x), .int (zI y)]) ++ List.replicate (3 - (lg_sl ([.ref lv, .int (zI x), .int (zI y)])).length) Slot.unset).toArray = ls at hl ⊢
  have hl : lv_has ls 3 [(0, .ref lv), (1, .int (zI x)), (2, .int (zI y))] := hl
  refine lv_iload_n hx hb dX1_flagAt_0 rfl (lv_at hl 1 rfl) ?_
  refine lv_aload_n hx hb dX1_flagAt_1 rfl (lv_at hl 0 rfl) ?_
  refine va_get (D := (dC, dI)) (ci := 1) (v := .int (zI fx)) (C := RX1) (T := TX1) (N := 10) hx hb hts i_1 hown hK hP 0 rfl rfl 6 (by decide) f_39 (fun _ h9 => h9) rfl dX1_flagAt_2 ?_
  refine lz_icmp_ne (tgt := 20) hx hb dX1_flagAt_5 (by decide) (by omega) (by omega) (fun c_1 => ?_) (fun c_1 => ?_)
  ·
    refine lv_iconst (v := zI 0) hx hb dX1_flagAt_20 (rfl) ?_
    have hP9 := hP.sub (ws' := [(lv, .inr (1, [.int (zI w), .int (zI h), .ref ka, .ref ta, .int (zI sx), .int (zI sy), .int (zI fx), .int (zI fy), .int (zI lf), .int (zI un)]))]) [0] rfl
    have hD9 := hD.sub (ws' := [(lv, .inr (1, [.int (zI w), .int (zI h), .ref ka, .ref ta, .int (zI sx), .int (zI sy), .int (zI fx), .int (zI fy), .int (zI lf), .int (zI un)]))]) [0] (by decide) rfl
    have po : zI 0 = zI (0 : Int) ∧ ((0 : Int) = fgO fx fy x y ∧ 0 ≤ (0 : Int) ∧ (0 : Int) ≤ 1) := by
      refine ⟨by first | rfl | (congr 1; omega) | (congr 1; simp [*]), ?_⟩
      unfold fgO
      split <;> omega
    exact W.zret (v := zI 0) hx hb hr (by first | rfl | decide | exact zI_nz (by omega)) (fun t ht hW => ⟨⟨zI 0, 0, rfl, po, by rw [ht]; exact hP9, va_K.moved hW.alike hK, hD9⟩, hS.F ht⟩) hS.2.2 dX1_flagAt_21
  ·
    refine lv_iload_n hx hb dX1_flagAt_8 rfl (lv_at hl 2 rfl) ?_
    refine lv_aload_n hx hb dX1_flagAt_9 rfl (lv_at hl 0 rfl) ?_
    refine va_get (D := (dC, dI)) (ci := 1) (v := .int (zI fy)) (C := RX1) (T := TX1) (N := 10) hx hb hts i_1 hown hK hP 0 rfl rfl 7 (by decide) f_42 (fun _ h9 => h9) rfl dX1_flagAt_10 ?_
    refine lz_icmp_ne (tgt := 20) hx hb dX1_flagAt_13 (by decide) (by omega) (by omega) (fun c_2 => ?_) (fun c_2 => ?_)
    ·
      refine lv_iconst (v := zI 0) hx hb dX1_flagAt_20 (rfl) ?_
      have hP9 := hP.sub (ws' := [(lv, .inr (1, [.int (zI w), .int (zI h), .ref ka, .ref ta, .int (zI sx), .int (zI sy), .int (zI fx), .int (zI fy), .int (zI lf), .int (zI un)]))]) [0] rfl
      have hD9 := hD.sub (ws' := [(lv, .inr (1, [.int (zI w), .int (zI h), .ref ka, .ref ta, .int (zI sx), .int (zI sy), .int (zI fx), .int (zI fy), .int (zI lf), .int (zI un)]))]) [0] (by decide) rfl
      have po : zI 0 = zI (0 : Int) ∧ ((0 : Int) = fgO fx fy x y ∧ 0 ≤ (0 : Int) ∧ (0 : Int) ≤ 1) := by
        refine ⟨by first | rfl | (congr 1; omega) | (congr 1; simp [*]), ?_⟩
        unfold fgO
        split <;> omega
      exact W.zret (v := zI 0) hx hb hr (by first | rfl | decide | exact zI_nz (by omega)) (fun t ht hW => ⟨⟨zI 0, 0, rfl, po, by rw [ht]; exact hP9, va_K.moved hW.alike hK, hD9⟩, hS.F ht⟩) hS.2.2 dX1_flagAt_21
    ·
      refine lv_iconst (v := zI 1) hx hb dX1_flagAt_16 (rfl) ?_
      refine lv_goto (tgt := 21) hx hb dX1_flagAt_17 (by decide) ?_
      have hP9 := hP.sub (ws' := [(lv, .inr (1, [.int (zI w), .int (zI h), .ref ka, .ref ta, .int (zI sx), .int (zI sy), .int (zI fx), .int (zI fy), .int (zI lf), .int (zI un)]))]) [0] rfl
      have hD9 := hD.sub (ws' := [(lv, .inr (1, [.int (zI w), .int (zI h), .ref ka, .ref ta, .int (zI sx), .int (zI sy), .int (zI fx), .int (zI fy), .int (zI lf), .int (zI un)]))]) [0] (by decide) rfl
      have po : zI 1 = zI (1 : Int) ∧ ((1 : Int) = fgO fx fy x y ∧ 0 ≤ (1 : Int) ∧ (1 : Int) ≤ 1) := by
        refine ⟨by first | rfl | (congr 1; omega) | (congr 1; simp [*]), ?_⟩
        unfold fgO
        split <;> omega
      exact W.zret (v := zI 1) hx hb hr (by first | rfl | decide | exact zI_nz (by omega)) (fun t ht hW => ⟨⟨zI 1, 1, rfl, po, by rw [ht]; exact hP9, va_K.moved hW.alike hK, hD9⟩, hS.F ht⟩) hS.2.2 dX1_flagAt_21
set_option maxHeartbeats 4000000 in
set_option maxRecDepth 100000 in
/-- Level.startsAt -/
theorem c_X1_startsAt (l : Launch) (dC : Nat → ClassId) (dI : Nat → Nat → Nat) (cI cZ cL cT cJ : ClassId) (sz : Nat) (lv : Nat) (w : Int) (h : Int) (ka : Nat) (ta : Nat) (sx : Int) (sy : Int) (fx : Int) (fy : Int) (lf : Int) (un : Int) (x : Int) (y : Int) (gs : -2147483648 ≤ sx ∧ sx < 2147483648) (gs2 : -2147483648 ≤ sy ∧ sy < 2147483648) (gx : -2147483648 ≤ x ∧ x < 2147483648) (gy : -2147483648 ≤ y ∧ y < 2147483648) : Met l yX1_startsAt wsX1_startsAt ({ frames := 0, cells := 0, slots := 0, locals := 0 }) (zP (dC, dI) (zT cI cZ cL cT cJ) sz [.ref lv, .int (zI x), .int (zI y)] [(lv, .inr (1, [.int (zI w), .int (zI h), .ref ka, .ref ta, .int (zI sx), .int (zI sy), .int (zI fx), .int (zI fy), .int (zI lf), .int (zI un)]))]) (va_Qi (fun (r9 : Int32) (u9 : Int) => match u9 with | r => r9 = zI r ∧ (r = fgO sx sy x y ∧ 0 ≤ r ∧ r ≤ 1)) (zB (dC, dI) (zT cI cZ cL cT cJ) (va_A [(lv, .inr (1, [.int (zI w), .int (zI h), .ref ka, .ref ta, .int (zI sx), .int (zI sy), .int (zI fx), .int (zI fy), .int (zI lf), .int (zI un)]))] sz) (fun (u9 : Int) => match u9 with | r => [(lv, .inr (1, [.int (zI w), .int (zI h), .ref ka, .ref ta, .int (zI sx), .int (zI sy), .int (zI fx), .int (zI fy), .int (zI lf), .int (zI un)]))])) (va_A [(lv, .inr (1, [.int (zI w), .int (zI h), .ref ka, .ref ta, .int (zI sx), .int (zI sy), .int (zI fx), .int (zI fy), .int (zI lf), .int (zI un)]))] sz)) 0 0 (va_A [(lv, .inr (1, [.int (zI w), .int (zI h), .ref ka, .ref ta, .int (zI sx), .int (zI sy), .int (zI fx), .int (zI fy), .int (zI lf), .int (zI un)]))] sz) := by
  refine Met.ofW (cc := cX1_startsAt) (maxL := 3) (ret := (some .boolean)) (by decide) rfl ?_
  intro p e s m args below meth c s₁ B hml hv
  obtain ⟨rfl, hsz, hP, hK, hD0⟩ := hv
  have hx := B.exec
  have hb := B.bytes
  have hr := B.returns
  have hts := atoms_spec (ws := wsX1_startsAt) B.pre
  have hown : s.vm.findClass RX1 = some m.cls := findClass_of_methodNamed B.named
  have hlocks := B.notSynchronized
  subst hsz
  have hD := hD0.self (sz := s.heap.size)
  generalize hAe : va_A [(lv, .inr (1, [.int (zI w), .int (zI h), .ref ka, .ref ta, .int (zI sx), .int (zI sy), .int (zI fx), .int (zI fy), .int (zI lf), .int (zI un)]))] s.heap.size = A at hD ⊢
  have hA : ∀ q : Nat, s.heap.size ≤ q → A q := fun q h => by rw [← hAe]; exact Or.inr h
  clear hAe hD0
  have hS : va_S A s.heap s.heap [] := va_S.rf
  have hP : va_P (dC, dI) vwCl [(lv, .inr (1, [.int (zI w), .int (zI h), .ref ka, .ref ta, .int (zI sx), .int (zI sy), .int (zI fx), .int (zI fy), .int (zI lf), .int (zI un)]))] s.heap := hP
  have f_33 := hts (.fieldLink RX1 33 "SpringLevels$Level" "startX" "I") (by decide +kernel)
  have f_36 := hts (.fieldLink RX1 36 "SpringLevels$Level" "startY" "I") (by decide +kernel)
  have i_1 : ∀ w ∈ wsX10, w ∈ wsX1_startsAt := by decide +kernel
  have hl := lv_entry ([.ref lv, .int (zI x), .int (zI y)]) (n := 3) (Nat.le_of_ble_eq_true rfl)
  rw [lg_entry_eq]
  generalize (lg_sl ([.ref lv, .int (zI x), .int (zI y)]) ++ List.replicate (3 - (lg_sl ([.ref lv, .int (zI x), .int (zI y)])).length) Slot.unset).toArray = ls at hl ⊢
  have hl : lv_has ls 3 [(0, .ref lv), (1, .int (zI x)), (2, .int (zI y))] := hl
  refine lv_iload_n hx hb dX1_startsAt_0 rfl (lv_at hl 1 rfl) ?_
  refine lv_aload_n hx hb dX1_startsAt_1 rfl (lv_at hl 0 rfl) ?_
  refine va_get (D := (dC, dI)) (ci := 1) (v := .int (zI sx)) (C := RX1) (T := TX1) (N := 10) hx hb hts i_1 hown hK hP 0 rfl rfl 4 (by decide) f_33 (fun _ h9 => h9) rfl dX1_startsAt_2 ?_
  refine lz_icmp_ne (tgt := 20) hx hb dX1_startsAt_5 (by decide) (by omega) (by omega) (fun c_1 => ?_) (fun c_1 => ?_)
  ·
    refine lv_iconst (v := zI 0) hx hb dX1_startsAt_20 (rfl) ?_
    have hP9 := hP.sub (ws' := [(lv, .inr (1, [.int (zI w), .int (zI h), .ref ka, .ref ta, .int (zI sx), .int (zI sy), .int (zI fx), .int (zI fy), .int (zI lf), .int (zI un)]))]) [0] rfl
    have hD9 := hD.sub (ws' := [(lv, .inr (1, [.int (zI w), .int (zI h), .ref ka, .ref ta, .int (zI sx), .int (zI sy), .int (zI fx), .int (zI fy), .int (zI lf), .int (zI un)]))]) [0] (by decide) rfl
    have po : zI 0 = zI (0 : Int) ∧ ((0 : Int) = fgO sx sy x y ∧ 0 ≤ (0 : Int) ∧ (0 : Int) ≤ 1) := by
      refine ⟨by first | rfl | (congr 1; omega) | (congr 1; simp [*]), ?_⟩
      unfold fgO
      split <;> omega
    exact W.zret (v := zI 0) hx hb hr (by first | rfl | decide | exact zI_nz (by omega)) (fun t ht hW => ⟨⟨zI 0, 0, rfl, po, by rw [ht]; exact hP9, va_K.moved hW.alike hK, hD9⟩, hS.F ht⟩) hS.2.2 dX1_startsAt_21
  ·
    refine lv_iload_n hx hb dX1_startsAt_8 rfl (lv_at hl 2 rfl) ?_
    refine lv_aload_n hx hb dX1_startsAt_9 rfl (lv_at hl 0 rfl) ?_
    refine va_get (D := (dC, dI)) (ci := 1) (v := .int (zI sy)) (C := RX1) (T := TX1) (N := 10) hx hb hts i_1 hown hK hP 0 rfl rfl 5 (by decide) f_36 (fun _ h9 => h9) rfl dX1_startsAt_10 ?_
    refine lz_icmp_ne (tgt := 20) hx hb dX1_startsAt_13 (by decide) (by omega) (by omega) (fun c_2 => ?_) (fun c_2 => ?_)
    ·
      refine lv_iconst (v := zI 0) hx hb dX1_startsAt_20 (rfl) ?_
      have hP9 := hP.sub (ws' := [(lv, .inr (1, [.int (zI w), .int (zI h), .ref ka, .ref ta, .int (zI sx), .int (zI sy), .int (zI fx), .int (zI fy), .int (zI lf), .int (zI un)]))]) [0] rfl
      have hD9 := hD.sub (ws' := [(lv, .inr (1, [.int (zI w), .int (zI h), .ref ka, .ref ta, .int (zI sx), .int (zI sy), .int (zI fx), .int (zI fy), .int (zI lf), .int (zI un)]))]) [0] (by decide) rfl
      have po : zI 0 = zI (0 : Int) ∧ ((0 : Int) = fgO sx sy x y ∧ 0 ≤ (0 : Int) ∧ (0 : Int) ≤ 1) := by
        refine ⟨by first | rfl | (congr 1; omega) | (congr 1; simp [*]), ?_⟩
        unfold fgO
        split <;> omega
      exact W.zret (v := zI 0) hx hb hr (by first | rfl | decide | exact zI_nz (by omega)) (fun t ht hW => ⟨⟨zI 0, 0, rfl, po, by rw [ht]; exact hP9, va_K.moved hW.alike hK, hD9⟩, hS.F ht⟩) hS.2.2 dX1_startsAt_21
    ·
      refine lv_iconst (v := zI 1) hx hb dX1_startsAt_16 (rfl) ?_
      refine lv_goto (tgt := 21) hx hb dX1_startsAt_17 (by decide) ?_
      have hP9 := hP.sub (ws' := [(lv, .inr (1, [.int (zI w), .int (zI h), .ref ka, .ref ta, .int (zI sx), .int (zI sy), .int (zI fx), .int (zI fy), .int (zI lf), .int (zI un)]))]) [0] rfl
      have hD9 := hD.sub (ws' := [(lv, .inr (1, [.int (zI w), .int (zI h), .ref ka, .ref ta, .int (zI sx), .int (zI sy), .int (zI fx), .int (zI fy), .int (zI lf), .int (zI un)]))]) [0] (by decide) rfl
      have po : zI 1 = zI (1 : Int) ∧ ((1 : Int) = fgO sx sy x y ∧ 0 ≤ (1 : Int) ∧ (1 : Int) ≤ 1) := by
        refine ⟨by first | rfl | (congr 1; omega) | (congr 1; simp [*]), ?_⟩
        unfold fgO
        split <;> omega
      exact W.zret (v := zI 1) hx hb hr (by first | rfl | decide | exact zI_nz (by omega)) (fun t ht hW => ⟨⟨zI 1, 1, rfl, po, by rw [ht]; exact hP9, va_K.moved hW.alike hK, hD9⟩, hS.F ht⟩) hS.2.2 dX1_startsAt_21
set_option maxHeartbeats 4000000 in
set_option maxRecDepth 100000 in
/-- Hero.walk -/
theorem c_X0_walk (l : Launch) (dC : Nat → ClassId) (dI : Nat → Nat → Nat) (cI cZ cL cT cJ : ClassId) (sz : Nat) (he : Nat) (x : Int) (y : Int) (li : Int) (lv : Nat) (w : Int) (h : Int) (ka : Nat) (ta : Nat) (sx : Int) (sy : Int) (fx : Int) (fy : Int) (lf : Int) (un : Int) (K : Int → Int) (i : Int) (gw : 0 < w ∧ w ≤ 12) (gh : 0 < h ∧ h ≤ 8) (gK : Kin K) (gx : 0 ≤ x ∧ x < w) (gy : 0 ≤ y ∧ y < h) (gl : 0 ≤ li ∧ li ≤ 4) (gi : 0 ≤ i ∧ i ≤ 5) : Met l yX0_walk wsX0_walk ({ frames := 1, cells := 0, slots := 0, locals := 23 }) (zP (dC, dI) (zT cI cZ cL cT cJ) sz [.ref he, .ref lv, .int (zI i)] [(he, .inr (0, [.int (zI x), .int (zI y), .int (zI li)])), (lv, .inr (1, [.int (zI w), .int (zI h), .ref ka, .ref ta, .int (zI sx), .int (zI sy), .int (zI fx), .int (zI fy), .int (zI lf), .int (zI un)])), zA cI ka 96 K]) (va_Qv (fun (u9 : Int) => match u9 with | x1 => (x1 = wk K w h x y i)) (zB (dC, dI) (zT cI cZ cL cT cJ) (va_A [(he, .inr (0, [.int (zI x), .int (zI y), .int (zI li)])), (lv, .inr (1, [.int (zI w), .int (zI h), .ref ka, .ref ta, .int (zI sx), .int (zI sy), .int (zI fx), .int (zI fy), .int (zI lf), .int (zI un)])), zA cI ka 96 K] sz) (fun (u9 : Int) => match u9 with | x1 => [(he, .inr (0, [.int (zI x1), .int (zI y), .int (zI li)])), (lv, .inr (1, [.int (zI w), .int (zI h), .ref ka, .ref ta, .int (zI sx), .int (zI sy), .int (zI fx), .int (zI fy), .int (zI lf), .int (zI un)])), zA cI ka 96 K])) (va_A [(he, .inr (0, [.int (zI x), .int (zI y), .int (zI li)])), (lv, .inr (1, [.int (zI w), .int (zI h), .ref ka, .ref ta, .int (zI sx), .int (zI sy), .int (zI fx), .int (zI fy), .int (zI lf), .int (zI un)])), zA cI ka 96 K] sz)) 0 0 (va_A [(he, .inr (0, [.int (zI x), .int (zI y), .int (zI li)])), (lv, .inr (1, [.int (zI w), .int (zI h), .ref ka, .ref ta, .int (zI sx), .int (zI sy), .int (zI fx), .int (zI fy), .int (zI lf), .int (zI un)])), zA cI ka 96 K] sz) := by
  refine Met.ofW (cc := cX0_walk) (maxL := 5) (ret := none) (by decide) rfl ?_
  intro p e s m args below meth c s₁ B hml hv
  obtain ⟨rfl, hsz, hP, hK, hD0⟩ := hv
  have hx := B.exec
  have hb := B.bytes
  have hr := B.returns
  have hts := atoms_spec (ws := wsX0_walk) B.pre
  have hown : s.vm.findClass RX0 = some m.cls := findClass_of_methodNamed B.named
  have hlocks := B.notSynchronized
  subst hsz
  have hD := hD0.self (sz := s.heap.size)
  generalize hAe : va_A [(he, .inr (0, [.int (zI x), .int (zI y), .int (zI li)])), (lv, .inr (1, [.int (zI w), .int (zI h), .ref ka, .ref ta, .int (zI sx), .int (zI sy), .int (zI fx), .int (zI fy), .int (zI lf), .int (zI un)])), zA cI ka 96 K] s.heap.size = A at hD ⊢
  have hA : ∀ q : Nat, s.heap.size ≤ q → A q := fun q h => by rw [← hAe]; exact Or.inr h
  clear hAe hD0
  have hS : va_S A s.heap s.heap [] := va_S.rf
  have hP : va_P (dC, dI) vwCl [(he, .inr (0, [.int (zI x), .int (zI y), .int (zI li)])), (lv, .inr (1, [.int (zI w), .int (zI h), .ref ka, .ref ta, .int (zI sx), .int (zI sy), .int (zI fx), .int (zI fy), .int (zI lf), .int (zI un)])), zA cI ka 96 K] s.heap := hP
  have f_9 := hts (.fieldLink RX0 9 "SpringLevels$Hero" "x" "I") (by decide +kernel)
  have f_15 := hts (.fieldLink RX0 15 "SpringLevels$Hero" "y" "I") (by decide +kernel)
  have i_0 : ∀ w ∈ wsX00, w ∈ wsX0_walk := by decide +kernel
  have hl := lv_entry ([.ref he, .ref lv, .int (zI i)]) (n := 5) (Nat.le_of_ble_eq_true rfl)
  rw [lg_entry_eq]
  generalize (lg_sl ([.ref he, .ref lv, .int (zI i)]) ++ List.replicate (5 - (lg_sl ([.ref he, .ref lv, .int (zI i)])).length) Slot.unset).toArray = ls at hl ⊢
  have hl : lv_has ls 5 [(0, .ref he), (1, .ref lv), (2, .int (zI i))] := hl
  refine lv_aload_n hx hb dX0_walk_0 rfl (lv_at hl 0 rfl) ?_
  refine va_get (D := (dC, dI)) (ci := 0) (v := .int (zI x)) (C := RX0) (T := TX0) (N := 3) hx hb hts i_0 hown hK hP 0 rfl rfl 0 (by decide) f_9 (fun _ h9 => h9) rfl dX0_walk_1 ?_
  refine lv_istore_n (lv' := [(3, .int (zI x)), (0, .ref he), (1, .ref lv), (2, .int (zI i))]) hx hb dX0_walk_4 rfl hl (by decide) rfl (fun ls hl => ?_)
  refine z_cut (I := fun (x9 : Int) (H9 : Heap) (k9 : List Loc) (ls9 : Array Slot) => match x9 with | nx => (nx = wkN x i) ∧ va_P (dC, dI) vwCl [(he, .inr (0, [.int (zI x), .int (zI y), .int (zI li)])), (lv, .inr (1, [.int (zI w), .int (zI h), .ref ka, .ref ta, .int (zI sx), .int (zI sy), .int (zI fx), .int (zI fy), .int (zI lf), .int (zI un)])), zA cI ka 96 K] H9 ∧ va_D A [(he, .inr (0, [.int (zI x), .int (zI y), .int (zI li)])), (lv, .inr (1, [.int (zI w), .int (zI h), .ref ka, .ref ta, .int (zI sx), .int (zI sy), .int (zI fx), .int (zI fy), .int (zI lf), .int (zI un)])), zA cI ka 96 K] ∧ va_S A s.heap H9 k9 ∧ lv_has ls9 5 [(0, .ref he), (1, .ref lv), (2, .int (zI i)), (3, .int (zI nx))]) (fr := fun (x9 : Int) (ls9 : Array Slot) => match x9 with | nx => F0 m 42 ls9 []) ?_ ?_
  · rintro nx H locs ls ⟨hn, hP, hD, hS, hl⟩
    refine W.eq (g2 := F0 m 42 ls []) rfl ?_
    refine lv_aload_n hx hb dX0_walk_42 rfl (lv_at hl 1 rfl) ?_
    refine lv_iload_n hx hb dX0_walk_43 rfl (lv_at hl 3 rfl) ?_
    refine lv_aload_n hx hb dX0_walk_44 rfl (lv_at hl 0 rfl) ?_
    refine va_get (D := (dC, dI)) (ci := 0) (v := .int (zI y)) (C := RX0) (T := TX0) (N := 3) hx hb hts i_0 hown hK hP 0 rfl rfl 1 (by decide) f_15 (fun _ h9 => h9) rfl dX0_walk_45 ?_
    have hPc := hP.sub (ws' := [(lv, .inr (1, [.int (zI w), .int (zI h), .ref ka, .ref ta, .int (zI sx), .int (zI sy), .int (zI fx), .int (zI fy), .int (zI lf), .int (zI un)])), zA cI ka 96 K]) [1, 2] rfl
    have hDc := hD.sub (ws' := [(lv, .inr (1, [.int (zI w), .int (zI h), .ref ka, .ref ta, .int (zI sx), .int (zI sy), .int (zI fx), .int (zI fy), .int (zI lf), .int (zI un)])), zA cI ka 96 K]) [1, 2] (by decide) rfl
    have hFc := va_free (wc := [(lv, .inr (1, [.int (zI w), .int (zI h), .ref ka, .ref ta, .int (zI sx), .int (zI sy), .int (zI fx), .int (zI fy), .int (zI lf), .int (zI un)])), zA cI ka 96 K]) hD hS hA [1, 2] rfl
    refine va_calli (va_runV (As := [.int (zI nx), .int (zI y)]) (rest := []) ⟨hx, hb, hml, hown, hts⟩ (c_X1_kindAt l dC dI cI cZ cL cT cJ H.size lv w h ka (.ref ta) sx sy fx fy lf un K nx y (by first | assumption | omega) (by first | assumption | omega) (by first | assumption | omega) (by (have e9 : nx = wkN x i := hn; unfold wkN at e9; (repeat' split at e9) <;> omega)) (by first | assumption | omega)) (cwV 2 hts gX0_walk_X1_kindAt rfl rfl rfl (by decide +kernel) ⟨Nat.le_of_ble_eq_true rfl, Nat.le_of_ble_eq_true rfl⟩) ⟨zP_blind, va_recv hK hPc (ci := 1) (q0 := 0) rfl rfl, zP_pre hPc hDc hK⟩ rfl rfl hl.1 rfl (lv_room (Nat.le_of_ble_eq_true rfl)) dX0_walk_48 ⟨Nat.le_of_ble_eq_true rfl, Nat.le_of_ble_eq_true rfl⟩) hS (fun q _ h => hFc q h) hFc (fun r_1 u_1 t H1 locs ht hvm hw hB hz1 hk1 hS => ?_)
    obtain ⟨r_2, rfl⟩ : ∃ z, z = u_1 := ⟨_, rfl⟩
    obtain ⟨hP1, hK1, hD1⟩ := hB
    rw [ht] at hP1
    have hP1 : va_P (dC, dI) vwCl [(lv, .inr (1, [.int (zI w), .int (zI h), .ref ka, .ref ta, .int (zI sx), .int (zI sy), .int (zI fx), .int (zI fy), .int (zI lf), .int (zI un)])), zA cI ka 96 K] H1 := hP1
    obtain ⟨hP, hD⟩ := va_join (wr := [(he, .inr (0, [.int (zI x), .int (zI y), .int (zI li)]))]) (w1 := [(lv, .inr (1, [.int (zI w), .int (zI h), .ref ka, .ref ta, .int (zI sx), .int (zI sy), .int (zI fx), .int (zI fy), .int (zI lf), .int (zI un)])), zA cI ka 96 K]) hP hD [1, 2] [0] rfl rfl (by decide) (by decide) hk1 hFc hP1 hD1
    clear hP1 hD1 hk1 hFc hPc hDc hz1
    generalize H1 = H at hP hS ⊢
    have hP : va_P (dC, dI) vwCl [(he, .inr (0, [.int (zI x), .int (zI y), .int (zI li)])), (lv, .inr (1, [.int (zI w), .int (zI h), .ref ka, .ref ta, .int (zI sx), .int (zI sy), .int (zI fx), .int (zI fy), .int (zI lf), .int (zI un)])), zA cI ka 96 K] H := hP.sub [0, 1, 2] rfl
    have hD : va_D A [(he, .inr (0, [.int (zI x), .int (zI y), .int (zI li)])), (lv, .inr (1, [.int (zI w), .int (zI h), .ref ka, .ref ta, .int (zI sx), .int (zI sy), .int (zI fx), .int (zI fy), .int (zI lf), .int (zI un)])), zA cI ka 96 K] := hD.sub [0, 1, 2] (by decide) rfl
    clear hK1 hvm
    obtain ⟨rfl, po_3⟩ := hw
    have po_3 : r_2 = kd K w h nx y ∧ -1 ≤ r_2 ∧ r_2 ≤ 3 := po_3
    refine W.eq (g2 := F0 m 51 ls [.int (zI r_2)]) rfl ?_
    refine lv_istore (lv' := [(4, .int (zI r_2)), (0, .ref he), (1, .ref lv), (2, .int (zI i)), (3, .int (zI nx))]) hx hb dX0_walk_51 hl (by decide) rfl (fun ls hl => ?_)
    refine lv_iload hx hb dX0_walk_53 (lv_at hl 0 rfl) ?_
    refine lv_iconst (v := zI (-1)) hx hb dX0_walk_55 (rfl) ?_
    refine lz_icmp_eq (tgt := 70) hx hb dX0_walk_56 (by decide) (by omega) ⟨by decide, by decide⟩ (fun c_4 => ?_) (fun c_4 => ?_)
    ·
      have hP9 := hP.sub (ws' := [(he, .inr (0, [.int (zI x), .int (zI y), .int (zI li)])), (lv, .inr (1, [.int (zI w), .int (zI h), .ref ka, .ref ta, .int (zI sx), .int (zI sy), .int (zI fx), .int (zI fy), .int (zI lf), .int (zI un)])), zA cI ka 96 K]) [0, 1, 2] rfl
      have hD9 := hD.sub (ws' := [(he, .inr (0, [.int (zI x), .int (zI y), .int (zI li)])), (lv, .inr (1, [.int (zI w), .int (zI h), .ref ka, .ref ta, .int (zI sx), .int (zI sy), .int (zI fx), .int (zI fy), .int (zI lf), .int (zI un)])), zA cI ka 96 K]) [0, 1, 2] (by decide) rfl
      have po : (x = wk K w h x y i) := by
        rw [wk, ← hn, ← po_3.1]
        (repeat' split) <;> omega
      exact W.vret hx hb hr (fun t ht hW => ⟨⟨x, rfl, po, by rw [ht]; exact hP9, va_K.moved hW.alike hK, hD9⟩, hS.F ht⟩) hS.2.2 dX0_walk_70
    ·
      refine lv_iload hx hb dX0_walk_59 (lv_at hl 0 rfl) ?_
      refine lv_iconst (v := zI 1) hx hb dX0_walk_61 (rfl) ?_
      refine lz_icmp_eq (tgt := 70) hx hb dX0_walk_62 (by decide) (by omega) ⟨by decide, by decide⟩ (fun c_5 => ?_) (fun c_5 => ?_)
      ·
        have hP9 := hP.sub (ws' := [(he, .inr (0, [.int (zI x), .int (zI y), .int (zI li)])), (lv, .inr (1, [.int (zI w), .int (zI h), .ref ka, .ref ta, .int (zI sx), .int (zI sy), .int (zI fx), .int (zI fy), .int (zI lf), .int (zI un)])), zA cI ka 96 K]) [0, 1, 2] rfl
        have hD9 := hD.sub (ws' := [(he, .inr (0, [.int (zI x), .int (zI y), .int (zI li)])), (lv, .inr (1, [.int (zI w), .int (zI h), .ref ka, .ref ta, .int (zI sx), .int (zI sy), .int (zI fx), .int (zI fy), .int (zI lf), .int (zI un)])), zA cI ka 96 K]) [0, 1, 2] (by decide) rfl
        have po : (x = wk K w h x y i) := by
          rw [wk, ← hn, ← po_3.1]
          (repeat' split) <;> omega
        exact W.vret hx hb hr (fun t ht hW => ⟨⟨x, rfl, po, by rw [ht]; exact hP9, va_K.moved hW.alike hK, hD9⟩, hS.F ht⟩) hS.2.2 dX0_walk_70
      ·
        refine lv_aload_n hx hb dX0_walk_65 rfl (lv_at hl 1 rfl) ?_
        refine lv_iload_n hx hb dX0_walk_66 rfl (lv_at hl 4 rfl) ?_
        refine va_put (D := (dC, dI)) (ci := 0) (v := .int (zI nx)) (ty := .int) (C := RX0) (T := TX0) (N := 3) hx hb hts i_0 tyX0 tyX0_ok nmX0 hown hK hP hD hS 0 rfl rfl 0 (by decide) f_9 (fun _ h9 => h9) rfl (by decide +kernel) rfl rfl (Nat.le_of_ble_eq_true rfl) dX0_walk_67 (fun H locs hP hD hS => ?_)
        have hP : va_P (dC, dI) vwCl [(he, .inr (0, [.int (zI nx), .int (zI y), .int (zI li)])), (lv, .inr (1, [.int (zI w), .int (zI h), .ref ka, .ref ta, .int (zI sx), .int (zI sy), .int (zI fx), .int (zI fy), .int (zI lf), .int (zI un)])), zA cI ka 96 K] H := hP
        have hD : va_D A [(he, .inr (0, [.int (zI nx), .int (zI y), .int (zI li)])), (lv, .inr (1, [.int (zI w), .int (zI h), .ref ka, .ref ta, .int (zI sx), .int (zI sy), .int (zI fx), .int (zI fy), .int (zI lf), .int (zI un)])), zA cI ka 96 K] := hD
        have hP9 := hP.sub (ws' := [(he, .inr (0, [.int (zI nx), .int (zI y), .int (zI li)])), (lv, .inr (1, [.int (zI w), .int (zI h), .ref ka, .ref ta, .int (zI sx), .int (zI sy), .int (zI fx), .int (zI fy), .int (zI lf), .int (zI un)])), zA cI ka 96 K]) [0, 1, 2] rfl
        have hD9 := hD.sub (ws' := [(he, .inr (0, [.int (zI nx), .int (zI y), .int (zI li)])), (lv, .inr (1, [.int (zI w), .int (zI h), .ref ka, .ref ta, .int (zI sx), .int (zI sy), .int (zI fx), .int (zI fy), .int (zI lf), .int (zI un)])), zA cI ka 96 K]) [0, 1, 2] (by decide) rfl
        have po : (nx = wk K w h x y i) := by
          rw [wk, ← hn, ← po_3.1]
          (repeat' split) <;> omega
        exact W.vret hx hb hr (fun t ht hW => ⟨⟨nx, rfl, po, by rw [ht]; exact hP9, va_K.moved hW.alike hK, hD9⟩, hS.F ht⟩) hS.2.2 dX0_walk_70
  intro J_6
  refine lv_iload_n hx hb dX0_walk_5 rfl (lv_at hl 3 rfl) ?_
  refine lv_iconst (v := zI 1) hx hb dX0_walk_6 (rfl) ?_
  refine lz_icmp_eq (tgt := 15) hx hb dX0_walk_7 (by decide) (by omega) ⟨by decide, by decide⟩ (fun c_7 => ?_) (fun c_7 => ?_)
  ·
    refine lv_aload_n hx hb dX0_walk_15 rfl (lv_at hl 1 rfl) ?_
    refine va_get (D := (dC, dI)) (ci := 0) (v := .int (zI x)) (C := RX0) (T := TX0) (N := 3) hx hb hts i_0 hown hK hP 0 rfl rfl 0 (by decide) f_9 (fun _ h9 => h9) rfl dX0_walk_16 ?_
    refine lv_iconst (v := zI 1) hx hb dX0_walk_19 (rfl) ?_
    refine lz_isub (z := x - 1) hx hb dX0_walk_20 (by rfl) ?_
    refine lv_istore_n (lv' := [(3, .int (zI (x - 1))), (0, .ref he), (1, .ref lv), (2, .int (zI i))]) hx hb dX0_walk_21 rfl hl (by decide) rfl (fun ls hl => ?_)
    refine lv_goto (tgt := 42) hx hb dX0_walk_22 (by decide) ?_
    exact J_6 (x - 1) _ _ _ ⟨(by (unfold wkN; (repeat' split) <;> omega)), hP, hD, hS, lv_sub hl [1, 2, 3, 0] rfl⟩
  ·
    refine lv_iload_n hx hb dX0_walk_10 rfl (lv_at hl 3 rfl) ?_
    refine lv_iconst (v := zI 4) hx hb dX0_walk_11 (rfl) ?_
    refine lz_icmp_ne (tgt := 25) hx hb dX0_walk_12 (by decide) (by omega) ⟨by decide, by decide⟩ (fun c_8 => ?_) (fun c_8 => ?_)
    ·
      refine lv_iload_n hx hb dX0_walk_25 rfl (lv_at hl 3 rfl) ?_
      refine lv_iconst (v := zI 2) hx hb dX0_walk_26 (rfl) ?_
      refine lz_icmp_eq (tgt := 35) hx hb dX0_walk_27 (by decide) (by omega) ⟨by decide, by decide⟩ (fun c_9 => ?_) (fun c_9 => ?_)
      ·
        refine lv_aload_n hx hb dX0_walk_35 rfl (lv_at hl 1 rfl) ?_
        refine va_get (D := (dC, dI)) (ci := 0) (v := .int (zI x)) (C := RX0) (T := TX0) (N := 3) hx hb hts i_0 hown hK hP 0 rfl rfl 0 (by decide) f_9 (fun _ h9 => h9) rfl dX0_walk_36 ?_
        refine lv_iconst (v := zI 1) hx hb dX0_walk_39 (rfl) ?_
        refine lz_iadd (z := x + 1) hx hb dX0_walk_40 (by rfl) ?_
        refine lv_istore_n (lv' := [(3, .int (zI (x + 1))), (0, .ref he), (1, .ref lv), (2, .int (zI i))]) hx hb dX0_walk_41 rfl hl (by decide) rfl (fun ls hl => ?_)
        exact J_6 (x + 1) _ _ _ ⟨(by (unfold wkN; (repeat' split) <;> omega)), hP, hD, hS, lv_sub hl [1, 2, 3, 0] rfl⟩
      ·
        refine lv_iload_n hx hb dX0_walk_30 rfl (lv_at hl 3 rfl) ?_
        refine lv_iconst (v := zI 5) hx hb dX0_walk_31 (rfl) ?_
        refine lz_icmp_ne (tgt := 42) hx hb dX0_walk_32 (by decide) (by omega) ⟨by decide, by decide⟩ (fun c_10 => ?_) (fun c_10 => ?_)
        ·
          exact J_6 x _ _ _ ⟨(by (unfold wkN; (repeat' split) <;> omega)), hP, hD, hS, lv_sub hl [1, 2, 3, 0] rfl⟩
        ·
          refine lv_aload_n hx hb dX0_walk_35 rfl (lv_at hl 1 rfl) ?_
          refine va_get (D := (dC, dI)) (ci := 0) (v := .int (zI x)) (C := RX0) (T := TX0) (N := 3) hx hb hts i_0 hown hK hP 0 rfl rfl 0 (by decide) f_9 (fun _ h9 => h9) rfl dX0_walk_36 ?_
          refine lv_iconst (v := zI 1) hx hb dX0_walk_39 (rfl) ?_
          refine lz_iadd (z := x + 1) hx hb dX0_walk_40 (by rfl) ?_
          refine lv_istore_n (lv' := [(3, .int (zI (x + 1))), (0, .ref he), (1, .ref lv), (2, .int (zI i))]) hx hb dX0_walk_41 rfl hl (by decide) rfl (fun ls hl => ?_)
          exact J_6 (x + 1) _ _ _ ⟨(by (unfold wkN; (repeat' split) <;> omega)), hP, hD, hS, lv_sub hl [1, 2, 3, 0] rfl⟩
    ·
      refine lv_aload_n hx hb dX0_walk_15 rfl (lv_at hl 1 rfl) ?_
      refine va_get (D := (dC, dI)) (ci := 0) (v := .int (zI x)) (C := RX0) (T := TX0) (N := 3) hx hb hts i_0 hown hK hP 0 rfl rfl 0 (by decide) f_9 (fun _ h9 => h9) rfl dX0_walk_16 ?_
      refine lv_iconst (v := zI 1) hx hb dX0_walk_19 (rfl) ?_
      refine lz_isub (z := x - 1) hx hb dX0_walk_20 (by rfl) ?_
      refine lv_istore_n (lv' := [(3, .int (zI (x - 1))), (0, .ref he), (1, .ref lv), (2, .int (zI i))]) hx hb dX0_walk_21 rfl hl (by decide) rfl (fun ls hl => ?_)
      refine lv_goto (tgt := 42) hx hb dX0_walk_22 (by decide) ?_
      exact J_6 (x - 1) _ _ _ ⟨(by (unfold wkN; (repeat' split) <;> omega)), hP, hD, hS, lv_sub hl [1, 2, 3, 0] rfl⟩
set_option maxHeartbeats 4000000 in
set_option maxRecDepth 100000 in
/-- Hero.rise -/
theorem c_X0_rise (l : Launch) (dC : Nat → ClassId) (dI : Nat → Nat → Nat) (cI cZ cL cT cJ : ClassId) (sz : Nat) (he : Nat) (x : Int) (y : Int) (li : Int) (lv : Nat) (w : Int) (h : Int) (ka : Nat) (ta : Nat) (sx : Int) (sy : Int) (fx : Int) (fy : Int) (lf : Int) (un : Int) (K : Int → Int) (gw : 0 < w ∧ w ≤ 12) (gh : 0 < h ∧ h ≤ 8) (gK : Kin K) (gx : 0 ≤ x ∧ x < w) (gy : 0 ≤ y ∧ y < h) (gl : 0 ≤ li ∧ li ≤ 4) : Met l yX0_rise wsX0_rise ({ frames := 1, cells := 0, slots := 0, locals := 23 }) (zP (dC, dI) (zT cI cZ cL cT cJ) sz [.ref he, .ref lv] [(he, .inr (0, [.int (zI x), .int (zI y), .int (zI li)])), (lv, .inr (1, [.int (zI w), .int (zI h), .ref ka, .ref ta, .int (zI sx), .int (zI sy), .int (zI fx), .int (zI fy), .int (zI lf), .int (zI un)])), zA cI ka 96 K]) (va_Qv (fun (u9 : Int × Int) => match u9 with | (y1, l1) => (y1 = riY K w h x y ∧ l1 = riL K w h x y li)) (zB (dC, dI) (zT cI cZ cL cT cJ) (va_A [(he, .inr (0, [.int (zI x), .int (zI y), .int (zI li)])), (lv, .inr (1, [.int (zI w), .int (zI h), .ref ka, .ref ta, .int (zI sx), .int (zI sy), .int (zI fx), .int (zI fy), .int (zI lf), .int (zI un)])), zA cI ka 96 K] sz) (fun (u9 : Int × Int) => match u9 with | (y1, l1) => [(he, .inr (0, [.int (zI x), .int (zI y1), .int (zI l1)])), (lv, .inr (1, [.int (zI w), .int (zI h), .ref ka, .ref ta, .int (zI sx), .int (zI sy), .int (zI fx), .int (zI fy), .int (zI lf), .int (zI un)])), zA cI ka 96 K])) (va_A [(he, .inr (0, [.int (zI x), .int (zI y), .int (zI li)])), (lv, .inr (1, [.int (zI w), .int (zI h), .ref ka, .ref ta, .int (zI sx), .int (zI sy), .int (zI fx), .int (zI fy), .int (zI lf), .int (zI un)])), zA cI ka 96 K] sz)) 0 0 (va_A [(he, .inr (0, [.int (zI x), .int (zI y), .int (zI li)])), (lv, .inr (1, [.int (zI w), .int (zI h), .ref ka, .ref ta, .int (zI sx), .int (zI sy), .int (zI fx), .int (zI fy), .int (zI lf), .int (zI un)])), zA cI ka 96 K] sz) := by
  refine Met.ofW (cc := cX0_rise) (maxL := 3) (ret := none) (by decide) rfl ?_
  intro p e s m args below meth c s₁ B hml hv
  obtain ⟨rfl, hsz, hP, hK, hD0⟩ := hv
  have hx := B.exec
  have hb := B.bytes
  have hr := B.returns
  have hts := atoms_spec (ws := wsX0_rise) B.pre
  have hown : s.vm.findClass RX0 = some m.cls := findClass_of_methodNamed B.named
  have hlocks := B.notSynchronized
  subst hsz
  have hD := hD0.self (sz := s.heap.size)
  generalize hAe : va_A [(he, .inr (0, [.int (zI x), .int (zI y), .int (zI li)])), (lv, .inr (1, [.int (zI w), .int (zI h), .ref ka, .ref ta, .int (zI sx), .int (zI sy), .int (zI fx), .int (zI fy), .int (zI lf), .int (zI un)])), zA cI ka 96 K] s.heap.size = A at hD ⊢
  have hA : ∀ q : Nat, s.heap.size ≤ q → A q := fun q h => by rw [← hAe]; exact Or.inr h
  clear hAe hD0
  have hS : va_S A s.heap s.heap [] := va_S.rf
  have hP : va_P (dC, dI) vwCl [(he, .inr (0, [.int (zI x), .int (zI y), .int (zI li)])), (lv, .inr (1, [.int (zI w), .int (zI h), .ref ka, .ref ta, .int (zI sx), .int (zI sy), .int (zI fx), .int (zI fy), .int (zI lf), .int (zI un)])), zA cI ka 96 K] s.heap := hP
  have f_9 := hts (.fieldLink RX0 9 "SpringLevels$Hero" "x" "I") (by decide +kernel)
  have f_15 := hts (.fieldLink RX0 15 "SpringLevels$Hero" "y" "I") (by decide +kernel)
  have f_18 := hts (.fieldLink RX0 18 "SpringLevels$Hero" "lift" "I") (by decide +kernel)
  have i_0 : ∀ w ∈ wsX00, w ∈ wsX0_rise := by decide +kernel
  have hl := lv_entry ([.ref he, .ref lv]) (n := 3) (Nat.le_of_ble_eq_true rfl)
  rw [lg_entry_eq]
  generalize (lg_sl ([.ref he, .ref lv]) ++ List.replicate (3 - (lg_sl ([.ref he, .ref lv])).length) Slot.unset).toArray = ls at hl ⊢
  have hl : lv_has ls 3 [(0, .ref he), (1, .ref lv)] := hl
  refine lv_aload_n hx hb dX0_rise_0 rfl (lv_at hl 1 rfl) ?_
  refine lv_aload_n hx hb dX0_rise_1 rfl (lv_at hl 0 rfl) ?_
  refine va_get (D := (dC, dI)) (ci := 0) (v := .int (zI x)) (C := RX0) (T := TX0) (N := 3) hx hb hts i_0 hown hK hP 0 rfl rfl 0 (by decide) f_9 (fun _ h9 => h9) rfl dX0_rise_2 ?_
  refine lv_aload_n hx hb dX0_rise_5 rfl (lv_at hl 0 rfl) ?_
  refine va_get (D := (dC, dI)) (ci := 0) (v := .int (zI y)) (C := RX0) (T := TX0) (N := 3) hx hb hts i_0 hown hK hP 0 rfl rfl 1 (by decide) f_15 (fun _ h9 => h9) rfl dX0_rise_6 ?_
  refine lv_iconst (v := zI 1) hx hb dX0_rise_9 (rfl) ?_
  refine lz_isub (z := y - 1) hx hb dX0_rise_10 (by rfl) ?_
  have hPc := hP.sub (ws' := [(lv, .inr (1, [.int (zI w), .int (zI h), .ref ka, .ref ta, .int (zI sx), .int (zI sy), .int (zI fx), .int (zI fy), .int (zI lf), .int (zI un)])), zA cI ka 96 K]) [1, 2] rfl
  have hDc := hD.sub (ws' := [(lv, .inr (1, [.int (zI w), .int (zI h), .ref ka, .ref ta, .int (zI sx), .int (zI sy), .int (zI fx), .int (zI fy), .int (zI lf), .int (zI un)])), zA cI ka 96 K]) [1, 2] (by decide) rfl
  have hFc := va_free (wc := [(lv, .inr (1, [.int (zI w), .int (zI h), .ref ka, .ref ta, .int (zI sx), .int (zI sy), .int (zI fx), .int (zI fy), .int (zI lf), .int (zI un)])), zA cI ka 96 K]) hD hS hA [1, 2] rfl
  refine va_calli (va_runV (As := [.int (zI x), .int (zI (y - 1))]) (rest := []) ⟨hx, hb, hml, hown, hts⟩ (c_X1_kindAt l dC dI cI cZ cL cT cJ s.heap.size lv w h ka (.ref ta) sx sy fx fy lf un K x (y - 1) (by first | assumption | omega) (by first | assumption | omega) (by first | assumption | omega) (by first | assumption | omega) (by first | assumption | omega)) (cwV 2 hts gX0_rise_X1_kindAt rfl rfl rfl (by decide +kernel) ⟨Nat.le_of_ble_eq_true rfl, Nat.le_of_ble_eq_true rfl⟩) ⟨zP_blind, va_recv hK hPc (ci := 1) (q0 := 0) rfl rfl, zP_pre hPc hDc hK⟩ rfl rfl hl.1 rfl (lv_room (Nat.le_of_ble_eq_true rfl)) dX0_rise_11 ⟨Nat.le_of_ble_eq_true rfl, Nat.le_of_ble_eq_true rfl⟩) hS (fun q _ h => hFc q h) hFc (fun r_1 u_1 t H1 locs ht hvm hw hB hz1 hk1 hS => ?_)
  obtain ⟨r_2, rfl⟩ : ∃ z, z = u_1 := ⟨_, rfl⟩
  obtain ⟨hP1, hK1, hD1⟩ := hB
  rw [ht] at hP1
  have hP1 : va_P (dC, dI) vwCl [(lv, .inr (1, [.int (zI w), .int (zI h), .ref ka, .ref ta, .int (zI sx), .int (zI sy), .int (zI fx), .int (zI fy), .int (zI lf), .int (zI un)])), zA cI ka 96 K] H1 := hP1
  obtain ⟨hP, hD⟩ := va_join (wr := [(he, .inr (0, [.int (zI x), .int (zI y), .int (zI li)]))]) (w1 := [(lv, .inr (1, [.int (zI w), .int (zI h), .ref ka, .ref ta, .int (zI sx), .int (zI sy), .int (zI fx), .int (zI fy), .int (zI lf), .int (zI un)])), zA cI ka 96 K]) hP hD [1, 2] [0] rfl rfl (by decide) (by decide) hk1 hFc hP1 hD1
  clear hP1 hD1 hk1 hFc hPc hDc hz1
  generalize H1 = H at hP hS ⊢
  have hP : va_P (dC, dI) vwCl [(he, .inr (0, [.int (zI x), .int (zI y), .int (zI li)])), (lv, .inr (1, [.int (zI w), .int (zI h), .ref ka, .ref ta, .int (zI sx), .int (zI sy), .int (zI fx), .int (zI fy), .int (zI lf), .int (zI un)])), zA cI ka 96 K] H := hP.sub [0, 1, 2] rfl
  have hD : va_D A [(he, .inr (0, [.int (zI x), .int (zI y), .int (zI li)])), (lv, .inr (1, [.int (zI w), .int (zI h), .ref ka, .ref ta, .int (zI sx), .int (zI sy), .int (zI fx), .int (zI fy), .int (zI lf), .int (zI un)])), zA cI ka 96 K] := hD.sub [0, 1, 2] (by decide) rfl
  clear hK1 hvm
  obtain ⟨rfl, po_3⟩ := hw
  have po_3 : r_2 = kd K w h x (y - 1) ∧ -1 ≤ r_2 ∧ r_2 ≤ 3 := po_3
  refine W.eq (g2 := F0 m 14 ls [.int (zI r_2)]) rfl ?_
  refine lv_istore_n (lv' := [(2, .int (zI r_2)), (0, .ref he), (1, .ref lv)]) hx hb dX0_rise_14 rfl hl (by decide) rfl (fun ls hl => ?_)
  refine lv_iload_n hx hb dX0_rise_15 rfl (lv_at hl 0 rfl) ?_
  refine lv_iconst (v := zI (-1)) hx hb dX0_rise_16 (rfl) ?_
  refine lz_icmp_eq (tgt := 25) hx hb dX0_rise_17 (by decide) (by omega) ⟨by decide, by decide⟩ (fun c_4 => ?_) (fun c_4 => ?_)
  ·
    refine lv_aload_n hx hb dX0_rise_25 rfl (lv_at hl 1 rfl) ?_
    refine lv_iconst (v := zI 0) hx hb dX0_rise_26 (rfl) ?_
    refine va_put (D := (dC, dI)) (ci := 0) (v := .int (zI 0)) (ty := .int) (C := RX0) (T := TX0) (N := 3) hx hb hts i_0 tyX0 tyX0_ok nmX0 hown hK hP hD hS 0 rfl rfl 2 (by decide) f_18 (fun _ h9 => h9) rfl (by decide +kernel) rfl rfl (Nat.le_of_ble_eq_true rfl) dX0_rise_27 (fun H locs hP hD hS => ?_)
    have hP : va_P (dC, dI) vwCl [(he, .inr (0, [.int (zI x), .int (zI y), .int (zI 0)])), (lv, .inr (1, [.int (zI w), .int (zI h), .ref ka, .ref ta, .int (zI sx), .int (zI sy), .int (zI fx), .int (zI fy), .int (zI lf), .int (zI un)])), zA cI ka 96 K] H := hP
    have hD : va_D A [(he, .inr (0, [.int (zI x), .int (zI y), .int (zI 0)])), (lv, .inr (1, [.int (zI w), .int (zI h), .ref ka, .ref ta, .int (zI sx), .int (zI sy), .int (zI fx), .int (zI fy), .int (zI lf), .int (zI un)])), zA cI ka 96 K] := hD
    refine lv_goto (tgt := 53) hx hb dX0_rise_30 (by decide) ?_
    have hP9 := hP.sub (ws' := [(he, .inr (0, [.int (zI x), .int (zI y), .int (zI 0)])), (lv, .inr (1, [.int (zI w), .int (zI h), .ref ka, .ref ta, .int (zI sx), .int (zI sy), .int (zI fx), .int (zI fy), .int (zI lf), .int (zI un)])), zA cI ka 96 K]) [0, 1, 2] rfl
    have hD9 := hD.sub (ws' := [(he, .inr (0, [.int (zI x), .int (zI y), .int (zI 0)])), (lv, .inr (1, [.int (zI w), .int (zI h), .ref ka, .ref ta, .int (zI sx), .int (zI sy), .int (zI fx), .int (zI fy), .int (zI lf), .int (zI un)])), zA cI ka 96 K]) [0, 1, 2] (by decide) rfl
    have po : (y = riY K w h x y ∧ (0 : Int) = riL K w h x y li) := by
      rw [riY, riL, ← po_3.1]
      first | (rw [if_pos (by omega), if_pos (by omega)]; exact ⟨rfl, rfl⟩) | (rw [if_neg (by omega), if_neg (by omega)]; exact ⟨rfl, rfl⟩)
    exact W.vret hx hb hr (fun t ht hW => ⟨⟨(y, 0), rfl, po, by rw [ht]; exact hP9, va_K.moved hW.alike hK, hD9⟩, hS.F ht⟩) hS.2.2 dX0_rise_53
  ·
    refine lv_iload_n hx hb dX0_rise_20 rfl (lv_at hl 0 rfl) ?_
    refine lv_iconst (v := zI 1) hx hb dX0_rise_21 (rfl) ?_
    refine lz_icmp_ne (tgt := 33) hx hb dX0_rise_22 (by decide) (by omega) ⟨by decide, by decide⟩ (fun c_5 => ?_) (fun c_5 => ?_)
    ·
      refine lv_aload_n hx hb dX0_rise_33 rfl (lv_at hl 1 rfl) ?_
      refine lv_dup hx hb dX0_rise_34 rfl ?_
      refine va_get (D := (dC, dI)) (ci := 0) (v := .int (zI y)) (C := RX0) (T := TX0) (N := 3) hx hb hts i_0 hown hK hP 0 rfl rfl 1 (by decide) f_15 (fun _ h9 => h9) rfl dX0_rise_35 ?_
      refine lv_iconst (v := zI 1) hx hb dX0_rise_38 (rfl) ?_
      refine lz_isub (z := y - 1) hx hb dX0_rise_39 (by rfl) ?_
      refine va_put (D := (dC, dI)) (ci := 0) (v := .int (zI (y - 1))) (ty := .int) (C := RX0) (T := TX0) (N := 3) hx hb hts i_0 tyX0 tyX0_ok nmX0 hown hK hP hD hS 0 rfl rfl 1 (by decide) f_15 (fun _ h9 => h9) rfl (by decide +kernel) rfl rfl (Nat.le_of_ble_eq_true rfl) dX0_rise_40 (fun H locs hP hD hS => ?_)
      have hP : va_P (dC, dI) vwCl [(he, .inr (0, [.int (zI x), .int (zI (y - 1)), .int (zI li)])), (lv, .inr (1, [.int (zI w), .int (zI h), .ref ka, .ref ta, .int (zI sx), .int (zI sy), .int (zI fx), .int (zI fy), .int (zI lf), .int (zI un)])), zA cI ka 96 K] H := hP
      have hD : va_D A [(he, .inr (0, [.int (zI x), .int (zI (y - 1)), .int (zI li)])), (lv, .inr (1, [.int (zI w), .int (zI h), .ref ka, .ref ta, .int (zI sx), .int (zI sy), .int (zI fx), .int (zI fy), .int (zI lf), .int (zI un)])), zA cI ka 96 K] := hD
      refine lv_aload_n hx hb dX0_rise_43 rfl (lv_at hl 1 rfl) ?_
      refine lv_dup hx hb dX0_rise_44 rfl ?_
      refine va_get (D := (dC, dI)) (ci := 0) (v := .int (zI li)) (C := RX0) (T := TX0) (N := 3) hx hb hts i_0 hown hK hP 0 rfl rfl 2 (by decide) f_18 (fun _ h9 => h9) rfl dX0_rise_45 ?_
      refine lv_iconst (v := zI 1) hx hb dX0_rise_48 (rfl) ?_
      refine lz_isub (z := li - 1) hx hb dX0_rise_49 (by rfl) ?_
      refine va_put (D := (dC, dI)) (ci := 0) (v := .int (zI (li - 1))) (ty := .int) (C := RX0) (T := TX0) (N := 3) hx hb hts i_0 tyX0 tyX0_ok nmX0 hown hK hP hD hS 0 rfl rfl 2 (by decide) f_18 (fun _ h9 => h9) rfl (by decide +kernel) rfl rfl (Nat.le_of_ble_eq_true rfl) dX0_rise_50 (fun H locs hP hD hS => ?_)
      have hP : va_P (dC, dI) vwCl [(he, .inr (0, [.int (zI x), .int (zI (y - 1)), .int (zI (li - 1))])), (lv, .inr (1, [.int (zI w), .int (zI h), .ref ka, .ref ta, .int (zI sx), .int (zI sy), .int (zI fx), .int (zI fy), .int (zI lf), .int (zI un)])), zA cI ka 96 K] H := hP
      have hD : va_D A [(he, .inr (0, [.int (zI x), .int (zI (y - 1)), .int (zI (li - 1))])), (lv, .inr (1, [.int (zI w), .int (zI h), .ref ka, .ref ta, .int (zI sx), .int (zI sy), .int (zI fx), .int (zI fy), .int (zI lf), .int (zI un)])), zA cI ka 96 K] := hD
      have hP9 := hP.sub (ws' := [(he, .inr (0, [.int (zI x), .int (zI (y - 1)), .int (zI (li - 1))])), (lv, .inr (1, [.int (zI w), .int (zI h), .ref ka, .ref ta, .int (zI sx), .int (zI sy), .int (zI fx), .int (zI fy), .int (zI lf), .int (zI un)])), zA cI ka 96 K]) [0, 1, 2] rfl
      have hD9 := hD.sub (ws' := [(he, .inr (0, [.int (zI x), .int (zI (y - 1)), .int (zI (li - 1))])), (lv, .inr (1, [.int (zI w), .int (zI h), .ref ka, .ref ta, .int (zI sx), .int (zI sy), .int (zI fx), .int (zI fy), .int (zI lf), .int (zI un)])), zA cI ka 96 K]) [0, 1, 2] (by decide) rfl
      have po : ((y - 1) = riY K w h x y ∧ (li - 1) = riL K w h x y li) := by
        rw [riY, riL, ← po_3.1]
        first | (rw [if_pos (by omega), if_pos (by omega)]; exact ⟨rfl, rfl⟩) | (rw [if_neg (by omega), if_neg (by omega)]; exact ⟨rfl, rfl⟩)
      exact W.vret hx hb hr (fun t ht hW => ⟨⟨(y - 1, li - 1), rfl, po, by rw [ht]; exact hP9, va_K.moved hW.alike hK, hD9⟩, hS.F ht⟩) hS.2.2 dX0_rise_53
    ·
      refine lv_aload_n hx hb dX0_rise_25 rfl (lv_at hl 1 rfl) ?_
      refine lv_iconst (v := zI 0) hx hb dX0_rise_26 (rfl) ?_
      refine va_put (D := (dC, dI)) (ci := 0) (v := .int (zI 0)) (ty := .int) (C := RX0) (T := TX0) (N := 3) hx hb hts i_0 tyX0 tyX0_ok nmX0 hown hK hP hD hS 0 rfl rfl 2 (by decide) f_18 (fun _ h9 => h9) rfl (by decide +kernel) rfl rfl (Nat.le_of_ble_eq_true rfl) dX0_rise_27 (fun H locs hP hD hS => ?_)
      have hP : va_P (dC, dI) vwCl [(he, .inr (0, [.int (zI x), .int (zI y), .int (zI 0)])), (lv, .inr (1, [.int (zI w), .int (zI h), .ref ka, .ref ta, .int (zI sx), .int (zI sy), .int (zI fx), .int (zI fy), .int (zI lf), .int (zI un)])), zA cI ka 96 K] H := hP
      have hD : va_D A [(he, .inr (0, [.int (zI x), .int (zI y), .int (zI 0)])), (lv, .inr (1, [.int (zI w), .int (zI h), .ref ka, .ref ta, .int (zI sx), .int (zI sy), .int (zI fx), .int (zI fy), .int (zI lf), .int (zI un)])), zA cI ka 96 K] := hD
      refine lv_goto (tgt := 53) hx hb dX0_rise_30 (by decide) ?_
      have hP9 := hP.sub (ws' := [(he, .inr (0, [.int (zI x), .int (zI y), .int (zI 0)])), (lv, .inr (1, [.int (zI w), .int (zI h), .ref ka, .ref ta, .int (zI sx), .int (zI sy), .int (zI fx), .int (zI fy), .int (zI lf), .int (zI un)])), zA cI ka 96 K]) [0, 1, 2] rfl
      have hD9 := hD.sub (ws' := [(he, .inr (0, [.int (zI x), .int (zI y), .int (zI 0)])), (lv, .inr (1, [.int (zI w), .int (zI h), .ref ka, .ref ta, .int (zI sx), .int (zI sy), .int (zI fx), .int (zI fy), .int (zI lf), .int (zI un)])), zA cI ka 96 K]) [0, 1, 2] (by decide) rfl
      have po : (y = riY K w h x y ∧ (0 : Int) = riL K w h x y li) := by
        rw [riY, riL, ← po_3.1]
        first | (rw [if_pos (by omega), if_pos (by omega)]; exact ⟨rfl, rfl⟩) | (rw [if_neg (by omega), if_neg (by omega)]; exact ⟨rfl, rfl⟩)
      exact W.vret hx hb hr (fun t ht hW => ⟨⟨(y, 0), rfl, po, by rw [ht]; exact hP9, va_K.moved hW.alike hK, hD9⟩, hS.F ht⟩) hS.2.2 dX0_rise_53
set_option maxHeartbeats 4000000 in
set_option maxRecDepth 100000 in
/-- Hero.fall -/
theorem c_X0_fall (l : Launch) (dC : Nat → ClassId) (dI : Nat → Nat → Nat) (cI cZ cL cT cJ : ClassId) (sz : Nat) (he : Nat) (x : Int) (y : Int) (li : Int) (lv : Nat) (w : Int) (h : Int) (ka : Nat) (ta : Nat) (sx : Int) (sy : Int) (fx : Int) (fy : Int) (lf : Int) (un : Int) (K : Int → Int) (gw : 0 < w ∧ w ≤ 12) (gh : 0 < h ∧ h ≤ 8) (gK : Kin K) (gx : 0 ≤ x ∧ x < w) (gy : 0 ≤ y ∧ y < h) (gl : 0 ≤ li ∧ li ≤ 4) : Met l yX0_fall wsX0_fall ({ frames := 1, cells := 0, slots := 0, locals := 23 }) (zP (dC, dI) (zT cI cZ cL cT cJ) sz [.ref he, .ref lv] [(he, .inr (0, [.int (zI x), .int (zI y), .int (zI li)])), (lv, .inr (1, [.int (zI w), .int (zI h), .ref ka, .ref ta, .int (zI sx), .int (zI sy), .int (zI fx), .int (zI fy), .int (zI lf), .int (zI un)])), zA cI ka 96 K]) (va_Qv (fun (u9 : Int) => match u9 with | y1 => (y1 = faY K w h x y)) (zB (dC, dI) (zT cI cZ cL cT cJ) (va_A [(he, .inr (0, [.int (zI x), .int (zI y), .int (zI li)])), (lv, .inr (1, [.int (zI w), .int (zI h), .ref ka, .ref ta, .int (zI sx), .int (zI sy), .int (zI fx), .int (zI fy), .int (zI lf), .int (zI un)])), zA cI ka 96 K] sz) (fun (u9 : Int) => match u9 with | y1 => [(he, .inr (0, [.int (zI x), .int (zI y1), .int (zI li)])), (lv, .inr (1, [.int (zI w), .int (zI h), .ref ka, .ref ta, .int (zI sx), .int (zI sy), .int (zI fx), .int (zI fy), .int (zI lf), .int (zI un)])), zA cI ka 96 K])) (va_A [(he, .inr (0, [.int (zI x), .int (zI y), .int (zI li)])), (lv, .inr (1, [.int (zI w), .int (zI h), .ref ka, .ref ta, .int (zI sx), .int (zI sy), .int (zI fx), .int (zI fy), .int (zI lf), .int (zI un)])), zA cI ka 96 K] sz)) 0 0 (va_A [(he, .inr (0, [.int (zI x), .int (zI y), .int (zI li)])), (lv, .inr (1, [.int (zI w), .int (zI h), .ref ka, .ref ta, .int (zI sx), .int (zI sy), .int (zI fx), .int (zI fy), .int (zI lf), .int (zI un)])), zA cI ka 96 K] sz) := by
  refine Met.ofW (cc := cX0_fall) (maxL := 2) (ret := none) (by decide) rfl ?_
  intro p e s m args below meth c s₁ B hml hv
  obtain ⟨rfl, hsz, hP, hK, hD0⟩ := hv
  have hx := B.exec
  have hb := B.bytes
  have hr := B.returns
  have hts := atoms_spec (ws := wsX0_fall) B.pre
  have hown : s.vm.findClass RX0 = some m.cls := findClass_of_methodNamed B.named
  have hlocks := B.notSynchronized
  subst hsz
  have hD := hD0.self (sz := s.heap.size)
  generalize hAe : va_A [(he, .inr (0, [.int (zI x), .int (zI y), .int (zI li)])), (lv, .inr (1, [.int (zI w), .int (zI h), .ref ka, .ref ta, .int (zI sx), .int (zI sy), .int (zI fx), .int (zI fy), .int (zI lf), .int (zI un)])), zA cI ka 96 K] s.heap.size = A at hD ⊢
  have hA : ∀ q : Nat, s.heap.size ≤ q → A q := fun q h => by rw [← hAe]; exact Or.inr h
  clear hAe hD0
  have hS : va_S A s.heap s.heap [] := va_S.rf
  have hP : va_P (dC, dI) vwCl [(he, .inr (0, [.int (zI x), .int (zI y), .int (zI li)])), (lv, .inr (1, [.int (zI w), .int (zI h), .ref ka, .ref ta, .int (zI sx), .int (zI sy), .int (zI fx), .int (zI fy), .int (zI lf), .int (zI un)])), zA cI ka 96 K] s.heap := hP
  have f_9 := hts (.fieldLink RX0 9 "SpringLevels$Hero" "x" "I") (by decide +kernel)
  have f_15 := hts (.fieldLink RX0 15 "SpringLevels$Hero" "y" "I") (by decide +kernel)
  have i_0 : ∀ w ∈ wsX00, w ∈ wsX0_fall := by decide +kernel
  have hl := lv_entry ([.ref he, .ref lv]) (n := 2) (Nat.le_of_ble_eq_true rfl)
  rw [lg_entry_eq]
  generalize (lg_sl ([.ref he, .ref lv]) ++ List.replicate (2 - (lg_sl ([.ref he, .ref lv])).length) Slot.unset).toArray = ls at hl ⊢
  have hl : lv_has ls 2 [(0, .ref he), (1, .ref lv)] := hl
  refine lv_aload_n hx hb dX0_fall_0 rfl (lv_at hl 1 rfl) ?_
  refine lv_aload_n hx hb dX0_fall_1 rfl (lv_at hl 0 rfl) ?_
  refine va_get (D := (dC, dI)) (ci := 0) (v := .int (zI x)) (C := RX0) (T := TX0) (N := 3) hx hb hts i_0 hown hK hP 0 rfl rfl 0 (by decide) f_9 (fun _ h9 => h9) rfl dX0_fall_2 ?_
  refine lv_aload_n hx hb dX0_fall_5 rfl (lv_at hl 0 rfl) ?_
  refine va_get (D := (dC, dI)) (ci := 0) (v := .int (zI y)) (C := RX0) (T := TX0) (N := 3) hx hb hts i_0 hown hK hP 0 rfl rfl 1 (by decide) f_15 (fun _ h9 => h9) rfl dX0_fall_6 ?_
  refine lv_iconst (v := zI 1) hx hb dX0_fall_9 (rfl) ?_
  refine lz_iadd (z := y + 1) hx hb dX0_fall_10 (by rfl) ?_
  have hPc := hP.sub (ws' := [(lv, .inr (1, [.int (zI w), .int (zI h), .ref ka, .ref ta, .int (zI sx), .int (zI sy), .int (zI fx), .int (zI fy), .int (zI lf), .int (zI un)])), zA cI ka 96 K]) [1, 2] rfl
  have hDc := hD.sub (ws' := [(lv, .inr (1, [.int (zI w), .int (zI h), .ref ka, .ref ta, .int (zI sx), .int (zI sy), .int (zI fx), .int (zI fy), .int (zI lf), .int (zI un)])), zA cI ka 96 K]) [1, 2] (by decide) rfl
  have hFc := va_free (wc := [(lv, .inr (1, [.int (zI w), .int (zI h), .ref ka, .ref ta, .int (zI sx), .int (zI sy), .int (zI fx), .int (zI fy), .int (zI lf), .int (zI un)])), zA cI ka 96 K]) hD hS hA [1, 2] rfl
  refine va_calli (va_runV (As := [.int (zI x), .int (zI (y + 1))]) (rest := []) ⟨hx, hb, hml, hown, hts⟩ (c_X1_kindAt l dC dI cI cZ cL cT cJ s.heap.size lv w h ka (.ref ta) sx sy fx fy lf un K x (y + 1) (by first | assumption | omega) (by first | assumption | omega) (by first | assumption | omega) (by first | assumption | omega) (by first | assumption | omega)) (cwV 2 hts gX0_fall_X1_kindAt rfl rfl rfl (by decide +kernel) ⟨Nat.le_of_ble_eq_true rfl, Nat.le_of_ble_eq_true rfl⟩) ⟨zP_blind, va_recv hK hPc (ci := 1) (q0 := 0) rfl rfl, zP_pre hPc hDc hK⟩ rfl rfl hl.1 rfl (lv_room (Nat.le_of_ble_eq_true rfl)) dX0_fall_11 ⟨Nat.le_of_ble_eq_true rfl, Nat.le_of_ble_eq_true rfl⟩) hS (fun q _ h => hFc q h) hFc (fun r_1 u_1 t H1 locs ht hvm hw hB hz1 hk1 hS => ?_)
  obtain ⟨r_2, rfl⟩ : ∃ z, z = u_1 := ⟨_, rfl⟩
  obtain ⟨hP1, hK1, hD1⟩ := hB
  rw [ht] at hP1
  have hP1 : va_P (dC, dI) vwCl [(lv, .inr (1, [.int (zI w), .int (zI h), .ref ka, .ref ta, .int (zI sx), .int (zI sy), .int (zI fx), .int (zI fy), .int (zI lf), .int (zI un)])), zA cI ka 96 K] H1 := hP1
  obtain ⟨hP, hD⟩ := va_join (wr := [(he, .inr (0, [.int (zI x), .int (zI y), .int (zI li)]))]) (w1 := [(lv, .inr (1, [.int (zI w), .int (zI h), .ref ka, .ref ta, .int (zI sx), .int (zI sy), .int (zI fx), .int (zI fy), .int (zI lf), .int (zI un)])), zA cI ka 96 K]) hP hD [1, 2] [0] rfl rfl (by decide) (by decide) hk1 hFc hP1 hD1
  clear hP1 hD1 hk1 hFc hPc hDc hz1
  generalize H1 = H at hP hS ⊢
  have hP : va_P (dC, dI) vwCl [(he, .inr (0, [.int (zI x), .int (zI y), .int (zI li)])), (lv, .inr (1, [.int (zI w), .int (zI h), .ref ka, .ref ta, .int (zI sx), .int (zI sy), .int (zI fx), .int (zI fy), .int (zI lf), .int (zI un)])), zA cI ka 96 K] H := hP.sub [0, 1, 2] rfl
  have hD : va_D A [(he, .inr (0, [.int (zI x), .int (zI y), .int (zI li)])), (lv, .inr (1, [.int (zI w), .int (zI h), .ref ka, .ref ta, .int (zI sx), .int (zI sy), .int (zI fx), .int (zI fy), .int (zI lf), .int (zI un)])), zA cI ka 96 K] := hD.sub [0, 1, 2] (by decide) rfl
  clear hK1 hvm
  obtain ⟨rfl, po_3⟩ := hw
  have po_3 : r_2 = kd K w h x (y + 1) ∧ -1 ≤ r_2 ∧ r_2 ≤ 3 := po_3
  refine W.eq (g2 := F0 m 14 ls [.int (zI r_2)]) rfl ?_
  refine lv_iconst (v := zI 1) hx hb dX0_fall_14 (rfl) ?_
  refine lz_icmp_eq (tgt := 28) hx hb dX0_fall_15 (by decide) (by omega) ⟨by decide, by decide⟩ (fun c_4 => ?_) (fun c_4 => ?_)
  ·
    have hP9 := hP.sub (ws' := [(he, .inr (0, [.int (zI x), .int (zI y), .int (zI li)])), (lv, .inr (1, [.int (zI w), .int (zI h), .ref ka, .ref ta, .int (zI sx), .int (zI sy), .int (zI fx), .int (zI fy), .int (zI lf), .int (zI un)])), zA cI ka 96 K]) [0, 1, 2] rfl
    have hD9 := hD.sub (ws' := [(he, .inr (0, [.int (zI x), .int (zI y), .int (zI li)])), (lv, .inr (1, [.int (zI w), .int (zI h), .ref ka, .ref ta, .int (zI sx), .int (zI sy), .int (zI fx), .int (zI fy), .int (zI lf), .int (zI un)])), zA cI ka 96 K]) [0, 1, 2] (by decide) rfl
    have po : (y = faY K w h x y) := by
      rw [faY, ← po_3.1]
      first | rw [if_pos (by omega)] | rw [if_neg (by omega)]
    exact W.vret hx hb hr (fun t ht hW => ⟨⟨y, rfl, po, by rw [ht]; exact hP9, va_K.moved hW.alike hK, hD9⟩, hS.F ht⟩) hS.2.2 dX0_fall_28
  ·
    refine lv_aload_n hx hb dX0_fall_18 rfl (lv_at hl 0 rfl) ?_
    refine lv_dup hx hb dX0_fall_19 rfl ?_
    refine va_get (D := (dC, dI)) (ci := 0) (v := .int (zI y)) (C := RX0) (T := TX0) (N := 3) hx hb hts i_0 hown hK hP 0 rfl rfl 1 (by decide) f_15 (fun _ h9 => h9) rfl dX0_fall_20 ?_
    refine lv_iconst (v := zI 1) hx hb dX0_fall_23 (rfl) ?_
    refine lz_iadd (z := y + 1) hx hb dX0_fall_24 (by rfl) ?_
    refine va_put (D := (dC, dI)) (ci := 0) (v := .int (zI (y + 1))) (ty := .int) (C := RX0) (T := TX0) (N := 3) hx hb hts i_0 tyX0 tyX0_ok nmX0 hown hK hP hD hS 0 rfl rfl 1 (by decide) f_15 (fun _ h9 => h9) rfl (by decide +kernel) rfl rfl (Nat.le_of_ble_eq_true rfl) dX0_fall_25 (fun H locs hP hD hS => ?_)
    have hP : va_P (dC, dI) vwCl [(he, .inr (0, [.int (zI x), .int (zI (y + 1)), .int (zI li)])), (lv, .inr (1, [.int (zI w), .int (zI h), .ref ka, .ref ta, .int (zI sx), .int (zI sy), .int (zI fx), .int (zI fy), .int (zI lf), .int (zI un)])), zA cI ka 96 K] H := hP
    have hD : va_D A [(he, .inr (0, [.int (zI x), .int (zI (y + 1)), .int (zI li)])), (lv, .inr (1, [.int (zI w), .int (zI h), .ref ka, .ref ta, .int (zI sx), .int (zI sy), .int (zI fx), .int (zI fy), .int (zI lf), .int (zI un)])), zA cI ka 96 K] := hD
    have hP9 := hP.sub (ws' := [(he, .inr (0, [.int (zI x), .int (zI (y + 1)), .int (zI li)])), (lv, .inr (1, [.int (zI w), .int (zI h), .ref ka, .ref ta, .int (zI sx), .int (zI sy), .int (zI fx), .int (zI fy), .int (zI lf), .int (zI un)])), zA cI ka 96 K]) [0, 1, 2] rfl
    have hD9 := hD.sub (ws' := [(he, .inr (0, [.int (zI x), .int (zI (y + 1)), .int (zI li)])), (lv, .inr (1, [.int (zI w), .int (zI h), .ref ka, .ref ta, .int (zI sx), .int (zI sy), .int (zI fx), .int (zI fy), .int (zI lf), .int (zI un)])), zA cI ka 96 K]) [0, 1, 2] (by decide) rfl
    have po : ((y + 1) = faY K w h x y) := by
      rw [faY, ← po_3.1]
      first | rw [if_pos (by omega)] | rw [if_neg (by omega)]
    exact W.vret hx hb hr (fun t ht hW => ⟨⟨y + 1, rfl, po, by rw [ht]; exact hP9, va_K.moved hW.alike hK, hD9⟩, hS.F ht⟩) hS.2.2 dX0_fall_28
set_option maxHeartbeats 4000000 in
set_option maxRecDepth 100000 in
/-- Hero.look -/
theorem c_X0_look (l : Launch) (dC : Nat → ClassId) (dI : Nat → Nat → Nat) (cI cZ cL cT cJ : ClassId) (sz : Nat) (he : Nat) (x : Int) (y : Int) (li : Int) (lv : Nat) (w : Int) (h : Int) (ka : Nat) (ta : Nat) (sx : Int) (sy : Int) (fx : Int) (fy : Int) (lf : Int) (un : Int) (K : Int → Int) (gw : 0 < w ∧ w ≤ 12) (gh : 0 < h ∧ h ≤ 8) (gK : Kin K) (gx : 0 ≤ x ∧ x < w) (gy : 0 ≤ y ∧ y ≤ h) (gl : 0 ≤ li ∧ li ≤ 4) (gf : -2147483648 ≤ fx ∧ fx < 2147483648) (gf2 : -2147483648 ≤ fy ∧ fy < 2147483648) : Met l yX0_look wsX0_look ({ frames := 1, cells := 0, slots := 0, locals := 23 }) (zP (dC, dI) (zT cI cZ cL cT cJ) sz [.ref he, .ref lv] [(he, .inr (0, [.int (zI x), .int (zI y), .int (zI li)])), (lv, .inr (1, [.int (zI w), .int (zI h), .ref ka, .ref ta, .int (zI sx), .int (zI sy), .int (zI fx), .int (zI fy), .int (zI lf), .int (zI un)])), zA cI ka 96 K]) (va_Qi (fun (r9 : Int32) (u9 : Int × Int) => match u9 with | (l1, o1) => r9 = zI o1 ∧ (l1 = lkL K w h x y li ∧ o1 = lkO K w h fx fy x y)) (zB (dC, dI) (zT cI cZ cL cT cJ) (va_A [(he, .inr (0, [.int (zI x), .int (zI y), .int (zI li)])), (lv, .inr (1, [.int (zI w), .int (zI h), .ref ka, .ref ta, .int (zI sx), .int (zI sy), .int (zI fx), .int (zI fy), .int (zI lf), .int (zI un)])), zA cI ka 96 K] sz) (fun (u9 : Int × Int) => match u9 with | (l1, o1) => [(he, .inr (0, [.int (zI x), .int (zI y), .int (zI l1)])), (lv, .inr (1, [.int (zI w), .int (zI h), .ref ka, .ref ta, .int (zI sx), .int (zI sy), .int (zI fx), .int (zI fy), .int (zI lf), .int (zI un)])), zA cI ka 96 K])) (va_A [(he, .inr (0, [.int (zI x), .int (zI y), .int (zI li)])), (lv, .inr (1, [.int (zI w), .int (zI h), .ref ka, .ref ta, .int (zI sx), .int (zI sy), .int (zI fx), .int (zI fy), .int (zI lf), .int (zI un)])), zA cI ka 96 K] sz)) 0 0 (va_A [(he, .inr (0, [.int (zI x), .int (zI y), .int (zI li)])), (lv, .inr (1, [.int (zI w), .int (zI h), .ref ka, .ref ta, .int (zI sx), .int (zI sy), .int (zI fx), .int (zI fy), .int (zI lf), .int (zI un)])), zA cI ka 96 K] sz) := by
  refine Met.ofW (cc := cX0_look) (maxL := 3) (ret := (some .int)) (by decide) rfl ?_
  intro p e s m args below meth c s₁ B hml hv
  obtain ⟨rfl, hsz, hP, hK, hD0⟩ := hv
  have hx := B.exec
  have hb := B.bytes
  have hr := B.returns
  have hts := atoms_spec (ws := wsX0_look) B.pre
  have hown : s.vm.findClass RX0 = some m.cls := findClass_of_methodNamed B.named
  have hlocks := B.notSynchronized
  subst hsz
  have hD := hD0.self (sz := s.heap.size)
  generalize hAe : va_A [(he, .inr (0, [.int (zI x), .int (zI y), .int (zI li)])), (lv, .inr (1, [.int (zI w), .int (zI h), .ref ka, .ref ta, .int (zI sx), .int (zI sy), .int (zI fx), .int (zI fy), .int (zI lf), .int (zI un)])), zA cI ka 96 K] s.heap.size = A at hD ⊢
  have hA : ∀ q : Nat, s.heap.size ≤ q → A q := fun q h => by rw [← hAe]; exact Or.inr h
  clear hAe hD0
  have hS : va_S A s.heap s.heap [] := va_S.rf
  have hP : va_P (dC, dI) vwCl [(he, .inr (0, [.int (zI x), .int (zI y), .int (zI li)])), (lv, .inr (1, [.int (zI w), .int (zI h), .ref ka, .ref ta, .int (zI sx), .int (zI sy), .int (zI fx), .int (zI fy), .int (zI lf), .int (zI un)])), zA cI ka 96 K] s.heap := hP
  have f_9 := hts (.fieldLink RX0 9 "SpringLevels$Hero" "x" "I") (by decide +kernel)
  have f_15 := hts (.fieldLink RX0 15 "SpringLevels$Hero" "y" "I") (by decide +kernel)
  have f_18 := hts (.fieldLink RX0 18 "SpringLevels$Hero" "lift" "I") (by decide +kernel)
  have i_0 : ∀ w ∈ wsX00, w ∈ wsX0_look := by decide +kernel
  have hl := lv_entry ([.ref he, .ref lv]) (n := 3) (Nat.le_of_ble_eq_true rfl)
  rw [lg_entry_eq]
  generalize (lg_sl ([.ref he, .ref lv]) ++ List.replicate (3 - (lg_sl ([.ref he, .ref lv])).length) Slot.unset).toArray = ls at hl ⊢
  have hl : lv_has ls 3 [(0, .ref he), (1, .ref lv)] := hl
  refine lv_aload_n hx hb dX0_look_0 rfl (lv_at hl 1 rfl) ?_
  refine lv_aload_n hx hb dX0_look_1 rfl (lv_at hl 0 rfl) ?_
  refine va_get (D := (dC, dI)) (ci := 0) (v := .int (zI x)) (C := RX0) (T := TX0) (N := 3) hx hb hts i_0 hown hK hP 0 rfl rfl 0 (by decide) f_9 (fun _ h9 => h9) rfl dX0_look_2 ?_
  refine lv_aload_n hx hb dX0_look_5 rfl (lv_at hl 0 rfl) ?_
  refine va_get (D := (dC, dI)) (ci := 0) (v := .int (zI y)) (C := RX0) (T := TX0) (N := 3) hx hb hts i_0 hown hK hP 0 rfl rfl 1 (by decide) f_15 (fun _ h9 => h9) rfl dX0_look_6 ?_
  have hPc := hP.sub (ws' := [(lv, .inr (1, [.int (zI w), .int (zI h), .ref ka, .ref ta, .int (zI sx), .int (zI sy), .int (zI fx), .int (zI fy), .int (zI lf), .int (zI un)])), zA cI ka 96 K]) [1, 2] rfl
  have hDc := hD.sub (ws' := [(lv, .inr (1, [.int (zI w), .int (zI h), .ref ka, .ref ta, .int (zI sx), .int (zI sy), .int (zI fx), .int (zI fy), .int (zI lf), .int (zI un)])), zA cI ka 96 K]) [1, 2] (by decide) rfl
  have hFc := va_free (wc := [(lv, .inr (1, [.int (zI w), .int (zI h), .ref ka, .ref ta, .int (zI sx), .int (zI sy), .int (zI fx), .int (zI fy), .int (zI lf), .int (zI un)])), zA cI ka 96 K]) hD hS hA [1, 2] rfl
  refine va_calli (va_runV (As := [.int (zI x), .int (zI y)]) (rest := []) ⟨hx, hb, hml, hown, hts⟩ (c_X1_kindAt l dC dI cI cZ cL cT cJ s.heap.size lv w h ka (.ref ta) sx sy fx fy lf un K x y (by first | assumption | omega) (by first | assumption | omega) (by first | assumption | omega) (by first | assumption | omega) (by first | assumption | omega)) (cwV 2 hts gX0_look_X1_kindAt rfl rfl rfl (by decide +kernel) ⟨Nat.le_of_ble_eq_true rfl, Nat.le_of_ble_eq_true rfl⟩) ⟨zP_blind, va_recv hK hPc (ci := 1) (q0 := 0) rfl rfl, zP_pre hPc hDc hK⟩ rfl rfl hl.1 rfl (lv_room (Nat.le_of_ble_eq_true rfl)) dX0_look_9 ⟨Nat.le_of_ble_eq_true rfl, Nat.le_of_ble_eq_true rfl⟩) hS (fun q _ h => hFc q h) hFc (fun r_1 u_1 t H1 locs ht hvm hw hB hz1 hk1 hS => ?_)
  obtain ⟨r_2, rfl⟩ : ∃ z, z = u_1 := ⟨_, rfl⟩
  obtain ⟨hP1, hK1, hD1⟩ := hB
  rw [ht] at hP1
  have hP1 : va_P (dC, dI) vwCl [(lv, .inr (1, [.int (zI w), .int (zI h), .ref ka, .ref ta, .int (zI sx), .int (zI sy), .int (zI fx), .int (zI fy), .int (zI lf), .int (zI un)])), zA cI ka 96 K] H1 := hP1
  obtain ⟨hP, hD⟩ := va_join (wr := [(he, .inr (0, [.int (zI x), .int (zI y), .int (zI li)]))]) (w1 := [(lv, .inr (1, [.int (zI w), .int (zI h), .ref ka, .ref ta, .int (zI sx), .int (zI sy), .int (zI fx), .int (zI fy), .int (zI lf), .int (zI un)])), zA cI ka 96 K]) hP hD [1, 2] [0] rfl rfl (by decide) (by decide) hk1 hFc hP1 hD1
  clear hP1 hD1 hk1 hFc hPc hDc hz1
  generalize H1 = H at hP hS ⊢
  have hP : va_P (dC, dI) vwCl [(he, .inr (0, [.int (zI x), .int (zI y), .int (zI li)])), (lv, .inr (1, [.int (zI w), .int (zI h), .ref ka, .ref ta, .int (zI sx), .int (zI sy), .int (zI fx), .int (zI fy), .int (zI lf), .int (zI un)])), zA cI ka 96 K] H := hP.sub [0, 1, 2] rfl
  have hD : va_D A [(he, .inr (0, [.int (zI x), .int (zI y), .int (zI li)])), (lv, .inr (1, [.int (zI w), .int (zI h), .ref ka, .ref ta, .int (zI sx), .int (zI sy), .int (zI fx), .int (zI fy), .int (zI lf), .int (zI un)])), zA cI ka 96 K] := hD.sub [0, 1, 2] (by decide) rfl
  clear hK1 hvm
  obtain ⟨rfl, po_3⟩ := hw
  have po_3 : r_2 = kd K w h x y ∧ -1 ≤ r_2 ∧ r_2 ≤ 3 := po_3
  refine W.eq (g2 := F0 m 12 ls [.int (zI r_2)]) rfl ?_
  refine lv_istore_n (lv' := [(2, .int (zI r_2)), (0, .ref he), (1, .ref lv)]) hx hb dX0_look_12 rfl hl (by decide) rfl (fun ls hl => ?_)
  refine lv_iload_n hx hb dX0_look_13 rfl (lv_at hl 0 rfl) ?_
  refine lv_iconst (v := zI (-1)) hx hb dX0_look_14 (rfl) ?_
  refine lz_icmp_eq (tgt := 23) hx hb dX0_look_15 (by decide) (by omega) ⟨by decide, by decide⟩ (fun c_4 => ?_) (fun c_4 => ?_)
  ·
    refine lv_iconst (v := zI 1) hx hb dX0_look_23 (rfl) ?_
    have hP9 := hP.sub (ws' := [(he, .inr (0, [.int (zI x), .int (zI y), .int (zI li)])), (lv, .inr (1, [.int (zI w), .int (zI h), .ref ka, .ref ta, .int (zI sx), .int (zI sy), .int (zI fx), .int (zI fy), .int (zI lf), .int (zI un)])), zA cI ka 96 K]) [0, 1, 2] rfl
    have hD9 := hD.sub (ws' := [(he, .inr (0, [.int (zI x), .int (zI y), .int (zI li)])), (lv, .inr (1, [.int (zI w), .int (zI h), .ref ka, .ref ta, .int (zI sx), .int (zI sy), .int (zI fx), .int (zI fy), .int (zI lf), .int (zI un)])), zA cI ka 96 K]) [0, 1, 2] (by decide) rfl
    have po : zI 1 = zI (1 : Int) ∧ (li = lkL K w h x y li ∧ (1 : Int) = lkO K w h fx fy x y) := by
      refine ⟨by first | rfl | (congr 1; omega) | (congr 1; simp [*]), ?_⟩
      rw [lkL, lkO, ← po_3.1, if_pos (by omega), if_pos (by omega)]
      exact ⟨rfl, rfl⟩
    exact W.iret (v := zI 1) hx hb hr (fun t ht hW => ⟨⟨zI 1, (li, 1), rfl, po, by rw [ht]; exact hP9, va_K.moved hW.alike hK, hD9⟩, hS.F ht⟩) hS.2.2 dX0_look_24
  ·
    refine lv_iload_n hx hb dX0_look_18 rfl (lv_at hl 0 rfl) ?_
    refine lv_iconst (v := zI 2) hx hb dX0_look_19 (rfl) ?_
    refine lz_icmp_ne (tgt := 25) hx hb dX0_look_20 (by decide) (by omega) ⟨by decide, by decide⟩ (fun c_5 => ?_) (fun c_5 => ?_)
    ·
      refine z_cut (I := fun (x9 : Int) (H9 : Heap) (k9 : List Loc) (ls9 : Array Slot) => match x9 with | l2 => (l2 = lkL K w h x y li) ∧ va_P (dC, dI) vwCl [(he, .inr (0, [.int (zI x), .int (zI y), .int (zI l2)])), (lv, .inr (1, [.int (zI w), .int (zI h), .ref ka, .ref ta, .int (zI sx), .int (zI sy), .int (zI fx), .int (zI fy), .int (zI lf), .int (zI un)])), zA cI ka 96 K] H9 ∧ va_D A [(he, .inr (0, [.int (zI x), .int (zI y), .int (zI l2)])), (lv, .inr (1, [.int (zI w), .int (zI h), .ref ka, .ref ta, .int (zI sx), .int (zI sy), .int (zI fx), .int (zI fy), .int (zI lf), .int (zI un)])), zA cI ka 96 K] ∧ va_S A s.heap H9 k9 ∧ lv_has ls9 3 [(0, .ref he), (1, .ref lv), (2, .int (zI r_2))]) (fr := fun (x9 : Int) (ls9 : Array Slot) => match x9 with | l2 => F0 m 35 ls9 []) ?_ ?_
      · rintro l2 H locs ls ⟨hn, hP, hD, hS, hl⟩
        refine W.eq (g2 := F0 m 35 ls []) rfl ?_
        refine lv_aload_n hx hb dX0_look_35 rfl (lv_at hl 1 rfl) ?_
        refine lv_aload_n hx hb dX0_look_36 rfl (lv_at hl 0 rfl) ?_
        refine va_get (D := (dC, dI)) (ci := 0) (v := .int (zI x)) (C := RX0) (T := TX0) (N := 3) hx hb hts i_0 hown hK hP 0 rfl rfl 0 (by decide) f_9 (fun _ h9 => h9) rfl dX0_look_37 ?_
        refine lv_aload_n hx hb dX0_look_40 rfl (lv_at hl 0 rfl) ?_
        refine va_get (D := (dC, dI)) (ci := 0) (v := .int (zI y)) (C := RX0) (T := TX0) (N := 3) hx hb hts i_0 hown hK hP 0 rfl rfl 1 (by decide) f_15 (fun _ h9 => h9) rfl dX0_look_41 ?_
        have hPc := hP.sub (ws' := [(lv, .inr (1, [.int (zI w), .int (zI h), .ref ka, .ref ta, .int (zI sx), .int (zI sy), .int (zI fx), .int (zI fy), .int (zI lf), .int (zI un)]))]) [1] rfl
        have hDc := hD.sub (ws' := [(lv, .inr (1, [.int (zI w), .int (zI h), .ref ka, .ref ta, .int (zI sx), .int (zI sy), .int (zI fx), .int (zI fy), .int (zI lf), .int (zI un)]))]) [1] (by decide) rfl
        have hFc := va_free (wc := [(lv, .inr (1, [.int (zI w), .int (zI h), .ref ka, .ref ta, .int (zI sx), .int (zI sy), .int (zI fx), .int (zI fy), .int (zI lf), .int (zI un)]))]) hD hS hA [1] rfl
        refine va_calli (va_runV (As := [.int (zI x), .int (zI y)]) (rest := []) ⟨hx, hb, hml, hown, hts⟩ (c_X1_flagAt l dC dI cI cZ cL cT cJ H.size lv w h ka ta sx sy fx fy lf un x y (by first | assumption | omega) (by first | assumption | omega) (by first | assumption | omega) (by first | assumption | omega)) (cwV 2 hts gX0_look_X1_flagAt rfl rfl rfl (by decide +kernel) ⟨Nat.le_of_ble_eq_true rfl, Nat.le_of_ble_eq_true rfl⟩) ⟨zP_blind, va_recv hK hPc (ci := 1) (q0 := 0) rfl rfl, zP_pre hPc hDc hK⟩ rfl rfl hl.1 rfl (lv_room (Nat.le_of_ble_eq_true rfl)) dX0_look_44 ⟨Nat.le_of_ble_eq_true rfl, Nat.le_of_ble_eq_true rfl⟩) hS (fun q _ h => hFc q h) hFc (fun r_6 u_6 t H1 locs ht hvm hw hB hz1 hk1 hS => ?_)
        obtain ⟨r_7, rfl⟩ : ∃ z, z = u_6 := ⟨_, rfl⟩
        obtain ⟨hP1, hK1, hD1⟩ := hB
        rw [ht] at hP1
        have hP1 : va_P (dC, dI) vwCl [(lv, .inr (1, [.int (zI w), .int (zI h), .ref ka, .ref ta, .int (zI sx), .int (zI sy), .int (zI fx), .int (zI fy), .int (zI lf), .int (zI un)]))] H1 := hP1
        obtain ⟨hP, hD⟩ := va_join (wr := [(he, .inr (0, [.int (zI x), .int (zI y), .int (zI l2)])), zA cI ka 96 K]) (w1 := [(lv, .inr (1, [.int (zI w), .int (zI h), .ref ka, .ref ta, .int (zI sx), .int (zI sy), .int (zI fx), .int (zI fy), .int (zI lf), .int (zI un)]))]) hP hD [1] [0, 2] rfl rfl (by decide) (by decide) hk1 hFc hP1 hD1
        clear hP1 hD1 hk1 hFc hPc hDc hz1
        generalize H1 = H at hP hS ⊢
        have hP : va_P (dC, dI) vwCl [(he, .inr (0, [.int (zI x), .int (zI y), .int (zI l2)])), (lv, .inr (1, [.int (zI w), .int (zI h), .ref ka, .ref ta, .int (zI sx), .int (zI sy), .int (zI fx), .int (zI fy), .int (zI lf), .int (zI un)])), zA cI ka 96 K] H := hP.sub [0, 2, 1] rfl
        have hD : va_D A [(he, .inr (0, [.int (zI x), .int (zI y), .int (zI l2)])), (lv, .inr (1, [.int (zI w), .int (zI h), .ref ka, .ref ta, .int (zI sx), .int (zI sy), .int (zI fx), .int (zI fy), .int (zI lf), .int (zI un)])), zA cI ka 96 K] := hD.sub [0, 2, 1] (by decide) rfl
        clear hK1 hvm
        obtain ⟨rfl, po_8⟩ := hw
        have po_8 : r_7 = fgO fx fy x y ∧ 0 ≤ r_7 ∧ r_7 ≤ 1 := po_8
        refine W.eq (g2 := F0 m 47 ls [.int (zI r_7)]) rfl ?_
        refine lz_if_eq (tgt := 54) hx hb dX0_look_47 (by decide) (by omega) (fun c_9 => ?_) (fun c_9 => ?_)
        ·
          refine lv_iconst (v := zI 0) hx hb dX0_look_54 (rfl) ?_
          have hP9 := hP.sub (ws' := [(he, .inr (0, [.int (zI x), .int (zI y), .int (zI l2)])), (lv, .inr (1, [.int (zI w), .int (zI h), .ref ka, .ref ta, .int (zI sx), .int (zI sy), .int (zI fx), .int (zI fy), .int (zI lf), .int (zI un)])), zA cI ka 96 K]) [0, 1, 2] rfl
          have hD9 := hD.sub (ws' := [(he, .inr (0, [.int (zI x), .int (zI y), .int (zI l2)])), (lv, .inr (1, [.int (zI w), .int (zI h), .ref ka, .ref ta, .int (zI sx), .int (zI sy), .int (zI fx), .int (zI fy), .int (zI lf), .int (zI un)])), zA cI ka 96 K]) [0, 1, 2] (by decide) rfl
          have po : zI 0 = zI (0 : Int) ∧ (l2 = lkL K w h x y li ∧ (0 : Int) = lkO K w h fx fy x y) := by
            refine ⟨by first | rfl | (congr 1; omega) | (congr 1; simp [*]), ?_⟩
            refine ⟨hn, ?_⟩
            have e9 := po_8.1
            unfold fgO at e9
            rw [lkO, ← po_3.1, if_neg (by omega)]
            (repeat' split at e9) <;> (repeat' split) <;> omega
          exact W.iret (v := zI 0) hx hb hr (fun t ht hW => ⟨⟨zI 0, (l2, 0), rfl, po, by rw [ht]; exact hP9, va_K.moved hW.alike hK, hD9⟩, hS.F ht⟩) hS.2.2 dX0_look_55
        ·
          refine lv_iconst (v := zI 2) hx hb dX0_look_50 (rfl) ?_
          refine lv_goto (tgt := 55) hx hb dX0_look_51 (by decide) ?_
          have hP9 := hP.sub (ws' := [(he, .inr (0, [.int (zI x), .int (zI y), .int (zI l2)])), (lv, .inr (1, [.int (zI w), .int (zI h), .ref ka, .ref ta, .int (zI sx), .int (zI sy), .int (zI fx), .int (zI fy), .int (zI lf), .int (zI un)])), zA cI ka 96 K]) [0, 1, 2] rfl
          have hD9 := hD.sub (ws' := [(he, .inr (0, [.int (zI x), .int (zI y), .int (zI l2)])), (lv, .inr (1, [.int (zI w), .int (zI h), .ref ka, .ref ta, .int (zI sx), .int (zI sy), .int (zI fx), .int (zI fy), .int (zI lf), .int (zI un)])), zA cI ka 96 K]) [0, 1, 2] (by decide) rfl
          have po : zI 2 = zI (2 : Int) ∧ (l2 = lkL K w h x y li ∧ (2 : Int) = lkO K w h fx fy x y) := by
            refine ⟨by first | rfl | (congr 1; omega) | (congr 1; simp [*]), ?_⟩
            refine ⟨hn, ?_⟩
            have e9 := po_8.1
            unfold fgO at e9
            rw [lkO, ← po_3.1, if_neg (by omega)]
            (repeat' split at e9) <;> (repeat' split) <;> omega
          exact W.iret (v := zI 2) hx hb hr (fun t ht hW => ⟨⟨zI 2, (l2, 2), rfl, po, by rw [ht]; exact hP9, va_K.moved hW.alike hK, hD9⟩, hS.F ht⟩) hS.2.2 dX0_look_55
      intro J_10
      refine lv_iload_n hx hb dX0_look_25 rfl (lv_at hl 0 rfl) ?_
      refine lv_iconst (v := zI 3) hx hb dX0_look_26 (rfl) ?_
      refine lz_icmp_ne (tgt := 35) hx hb dX0_look_27 (by decide) (by omega) ⟨by decide, by decide⟩ (fun c_11 => ?_) (fun c_11 => ?_)
      ·
        exact J_10 li _ _ _ ⟨(by (rw [lkL, ← po_3.1, if_neg (by omega)]; (repeat' split) <;> omega)), hP, hD, hS, lv_sub hl [1, 2, 0] rfl⟩
      ·
        refine lv_aload_n hx hb dX0_look_30 rfl (lv_at hl 1 rfl) ?_
        refine lv_iconst (v := zI 4) hx hb dX0_look_31 (rfl) ?_
        refine va_put (D := (dC, dI)) (ci := 0) (v := .int (zI 4)) (ty := .int) (C := RX0) (T := TX0) (N := 3) hx hb hts i_0 tyX0 tyX0_ok nmX0 hown hK hP hD hS 0 rfl rfl 2 (by decide) f_18 (fun _ h9 => h9) rfl (by decide +kernel) rfl rfl (Nat.le_of_ble_eq_true rfl) dX0_look_32 (fun H locs hP hD hS => ?_)
        have hP : va_P (dC, dI) vwCl [(he, .inr (0, [.int (zI x), .int (zI y), .int (zI 4)])), (lv, .inr (1, [.int (zI w), .int (zI h), .ref ka, .ref ta, .int (zI sx), .int (zI sy), .int (zI fx), .int (zI fy), .int (zI lf), .int (zI un)])), zA cI ka 96 K] H := hP
        have hD : va_D A [(he, .inr (0, [.int (zI x), .int (zI y), .int (zI 4)])), (lv, .inr (1, [.int (zI w), .int (zI h), .ref ka, .ref ta, .int (zI sx), .int (zI sy), .int (zI fx), .int (zI fy), .int (zI lf), .int (zI un)])), zA cI ka 96 K] := hD
        exact J_10 4 _ _ _ ⟨(by (rw [lkL, ← po_3.1, if_neg (by omega)]; (repeat' split) <;> omega)), hP, hD, hS, lv_sub hl [1, 2, 0] rfl⟩
    ·
      refine lv_iconst (v := zI 1) hx hb dX0_look_23 (rfl) ?_
      have hP9 := hP.sub (ws' := [(he, .inr (0, [.int (zI x), .int (zI y), .int (zI li)])), (lv, .inr (1, [.int (zI w), .int (zI h), .ref ka, .ref ta, .int (zI sx), .int (zI sy), .int (zI fx), .int (zI fy), .int (zI lf), .int (zI un)])), zA cI ka 96 K]) [0, 1, 2] rfl
      have hD9 := hD.sub (ws' := [(he, .inr (0, [.int (zI x), .int (zI y), .int (zI li)])), (lv, .inr (1, [.int (zI w), .int (zI h), .ref ka, .ref ta, .int (zI sx), .int (zI sy), .int (zI fx), .int (zI fy), .int (zI lf), .int (zI un)])), zA cI ka 96 K]) [0, 1, 2] (by decide) rfl
      have po : zI 1 = zI (1 : Int) ∧ (li = lkL K w h x y li ∧ (1 : Int) = lkO K w h fx fy x y) := by
        refine ⟨by first | rfl | (congr 1; omega) | (congr 1; simp [*]), ?_⟩
        rw [lkL, lkO, ← po_3.1, if_pos (by omega), if_pos (by omega)]
        exact ⟨rfl, rfl⟩
      exact W.iret (v := zI 1) hx hb hr (fun t ht hW => ⟨⟨zI 1, (li, 1), rfl, po, by rw [ht]; exact hP9, va_K.moved hW.alike hK, hD9⟩, hS.F ht⟩) hS.2.2 dX0_look_24
set_option maxHeartbeats 4000000 in
set_option maxRecDepth 100000 in
/-- Hero.move -/
theorem c_X0_move (l : Launch) (dC : Nat → ClassId) (dI : Nat → Nat → Nat) (cI cZ cL cT cJ : ClassId) (sz : Nat) (he : Nat) (x : Int) (y : Int) (li : Int) (lv : Nat) (w : Int) (h : Int) (ka : Nat) (ta : Nat) (sx : Int) (sy : Int) (fx : Int) (fy : Int) (lf : Int) (un : Int) (K : Int → Int) (i : Int) (gw : 0 < w ∧ w ≤ 12) (gh : 0 < h ∧ h ≤ 8) (gK : Kin K) (gx : 0 ≤ x ∧ x < w) (gy : 0 ≤ y ∧ y < h) (gl : 0 ≤ li ∧ li ≤ 4) (gf : -2147483648 ≤ fx ∧ fx < 2147483648) (gf2 : -2147483648 ≤ fy ∧ fy < 2147483648) (gi : 0 ≤ i ∧ i ≤ 5) : Met l yX0_move wsX0_move ({ frames := 2, cells := 0, slots := 0, locals := 47 }) (zP (dC, dI) (zT cI cZ cL cT cJ) sz [.ref he, .ref lv, .int (zI i)] [(he, .inr (0, [.int (zI x), .int (zI y), .int (zI li)])), (lv, .inr (1, [.int (zI w), .int (zI h), .ref ka, .ref ta, .int (zI sx), .int (zI sy), .int (zI fx), .int (zI fy), .int (zI lf), .int (zI un)])), zA cI ka 96 K]) (va_Qi (fun (r9 : Int32) (u9 : Int × Int × Int × Int) => match u9 with | (x1, y1, l1, o1) => r9 = zI o1 ∧ (x1 = mvX K w h x y i ∧ y1 = mvY K w h x y li i ∧ l1 = mvL K w h x y li i ∧ o1 = mvO K w h fx fy x y li i)) (zB (dC, dI) (zT cI cZ cL cT cJ) (va_A [(he, .inr (0, [.int (zI x), .int (zI y), .int (zI li)])), (lv, .inr (1, [.int (zI w), .int (zI h), .ref ka, .ref ta, .int (zI sx), .int (zI sy), .int (zI fx), .int (zI fy), .int (zI lf), .int (zI un)])), zA cI ka 96 K] sz) (fun (u9 : Int × Int × Int × Int) => match u9 with | (x1, y1, l1, o1) => [(he, .inr (0, [.int (zI x1), .int (zI y1), .int (zI l1)])), (lv, .inr (1, [.int (zI w), .int (zI h), .ref ka, .ref ta, .int (zI sx), .int (zI sy), .int (zI fx), .int (zI fy), .int (zI lf), .int (zI un)])), zA cI ka 96 K])) (va_A [(he, .inr (0, [.int (zI x), .int (zI y), .int (zI li)])), (lv, .inr (1, [.int (zI w), .int (zI h), .ref ka, .ref ta, .int (zI sx), .int (zI sy), .int (zI fx), .int (zI fy), .int (zI lf), .int (zI un)])), zA cI ka 96 K] sz)) 0 0 (va_A [(he, .inr (0, [.int (zI x), .int (zI y), .int (zI li)])), (lv, .inr (1, [.int (zI w), .int (zI h), .ref ka, .ref ta, .int (zI sx), .int (zI sy), .int (zI fx), .int (zI fy), .int (zI lf), .int (zI un)])), zA cI ka 96 K] sz) := by
  refine Met.ofW (cc := cX0_move) (maxL := 3) (ret := (some .int)) (by decide) rfl ?_
  intro p e s m args below meth c s₁ B hml hv
  obtain ⟨rfl, hsz, hP, hK, hD0⟩ := hv
  have hx := B.exec
  have hb := B.bytes
  have hr := B.returns
  have hts := atoms_spec (ws := wsX0_move) B.pre
  have hown : s.vm.findClass RX0 = some m.cls := findClass_of_methodNamed B.named
  have hlocks := B.notSynchronized
  subst hsz
  have hD := hD0.self (sz := s.heap.size)
  generalize hAe : va_A [(he, .inr (0, [.int (zI x), .int (zI y), .int (zI li)])), (lv, .inr (1, [.int (zI w), .int (zI h), .ref ka, .ref ta, .int (zI sx), .int (zI sy), .int (zI fx), .int (zI fy), .int (zI lf), .int (zI un)])), zA cI ka 96 K] s.heap.size = A at hD ⊢
  have hA : ∀ q : Nat, s.heap.size ≤ q → A q := fun q h => by rw [← hAe]; exact Or.inr h
  clear hAe hD0
  have hS : va_S A s.heap s.heap [] := va_S.rf
  have hP : va_P (dC, dI) vwCl [(he, .inr (0, [.int (zI x), .int (zI y), .int (zI li)])), (lv, .inr (1, [.int (zI w), .int (zI h), .ref ka, .ref ta, .int (zI sx), .int (zI sy), .int (zI fx), .int (zI fy), .int (zI lf), .int (zI un)])), zA cI ka 96 K] s.heap := hP
  have f_9 := hts (.fieldLink RX0 9 "SpringLevels$Hero" "x" "I") (by decide +kernel)
  have f_15 := hts (.fieldLink RX0 15 "SpringLevels$Hero" "y" "I") (by decide +kernel)
  have f_18 := hts (.fieldLink RX0 18 "SpringLevels$Hero" "lift" "I") (by decide +kernel)
  have i_0 : ∀ w ∈ wsX00, w ∈ wsX0_move := by decide +kernel
  have hl := lv_entry ([.ref he, .ref lv, .int (zI i)]) (n := 3) (Nat.le_of_ble_eq_true rfl)
  rw [lg_entry_eq]
  generalize (lg_sl ([.ref he, .ref lv, .int (zI i)]) ++ List.replicate (3 - (lg_sl ([.ref he, .ref lv, .int (zI i)])).length) Slot.unset).toArray = ls at hl ⊢
  have hl : lv_has ls 3 [(0, .ref he), (1, .ref lv), (2, .int (zI i))] := hl
  refine z_cut (I := fun (x9 : Int) (H9 : Heap) (k9 : List Loc) (ls9 : Array Slot) => match x9 with | l2 => (l2 = juL K w h x y li i) ∧ (0 ≤ l2 ∧ l2 ≤ 4) ∧ va_P (dC, dI) vwCl [(he, .inr (0, [.int (zI x), .int (zI y), .int (zI l2)])), (lv, .inr (1, [.int (zI w), .int (zI h), .ref ka, .ref ta, .int (zI sx), .int (zI sy), .int (zI fx), .int (zI fy), .int (zI lf), .int (zI un)])), zA cI ka 96 K] H9 ∧ va_D A [(he, .inr (0, [.int (zI x), .int (zI y), .int (zI l2)])), (lv, .inr (1, [.int (zI w), .int (zI h), .ref ka, .ref ta, .int (zI sx), .int (zI sy), .int (zI fx), .int (zI fy), .int (zI lf), .int (zI un)])), zA cI ka 96 K] ∧ va_S A s.heap H9 k9 ∧ lv_has ls9 3 [(0, .ref he), (1, .ref lv), (2, .int (zI i))]) (fr := fun (x9 : Int) (ls9 : Array Slot) => match x9 with | l2 => F0 m 28 ls9 []) ?_ ?_
  · rintro l2 H locs ls ⟨hn, rl2, hP, hD, hS, hl⟩
    refine W.eq (g2 := F0 m 28 ls []) rfl ?_
    refine lv_aload_n hx hb dX0_move_28 rfl (lv_at hl 0 rfl) ?_
    refine lv_aload_n hx hb dX0_move_29 rfl (lv_at hl 1 rfl) ?_
    refine lv_iload_n hx hb dX0_move_30 rfl (lv_at hl 2 rfl) ?_
    have hPc := hP.sub (ws' := [(he, .inr (0, [.int (zI x), .int (zI y), .int (zI l2)])), (lv, .inr (1, [.int (zI w), .int (zI h), .ref ka, .ref ta, .int (zI sx), .int (zI sy), .int (zI fx), .int (zI fy), .int (zI lf), .int (zI un)])), zA cI ka 96 K]) [0, 1, 2] rfl
    have hDc := hD.sub (ws' := [(he, .inr (0, [.int (zI x), .int (zI y), .int (zI l2)])), (lv, .inr (1, [.int (zI w), .int (zI h), .ref ka, .ref ta, .int (zI sx), .int (zI sy), .int (zI fx), .int (zI fy), .int (zI lf), .int (zI un)])), zA cI ka 96 K]) [0, 1, 2] (by decide) rfl
    have hFc := va_free (wc := [(he, .inr (0, [.int (zI x), .int (zI y), .int (zI l2)])), (lv, .inr (1, [.int (zI w), .int (zI h), .ref ka, .ref ta, .int (zI sx), .int (zI sy), .int (zI fx), .int (zI fy), .int (zI lf), .int (zI un)])), zA cI ka 96 K]) hD hS hA [0, 1, 2] rfl
    refine va_callv (va_runV (As := [.ref lv, .int (zI i)]) (rest := []) ⟨hx, hb, hml, hown, hts⟩ (c_X0_walk l dC dI cI cZ cL cT cJ H.size he x y l2 lv w h ka ta sx sy fx fy lf un K i (by first | assumption | omega) (by first | assumption | omega) (by first | assumption | omega) (by first | assumption | omega) (by first | assumption | omega) (by first | assumption | omega) (by first | assumption | omega)) (cwV 2 hts gX0_move_X0_walk rfl rfl rfl (by decide +kernel) ⟨Nat.le_of_ble_eq_true rfl, Nat.le_of_ble_eq_true rfl⟩) ⟨zP_blind, va_recv hK hPc (ci := 0) (q0 := 0) rfl rfl, zP_pre hPc hDc hK⟩ rfl rfl hl.1 rfl (lv_room (Nat.le_of_ble_eq_true rfl)) dX0_move_31 ⟨Nat.le_of_ble_eq_true rfl, Nat.le_of_ble_eq_true rfl⟩) hS (fun q _ h => hFc q h) hFc (fun u_1 t H1 locs ht hvm hw hB hz1 hk1 hS => ?_)
    obtain ⟨x1_2, rfl⟩ : ∃ z, z = u_1 := ⟨_, rfl⟩
    obtain ⟨hP1, hK1, hD1⟩ := hB
    rw [ht] at hP1
    have hP1 : va_P (dC, dI) vwCl [(he, .inr (0, [.int (zI x1_2), .int (zI y), .int (zI l2)])), (lv, .inr (1, [.int (zI w), .int (zI h), .ref ka, .ref ta, .int (zI sx), .int (zI sy), .int (zI fx), .int (zI fy), .int (zI lf), .int (zI un)])), zA cI ka 96 K] H1 := hP1
    obtain ⟨hP, hD⟩ := va_join (wr := []) (w1 := [(he, .inr (0, [.int (zI x1_2), .int (zI y), .int (zI l2)])), (lv, .inr (1, [.int (zI w), .int (zI h), .ref ka, .ref ta, .int (zI sx), .int (zI sy), .int (zI fx), .int (zI fy), .int (zI lf), .int (zI un)])), zA cI ka 96 K]) hP hD [0, 1, 2] [] rfl rfl (by decide) (by decide) hk1 hFc hP1 hD1
    clear hP1 hD1 hk1 hFc hPc hDc hz1
    generalize H1 = H at hP hS ⊢
    have hP : va_P (dC, dI) vwCl [(he, .inr (0, [.int (zI x1_2), .int (zI y), .int (zI l2)])), (lv, .inr (1, [.int (zI w), .int (zI h), .ref ka, .ref ta, .int (zI sx), .int (zI sy), .int (zI fx), .int (zI fy), .int (zI lf), .int (zI un)])), zA cI ka 96 K] H := hP.sub [0, 1, 2] rfl
    have hD : va_D A [(he, .inr (0, [.int (zI x1_2), .int (zI y), .int (zI l2)])), (lv, .inr (1, [.int (zI w), .int (zI h), .ref ka, .ref ta, .int (zI sx), .int (zI sy), .int (zI fx), .int (zI fy), .int (zI lf), .int (zI un)])), zA cI ka 96 K] := hD.sub [0, 1, 2] (by decide) rfl
    clear hK1 hvm
    have po_3 : x1_2 = wk K w h x y i := hw
    refine W.eq (g2 := F0 m 34 ls []) rfl ?_
    have gx1 : 0 ≤ x1_2 ∧ x1_2 < w := by rw [po_3]; exact wk_rng (by assumption)
    refine z_cut (I := fun (x9 : Int × Int) (H9 : Heap) (k9 : List Loc) (ls9 : Array Slot) => match x9 with | (y3, l3) => (y3 = upY K w h x1_2 y l2) ∧ (l3 = upL K w h x1_2 y l2) ∧ (0 ≤ y3 ∧ y3 ≤ h) ∧ (0 ≤ l3 ∧ l3 ≤ 4) ∧ va_P (dC, dI) vwCl [(he, .inr (0, [.int (zI x1_2), .int (zI y3), .int (zI l3)])), (lv, .inr (1, [.int (zI w), .int (zI h), .ref ka, .ref ta, .int (zI sx), .int (zI sy), .int (zI fx), .int (zI fy), .int (zI lf), .int (zI un)])), zA cI ka 96 K] H9 ∧ va_D A [(he, .inr (0, [.int (zI x1_2), .int (zI y3), .int (zI l3)])), (lv, .inr (1, [.int (zI w), .int (zI h), .ref ka, .ref ta, .int (zI sx), .int (zI sy), .int (zI fx), .int (zI fy), .int (zI lf), .int (zI un)])), zA cI ka 96 K] ∧ va_S A s.heap H9 k9 ∧ lv_has ls9 3 [(0, .ref he), (1, .ref lv), (2, .int (zI i))]) (fr := fun (x9 : Int × Int) (ls9 : Array Slot) => match x9 with | (y3, l3) => F0 m 54 ls9 []) ?_ ?_
    · rintro ⟨y3, l3⟩ H locs ls ⟨hy3, hl3, ry3, rl3, hP, hD, hS, hl⟩
      refine W.eq (g2 := F0 m 54 ls []) rfl ?_
      refine lv_aload_n hx hb dX0_move_54 rfl (lv_at hl 0 rfl) ?_
      refine lv_aload_n hx hb dX0_move_55 rfl (lv_at hl 1 rfl) ?_
      have hPc := hP.sub (ws' := [(he, .inr (0, [.int (zI x1_2), .int (zI y3), .int (zI l3)])), (lv, .inr (1, [.int (zI w), .int (zI h), .ref ka, .ref ta, .int (zI sx), .int (zI sy), .int (zI fx), .int (zI fy), .int (zI lf), .int (zI un)])), zA cI ka 96 K]) [0, 1, 2] rfl
      have hDc := hD.sub (ws' := [(he, .inr (0, [.int (zI x1_2), .int (zI y3), .int (zI l3)])), (lv, .inr (1, [.int (zI w), .int (zI h), .ref ka, .ref ta, .int (zI sx), .int (zI sy), .int (zI fx), .int (zI fy), .int (zI lf), .int (zI un)])), zA cI ka 96 K]) [0, 1, 2] (by decide) rfl
      have hFc := va_free (wc := [(he, .inr (0, [.int (zI x1_2), .int (zI y3), .int (zI l3)])), (lv, .inr (1, [.int (zI w), .int (zI h), .ref ka, .ref ta, .int (zI sx), .int (zI sy), .int (zI fx), .int (zI fy), .int (zI lf), .int (zI un)])), zA cI ka 96 K]) hD hS hA [0, 1, 2] rfl
      refine va_calli (va_runV (As := [.ref lv]) (rest := []) ⟨hx, hb, hml, hown, hts⟩ (c_X0_look l dC dI cI cZ cL cT cJ H.size he x1_2 y3 l3 lv w h ka ta sx sy fx fy lf un K (by first | assumption | omega) (by first | assumption | omega) (by first | assumption | omega) (by first | assumption | omega) (by first | assumption | omega) (by first | assumption | omega) (by first | assumption | omega) (by first | assumption | omega)) (cwV 1 hts gX0_move_X0_look rfl rfl rfl (by decide +kernel) ⟨Nat.le_of_ble_eq_true rfl, Nat.le_of_ble_eq_true rfl⟩) ⟨zP_blind, va_recv hK hPc (ci := 0) (q0 := 0) rfl rfl, zP_pre hPc hDc hK⟩ rfl rfl hl.1 rfl (lv_room (Nat.le_of_ble_eq_true rfl)) dX0_move_56 ⟨Nat.le_of_ble_eq_true rfl, Nat.le_of_ble_eq_true rfl⟩) hS (fun q _ h => hFc q h) hFc (fun r_4 u_4 t H1 locs ht hvm hw hB hz1 hk1 hS => ?_)
      obtain ⟨l1_5, o1_6⟩ := u_4
      obtain ⟨hP1, hK1, hD1⟩ := hB
      rw [ht] at hP1
      have hP1 : va_P (dC, dI) vwCl [(he, .inr (0, [.int (zI x1_2), .int (zI y3), .int (zI l1_5)])), (lv, .inr (1, [.int (zI w), .int (zI h), .ref ka, .ref ta, .int (zI sx), .int (zI sy), .int (zI fx), .int (zI fy), .int (zI lf), .int (zI un)])), zA cI ka 96 K] H1 := hP1
      obtain ⟨hP, hD⟩ := va_join (wr := []) (w1 := [(he, .inr (0, [.int (zI x1_2), .int (zI y3), .int (zI l1_5)])), (lv, .inr (1, [.int (zI w), .int (zI h), .ref ka, .ref ta, .int (zI sx), .int (zI sy), .int (zI fx), .int (zI fy), .int (zI lf), .int (zI un)])), zA cI ka 96 K]) hP hD [0, 1, 2] [] rfl rfl (by decide) (by decide) hk1 hFc hP1 hD1
      clear hP1 hD1 hk1 hFc hPc hDc hz1
      generalize H1 = H at hP hS ⊢
      have hP : va_P (dC, dI) vwCl [(he, .inr (0, [.int (zI x1_2), .int (zI y3), .int (zI l1_5)])), (lv, .inr (1, [.int (zI w), .int (zI h), .ref ka, .ref ta, .int (zI sx), .int (zI sy), .int (zI fx), .int (zI fy), .int (zI lf), .int (zI un)])), zA cI ka 96 K] H := hP.sub [0, 1, 2] rfl
      have hD : va_D A [(he, .inr (0, [.int (zI x1_2), .int (zI y3), .int (zI l1_5)])), (lv, .inr (1, [.int (zI w), .int (zI h), .ref ka, .ref ta, .int (zI sx), .int (zI sy), .int (zI fx), .int (zI fy), .int (zI lf), .int (zI un)])), zA cI ka 96 K] := hD.sub [0, 1, 2] (by decide) rfl
      clear hK1 hvm
      obtain ⟨rfl, po_7⟩ := hw
      have po_7 : l1_5 = lkL K w h x1_2 y3 l3 ∧ o1_6 = lkO K w h fx fy x1_2 y3 := po_7
      refine W.eq (g2 := F0 m 59 ls [.int (zI o1_6)]) rfl ?_
      have hP9 := hP.sub (ws' := [(he, .inr (0, [.int (zI x1_2), .int (zI y3), .int (zI l1_5)])), (lv, .inr (1, [.int (zI w), .int (zI h), .ref ka, .ref ta, .int (zI sx), .int (zI sy), .int (zI fx), .int (zI fy), .int (zI lf), .int (zI un)])), zA cI ka 96 K]) [0, 1, 2] rfl
      have hD9 := hD.sub (ws' := [(he, .inr (0, [.int (zI x1_2), .int (zI y3), .int (zI l1_5)])), (lv, .inr (1, [.int (zI w), .int (zI h), .ref ka, .ref ta, .int (zI sx), .int (zI sy), .int (zI fx), .int (zI fy), .int (zI lf), .int (zI un)])), zA cI ka 96 K]) [0, 1, 2] (by decide) rfl
      have po : zI o1_6 = zI o1_6 ∧ (x1_2 = mvX K w h x y i ∧ y3 = mvY K w h x y li i ∧ l1_5 = mvL K w h x y li i ∧ o1_6 = mvO K w h fx fy x y li i) := by
        refine ⟨by first | rfl | (congr 1; omega) | (congr 1; simp [*]), ?_⟩
        have e1 : x1_2 = mvX K w h x y i := po_3
        have e2 : y3 = mvY K w h x y li i := by rw [mvY, ← e1, ← hn]; exact hy3
        refine ⟨e1, e2, ?_, ?_⟩
        · rw [mvL, ← e1, ← e2, ← hn, ← hl3]; exact po_7.1
        · rw [mvO, ← e1, ← e2]; exact po_7.2
      exact W.iret (v := zI o1_6) hx hb hr (fun t ht hW => ⟨⟨zI o1_6, (x1_2, y3, l1_5, o1_6), rfl, po, by rw [ht]; exact hP9, va_K.moved hW.alike hK, hD9⟩, hS.F ht⟩) hS.2.2 dX0_move_59
    intro J_8
    refine lv_aload_n hx hb dX0_move_34 rfl (lv_at hl 0 rfl) ?_
    refine va_get (D := (dC, dI)) (ci := 0) (v := .int (zI l2)) (C := RX0) (T := TX0) (N := 3) hx hb hts i_0 hown hK hP 0 rfl rfl 2 (by decide) f_18 (fun _ h9 => h9) rfl dX0_move_35 ?_
    refine lz_if_le (tgt := 49) hx hb dX0_move_38 (by decide) (by omega) (fun c_9 => ?_) (fun c_9 => ?_)
    ·
      refine lv_aload_n hx hb dX0_move_49 rfl (lv_at hl 0 rfl) ?_
      refine lv_aload_n hx hb dX0_move_50 rfl (lv_at hl 1 rfl) ?_
      have hPc := hP.sub (ws' := [(he, .inr (0, [.int (zI x1_2), .int (zI y), .int (zI l2)])), (lv, .inr (1, [.int (zI w), .int (zI h), .ref ka, .ref ta, .int (zI sx), .int (zI sy), .int (zI fx), .int (zI fy), .int (zI lf), .int (zI un)])), zA cI ka 96 K]) [0, 1, 2] rfl
      have hDc := hD.sub (ws' := [(he, .inr (0, [.int (zI x1_2), .int (zI y), .int (zI l2)])), (lv, .inr (1, [.int (zI w), .int (zI h), .ref ka, .ref ta, .int (zI sx), .int (zI sy), .int (zI fx), .int (zI fy), .int (zI lf), .int (zI un)])), zA cI ka 96 K]) [0, 1, 2] (by decide) rfl
      have hFc := va_free (wc := [(he, .inr (0, [.int (zI x1_2), .int (zI y), .int (zI l2)])), (lv, .inr (1, [.int (zI w), .int (zI h), .ref ka, .ref ta, .int (zI sx), .int (zI sy), .int (zI fx), .int (zI fy), .int (zI lf), .int (zI un)])), zA cI ka 96 K]) hD hS hA [0, 1, 2] rfl
      refine va_callv (va_runV (As := [.ref lv]) (rest := []) ⟨hx, hb, hml, hown, hts⟩ (c_X0_fall l dC dI cI cZ cL cT cJ H.size he x1_2 y l2 lv w h ka ta sx sy fx fy lf un K (by first | assumption | omega) (by first | assumption | omega) (by first | assumption | omega) (by first | assumption | omega) (by first | assumption | omega) (by first | assumption | omega)) (cwV 1 hts gX0_move_X0_fall rfl rfl rfl (by decide +kernel) ⟨Nat.le_of_ble_eq_true rfl, Nat.le_of_ble_eq_true rfl⟩) ⟨zP_blind, va_recv hK hPc (ci := 0) (q0 := 0) rfl rfl, zP_pre hPc hDc hK⟩ rfl rfl hl.1 rfl (lv_room (Nat.le_of_ble_eq_true rfl)) dX0_move_51 ⟨Nat.le_of_ble_eq_true rfl, Nat.le_of_ble_eq_true rfl⟩) hS (fun q _ h => hFc q h) hFc (fun u_10 t H1 locs ht hvm hw hB hz1 hk1 hS => ?_)
      obtain ⟨y1_11, rfl⟩ : ∃ z, z = u_10 := ⟨_, rfl⟩
      obtain ⟨hP1, hK1, hD1⟩ := hB
      rw [ht] at hP1
      have hP1 : va_P (dC, dI) vwCl [(he, .inr (0, [.int (zI x1_2), .int (zI y1_11), .int (zI l2)])), (lv, .inr (1, [.int (zI w), .int (zI h), .ref ka, .ref ta, .int (zI sx), .int (zI sy), .int (zI fx), .int (zI fy), .int (zI lf), .int (zI un)])), zA cI ka 96 K] H1 := hP1
      obtain ⟨hP, hD⟩ := va_join (wr := []) (w1 := [(he, .inr (0, [.int (zI x1_2), .int (zI y1_11), .int (zI l2)])), (lv, .inr (1, [.int (zI w), .int (zI h), .ref ka, .ref ta, .int (zI sx), .int (zI sy), .int (zI fx), .int (zI fy), .int (zI lf), .int (zI un)])), zA cI ka 96 K]) hP hD [0, 1, 2] [] rfl rfl (by decide) (by decide) hk1 hFc hP1 hD1
      clear hP1 hD1 hk1 hFc hPc hDc hz1
      generalize H1 = H at hP hS ⊢
      have hP : va_P (dC, dI) vwCl [(he, .inr (0, [.int (zI x1_2), .int (zI y1_11), .int (zI l2)])), (lv, .inr (1, [.int (zI w), .int (zI h), .ref ka, .ref ta, .int (zI sx), .int (zI sy), .int (zI fx), .int (zI fy), .int (zI lf), .int (zI un)])), zA cI ka 96 K] H := hP.sub [0, 1, 2] rfl
      have hD : va_D A [(he, .inr (0, [.int (zI x1_2), .int (zI y1_11), .int (zI l2)])), (lv, .inr (1, [.int (zI w), .int (zI h), .ref ka, .ref ta, .int (zI sx), .int (zI sy), .int (zI fx), .int (zI fy), .int (zI lf), .int (zI un)])), zA cI ka 96 K] := hD.sub [0, 1, 2] (by decide) rfl
      clear hK1 hvm
      have po_12 : y1_11 = faY K w h x1_2 y := hw
      refine W.eq (g2 := F0 m 54 ls []) rfl ?_
      exact J_8 (y1_11, l2) _ _ _ ⟨(by (first | (rw [upY, if_pos (by omega)]; exact po_12.1) | (rw [upY, if_neg (by omega)]; exact po_12))), (by (first | (rw [upL, if_pos (by omega)]; exact po_12.2) | (rw [upL, if_neg (by omega)]))), (by (first | (have e9 := riY_rng (K := K) (w := w) (h := h) (x := x1_2) (y := y) (by assumption); rw [← po_12.1] at e9; omega) | (have e9 := faY_rng (K := K) (w := w) (h := h) (x := x1_2) (y := y) (by assumption); rw [← po_12] at e9; omega))), (by (first | omega | (have e9 := po_12.2; unfold riL at e9; split at e9 <;> omega))), hP, hD, hS, lv_sub hl [0, 1, 2] rfl⟩
    ·
      refine lv_aload_n hx hb dX0_move_41 rfl (lv_at hl 0 rfl) ?_
      refine lv_aload_n hx hb dX0_move_42 rfl (lv_at hl 1 rfl) ?_
      have hPc := hP.sub (ws' := [(he, .inr (0, [.int (zI x1_2), .int (zI y), .int (zI l2)])), (lv, .inr (1, [.int (zI w), .int (zI h), .ref ka, .ref ta, .int (zI sx), .int (zI sy), .int (zI fx), .int (zI fy), .int (zI lf), .int (zI un)])), zA cI ka 96 K]) [0, 1, 2] rfl
      have hDc := hD.sub (ws' := [(he, .inr (0, [.int (zI x1_2), .int (zI y), .int (zI l2)])), (lv, .inr (1, [.int (zI w), .int (zI h), .ref ka, .ref ta, .int (zI sx), .int (zI sy), .int (zI fx), .int (zI fy), .int (zI lf), .int (zI un)])), zA cI ka 96 K]) [0, 1, 2] (by decide) rfl
      have hFc := va_free (wc := [(he, .inr (0, [.int (zI x1_2), .int (zI y), .int (zI l2)])), (lv, .inr (1, [.int (zI w), .int (zI h), .ref ka, .ref ta, .int (zI sx), .int (zI sy), .int (zI fx), .int (zI fy), .int (zI lf), .int (zI un)])), zA cI ka 96 K]) hD hS hA [0, 1, 2] rfl
      refine va_callv (va_runV (As := [.ref lv]) (rest := []) ⟨hx, hb, hml, hown, hts⟩ (c_X0_rise l dC dI cI cZ cL cT cJ H.size he x1_2 y l2 lv w h ka ta sx sy fx fy lf un K (by first | assumption | omega) (by first | assumption | omega) (by first | assumption | omega) (by first | assumption | omega) (by first | assumption | omega) (by first | assumption | omega)) (cwV 1 hts gX0_move_X0_rise rfl rfl rfl (by decide +kernel) ⟨Nat.le_of_ble_eq_true rfl, Nat.le_of_ble_eq_true rfl⟩) ⟨zP_blind, va_recv hK hPc (ci := 0) (q0 := 0) rfl rfl, zP_pre hPc hDc hK⟩ rfl rfl hl.1 rfl (lv_room (Nat.le_of_ble_eq_true rfl)) dX0_move_43 ⟨Nat.le_of_ble_eq_true rfl, Nat.le_of_ble_eq_true rfl⟩) hS (fun q _ h => hFc q h) hFc (fun u_13 t H1 locs ht hvm hw hB hz1 hk1 hS => ?_)
      obtain ⟨y1_14, l1_15⟩ := u_13
      obtain ⟨hP1, hK1, hD1⟩ := hB
      rw [ht] at hP1
      have hP1 : va_P (dC, dI) vwCl [(he, .inr (0, [.int (zI x1_2), .int (zI y1_14), .int (zI l1_15)])), (lv, .inr (1, [.int (zI w), .int (zI h), .ref ka, .ref ta, .int (zI sx), .int (zI sy), .int (zI fx), .int (zI fy), .int (zI lf), .int (zI un)])), zA cI ka 96 K] H1 := hP1
      obtain ⟨hP, hD⟩ := va_join (wr := []) (w1 := [(he, .inr (0, [.int (zI x1_2), .int (zI y1_14), .int (zI l1_15)])), (lv, .inr (1, [.int (zI w), .int (zI h), .ref ka, .ref ta, .int (zI sx), .int (zI sy), .int (zI fx), .int (zI fy), .int (zI lf), .int (zI un)])), zA cI ka 96 K]) hP hD [0, 1, 2] [] rfl rfl (by decide) (by decide) hk1 hFc hP1 hD1
      clear hP1 hD1 hk1 hFc hPc hDc hz1
      generalize H1 = H at hP hS ⊢
      have hP : va_P (dC, dI) vwCl [(he, .inr (0, [.int (zI x1_2), .int (zI y1_14), .int (zI l1_15)])), (lv, .inr (1, [.int (zI w), .int (zI h), .ref ka, .ref ta, .int (zI sx), .int (zI sy), .int (zI fx), .int (zI fy), .int (zI lf), .int (zI un)])), zA cI ka 96 K] H := hP.sub [0, 1, 2] rfl
      have hD : va_D A [(he, .inr (0, [.int (zI x1_2), .int (zI y1_14), .int (zI l1_15)])), (lv, .inr (1, [.int (zI w), .int (zI h), .ref ka, .ref ta, .int (zI sx), .int (zI sy), .int (zI fx), .int (zI fy), .int (zI lf), .int (zI un)])), zA cI ka 96 K] := hD.sub [0, 1, 2] (by decide) rfl
      clear hK1 hvm
      have po_16 : y1_14 = riY K w h x1_2 y ∧ l1_15 = riL K w h x1_2 y l2 := hw
      refine W.eq (g2 := F0 m 46 ls []) rfl ?_
      refine lv_goto (tgt := 54) hx hb dX0_move_46 (by decide) ?_
      exact J_8 (y1_14, l1_15) _ _ _ ⟨(by (first | (rw [upY, if_pos (by omega)]; exact po_16.1) | (rw [upY, if_neg (by omega)]; exact po_16))), (by (first | (rw [upL, if_pos (by omega)]; exact po_16.2) | (rw [upL, if_neg (by omega)]))), (by (first | (have e9 := riY_rng (K := K) (w := w) (h := h) (x := x1_2) (y := y) (by assumption); rw [← po_16.1] at e9; omega) | (have e9 := faY_rng (K := K) (w := w) (h := h) (x := x1_2) (y := y) (by assumption); rw [← po_16] at e9; omega))), (by (first | omega | (have e9 := po_16.2; unfold riL at e9; split at e9 <;> omega))), hP, hD, hS, lv_sub hl [0, 1, 2] rfl⟩
  intro J_17
  refine lv_iload_n hx hb dX0_move_0 rfl (lv_at hl 2 rfl) ?_
  refine lv_iconst (v := zI 3) hx hb dX0_move_1 (rfl) ?_
  refine lz_icmp_lt (tgt := 28) hx hb dX0_move_2 (by decide) (by omega) ⟨by decide, by decide⟩ (fun c_18 => ?_) (fun c_18 => ?_)
  ·
    exact J_17 li _ _ _ ⟨(by (rw [juL, if_neg (by omega)])), (by omega), hP, hD, hS, lv_sub hl [0, 1, 2] rfl⟩
  ·
    refine lv_aload_n hx hb dX0_move_5 rfl (lv_at hl 1 rfl) ?_
    refine lv_aload_n hx hb dX0_move_6 rfl (lv_at hl 0 rfl) ?_
    refine va_get (D := (dC, dI)) (ci := 0) (v := .int (zI x)) (C := RX0) (T := TX0) (N := 3) hx hb hts i_0 hown hK hP 0 rfl rfl 0 (by decide) f_9 (fun _ h9 => h9) rfl dX0_move_7 ?_
    refine lv_aload_n hx hb dX0_move_10 rfl (lv_at hl 0 rfl) ?_
    refine va_get (D := (dC, dI)) (ci := 0) (v := .int (zI y)) (C := RX0) (T := TX0) (N := 3) hx hb hts i_0 hown hK hP 0 rfl rfl 1 (by decide) f_15 (fun _ h9 => h9) rfl dX0_move_11 ?_
    refine lv_iconst (v := zI 1) hx hb dX0_move_14 (rfl) ?_
    refine lz_iadd (z := y + 1) hx hb dX0_move_15 (by rfl) ?_
    have hPc := hP.sub (ws' := [(lv, .inr (1, [.int (zI w), .int (zI h), .ref ka, .ref ta, .int (zI sx), .int (zI sy), .int (zI fx), .int (zI fy), .int (zI lf), .int (zI un)])), zA cI ka 96 K]) [1, 2] rfl
    have hDc := hD.sub (ws' := [(lv, .inr (1, [.int (zI w), .int (zI h), .ref ka, .ref ta, .int (zI sx), .int (zI sy), .int (zI fx), .int (zI fy), .int (zI lf), .int (zI un)])), zA cI ka 96 K]) [1, 2] (by decide) rfl
    have hFc := va_free (wc := [(lv, .inr (1, [.int (zI w), .int (zI h), .ref ka, .ref ta, .int (zI sx), .int (zI sy), .int (zI fx), .int (zI fy), .int (zI lf), .int (zI un)])), zA cI ka 96 K]) hD hS hA [1, 2] rfl
    refine va_calli (va_runV (As := [.int (zI x), .int (zI (y + 1))]) (rest := []) ⟨hx, hb, hml, hown, hts⟩ (c_X1_kindAt l dC dI cI cZ cL cT cJ s.heap.size lv w h ka (.ref ta) sx sy fx fy lf un K x (y + 1) (by first | assumption | omega) (by first | assumption | omega) (by first | assumption | omega) (by first | assumption | omega) (by first | assumption | omega)) (cwV 2 hts gX0_move_X1_kindAt rfl rfl rfl (by decide +kernel) ⟨Nat.le_of_ble_eq_true rfl, Nat.le_of_ble_eq_true rfl⟩) ⟨zP_blind, va_recv hK hPc (ci := 1) (q0 := 0) rfl rfl, zP_pre hPc hDc hK⟩ rfl rfl hl.1 rfl (lv_room (Nat.le_of_ble_eq_true rfl)) dX0_move_16 ⟨Nat.le_of_ble_eq_true rfl, Nat.le_of_ble_eq_true rfl⟩) hS (fun q _ h => hFc q h) hFc (fun r_19 u_19 t H1 locs ht hvm hw hB hz1 hk1 hS => ?_)
    obtain ⟨r_20, rfl⟩ : ∃ z, z = u_19 := ⟨_, rfl⟩
    obtain ⟨hP1, hK1, hD1⟩ := hB
    rw [ht] at hP1
    have hP1 : va_P (dC, dI) vwCl [(lv, .inr (1, [.int (zI w), .int (zI h), .ref ka, .ref ta, .int (zI sx), .int (zI sy), .int (zI fx), .int (zI fy), .int (zI lf), .int (zI un)])), zA cI ka 96 K] H1 := hP1
    obtain ⟨hP, hD⟩ := va_join (wr := [(he, .inr (0, [.int (zI x), .int (zI y), .int (zI li)]))]) (w1 := [(lv, .inr (1, [.int (zI w), .int (zI h), .ref ka, .ref ta, .int (zI sx), .int (zI sy), .int (zI fx), .int (zI fy), .int (zI lf), .int (zI un)])), zA cI ka 96 K]) hP hD [1, 2] [0] rfl rfl (by decide) (by decide) hk1 hFc hP1 hD1
    clear hP1 hD1 hk1 hFc hPc hDc hz1
    generalize H1 = H at hP hS ⊢
    have hP : va_P (dC, dI) vwCl [(he, .inr (0, [.int (zI x), .int (zI y), .int (zI li)])), (lv, .inr (1, [.int (zI w), .int (zI h), .ref ka, .ref ta, .int (zI sx), .int (zI sy), .int (zI fx), .int (zI fy), .int (zI lf), .int (zI un)])), zA cI ka 96 K] H := hP.sub [0, 1, 2] rfl
    have hD : va_D A [(he, .inr (0, [.int (zI x), .int (zI y), .int (zI li)])), (lv, .inr (1, [.int (zI w), .int (zI h), .ref ka, .ref ta, .int (zI sx), .int (zI sy), .int (zI fx), .int (zI fy), .int (zI lf), .int (zI un)])), zA cI ka 96 K] := hD.sub [0, 1, 2] (by decide) rfl
    clear hK1 hvm
    obtain ⟨rfl, po_21⟩ := hw
    have po_21 : r_20 = kd K w h x (y + 1) ∧ -1 ≤ r_20 ∧ r_20 ≤ 3 := po_21
    refine W.eq (g2 := F0 m 19 ls [.int (zI r_20)]) rfl ?_
    refine lv_iconst (v := zI 1) hx hb dX0_move_19 (rfl) ?_
    refine lz_icmp_ne (tgt := 28) hx hb dX0_move_20 (by decide) (by omega) ⟨by decide, by decide⟩ (fun c_22 => ?_) (fun c_22 => ?_)
    ·
      exact J_17 li _ _ _ ⟨(by (first | rw [juL, ← po_21.1, if_neg (by omega)] | rw [juL, ← po_21.1, if_pos (by omega)])), (by omega), hP, hD, hS, lv_sub hl [0, 1, 2] rfl⟩
    ·
      refine lv_aload_n hx hb dX0_move_23 rfl (lv_at hl 0 rfl) ?_
      refine lv_iconst (v := zI 2) hx hb dX0_move_24 (rfl) ?_
      refine va_put (D := (dC, dI)) (ci := 0) (v := .int (zI 2)) (ty := .int) (C := RX0) (T := TX0) (N := 3) hx hb hts i_0 tyX0 tyX0_ok nmX0 hown hK hP hD hS 0 rfl rfl 2 (by decide) f_18 (fun _ h9 => h9) rfl (by decide +kernel) rfl rfl (Nat.le_of_ble_eq_true rfl) dX0_move_25 (fun H locs hP hD hS => ?_)
      have hP : va_P (dC, dI) vwCl [(he, .inr (0, [.int (zI x), .int (zI y), .int (zI 2)])), (lv, .inr (1, [.int (zI w), .int (zI h), .ref ka, .ref ta, .int (zI sx), .int (zI sy), .int (zI fx), .int (zI fy), .int (zI lf), .int (zI un)])), zA cI ka 96 K] H := hP
      have hD : va_D A [(he, .inr (0, [.int (zI x), .int (zI y), .int (zI 2)])), (lv, .inr (1, [.int (zI w), .int (zI h), .ref ka, .ref ta, .int (zI sx), .int (zI sy), .int (zI fx), .int (zI fy), .int (zI lf), .int (zI un)])), zA cI ka 96 K] := hD
      exact J_17 2 _ _ _ ⟨(by (first | rw [juL, ← po_21.1, if_neg (by omega)] | rw [juL, ← po_21.1, if_pos (by omega)])), (by omega), hP, hD, hS, lv_sub hl [0, 1, 2] rfl⟩
