set_option maxHeartbeats 4000000 in
set_option maxRecDepth 100000 in
/-- Tape() -/
theorem c_X4_init (l : Launch) (dC : Nat → ClassId) (dI : Nat → Nat → Nat) (cI cZ cL cT cJ : ClassId) (sz : Nat) (tp : Nat)  : Met l yX4_init wsX4_init ({ frames := 1, cells := 1, slots := 100, locals := 12 }) (zP (dC, dI) (zT cI cZ cL cT cJ) sz [.ref tp] [(tp, .inr (4, [.null, .int (zI 0), .int (zI 0)]))]) (va_Qv (fun (u9 : Nat) => match u9 with | ti => (True)) (zB (dC, dI) (zT cI cZ cL cT cJ) (va_A [(tp, .inr (4, [.null, .int (zI 0), .int (zI 0)]))] sz) (fun (u9 : Nat) => match u9 with | ti => [(tp, .inr (4, [.ref ti, .int (zI (-1)), .int (zI (-1))])), zA cI ti 100 (fun _ => 0)])) (va_A [(tp, .inr (4, [.null, .int (zI 0), .int (zI 0)]))] sz)) 1 100 (va_A [(tp, .inr (4, [.null, .int (zI 0), .int (zI 0)]))] sz) := by
  refine Met.ofW (cc := cX4_init) (maxL := 1) (ret := none) (by decide) rfl ?_
  intro p e s m args below meth c s₁ B hml hv
  obtain ⟨rfl, hsz, hP, hK, hD0⟩ := hv
  have hx := B.exec
  have hb := B.bytes
  have hr := B.returns
  have hts := atoms_spec (ws := wsX4_init) B.pre
  have hown : s.vm.findClass RX4 = some m.cls := findClass_of_methodNamed B.named
  have hlocks := B.notSynchronized
  have hin : meth.name = "<init>" := (name_of_methodNamed B.named B.method).1
  subst hsz
  have hD := hD0.self (sz := s.heap.size)
  generalize hAe : va_A [(tp, .inr (4, [.null, .int (zI 0), .int (zI 0)]))] s.heap.size = A at hD ⊢
  have hA : ∀ q : Nat, s.heap.size ≤ q → A q := fun q h => by rw [← hAe]; exact Or.inr h
  clear hAe hD0
  have hS : va_S A s.heap s.heap [] := va_S.rf
  have hP : va_P (dC, dI) vwCl [(tp, .inr (4, [.null, .int (zI 0), .int (zI 0)]))] s.heap := hP
  have f_9 := hts (.fieldLink RX4 9 "SpringLevels$Tape" "inputs" "[I") (by decide +kernel)
  have f_15 := hts (.fieldLink RX4 15 "SpringLevels$Tape" "length" "I") (by decide +kernel)
  have f_19 := hts (.fieldLink RX4 19 "SpringLevels$Tape" "halfLength" "I") (by decide +kernel)
  have i_4 : ∀ w ∈ wsX40, w ∈ wsX4_init := by decide +kernel
  have hl := lv_entry ([.ref tp]) (n := 1) (Nat.le_of_ble_eq_true rfl)
  rw [lg_entry_eq]
  generalize (lg_sl ([.ref tp]) ++ List.replicate (1 - (lg_sl ([.ref tp])).length) Slot.unset).toArray = ls at hl ⊢
  have hl : lv_has ls 1 [(0, .ref tp)] := hl
  refine lv_aload_n hx hb dX4_init_0 rfl (lv_at hl 0 rfl) ?_
  refine W.objInit hx hb hown (hts (.methodLink RX4 3 objectInit) (by decide +kernel)) (hts (.instanceMethod objectInit) (by decide +kernel)) (hts (.code objectInit ⟨#[0xb1]⟩ 1 none) (by decide +kernel)) rfl (by rw [hml]; exact hl.1) rfl dX4_init_1 (Nat.le_of_ble_eq_true rfl) (Nat.le_of_ble_eq_true rfl) ?_
  refine W.eq (g2 := F0 m 4 ls []) rfl ?_
  refine lv_aload_n hx hb dX4_init_4 rfl (lv_at hl 0 rfl) ?_
  refine lv_bipush (v := zI 100) hx hb dX4_init_5 (by decide) ?_
  refine lz_newa (N := 100) hx hb (hts (.arrayClass .int) (by decide +kernel)) hK hP hD hS hA 0 rfl (by decide) (Nat.le_of_ble_eq_true rfl) (Nat.le_of_ble_eq_true rfl) dX4_init_7 (fun q_1 H hP hD hS => ?_)
  have hP : va_P (dC, dI) vwCl [(tp, .inr (4, [.null, .int (zI 0), .int (zI 0)])), zA cI q_1 100 (fun _ => 0)] H := hP
  have hD : va_D A [(tp, .inr (4, [.null, .int (zI 0), .int (zI 0)])), zA cI q_1 100 (fun _ => 0)] := hD
  refine va_putF (D := (dC, dI)) (ci := 4) (v := .ref q_1) (ty := .array .int) (C := RX4) (T := TX4) (N := 3) hx hb hts i_4 tyX4 tyX4_ok nmX4 hown hK hP hD hS 0 rfl rfl 0 (by decide) f_9 (fun _ h9 => h9) rfl hin rfl (by decide +kernel) rfl rfl (Nat.le_of_ble_eq_true rfl) dX4_init_9 (fun H locs hP hD hS => ?_)
  have hP : va_P (dC, dI) vwCl [(tp, .inr (4, [.ref q_1, .int (zI 0), .int (zI 0)])), zA cI q_1 100 (fun _ => 0)] H := hP
  have hD : va_D A [(tp, .inr (4, [.ref q_1, .int (zI 0), .int (zI 0)])), zA cI q_1 100 (fun _ => 0)] := hD
  refine lv_aload_n hx hb dX4_init_12 rfl (lv_at hl 0 rfl) ?_
  refine lv_iconst (v := zI (-1)) hx hb dX4_init_13 (rfl) ?_
  refine va_put (D := (dC, dI)) (ci := 4) (v := .int (zI (-1))) (ty := .int) (C := RX4) (T := TX4) (N := 3) hx hb hts i_4 tyX4 tyX4_ok nmX4 hown hK hP hD hS 0 rfl rfl 1 (by decide) f_15 (fun _ h9 => h9) rfl (by decide +kernel) rfl rfl (Nat.le_of_ble_eq_true rfl) dX4_init_14 (fun H locs hP hD hS => ?_)
  have hP : va_P (dC, dI) vwCl [(tp, .inr (4, [.ref q_1, .int (zI (-1)), .int (zI 0)])), zA cI q_1 100 (fun _ => 0)] H := hP
  have hD : va_D A [(tp, .inr (4, [.ref q_1, .int (zI (-1)), .int (zI 0)])), zA cI q_1 100 (fun _ => 0)] := hD
  refine lv_aload_n hx hb dX4_init_17 rfl (lv_at hl 0 rfl) ?_
  refine lv_iconst (v := zI (-1)) hx hb dX4_init_18 (rfl) ?_
  refine va_put (D := (dC, dI)) (ci := 4) (v := .int (zI (-1))) (ty := .int) (C := RX4) (T := TX4) (N := 3) hx hb hts i_4 tyX4 tyX4_ok nmX4 hown hK hP hD hS 0 rfl rfl 2 (by decide) f_19 (fun _ h9 => h9) rfl (by decide +kernel) rfl rfl (Nat.le_of_ble_eq_true rfl) dX4_init_19 (fun H locs hP hD hS => ?_)
  have hP : va_P (dC, dI) vwCl [(tp, .inr (4, [.ref q_1, .int (zI (-1)), .int (zI (-1))])), zA cI q_1 100 (fun _ => 0)] H := hP
  have hD : va_D A [(tp, .inr (4, [.ref q_1, .int (zI (-1)), .int (zI (-1))])), zA cI q_1 100 (fun _ => 0)] := hD
  have hP9 := hP.sub (ws' := [(tp, .inr (4, [.ref q_1, .int (zI (-1)), .int (zI (-1))])), zA cI q_1 100 (fun _ => 0)]) [0, 1] rfl
  have hD9 := hD.sub (ws' := [(tp, .inr (4, [.ref q_1, .int (zI (-1)), .int (zI (-1))])), zA cI q_1 100 (fun _ => 0)]) [0, 1] (by decide) rfl
  refine W.widen (k := 1) (n := 100) (Nat.le_of_ble_eq_true rfl) (Nat.le_of_ble_eq_true rfl) ?_
  have po : (True) := by
    trivial
  exact W.vret hx hb hr (fun t ht hW => ⟨⟨q_1, rfl, po, by rw [ht]; exact hP9, va_K.moved hW.alike hK, hD9⟩, hS.F ht⟩) hS.2.2 dX4_init_22
set_option maxHeartbeats 4000000 in
set_option maxRecDepth 100000 in
/-- Tape.clear -/
theorem c_X4_clear (l : Launch) (dC : Nat → ClassId) (dI : Nat → Nat → Nat) (cI cZ cL cT cJ : ClassId) (sz : Nat) (tp : Nat) (ti : Nat) (ln : Int) (hf : Int)  : Met l yX4_clear wsX4_clear ({ frames := 0, cells := 0, slots := 0, locals := 0 }) (zP (dC, dI) (zT cI cZ cL cT cJ) sz [.ref tp] [(tp, .inr (4, [.ref ti, .int (zI ln), .int (zI hf)]))]) (va_Qv (fun (u9 : Unit) => match u9 with | _ => (True)) (zB (dC, dI) (zT cI cZ cL cT cJ) (va_A [(tp, .inr (4, [.ref ti, .int (zI ln), .int (zI hf)]))] sz) (fun (u9 : Unit) => match u9 with | _ => [(tp, .inr (4, [.ref ti, .int (zI (-1)), .int (zI (-1))]))])) (va_A [(tp, .inr (4, [.ref ti, .int (zI ln), .int (zI hf)]))] sz)) 0 0 (va_A [(tp, .inr (4, [.ref ti, .int (zI ln), .int (zI hf)]))] sz) := by
  refine Met.ofW (cc := cX4_clear) (maxL := 1) (ret := none) (by decide) rfl ?_
  intro p e s m args below meth c s₁ B hml hv
  obtain ⟨rfl, hsz, hP, hK, hD0⟩ := hv
  have hx := B.exec
  have hb := B.bytes
  have hr := B.returns
  have hts := atoms_spec (ws := wsX4_clear) B.pre
  have hown : s.vm.findClass RX4 = some m.cls := findClass_of_methodNamed B.named
  have hlocks := B.notSynchronized
  subst hsz
  have hD := hD0.self (sz := s.heap.size)
  generalize hAe : va_A [(tp, .inr (4, [.ref ti, .int (zI ln), .int (zI hf)]))] s.heap.size = A at hD ⊢
  have hA : ∀ q : Nat, s.heap.size ≤ q → A q := fun q h => by rw [← hAe]; exact Or.inr h
  clear hAe hD0
  have hS : va_S A s.heap s.heap [] := va_S.rf
  have hP : va_P (dC, dI) vwCl [(tp, .inr (4, [.ref ti, .int (zI ln), .int (zI hf)]))] s.heap := hP
  have f_15 := hts (.fieldLink RX4 15 "SpringLevels$Tape" "length" "I") (by decide +kernel)
  have f_19 := hts (.fieldLink RX4 19 "SpringLevels$Tape" "halfLength" "I") (by decide +kernel)
  have i_4 : ∀ w ∈ wsX40, w ∈ wsX4_clear := by decide +kernel
  have hl := lv_entry ([.ref tp]) (n := 1) (Nat.le_of_ble_eq_true rfl)
  rw [lg_entry_eq]
  generalize (lg_sl ([.ref tp]) ++ List.replicate (1 - (lg_sl ([.ref tp])).length) Slot.unset).toArray = ls at hl ⊢
  have hl : lv_has ls 1 [(0, .ref tp)] := hl
  refine lv_aload_n hx hb dX4_clear_0 rfl (lv_at hl 0 rfl) ?_
  refine lv_iconst (v := zI (-1)) hx hb dX4_clear_1 (rfl) ?_
  refine va_put (D := (dC, dI)) (ci := 4) (v := .int (zI (-1))) (ty := .int) (C := RX4) (T := TX4) (N := 3) hx hb hts i_4 tyX4 tyX4_ok nmX4 hown hK hP hD hS 0 rfl rfl 1 (by decide) f_15 (fun _ h9 => h9) rfl (by decide +kernel) rfl rfl (Nat.le_of_ble_eq_true rfl) dX4_clear_2 (fun H locs hP hD hS => ?_)
  have hP : va_P (dC, dI) vwCl [(tp, .inr (4, [.ref ti, .int (zI (-1)), .int (zI hf)]))] H := hP
  have hD : va_D A [(tp, .inr (4, [.ref ti, .int (zI (-1)), .int (zI hf)]))] := hD
  refine lv_aload_n hx hb dX4_clear_5 rfl (lv_at hl 0 rfl) ?_
  refine lv_iconst (v := zI (-1)) hx hb dX4_clear_6 (rfl) ?_
  refine va_put (D := (dC, dI)) (ci := 4) (v := .int (zI (-1))) (ty := .int) (C := RX4) (T := TX4) (N := 3) hx hb hts i_4 tyX4 tyX4_ok nmX4 hown hK hP hD hS 0 rfl rfl 2 (by decide) f_19 (fun _ h9 => h9) rfl (by decide +kernel) rfl rfl (Nat.le_of_ble_eq_true rfl) dX4_clear_7 (fun H locs hP hD hS => ?_)
  have hP : va_P (dC, dI) vwCl [(tp, .inr (4, [.ref ti, .int (zI (-1)), .int (zI (-1))]))] H := hP
  have hD : va_D A [(tp, .inr (4, [.ref ti, .int (zI (-1)), .int (zI (-1))]))] := hD
  have hP9 := hP.sub (ws' := [(tp, .inr (4, [.ref ti, .int (zI (-1)), .int (zI (-1))]))]) [0] rfl
  have hD9 := hD.sub (ws' := [(tp, .inr (4, [.ref ti, .int (zI (-1)), .int (zI (-1))]))]) [0] (by decide) rfl
  have po : (True) := by
    trivial
  exact W.vret hx hb hr (fun t ht hW => ⟨⟨(), rfl, po, by rw [ht]; exact hP9, va_K.moved hW.alike hK, hD9⟩, hS.F ht⟩) hS.2.2 dX4_clear_10
set_option maxHeartbeats 4000000 in
set_option maxRecDepth 100000 in
/-- Tape.rewind -/
theorem c_X4_rewind (l : Launch) (dC : Nat → ClassId) (dI : Nat → Nat → Nat) (cI cZ cL cT cJ : ClassId) (sz : Nat) (tp : Nat) (ti : Nat) (ln : Int) (hf : Int)  : Met l yX4_rewind wsX4_rewind ({ frames := 0, cells := 0, slots := 0, locals := 0 }) (zP (dC, dI) (zT cI cZ cL cT cJ) sz [.ref tp] [(tp, .inr (4, [.ref ti, .int (zI ln), .int (zI hf)]))]) (va_Qv (fun (u9 : Unit) => match u9 with | _ => (True)) (zB (dC, dI) (zT cI cZ cL cT cJ) (va_A [(tp, .inr (4, [.ref ti, .int (zI ln), .int (zI hf)]))] sz) (fun (u9 : Unit) => match u9 with | _ => [(tp, .inr (4, [.ref ti, .int (zI 0), .int (zI (-1))]))])) (va_A [(tp, .inr (4, [.ref ti, .int (zI ln), .int (zI hf)]))] sz)) 0 0 (va_A [(tp, .inr (4, [.ref ti, .int (zI ln), .int (zI hf)]))] sz) := by
  refine Met.ofW (cc := cX4_rewind) (maxL := 1) (ret := none) (by decide) rfl ?_
  intro p e s m args below meth c s₁ B hml hv
  obtain ⟨rfl, hsz, hP, hK, hD0⟩ := hv
  have hx := B.exec
  have hb := B.bytes
  have hr := B.returns
  have hts := atoms_spec (ws := wsX4_rewind) B.pre
  have hown : s.vm.findClass RX4 = some m.cls := findClass_of_methodNamed B.named
  have hlocks := B.notSynchronized
  subst hsz
  have hD := hD0.self (sz := s.heap.size)
  generalize hAe : va_A [(tp, .inr (4, [.ref ti, .int (zI ln), .int (zI hf)]))] s.heap.size = A at hD ⊢
  have hA : ∀ q : Nat, s.heap.size ≤ q → A q := fun q h => by rw [← hAe]; exact Or.inr h
  clear hAe hD0
  have hS : va_S A s.heap s.heap [] := va_S.rf
  have hP : va_P (dC, dI) vwCl [(tp, .inr (4, [.ref ti, .int (zI ln), .int (zI hf)]))] s.heap := hP
  have f_15 := hts (.fieldLink RX4 15 "SpringLevels$Tape" "length" "I") (by decide +kernel)
  have f_19 := hts (.fieldLink RX4 19 "SpringLevels$Tape" "halfLength" "I") (by decide +kernel)
  have i_4 : ∀ w ∈ wsX40, w ∈ wsX4_rewind := by decide +kernel
  have hl := lv_entry ([.ref tp]) (n := 1) (Nat.le_of_ble_eq_true rfl)
  rw [lg_entry_eq]
  generalize (lg_sl ([.ref tp]) ++ List.replicate (1 - (lg_sl ([.ref tp])).length) Slot.unset).toArray = ls at hl ⊢
  have hl : lv_has ls 1 [(0, .ref tp)] := hl
  refine lv_aload_n hx hb dX4_rewind_0 rfl (lv_at hl 0 rfl) ?_
  refine lv_iconst (v := zI 0) hx hb dX4_rewind_1 (rfl) ?_
  refine va_put (D := (dC, dI)) (ci := 4) (v := .int (zI 0)) (ty := .int) (C := RX4) (T := TX4) (N := 3) hx hb hts i_4 tyX4 tyX4_ok nmX4 hown hK hP hD hS 0 rfl rfl 1 (by decide) f_15 (fun _ h9 => h9) rfl (by decide +kernel) rfl rfl (Nat.le_of_ble_eq_true rfl) dX4_rewind_2 (fun H locs hP hD hS => ?_)
  have hP : va_P (dC, dI) vwCl [(tp, .inr (4, [.ref ti, .int (zI 0), .int (zI hf)]))] H := hP
  have hD : va_D A [(tp, .inr (4, [.ref ti, .int (zI 0), .int (zI hf)]))] := hD
  refine lv_aload_n hx hb dX4_rewind_5 rfl (lv_at hl 0 rfl) ?_
  refine lv_iconst (v := zI (-1)) hx hb dX4_rewind_6 (rfl) ?_
  refine va_put (D := (dC, dI)) (ci := 4) (v := .int (zI (-1))) (ty := .int) (C := RX4) (T := TX4) (N := 3) hx hb hts i_4 tyX4 tyX4_ok nmX4 hown hK hP hD hS 0 rfl rfl 2 (by decide) f_19 (fun _ h9 => h9) rfl (by decide +kernel) rfl rfl (Nat.le_of_ble_eq_true rfl) dX4_rewind_7 (fun H locs hP hD hS => ?_)
  have hP : va_P (dC, dI) vwCl [(tp, .inr (4, [.ref ti, .int (zI 0), .int (zI (-1))]))] H := hP
  have hD : va_D A [(tp, .inr (4, [.ref ti, .int (zI 0), .int (zI (-1))]))] := hD
  have hP9 := hP.sub (ws' := [(tp, .inr (4, [.ref ti, .int (zI 0), .int (zI (-1))]))]) [0] rfl
  have hD9 := hD.sub (ws' := [(tp, .inr (4, [.ref ti, .int (zI 0), .int (zI (-1))]))]) [0] (by decide) rfl
  have po : (True) := by
    trivial
  exact W.vret hx hb hr (fun t ht hW => ⟨⟨(), rfl, po, by rw [ht]; exact hP9, va_K.moved hW.alike hK, hD9⟩, hS.F ht⟩) hS.2.2 dX4_rewind_10
set_option maxHeartbeats 4000000 in
set_option maxRecDepth 100000 in
/-- Tape.append -/
theorem c_X4_append (l : Launch) (dC : Nat → ClassId) (dI : Nat → Nat → Nat) (cI cZ cL cT cJ : ClassId) (sz : Nat) (tp : Nat) (ti : Nat) (ln : Int) (hf : Int) (FI : Int → Int) (v : Int) (gn : 0 ≤ ln ∧ ln < 100) : Met l yX4_append wsX4_append ({ frames := 0, cells := 0, slots := 0, locals := 0 }) (zP (dC, dI) (zT cI cZ cL cT cJ) sz [.ref tp, .int (zI v)] [(tp, .inr (4, [.ref ti, .int (zI ln), .int (zI hf)])), zA cI ti 100 FI]) (va_Qv (fun (u9 : Unit) => match u9 with | _ => (True)) (zB (dC, dI) (zT cI cZ cL cT cJ) (va_A [(tp, .inr (4, [.ref ti, .int (zI ln), .int (zI hf)])), zA cI ti 100 FI] sz) (fun (u9 : Unit) => match u9 with | _ => [(tp, .inr (4, [.ref ti, .int (zI (ln + 1)), .int (zI hf)])), zA cI ti 100 (zu FI ln v)])) (va_A [(tp, .inr (4, [.ref ti, .int (zI ln), .int (zI hf)])), zA cI ti 100 FI] sz)) 0 0 (va_A [(tp, .inr (4, [.ref ti, .int (zI ln), .int (zI hf)])), zA cI ti 100 FI] sz) := by
  refine Met.ofW (cc := cX4_append) (maxL := 2) (ret := none) (by decide) rfl ?_
  intro p e s m args below meth c s₁ B hml hv
  obtain ⟨rfl, hsz, hP, hK, hD0⟩ := hv
  have hx := B.exec
  have hb := B.bytes
  have hr := B.returns
  have hts := atoms_spec (ws := wsX4_append) B.pre
  have hown : s.vm.findClass RX4 = some m.cls := findClass_of_methodNamed B.named
  have hlocks := B.notSynchronized
  subst hsz
  have hD := hD0.self (sz := s.heap.size)
  generalize hAe : va_A [(tp, .inr (4, [.ref ti, .int (zI ln), .int (zI hf)])), zA cI ti 100 FI] s.heap.size = A at hD ⊢
  have hA : ∀ q : Nat, s.heap.size ≤ q → A q := fun q h => by rw [← hAe]; exact Or.inr h
  clear hAe hD0
  have hS : va_S A s.heap s.heap [] := va_S.rf
  have hP : va_P (dC, dI) vwCl [(tp, .inr (4, [.ref ti, .int (zI ln), .int (zI hf)])), zA cI ti 100 FI] s.heap := hP
  have f_9 := hts (.fieldLink RX4 9 "SpringLevels$Tape" "inputs" "[I") (by decide +kernel)
  have f_15 := hts (.fieldLink RX4 15 "SpringLevels$Tape" "length" "I") (by decide +kernel)
  have i_4 : ∀ w ∈ wsX40, w ∈ wsX4_append := by decide +kernel
  have hl := lv_entry ([.ref tp, .int (zI v)]) (n := 2) (Nat.le_of_ble_eq_true rfl)
  rw [lg_entry_eq]
  generalize (lg_sl ([.ref tp, .int (zI v)]) ++ List.replicate (2 - (lg_sl ([.ref tp, .int (zI v)])).length) Slot.unset).toArray = ls at hl ⊢
  have hl : lv_has ls 2 [(0, .ref tp), (1, .int (zI v))] := hl
  refine lv_aload_n hx hb dX4_append_0 rfl (lv_at hl 0 rfl) ?_
  refine va_get (D := (dC, dI)) (ci := 4) (v := .int (zI ln)) (C := RX4) (T := TX4) (N := 3) hx hb hts i_4 hown hK hP 0 rfl rfl 1 (by decide) f_15 (fun _ h9 => h9) rfl dX4_append_1 ?_
  refine lz_if_lt (tgt := 39) hx hb dX4_append_4 (by decide) (by omega) (fun c_1 => ?_) (fun c_1 => ?_)
  · exact absurd c_1 (by omega)
  ·
    refine lv_aload_n hx hb dX4_append_7 rfl (lv_at hl 0 rfl) ?_
    refine va_get (D := (dC, dI)) (ci := 4) (v := .int (zI ln)) (C := RX4) (T := TX4) (N := 3) hx hb hts i_4 hown hK hP 0 rfl rfl 1 (by decide) f_15 (fun _ h9 => h9) rfl dX4_append_8 ?_
    refine lv_aload_n hx hb dX4_append_11 rfl (lv_at hl 0 rfl) ?_
    refine va_get (D := (dC, dI)) (ci := 4) (v := .ref ti) (C := RX4) (T := TX4) (N := 3) hx hb hts i_4 hown hK hP 0 rfl rfl 0 (by decide) f_9 (fun _ h9 => h9) rfl dX4_append_12 ?_
    refine va_alen (v := zI 100) hx hb hK hP 1 0 rfl rfl rfl dX4_append_15 ?_
    refine lz_icmp_ge (tgt := 39) hx hb dX4_append_16 (by decide) (by omega) ⟨by decide, by decide⟩ (fun c_2 => ?_) (fun c_2 => ?_)
    · exact absurd c_2 (by omega)
    ·
      refine lv_aload_n hx hb dX4_append_19 rfl (lv_at hl 0 rfl) ?_
      refine va_get (D := (dC, dI)) (ci := 4) (v := .ref ti) (C := RX4) (T := TX4) (N := 3) hx hb hts i_4 hown hK hP 0 rfl rfl 0 (by decide) f_9 (fun _ h9 => h9) rfl dX4_append_20 ?_
      refine lv_aload_n hx hb dX4_append_23 rfl (lv_at hl 0 rfl) ?_
      refine va_get (D := (dC, dI)) (ci := 4) (v := .int (zI ln)) (C := RX4) (T := TX4) (N := 3) hx hb hts i_4 hown hK hP 0 rfl rfl 1 (by decide) f_15 (fun _ h9 => h9) rfl dX4_append_24 ?_
      refine lv_iload_n hx hb dX4_append_27 rfl (lv_at hl 1 rfl) ?_
      refine lz_iast (F := FI) (i := ln) (v := v) hx hb hK hP hD hS 1 0 rfl rfl (by omega) (by omega) (by decide) dX4_append_28 (fun H locs hP hD hS => ?_)
      have hP : va_P (dC, dI) vwCl [(tp, .inr (4, [.ref ti, .int (zI ln), .int (zI hf)])), zA cI ti 100 (zu FI ln v)] H := hP
      have hD : va_D A [(tp, .inr (4, [.ref ti, .int (zI ln), .int (zI hf)])), zA cI ti 100 (zu FI ln v)] := hD
      refine lv_aload_n hx hb dX4_append_29 rfl (lv_at hl 0 rfl) ?_
      refine lv_dup hx hb dX4_append_30 rfl ?_
      refine va_get (D := (dC, dI)) (ci := 4) (v := .int (zI ln)) (C := RX4) (T := TX4) (N := 3) hx hb hts i_4 hown hK hP 0 rfl rfl 1 (by decide) f_15 (fun _ h9 => h9) rfl dX4_append_31 ?_
      refine lv_iconst (v := zI 1) hx hb dX4_append_34 (rfl) ?_
      refine lz_iadd (z := ln + 1) hx hb dX4_append_35 (by rfl) ?_
      refine va_put (D := (dC, dI)) (ci := 4) (v := .int (zI (ln + 1))) (ty := .int) (C := RX4) (T := TX4) (N := 3) hx hb hts i_4 tyX4 tyX4_ok nmX4 hown hK hP hD hS 0 rfl rfl 1 (by decide) f_15 (fun _ h9 => h9) rfl (by decide +kernel) rfl rfl (Nat.le_of_ble_eq_true rfl) dX4_append_36 (fun H locs hP hD hS => ?_)
      have hP : va_P (dC, dI) vwCl [(tp, .inr (4, [.ref ti, .int (zI (ln + 1)), .int (zI hf)])), zA cI ti 100 (zu FI ln v)] H := hP
      have hD : va_D A [(tp, .inr (4, [.ref ti, .int (zI (ln + 1)), .int (zI hf)])), zA cI ti 100 (zu FI ln v)] := hD
      have hP9 := hP.sub (ws' := [(tp, .inr (4, [.ref ti, .int (zI (ln + 1)), .int (zI hf)])), zA cI ti 100 (zu FI ln v)]) [0, 1] rfl
      have hD9 := hD.sub (ws' := [(tp, .inr (4, [.ref ti, .int (zI (ln + 1)), .int (zI hf)])), zA cI ti 100 (zu FI ln v)]) [0, 1] (by decide) rfl
      have po : (True) := by
        trivial
      exact W.vret hx hb hr (fun t ht hW => ⟨⟨(), rfl, po, by rw [ht]; exact hP9, va_K.moved hW.alike hK, hD9⟩, hS.F ht⟩) hS.2.2 dX4_append_39
set_option maxHeartbeats 4000000 in
set_option maxRecDepth 100000 in
/-- Tape.inputOf -/
theorem c_X4_inputOf (l : Launch) (dC : Nat → ClassId) (dI : Nat → Nat → Nat) (cI cZ cL cT cJ : ClassId) (sz : Nat) (tp : Nat) (ti : Nat) (ln : Int) (hf : Int) (FI : Int → Int) (f : Int) (gn : 0 ≤ f ∧ f < 100) : Met l yX4_inputOf wsX4_inputOf ({ frames := 0, cells := 0, slots := 0, locals := 0 }) (zP (dC, dI) (zT cI cZ cL cT cJ) sz [.ref tp, .int (zI f)] [(tp, .inr (4, [.ref ti, .int (zI ln), .int (zI hf)])), zA cI ti 100 FI]) (va_Qi (fun (r9 : Int32) (u9 : Int) => match u9 with | r => r9 = zI r ∧ (r = FI f)) (zB (dC, dI) (zT cI cZ cL cT cJ) (va_A [(tp, .inr (4, [.ref ti, .int (zI ln), .int (zI hf)])), zA cI ti 100 FI] sz) (fun (u9 : Int) => match u9 with | r => [(tp, .inr (4, [.ref ti, .int (zI ln), .int (zI hf)])), zA cI ti 100 FI])) (va_A [(tp, .inr (4, [.ref ti, .int (zI ln), .int (zI hf)])), zA cI ti 100 FI] sz)) 0 0 (va_A [(tp, .inr (4, [.ref ti, .int (zI ln), .int (zI hf)])), zA cI ti 100 FI] sz) := by
  refine Met.ofW (cc := cX4_inputOf) (maxL := 2) (ret := (some .int)) (by decide) rfl ?_
  intro p e s m args below meth c s₁ B hml hv
  obtain ⟨rfl, hsz, hP, hK, hD0⟩ := hv
  have hx := B.exec
  have hb := B.bytes
  have hr := B.returns
  have hts := atoms_spec (ws := wsX4_inputOf) B.pre
  have hown : s.vm.findClass RX4 = some m.cls := findClass_of_methodNamed B.named
  have hlocks := B.notSynchronized
  subst hsz
  have hD := hD0.self (sz := s.heap.size)
  generalize hAe : va_A [(tp, .inr (4, [.ref ti, .int (zI ln), .int (zI hf)])), zA cI ti 100 FI] s.heap.size = A at hD ⊢
  have hA : ∀ q : Nat, s.heap.size ≤ q → A q := fun q h => by rw [← hAe]; exact Or.inr h
  clear hAe hD0
  have hS : va_S A s.heap s.heap [] := va_S.rf
  have hP : va_P (dC, dI) vwCl [(tp, .inr (4, [.ref ti, .int (zI ln), .int (zI hf)])), zA cI ti 100 FI] s.heap := hP
  have f_9 := hts (.fieldLink RX4 9 "SpringLevels$Tape" "inputs" "[I") (by decide +kernel)
  have i_4 : ∀ w ∈ wsX40, w ∈ wsX4_inputOf := by decide +kernel
  have hl := lv_entry ([.ref tp, .int (zI f)]) (n := 2) (Nat.le_of_ble_eq_true rfl)
  rw [lg_entry_eq]
  generalize (lg_sl ([.ref tp, .int (zI f)]) ++ List.replicate (2 - (lg_sl ([.ref tp, .int (zI f)])).length) Slot.unset).toArray = ls at hl ⊢
  have hl : lv_has ls 2 [(0, .ref tp), (1, .int (zI f))] := hl
  refine lv_iload_n hx hb dX4_inputOf_0 rfl (lv_at hl 1 rfl) ?_
  refine lz_if_lt (tgt := 22) hx hb dX4_inputOf_1 (by decide) (by omega) (fun c_1 => ?_) (fun c_1 => ?_)
  · exact absurd c_1 (by omega)
  ·
    refine lv_iload_n hx hb dX4_inputOf_4 rfl (lv_at hl 1 rfl) ?_
    refine lv_aload_n hx hb dX4_inputOf_5 rfl (lv_at hl 0 rfl) ?_
    refine va_get (D := (dC, dI)) (ci := 4) (v := .ref ti) (C := RX4) (T := TX4) (N := 3) hx hb hts i_4 hown hK hP 0 rfl rfl 0 (by decide) f_9 (fun _ h9 => h9) rfl dX4_inputOf_6 ?_
    refine va_alen (v := zI 100) hx hb hK hP 1 0 rfl rfl rfl dX4_inputOf_9 ?_
    refine lz_icmp_ge (tgt := 22) hx hb dX4_inputOf_10 (by decide) (by omega) ⟨by decide, by decide⟩ (fun c_2 => ?_) (fun c_2 => ?_)
    · exact absurd c_2 (by omega)
    ·
      refine lv_aload_n hx hb dX4_inputOf_13 rfl (lv_at hl 0 rfl) ?_
      refine va_get (D := (dC, dI)) (ci := 4) (v := .ref ti) (C := RX4) (T := TX4) (N := 3) hx hb hts i_4 hown hK hP 0 rfl rfl 0 (by decide) f_9 (fun _ h9 => h9) rfl dX4_inputOf_14 ?_
      refine lv_iload_n hx hb dX4_inputOf_17 rfl (lv_at hl 1 rfl) ?_
      refine lz_iald (F := FI) (i := f) hx hb hK hP 1 0 rfl rfl (by omega) (by omega) (by decide) dX4_inputOf_18 ?_
      refine lv_goto (tgt := 23) hx hb dX4_inputOf_19 (by decide) ?_
      have hP9 := hP.sub (ws' := [(tp, .inr (4, [.ref ti, .int (zI ln), .int (zI hf)])), zA cI ti 100 FI]) [0, 1] rfl
      have hD9 := hD.sub (ws' := [(tp, .inr (4, [.ref ti, .int (zI ln), .int (zI hf)])), zA cI ti 100 FI]) [0, 1] (by decide) rfl
      have po : zI (FI f) = zI (FI f) ∧ ((FI f) = FI f) := by
        refine ⟨by first | rfl | (congr 1; omega) | (congr 1; simp [*]), ?_⟩
        rfl
      exact W.iret (v := zI (FI f)) hx hb hr (fun t ht hW => ⟨⟨zI (FI f), FI f, rfl, po, by rw [ht]; exact hP9, va_K.moved hW.alike hK, hD9⟩, hS.F ht⟩) hS.2.2 dX4_inputOf_23
set_option maxHeartbeats 4000000 in
set_option maxRecDepth 100000 in
/-- Tape.noteColumn -/
theorem c_X4_noteColumn (l : Launch) (dC : Nat → ClassId) (dI : Nat → Nat → Nat) (cI cZ cL cT cJ : ClassId) (sz : Nat) (tp : Nat) (ti : Nat) (ln : Int) (hf : Int) (x : Int) (w : Int) (gh : -1 ≤ hf ∧ hf ≤ 100) (gx : 0 ≤ x ∧ x ≤ 100) (gw : 0 ≤ w ∧ w ≤ 100) : Met l yX4_noteColumn wsX4_noteColumn ({ frames := 0, cells := 0, slots := 0, locals := 0 }) (zP (dC, dI) (zT cI cZ cL cT cJ) sz [.ref tp, .int (zI x), .int (zI w)] [(tp, .inr (4, [.ref ti, .int (zI ln), .int (zI hf)]))]) (va_Qv (fun (u9 : Int) => match u9 with | h1 => (h1 = ncF hf ln x w)) (zB (dC, dI) (zT cI cZ cL cT cJ) (va_A [(tp, .inr (4, [.ref ti, .int (zI ln), .int (zI hf)]))] sz) (fun (u9 : Int) => match u9 with | h1 => [(tp, .inr (4, [.ref ti, .int (zI ln), .int (zI h1)]))])) (va_A [(tp, .inr (4, [.ref ti, .int (zI ln), .int (zI hf)]))] sz)) 0 0 (va_A [(tp, .inr (4, [.ref ti, .int (zI ln), .int (zI hf)]))] sz) := by
  refine Met.ofW (cc := cX4_noteColumn) (maxL := 3) (ret := none) (by decide) rfl ?_
  intro p e s m args below meth c s₁ B hml hv
  obtain ⟨rfl, hsz, hP, hK, hD0⟩ := hv
  have hx := B.exec
  have hb := B.bytes
  have hr := B.returns
  have hts := atoms_spec (ws := wsX4_noteColumn) B.pre
  have hown : s.vm.findClass RX4 = some m.cls := findClass_of_methodNamed B.named
  have hlocks := B.notSynchronized
  subst hsz
  have hD := hD0.self (sz := s.heap.size)
  generalize hAe : va_A [(tp, .inr (4, [.ref ti, .int (zI ln), .int (zI hf)]))] s.heap.size = A at hD ⊢
  have hA : ∀ q : Nat, s.heap.size ≤ q → A q := fun q h => by rw [← hAe]; exact Or.inr h
  clear hAe hD0
  have hS : va_S A s.heap s.heap [] := va_S.rf
  have hP : va_P (dC, dI) vwCl [(tp, .inr (4, [.ref ti, .int (zI ln), .int (zI hf)]))] s.heap := hP
  have f_15 := hts (.fieldLink RX4 15 "SpringLevels$Tape" "length" "I") (by decide +kernel)
  have f_19 := hts (.fieldLink RX4 19 "SpringLevels$Tape" "halfLength" "I") (by decide +kernel)
  have i_4 : ∀ w ∈ wsX40, w ∈ wsX4_noteColumn := by decide +kernel
  have hl := lv_entry ([.ref tp, .int (zI x), .int (zI w)]) (n := 3) (Nat.le_of_ble_eq_true rfl)
  rw [lg_entry_eq]
  generalize (lg_sl ([.ref tp, .int (zI x), .int (zI w)]) ++ List.replicate (3 - (lg_sl ([.ref tp, .int (zI x), .int (zI w)])).length) Slot.unset).toArray = ls at hl ⊢
  have hl : lv_has ls 3 [(0, .ref tp), (1, .int (zI x)), (2, .int (zI w))] := hl
  refine lv_aload_n hx hb dX4_noteColumn_0 rfl (lv_at hl 0 rfl) ?_
  refine va_get (D := (dC, dI)) (ci := 4) (v := .int (zI hf)) (C := RX4) (T := TX4) (N := 3) hx hb hts i_4 hown hK hP 0 rfl rfl 2 (by decide) f_19 (fun _ h9 => h9) rfl dX4_noteColumn_1 ?_
  refine lv_iconst (v := zI (-1)) hx hb dX4_noteColumn_4 (rfl) ?_
  refine lz_icmp_ne (tgt := 23) hx hb dX4_noteColumn_5 (by decide) (by omega) ⟨by decide, by decide⟩ (fun c_1 => ?_) (fun c_1 => ?_)
  ·
    have hP9 := hP.sub (ws' := [(tp, .inr (4, [.ref ti, .int (zI ln), .int (zI hf)]))]) [0] rfl
    have hD9 := hD.sub (ws' := [(tp, .inr (4, [.ref ti, .int (zI ln), .int (zI hf)]))]) [0] (by decide) rfl
    have po : (hf = ncF hf ln x w) := by
      unfold ncF
      first | rw [if_pos (by omega)] | rw [if_neg (by omega)]
    exact W.vret hx hb hr (fun t ht hW => ⟨⟨hf, rfl, po, by rw [ht]; exact hP9, va_K.moved hW.alike hK, hD9⟩, hS.F ht⟩) hS.2.2 dX4_noteColumn_23
  ·
    refine lv_iload_n hx hb dX4_noteColumn_8 rfl (lv_at hl 1 rfl) ?_
    refine lv_iconst (v := zI 2) hx hb dX4_noteColumn_9 (rfl) ?_
    refine lz_imul (z := x * 2) hx hb dX4_noteColumn_10 (by rfl) ?_
    refine lv_iload_n hx hb dX4_noteColumn_11 rfl (lv_at hl 2 rfl) ?_
    refine lz_icmp_lt (tgt := 23) hx hb dX4_noteColumn_12 (by decide) (by omega) (by omega) (fun c_2 => ?_) (fun c_2 => ?_)
    ·
      have hP9 := hP.sub (ws' := [(tp, .inr (4, [.ref ti, .int (zI ln), .int (zI hf)]))]) [0] rfl
      have hD9 := hD.sub (ws' := [(tp, .inr (4, [.ref ti, .int (zI ln), .int (zI hf)]))]) [0] (by decide) rfl
      have po : (hf = ncF hf ln x w) := by
        unfold ncF
        first | rw [if_pos (by omega)] | rw [if_neg (by omega)]
      exact W.vret hx hb hr (fun t ht hW => ⟨⟨hf, rfl, po, by rw [ht]; exact hP9, va_K.moved hW.alike hK, hD9⟩, hS.F ht⟩) hS.2.2 dX4_noteColumn_23
    ·
      refine lv_aload_n hx hb dX4_noteColumn_15 rfl (lv_at hl 0 rfl) ?_
      refine lv_aload_n hx hb dX4_noteColumn_16 rfl (lv_at hl 0 rfl) ?_
      refine va_get (D := (dC, dI)) (ci := 4) (v := .int (zI ln)) (C := RX4) (T := TX4) (N := 3) hx hb hts i_4 hown hK hP 0 rfl rfl 1 (by decide) f_15 (fun _ h9 => h9) rfl dX4_noteColumn_17 ?_
      refine va_put (D := (dC, dI)) (ci := 4) (v := .int (zI ln)) (ty := .int) (C := RX4) (T := TX4) (N := 3) hx hb hts i_4 tyX4 tyX4_ok nmX4 hown hK hP hD hS 0 rfl rfl 2 (by decide) f_19 (fun _ h9 => h9) rfl (by decide +kernel) rfl rfl (Nat.le_of_ble_eq_true rfl) dX4_noteColumn_20 (fun H locs hP hD hS => ?_)
      have hP : va_P (dC, dI) vwCl [(tp, .inr (4, [.ref ti, .int (zI ln), .int (zI ln)]))] H := hP
      have hD : va_D A [(tp, .inr (4, [.ref ti, .int (zI ln), .int (zI ln)]))] := hD
      have hP9 := hP.sub (ws' := [(tp, .inr (4, [.ref ti, .int (zI ln), .int (zI ln)]))]) [0] rfl
      have hD9 := hD.sub (ws' := [(tp, .inr (4, [.ref ti, .int (zI ln), .int (zI ln)]))]) [0] (by decide) rfl
      have po : (ln = ncF hf ln x w) := by
        unfold ncF
        first | rw [if_pos (by omega)] | rw [if_neg (by omega)]
      exact W.vret hx hb hr (fun t ht hW => ⟨⟨ln, rfl, po, by rw [ht]; exact hP9, va_K.moved hW.alike hK, hD9⟩, hS.F ht⟩) hS.2.2 dX4_noteColumn_23
set_option maxHeartbeats 4000000 in
set_option maxRecDepth 100000 in
/-- Tape.copy -/
theorem c_X4_copy (l : Launch) (dC : Nat → ClassId) (dI : Nat → Nat → Nat) (cI cZ cL cT cJ : ClassId) (sz : Nat) (tp : Nat) (ti : Nat) (ln : Int) (hf : Int) (FI : Int → Int) (tq : Nat) (tj : Nat) (ln2 : Int) (hf2 : Int) (GI : Int → Int)  : Met l yX4_copy wsX4_copy ({ frames := 0, cells := 0, slots := 0, locals := 0 }) (zP (dC, dI) (zT cI cZ cL cT cJ) sz [.ref tp, .ref tq] [(tp, .inr (4, [.ref ti, .int (zI ln), .int (zI hf)])), zA cI ti 100 FI, (tq, .inr (4, [.ref tj, .int (zI ln2), .int (zI hf2)])), zA cI tj 100 GI]) (va_Qv (fun (u9 : (Int → Int)) => match u9 with | F1 => (∀ j, 0 ≤ j → j < 100 → F1 j = GI j)) (zB (dC, dI) (zT cI cZ cL cT cJ) (va_A [(tp, .inr (4, [.ref ti, .int (zI ln), .int (zI hf)])), zA cI ti 100 FI, (tq, .inr (4, [.ref tj, .int (zI ln2), .int (zI hf2)])), zA cI tj 100 GI] sz) (fun (u9 : (Int → Int)) => match u9 with | F1 => [(tp, .inr (4, [.ref ti, .int (zI ln2), .int (zI hf2)])), zA cI ti 100 F1, (tq, .inr (4, [.ref tj, .int (zI ln2), .int (zI hf2)])), zA cI tj 100 GI])) (va_A [(tp, .inr (4, [.ref ti, .int (zI ln), .int (zI hf)])), zA cI ti 100 FI, (tq, .inr (4, [.ref tj, .int (zI ln2), .int (zI hf2)])), zA cI tj 100 GI] sz)) 0 0 (va_A [(tp, .inr (4, [.ref ti, .int (zI ln), .int (zI hf)])), zA cI ti 100 FI, (tq, .inr (4, [.ref tj, .int (zI ln2), .int (zI hf2)])), zA cI tj 100 GI] sz) := by
  refine Met.ofW (cc := cX4_copy) (maxL := 3) (ret := none) (by decide) rfl ?_
  intro p e s m args below meth c s₁ B hml hv
  obtain ⟨rfl, hsz, hP, hK, hD0⟩ := hv
  have hx := B.exec
  have hb := B.bytes
  have hr := B.returns
  have hts := atoms_spec (ws := wsX4_copy) B.pre
  have hown : s.vm.findClass RX4 = some m.cls := findClass_of_methodNamed B.named
  have hlocks := B.notSynchronized
  subst hsz
  have hD := hD0.self (sz := s.heap.size)
  generalize hAe : va_A [(tp, .inr (4, [.ref ti, .int (zI ln), .int (zI hf)])), zA cI ti 100 FI, (tq, .inr (4, [.ref tj, .int (zI ln2), .int (zI hf2)])), zA cI tj 100 GI] s.heap.size = A at hD ⊢
  have hA : ∀ q : Nat, s.heap.size ≤ q → A q := fun q h => by rw [← hAe]; exact Or.inr h
  clear hAe hD0
  have hS : va_S A s.heap s.heap [] := va_S.rf
  have hP : va_P (dC, dI) vwCl [(tp, .inr (4, [.ref ti, .int (zI ln), .int (zI hf)])), zA cI ti 100 FI, (tq, .inr (4, [.ref tj, .int (zI ln2), .int (zI hf2)])), zA cI tj 100 GI] s.heap := hP
  have f_9 := hts (.fieldLink RX4 9 "SpringLevels$Tape" "inputs" "[I") (by decide +kernel)
  have f_15 := hts (.fieldLink RX4 15 "SpringLevels$Tape" "length" "I") (by decide +kernel)
  have f_19 := hts (.fieldLink RX4 19 "SpringLevels$Tape" "halfLength" "I") (by decide +kernel)
  have i_4 : ∀ w ∈ wsX40, w ∈ wsX4_copy := by decide +kernel
  have hl := lv_entry ([.ref tp, .ref tq]) (n := 3) (Nat.le_of_ble_eq_true rfl)
  rw [lg_entry_eq]
  generalize (lg_sl ([.ref tp, .ref tq]) ++ List.replicate (3 - (lg_sl ([.ref tp, .ref tq])).length) Slot.unset).toArray = ls at hl ⊢
  have hl : lv_has ls 3 [(0, .ref tp), (1, .ref tq)] := hl
  refine lv_iconst (v := zI 0) hx hb dX4_copy_0 (rfl) ?_
  refine lv_istore_n (lv' := [(2, .int (zI 0)), (0, .ref tp), (1, .ref tq)]) hx hb dX4_copy_1 rfl hl (by decide) rfl (fun ls hl => ?_)
  refine z_loop (μ := fun (x9 : Int × (Int → Int)) => match x9 with | (i, F9) => (100 - i).toNat) (I := fun (x9 : Int × (Int → Int)) (H9 : Heap) (k9 : List Loc) (ls9 : Array Slot) => match x9 with | (i, F9) => (0 ≤ i ∧ i ≤ 100) ∧ (∀ j, 0 ≤ j → j < i → F9 j = GI j) ∧ va_P (dC, dI) vwCl [(tp, .inr (4, [.ref ti, .int (zI ln), .int (zI hf)])), zA cI ti 100 F9, (tq, .inr (4, [.ref tj, .int (zI ln2), .int (zI hf2)])), zA cI tj 100 GI] H9 ∧ va_D A [(tp, .inr (4, [.ref ti, .int (zI ln), .int (zI hf)])), zA cI ti 100 F9, (tq, .inr (4, [.ref tj, .int (zI ln2), .int (zI hf2)])), zA cI tj 100 GI] ∧ va_S A s.heap H9 k9 ∧ lv_has ls9 3 [(0, .ref tp), (1, .ref tq), (2, .int (zI i))]) (fr := fun (x9 : Int × (Int → Int)) (ls9 : Array Slot) => match x9 with | (i, F9) => F0 m 2 ls9 []) ?_ (0, FI) ⟨(by omega), (by intro j j0 j1; omega), hP, hD, hS, lv_sub hl [1, 2, 0] rfl⟩
  rintro ⟨i, F9⟩ H locs ls ⟨ri, hc, hP, hD, hS, hl⟩ L_1
  refine W.eq (g2 := F0 m 2 ls []) rfl ?_
  refine lv_iload_n hx hb dX4_copy_2 rfl (lv_at hl 2 rfl) ?_
  refine lv_bipush (v := zI 100) hx hb dX4_copy_3 (by decide) ?_
  refine lz_icmp_ge (tgt := 26) hx hb dX4_copy_5 (by decide) (by omega) ⟨by decide, by decide⟩ (fun c_2 => ?_) (fun c_2 => ?_)
  ·
    refine lv_aload_n hx hb dX4_copy_26 rfl (lv_at hl 0 rfl) ?_
    refine lv_aload_n hx hb dX4_copy_27 rfl (lv_at hl 1 rfl) ?_
    refine va_get (D := (dC, dI)) (ci := 4) (v := .int (zI ln2)) (C := RX4) (T := TX4) (N := 3) hx hb hts i_4 hown hK hP 2 rfl rfl 1 (by decide) f_15 (fun _ h9 => h9) rfl dX4_copy_28 ?_
    refine va_put (D := (dC, dI)) (ci := 4) (v := .int (zI ln2)) (ty := .int) (C := RX4) (T := TX4) (N := 3) hx hb hts i_4 tyX4 tyX4_ok nmX4 hown hK hP hD hS 0 rfl rfl 1 (by decide) f_15 (fun _ h9 => h9) rfl (by decide +kernel) rfl rfl (Nat.le_of_ble_eq_true rfl) dX4_copy_31 (fun H locs hP hD hS => ?_)
    have hP : va_P (dC, dI) vwCl [(tp, .inr (4, [.ref ti, .int (zI ln2), .int (zI hf)])), zA cI ti 100 F9, (tq, .inr (4, [.ref tj, .int (zI ln2), .int (zI hf2)])), zA cI tj 100 GI] H := hP
    have hD : va_D A [(tp, .inr (4, [.ref ti, .int (zI ln2), .int (zI hf)])), zA cI ti 100 F9, (tq, .inr (4, [.ref tj, .int (zI ln2), .int (zI hf2)])), zA cI tj 100 GI] := hD
    refine lv_aload_n hx hb dX4_copy_34 rfl (lv_at hl 0 rfl) ?_
    refine lv_aload_n hx hb dX4_copy_35 rfl (lv_at hl 1 rfl) ?_
    refine va_get (D := (dC, dI)) (ci := 4) (v := .int (zI hf2)) (C := RX4) (T := TX4) (N := 3) hx hb hts i_4 hown hK hP 2 rfl rfl 2 (by decide) f_19 (fun _ h9 => h9) rfl dX4_copy_36 ?_
    refine va_put (D := (dC, dI)) (ci := 4) (v := .int (zI hf2)) (ty := .int) (C := RX4) (T := TX4) (N := 3) hx hb hts i_4 tyX4 tyX4_ok nmX4 hown hK hP hD hS 0 rfl rfl 2 (by decide) f_19 (fun _ h9 => h9) rfl (by decide +kernel) rfl rfl (Nat.le_of_ble_eq_true rfl) dX4_copy_39 (fun H locs hP hD hS => ?_)
    have hP : va_P (dC, dI) vwCl [(tp, .inr (4, [.ref ti, .int (zI ln2), .int (zI hf2)])), zA cI ti 100 F9, (tq, .inr (4, [.ref tj, .int (zI ln2), .int (zI hf2)])), zA cI tj 100 GI] H := hP
    have hD : va_D A [(tp, .inr (4, [.ref ti, .int (zI ln2), .int (zI hf2)])), zA cI ti 100 F9, (tq, .inr (4, [.ref tj, .int (zI ln2), .int (zI hf2)])), zA cI tj 100 GI] := hD
    have hP9 := hP.sub (ws' := [(tp, .inr (4, [.ref ti, .int (zI ln2), .int (zI hf2)])), zA cI ti 100 F9, (tq, .inr (4, [.ref tj, .int (zI ln2), .int (zI hf2)])), zA cI tj 100 GI]) [0, 1, 2, 3] rfl
    have hD9 := hD.sub (ws' := [(tp, .inr (4, [.ref ti, .int (zI ln2), .int (zI hf2)])), zA cI ti 100 F9, (tq, .inr (4, [.ref tj, .int (zI ln2), .int (zI hf2)])), zA cI tj 100 GI]) [0, 1, 2, 3] (by decide) rfl
    have po : (∀ j, 0 ≤ j → j < 100 → F9 j = GI j) := by
      intro j j0 j1
      exact hc j j0 (by omega)
    exact W.vret hx hb hr (fun t ht hW => ⟨⟨F9, rfl, po, by rw [ht]; exact hP9, va_K.moved hW.alike hK, hD9⟩, hS.F ht⟩) hS.2.2 dX4_copy_42
  ·
    refine lv_aload_n hx hb dX4_copy_8 rfl (lv_at hl 0 rfl) ?_
    refine va_get (D := (dC, dI)) (ci := 4) (v := .ref ti) (C := RX4) (T := TX4) (N := 3) hx hb hts i_4 hown hK hP 0 rfl rfl 0 (by decide) f_9 (fun _ h9 => h9) rfl dX4_copy_9 ?_
    refine lv_iload_n hx hb dX4_copy_12 rfl (lv_at hl 2 rfl) ?_
    refine lv_aload_n hx hb dX4_copy_13 rfl (lv_at hl 1 rfl) ?_
    refine va_get (D := (dC, dI)) (ci := 4) (v := .ref tj) (C := RX4) (T := TX4) (N := 3) hx hb hts i_4 hown hK hP 2 rfl rfl 0 (by decide) f_9 (fun _ h9 => h9) rfl dX4_copy_14 ?_
    refine lv_iload_n hx hb dX4_copy_17 rfl (lv_at hl 2 rfl) ?_
    refine lz_iald (F := GI) (i := i) hx hb hK hP 3 0 rfl rfl (by omega) (by omega) (by decide) dX4_copy_18 ?_
    refine lz_iast (F := F9) (i := i) (v := GI i) hx hb hK hP hD hS 1 0 rfl rfl (by omega) (by omega) (by decide) dX4_copy_19 (fun H locs hP hD hS => ?_)
    have hP : va_P (dC, dI) vwCl [(tp, .inr (4, [.ref ti, .int (zI ln), .int (zI hf)])), zA cI ti 100 (zu F9 i (GI i)), (tq, .inr (4, [.ref tj, .int (zI ln2), .int (zI hf2)])), zA cI tj 100 GI] H := hP
    have hD : va_D A [(tp, .inr (4, [.ref ti, .int (zI ln), .int (zI hf)])), zA cI ti 100 (zu F9 i (GI i)), (tq, .inr (4, [.ref tj, .int (zI ln2), .int (zI hf2)])), zA cI tj 100 GI] := hD
    refine lz_iinc (z := i + 1) (lv' := [(2, .int (zI (i + 1))), (0, .ref tp), (1, .ref tq)]) hx hb dX4_copy_20 hl (k := 2) rfl (by omega) (by decide) rfl (fun ls hl => ?_)
    refine lv_goto (tgt := 2) hx hb dX4_copy_23 (by decide) ?_
    exact L_1 (i + 1, zu F9 i (GI i)) _ _ _ (by (try dsimp only); omega) ⟨(by omega), (by intro j j0 j1; unfold zu; split <;> first | (rename_i h8; rw [h8]) | exact hc j j0 (by omega)), hP, hD, hS, lv_sub hl [1, 2, 0] rfl⟩
set_option maxHeartbeats 4000000 in
set_option maxRecDepth 100000 in
/-- Level.kindGrownFrom -/
theorem c_X1_kindGrownFrom (l : Launch) (dC : Nat → ClassId) (dI : Nat → Nat → Nat) (cI cZ cL cT cJ : ClassId) (sz : Nat) (r0 : Int) (gr : 0 ≤ r0 ∧ r0 ≤ 15) : Met l yX1_kindGrownFrom wsX1_kindGrownFrom ({ frames := 0, cells := 0, slots := 0, locals := 0 }) (zP (dC, dI) (zT cI cZ cL cT cJ) sz [.int (zI r0)] []) (va_Qi (fun (r9 : Int32) (u9 : Int) => match u9 with | r => r9 = zI r ∧ (r = kg r0 ∧ 0 ≤ r ∧ r ≤ 3)) (zB (dC, dI) (zT cI cZ cL cT cJ) (va_A [] sz) (fun (u9 : Int) => match u9 with | r => [])) (va_A [] sz)) 0 0 (va_A [] sz) := by
  refine Met.ofW (cc := cX1_kindGrownFrom) (maxL := 1) (ret := (some .int)) (by decide) rfl ?_
  intro p e s m args below meth c s₁ B hml hv
  obtain ⟨rfl, hsz, hP, hK, hD0⟩ := hv
  have hx := B.exec
  have hb := B.bytes
  have hr := B.returns
  have hts := atoms_spec (ws := wsX1_kindGrownFrom) B.pre
  have hown : s.vm.findClass RX1 = some m.cls := findClass_of_methodNamed B.named
  have hlocks := B.notSynchronized
  subst hsz
  have hD := hD0.self (sz := s.heap.size)
  generalize hAe : va_A [] s.heap.size = A at hD ⊢
  have hA : ∀ q : Nat, s.heap.size ≤ q → A q := fun q h => by rw [← hAe]; exact Or.inr h
  clear hAe hD0
  have hS : va_S A s.heap s.heap [] := va_S.rf
  have hP : va_P (dC, dI) vwCl [] s.heap := hP
  have hl := lv_entry ([.int (zI r0)]) (n := 1) (Nat.le_of_ble_eq_true rfl)
  rw [lg_entry_eq]
  generalize (lg_sl ([.int (zI r0)]) ++ List.replicate (1 - (lg_sl ([.int (zI r0)])).length) Slot.unset).toArray = ls at hl ⊢
  have hl : lv_has ls 1 [(0, .int (zI r0))] := hl
  refine lv_iload_n hx hb dX1_kindGrownFrom_0 rfl (lv_at hl 0 rfl) ?_
  refine lv_iconst (v := zI 3) hx hb dX1_kindGrownFrom_1 (rfl) ?_
  refine lz_icmp_gt (tgt := 7) hx hb dX1_kindGrownFrom_2 (by decide) (by omega) ⟨by decide, by decide⟩ (fun c_1 => ?_) (fun c_1 => ?_)
  ·
    refine lv_iload_n hx hb dX1_kindGrownFrom_7 rfl (lv_at hl 0 rfl) ?_
    refine lv_iconst (v := zI 4) hx hb dX1_kindGrownFrom_8 (rfl) ?_
    refine lz_icmp_ne (tgt := 14) hx hb dX1_kindGrownFrom_9 (by decide) (by omega) ⟨by decide, by decide⟩ (fun c_2 => ?_) (fun c_2 => ?_)
    ·
      refine lv_iload_n hx hb dX1_kindGrownFrom_14 rfl (lv_at hl 0 rfl) ?_
      refine lv_iconst (v := zI 5) hx hb dX1_kindGrownFrom_15 (rfl) ?_
      refine lz_icmp_ne (tgt := 23) hx hb dX1_kindGrownFrom_16 (by decide) (by omega) ⟨by decide, by decide⟩ (fun c_3 => ?_) (fun c_3 => ?_)
      ·
        refine lv_iconst (v := zI 0) hx hb dX1_kindGrownFrom_23 (rfl) ?_
        have hP9 := hP.sub (ws' := []) [] rfl
        have hD9 := hD.sub (ws' := []) [] (by decide) rfl
        have po : zI 0 = zI (0 : Int) ∧ ((0 : Int) = kg r0 ∧ 0 ≤ (0 : Int) ∧ (0 : Int) ≤ 3) := by
          refine ⟨by first | rfl | (congr 1; omega) | (congr 1; simp [*]), ?_⟩
          unfold kg
          (repeat' split) <;> omega
        exact W.iret (v := zI 0) hx hb hr (fun t ht hW => ⟨⟨zI 0, 0, rfl, po, by rw [ht]; exact hP9, va_K.moved hW.alike hK, hD9⟩, hS.F ht⟩) hS.2.2 dX1_kindGrownFrom_24
      ·
        refine lv_iconst (v := zI 3) hx hb dX1_kindGrownFrom_19 (rfl) ?_
        refine lv_goto (tgt := 24) hx hb dX1_kindGrownFrom_20 (by decide) ?_
        have hP9 := hP.sub (ws' := []) [] rfl
        have hD9 := hD.sub (ws' := []) [] (by decide) rfl
        have po : zI 3 = zI (3 : Int) ∧ ((3 : Int) = kg r0 ∧ 0 ≤ (3 : Int) ∧ (3 : Int) ≤ 3) := by
          refine ⟨by first | rfl | (congr 1; omega) | (congr 1; simp [*]), ?_⟩
          unfold kg
          (repeat' split) <;> omega
        exact W.iret (v := zI 3) hx hb hr (fun t ht hW => ⟨⟨zI 3, 3, rfl, po, by rw [ht]; exact hP9, va_K.moved hW.alike hK, hD9⟩, hS.F ht⟩) hS.2.2 dX1_kindGrownFrom_24
    ·
      refine lv_iconst (v := zI 2) hx hb dX1_kindGrownFrom_12 (rfl) ?_
      have hP9 := hP.sub (ws' := []) [] rfl
      have hD9 := hD.sub (ws' := []) [] (by decide) rfl
      have po : zI 2 = zI (2 : Int) ∧ ((2 : Int) = kg r0 ∧ 0 ≤ (2 : Int) ∧ (2 : Int) ≤ 3) := by
        refine ⟨by first | rfl | (congr 1; omega) | (congr 1; simp [*]), ?_⟩
        unfold kg
        (repeat' split) <;> omega
      exact W.iret (v := zI 2) hx hb hr (fun t ht hW => ⟨⟨zI 2, 2, rfl, po, by rw [ht]; exact hP9, va_K.moved hW.alike hK, hD9⟩, hS.F ht⟩) hS.2.2 dX1_kindGrownFrom_13
  ·
    refine lv_iconst (v := zI 1) hx hb dX1_kindGrownFrom_5 (rfl) ?_
    have hP9 := hP.sub (ws' := []) [] rfl
    have hD9 := hD.sub (ws' := []) [] (by decide) rfl
    have po : zI 1 = zI (1 : Int) ∧ ((1 : Int) = kg r0 ∧ 0 ≤ (1 : Int) ∧ (1 : Int) ≤ 3) := by
      refine ⟨by first | rfl | (congr 1; omega) | (congr 1; simp [*]), ?_⟩
      unfold kg
      (repeat' split) <;> omega
    exact W.iret (v := zI 1) hx hb hr (fun t ht hW => ⟨⟨zI 1, 1, rfl, po, by rw [ht]; exact hP9, va_K.moved hW.alike hK, hD9⟩, hS.F ht⟩) hS.2.2 dX1_kindGrownFrom_6
set_option maxHeartbeats 4000000 in
set_option maxRecDepth 100000 in
/-- Level.put -/
theorem c_X1_put (l : Launch) (dC : Nat → ClassId) (dI : Nat → Nat → Nat) (cI cZ cL cT cJ : ClassId) (sz : Nat) (lv : Nat) (w : Int) (h : Int) (ka : Nat) (tv : Value) (sx : Int) (sy : Int) (fx : Int) (fy : Int) (lf : Int) (un : Int) (K : Int → Int) (x : Int) (y : Int) (v : Int) (gw : 0 < w ∧ w ≤ 12) (gh : 0 < h ∧ h ≤ 8) (gK : Kin K) (gx : 0 ≤ x ∧ x < w) (gy : 0 ≤ y ∧ y < h) : Met l yX1_put wsX1_put ({ frames := 1, cells := 0, slots := 0, locals := 23 }) (zP (dC, dI) (zT cI cZ cL cT cJ) sz [.ref lv, .int (zI x), .int (zI y), .int (zI v)] [(lv, .inr (1, [.int (zI w), .int (zI h), .ref ka, tv, .int (zI sx), .int (zI sy), .int (zI fx), .int (zI fy), .int (zI lf), .int (zI un)])), zA cI ka 96 K]) (va_Qv (fun (u9 : Unit) => match u9 with | _ => (True)) (zB (dC, dI) (zT cI cZ cL cT cJ) (va_A [(lv, .inr (1, [.int (zI w), .int (zI h), .ref ka, tv, .int (zI sx), .int (zI sy), .int (zI fx), .int (zI fy), .int (zI lf), .int (zI un)])), zA cI ka 96 K] sz) (fun (u9 : Unit) => match u9 with | _ => [(lv, .inr (1, [.int (zI w), .int (zI h), .ref ka, tv, .int (zI sx), .int (zI sy), .int (zI fx), .int (zI fy), .int (zI lf), .int (zI un)])), zA cI ka 96 (zu K (y * 12 + x) v)])) (va_A [(lv, .inr (1, [.int (zI w), .int (zI h), .ref ka, tv, .int (zI sx), .int (zI sy), .int (zI fx), .int (zI fy), .int (zI lf), .int (zI un)])), zA cI ka 96 K] sz)) 0 0 (va_A [(lv, .inr (1, [.int (zI w), .int (zI h), .ref ka, tv, .int (zI sx), .int (zI sy), .int (zI fx), .int (zI fy), .int (zI lf), .int (zI un)])), zA cI ka 96 K] sz) := by
  refine Met.ofW (cc := cX1_put) (maxL := 4) (ret := none) (by decide) rfl ?_
  intro p e s m args below meth c s₁ B hml hv
  obtain ⟨rfl, hsz, hP, hK, hD0⟩ := hv
  have hx := B.exec
  have hb := B.bytes
  have hr := B.returns
  have hts := atoms_spec (ws := wsX1_put) B.pre
  have hown : s.vm.findClass RX1 = some m.cls := findClass_of_methodNamed B.named
  have hlocks := B.notSynchronized
  subst hsz
  have hD := hD0.self (sz := s.heap.size)
  generalize hAe : va_A [(lv, .inr (1, [.int (zI w), .int (zI h), .ref ka, tv, .int (zI sx), .int (zI sy), .int (zI fx), .int (zI fy), .int (zI lf), .int (zI un)])), zA cI ka 96 K] s.heap.size = A at hD ⊢
  have hA : ∀ q : Nat, s.heap.size ≤ q → A q := fun q h => by rw [← hAe]; exact Or.inr h
  clear hAe hD0
  have hS : va_S A s.heap s.heap [] := va_S.rf
  have hP : va_P (dC, dI) vwCl [(lv, .inr (1, [.int (zI w), .int (zI h), .ref ka, tv, .int (zI sx), .int (zI sy), .int (zI fx), .int (zI fy), .int (zI lf), .int (zI un)])), zA cI ka 96 K] s.heap := hP
  have f_18 := hts (.fieldLink RX1 18 "SpringLevels$Level" "kinds" "[I") (by decide +kernel)
  have i_1 : ∀ w ∈ wsX10, w ∈ wsX1_put := by decide +kernel
  have hl := lv_entry ([.ref lv, .int (zI x), .int (zI y), .int (zI v)]) (n := 4) (Nat.le_of_ble_eq_true rfl)
  rw [lg_entry_eq]
  generalize (lg_sl ([.ref lv, .int (zI x), .int (zI y), .int (zI v)]) ++ List.replicate (4 - (lg_sl ([.ref lv, .int (zI x), .int (zI y), .int (zI v)])).length) Slot.unset).toArray = ls at hl ⊢
  have hl : lv_has ls 4 [(0, .ref lv), (1, .int (zI x)), (2, .int (zI y)), (3, .int (zI v))] := hl
  refine lv_aload_n hx hb dX1_put_0 rfl (lv_at hl 0 rfl) ?_
  refine lv_iload_n hx hb dX1_put_1 rfl (lv_at hl 1 rfl) ?_
  refine lv_iload_n hx hb dX1_put_2 rfl (lv_at hl 2 rfl) ?_
  have hPc := hP.sub (ws' := [(lv, .inr (1, [.int (zI w), .int (zI h), .ref ka, tv, .int (zI sx), .int (zI sy), .int (zI fx), .int (zI fy), .int (zI lf), .int (zI un)])), zA cI ka 96 K]) [0, 1] rfl
  have hDc := hD.sub (ws' := [(lv, .inr (1, [.int (zI w), .int (zI h), .ref ka, tv, .int (zI sx), .int (zI sy), .int (zI fx), .int (zI fy), .int (zI lf), .int (zI un)])), zA cI ka 96 K]) [0, 1] (by decide) rfl
  have hFc := va_free (wc := [(lv, .inr (1, [.int (zI w), .int (zI h), .ref ka, tv, .int (zI sx), .int (zI sy), .int (zI fx), .int (zI fy), .int (zI lf), .int (zI un)])), zA cI ka 96 K]) hD hS hA [0, 1] rfl
  refine va_calli (va_runV (As := [.int (zI x), .int (zI y)]) (rest := []) ⟨hx, hb, hml, hown, hts⟩ (c_X1_kindAt l dC dI cI cZ cL cT cJ s.heap.size lv w h ka tv sx sy fx fy lf un K x y (by first | assumption | omega) (by first | assumption | omega) (by first | assumption | omega) (by first | assumption | omega) (by first | assumption | omega)) (cwV 2 hts gX1_put_X1_kindAt rfl rfl rfl (by decide +kernel) ⟨Nat.le_of_ble_eq_true rfl, Nat.le_of_ble_eq_true rfl⟩) ⟨zP_blind, va_recv hK hPc (ci := 1) (q0 := 0) rfl rfl, zP_pre hPc hDc hK⟩ rfl rfl hl.1 rfl (lv_room (Nat.le_of_ble_eq_true rfl)) dX1_put_3 ⟨Nat.le_of_ble_eq_true rfl, Nat.le_of_ble_eq_true rfl⟩) hS (fun q _ h => hFc q h) hFc (fun r_1 u_1 t H1 locs ht hvm hw hB hz1 hk1 hS => ?_)
  obtain ⟨r_2, rfl⟩ : ∃ z, z = u_1 := ⟨_, rfl⟩
  obtain ⟨hP1, hK1, hD1⟩ := hB
  rw [ht] at hP1
  have hP1 : va_P (dC, dI) vwCl [(lv, .inr (1, [.int (zI w), .int (zI h), .ref ka, tv, .int (zI sx), .int (zI sy), .int (zI fx), .int (zI fy), .int (zI lf), .int (zI un)])), zA cI ka 96 K] H1 := hP1
  obtain ⟨hP, hD⟩ := va_join (wr := []) (w1 := [(lv, .inr (1, [.int (zI w), .int (zI h), .ref ka, tv, .int (zI sx), .int (zI sy), .int (zI fx), .int (zI fy), .int (zI lf), .int (zI un)])), zA cI ka 96 K]) hP hD [0, 1] [] rfl rfl (by decide) (by decide) hk1 hFc hP1 hD1
  clear hP1 hD1 hk1 hFc hPc hDc hz1
  generalize H1 = H at hP hS ⊢
  have hP : va_P (dC, dI) vwCl [(lv, .inr (1, [.int (zI w), .int (zI h), .ref ka, tv, .int (zI sx), .int (zI sy), .int (zI fx), .int (zI fy), .int (zI lf), .int (zI un)])), zA cI ka 96 K] H := hP.sub [0, 1] rfl
  have hD : va_D A [(lv, .inr (1, [.int (zI w), .int (zI h), .ref ka, tv, .int (zI sx), .int (zI sy), .int (zI fx), .int (zI fy), .int (zI lf), .int (zI un)])), zA cI ka 96 K] := hD.sub [0, 1] (by decide) rfl
  clear hK1 hvm
  obtain ⟨rfl, po_3⟩ := hw
  have po_3 : r_2 = kd K w h x y ∧ -1 ≤ r_2 ∧ r_2 ≤ 3 := po_3
  refine W.eq (g2 := F0 m 6 ls [.int (zI r_2)]) rfl ?_
  refine lv_iconst (v := zI (-1)) hx hb dX1_put_6 (rfl) ?_
  refine lz_icmp_eq (tgt := 22) hx hb dX1_put_7 (by decide) (by omega) ⟨by decide, by decide⟩ (fun c_4 => ?_) (fun c_4 => ?_)
  · exact absurd c_4 (by have e9 := po_3.1; rw [kd_at gx gy] at e9; have e8 := gK (y * 12 + x); omega)
  ·
    refine lv_aload_n hx hb dX1_put_10 rfl (lv_at hl 0 rfl) ?_
    refine va_get (D := (dC, dI)) (ci := 1) (v := .ref ka) (C := RX1) (T := TX1) (N := 10) hx hb hts i_1 hown hK hP 0 rfl rfl 2 (by decide) f_18 (fun _ h9 => h9) rfl dX1_put_11 ?_
    refine lv_iload_n hx hb dX1_put_14 rfl (lv_at hl 2 rfl) ?_
    refine lv_bipush (v := zI 12) hx hb dX1_put_15 (by decide) ?_
    refine lz_imul (z := y * 12) hx hb dX1_put_17 (by rfl) ?_
    refine lv_iload_n hx hb dX1_put_18 rfl (lv_at hl 1 rfl) ?_
    refine lz_iadd (z := (y * 12) + x) hx hb dX1_put_19 (by rfl) ?_
    refine lv_iload_n hx hb dX1_put_20 rfl (lv_at hl 3 rfl) ?_
    refine lz_iast (F := K) (i := (y * 12) + x) (v := v) hx hb hK hP hD hS 1 0 rfl rfl (by omega) (by omega) (by decide) dX1_put_21 (fun H locs hP hD hS => ?_)
    have hP : va_P (dC, dI) vwCl [(lv, .inr (1, [.int (zI w), .int (zI h), .ref ka, tv, .int (zI sx), .int (zI sy), .int (zI fx), .int (zI fy), .int (zI lf), .int (zI un)])), zA cI ka 96 (zu K ((y * 12) + x) v)] H := hP
    have hD : va_D A [(lv, .inr (1, [.int (zI w), .int (zI h), .ref ka, tv, .int (zI sx), .int (zI sy), .int (zI fx), .int (zI fy), .int (zI lf), .int (zI un)])), zA cI ka 96 (zu K ((y * 12) + x) v)] := hD
    have hP9 := hP.sub (ws' := [(lv, .inr (1, [.int (zI w), .int (zI h), .ref ka, tv, .int (zI sx), .int (zI sy), .int (zI fx), .int (zI fy), .int (zI lf), .int (zI un)])), zA cI ka 96 (zu K ((y * 12) + x) v)]) [0, 1] rfl
    have hD9 := hD.sub (ws' := [(lv, .inr (1, [.int (zI w), .int (zI h), .ref ka, tv, .int (zI sx), .int (zI sy), .int (zI fx), .int (zI fy), .int (zI lf), .int (zI un)])), zA cI ka 96 (zu K ((y * 12) + x) v)]) [0, 1] (by decide) rfl
    have po : (True) := by
      trivial
    exact W.vret hx hb hr (fun t ht hW => ⟨⟨(), rfl, po, by rw [ht]; exact hP9, va_K.moved hW.alike hK, hD9⟩, hS.F ht⟩) hS.2.2 dX1_put_22
set_option maxHeartbeats 4000000 in
set_option maxRecDepth 100000 in
/-- Level.fillBySeed -/
theorem c_X1_fillBySeed (l : Launch) (dC : Nat → ClassId) (dI : Nat → Nat → Nat) (cI cZ cL cT cJ : ClassId) (sz : Nat) (lv : Nat) (w : Int) (h : Int) (ka : Nat) (ta : Nat) (sx : Int) (sy : Int) (fx : Int) (fy : Int) (lf : Int) (un : Int) (K : Int → Int) (sd : Int) (gw : 0 < w ∧ w ≤ 12) (gh : 0 < h ∧ h ≤ 8) (gK : Kin K) (gsx : 0 ≤ sx ∧ sx < w) (gsy : 0 ≤ sy ∧ sy < h) (gfx : 0 ≤ fx ∧ fx < w) (gfy : 0 ≤ fy ∧ fy < h) (gd : 0 ≤ sd ∧ sd ≤ 65535) : Met l yX1_fillBySeed wsX1_fillBySeed ({ frames := 2, cells := 0, slots := 0, locals := 46 }) (zP (dC, dI) (zT cI cZ cL cT cJ) sz [.ref lv, .int (zI sd)] [(lv, .inr (1, [.int (zI w), .int (zI h), .ref ka, .ref ta, .int (zI sx), .int (zI sy), .int (zI fx), .int (zI fy), .int (zI lf), .int (zI un)])), zA cI ka 96 K]) (va_Qv (fun (u9 : (Int → Int)) => match u9 with | K1 => (Kin K1 ∧ ∀ x y, 0 ≤ x → x < w → 0 ≤ y → y < h → K1 (y * 12 + x) = if (x = sx ∧ y = sy) ∨ (x = fx ∧ y = fy) then 0 else gcl sd w h x y)) (zB (dC, dI) (zT cI cZ cL cT cJ) (va_A [(lv, .inr (1, [.int (zI w), .int (zI h), .ref ka, .ref ta, .int (zI sx), .int (zI sy), .int (zI fx), .int (zI fy), .int (zI lf), .int (zI un)])), zA cI ka 96 K] sz) (fun (u9 : (Int → Int)) => match u9 with | K1 => [(lv, .inr (1, [.int (zI w), .int (zI h), .ref ka, .ref ta, .int (zI sx), .int (zI sy), .int (zI fx), .int (zI fy), .int (zI lf), .int (zI un)])), zA cI ka 96 K1])) (va_A [(lv, .inr (1, [.int (zI w), .int (zI h), .ref ka, .ref ta, .int (zI sx), .int (zI sy), .int (zI fx), .int (zI fy), .int (zI lf), .int (zI un)])), zA cI ka 96 K] sz)) 0 0 (va_A [(lv, .inr (1, [.int (zI w), .int (zI h), .ref ka, .ref ta, .int (zI sx), .int (zI sy), .int (zI fx), .int (zI fy), .int (zI lf), .int (zI un)])), zA cI ka 96 K] sz) := by
  refine Met.ofW (cc := cX1_fillBySeed) (maxL := 5) (ret := none) (by decide) rfl ?_
  intro p e s m args below meth c s₁ B hml hv
  obtain ⟨rfl, hsz, hP, hK, hD0⟩ := hv
  have hx := B.exec
  have hb := B.bytes
  have hr := B.returns
  have hts := atoms_spec (ws := wsX1_fillBySeed) B.pre
  have hown : s.vm.findClass RX1 = some m.cls := findClass_of_methodNamed B.named
  have hlocks := B.notSynchronized
  subst hsz
  have hD := hD0.self (sz := s.heap.size)
  generalize hAe : va_A [(lv, .inr (1, [.int (zI w), .int (zI h), .ref ka, .ref ta, .int (zI sx), .int (zI sy), .int (zI fx), .int (zI fy), .int (zI lf), .int (zI un)])), zA cI ka 96 K] s.heap.size = A at hD ⊢
  have hA : ∀ q : Nat, s.heap.size ≤ q → A q := fun q h => by rw [← hAe]; exact Or.inr h
  clear hAe hD0
  have hS : va_S A s.heap s.heap [] := va_S.rf
  have hP : va_P (dC, dI) vwCl [(lv, .inr (1, [.int (zI w), .int (zI h), .ref ka, .ref ta, .int (zI sx), .int (zI sy), .int (zI fx), .int (zI fy), .int (zI lf), .int (zI un)])), zA cI ka 96 K] s.heap := hP
  have f_9 := hts (.fieldLink RX1 9 "SpringLevels$Level" "width" "I") (by decide +kernel)
  have f_15 := hts (.fieldLink RX1 15 "SpringLevels$Level" "height" "I") (by decide +kernel)
  have f_33 := hts (.fieldLink RX1 33 "SpringLevels$Level" "startX" "I") (by decide +kernel)
  have f_36 := hts (.fieldLink RX1 36 "SpringLevels$Level" "startY" "I") (by decide +kernel)
  have f_39 := hts (.fieldLink RX1 39 "SpringLevels$Level" "flagX" "I") (by decide +kernel)
  have f_42 := hts (.fieldLink RX1 42 "SpringLevels$Level" "flagY" "I") (by decide +kernel)
  have i_1 : ∀ w ∈ wsX10, w ∈ wsX1_fillBySeed := by decide +kernel
  have hl := lv_entry ([.ref lv, .int (zI sd)]) (n := 5) (Nat.le_of_ble_eq_true rfl)
  rw [lg_entry_eq]
  generalize (lg_sl ([.ref lv, .int (zI sd)]) ++ List.replicate (5 - (lg_sl ([.ref lv, .int (zI sd)])).length) Slot.unset).toArray = ls at hl ⊢
  have hl : lv_has ls 5 [(0, .ref lv), (1, .int (zI sd))] := hl
  refine lv_iload_n hx hb dX1_fillBySeed_0 rfl (lv_at hl 1 rfl) ?_
  refine lv_istore_n (lv' := [(2, .int (zI sd)), (0, .ref lv), (1, .int (zI sd))]) hx hb dX1_fillBySeed_1 rfl hl (by decide) rfl (fun ls hl => ?_)
  refine lv_iconst (v := zI 0) hx hb dX1_fillBySeed_2 (rfl) ?_
  refine lv_istore_n (lv' := [(3, .int (zI 0)), (2, .int (zI sd)), (0, .ref lv), (1, .int (zI sd))]) hx hb dX1_fillBySeed_3 rfl hl (by decide) rfl (fun ls hl => ?_)
  refine z_loop (μ := fun (x9 : Int × Int × (Int → Int)) => match x9 with | (y, n, K9) => (h - y).toNat) (I := fun (x9 : Int × Int × (Int → Int)) (H9 : Heap) (k9 : List Loc) (ls9 : Array Slot) => match x9 with | (y, n, K9) => (0 ≤ y ∧ y ≤ h) ∧ (0 ≤ n ∧ n ≤ 65535) ∧ (n = gro w.toNat y.toNat sd) ∧ (Kin K9) ∧ (∀ y2 x2, 0 ≤ y2 → y2 < y → 0 ≤ x2 → x2 < w → K9 (y2 * 12 + x2) = gcl sd w h x2 y2) ∧ va_P (dC, dI) vwCl [(lv, .inr (1, [.int (zI w), .int (zI h), .ref ka, .ref ta, .int (zI sx), .int (zI sy), .int (zI fx), .int (zI fy), .int (zI lf), .int (zI un)])), zA cI ka 96 K9] H9 ∧ va_D A [(lv, .inr (1, [.int (zI w), .int (zI h), .ref ka, .ref ta, .int (zI sx), .int (zI sy), .int (zI fx), .int (zI fy), .int (zI lf), .int (zI un)])), zA cI ka 96 K9] ∧ va_S A s.heap H9 k9 ∧ lv_has ls9 5 [(0, .ref lv), (1, .int (zI sd)), (2, .int (zI n)), (3, .int (zI y))]) (fr := fun (x9 : Int × Int × (Int → Int)) (ls9 : Array Slot) => match x9 with | (y, n, K9) => F0 m 4 ls9 []) ?_ (0, sd, K) ⟨(by omega), (by omega), (by rfl), (by assumption), (by intro y2 x2 a1 a2; omega), hP, hD, hS, lv_sub hl [2, 3, 1, 0] rfl⟩
  rintro ⟨y, n, K9⟩ H locs ls ⟨ry, rn, hn, kK, hc, hP, hD, hS, hl⟩ L_1
  refine W.eq (g2 := F0 m 4 ls []) rfl ?_
  refine lv_iload_n hx hb dX1_fillBySeed_4 rfl (lv_at hl 3 rfl) ?_
  refine lv_aload_n hx hb dX1_fillBySeed_5 rfl (lv_at hl 0 rfl) ?_
  refine va_get (D := (dC, dI)) (ci := 1) (v := .int (zI h)) (C := RX1) (T := TX1) (N := 10) hx hb hts i_1 hown hK hP 0 rfl rfl 1 (by decide) f_15 (fun _ h9 => h9) rfl dX1_fillBySeed_6 ?_
  refine lz_icmp_ge (tgt := 80) hx hb dX1_fillBySeed_9 (by decide) (by omega) (by omega) (fun c_2 => ?_) (fun c_2 => ?_)
  ·
    refine lv_aload_n hx hb dX1_fillBySeed_80 rfl (lv_at hl 0 rfl) ?_
    refine lv_aload_n hx hb dX1_fillBySeed_81 rfl (lv_at hl 0 rfl) ?_
    refine va_get (D := (dC, dI)) (ci := 1) (v := .int (zI sx)) (C := RX1) (T := TX1) (N := 10) hx hb hts i_1 hown hK hP 0 rfl rfl 4 (by decide) f_33 (fun _ h9 => h9) rfl dX1_fillBySeed_82 ?_
    refine lv_aload_n hx hb dX1_fillBySeed_85 rfl (lv_at hl 0 rfl) ?_
    refine va_get (D := (dC, dI)) (ci := 1) (v := .int (zI sy)) (C := RX1) (T := TX1) (N := 10) hx hb hts i_1 hown hK hP 0 rfl rfl 5 (by decide) f_36 (fun _ h9 => h9) rfl dX1_fillBySeed_86 ?_
    refine lv_iconst (v := zI 0) hx hb dX1_fillBySeed_89 (rfl) ?_
    have hPc := hP.sub (ws' := [(lv, .inr (1, [.int (zI w), .int (zI h), .ref ka, .ref ta, .int (zI sx), .int (zI sy), .int (zI fx), .int (zI fy), .int (zI lf), .int (zI un)])), zA cI ka 96 K9]) [0, 1] rfl
    have hDc := hD.sub (ws' := [(lv, .inr (1, [.int (zI w), .int (zI h), .ref ka, .ref ta, .int (zI sx), .int (zI sy), .int (zI fx), .int (zI fy), .int (zI lf), .int (zI un)])), zA cI ka 96 K9]) [0, 1] (by decide) rfl
    have hFc := va_free (wc := [(lv, .inr (1, [.int (zI w), .int (zI h), .ref ka, .ref ta, .int (zI sx), .int (zI sy), .int (zI fx), .int (zI fy), .int (zI lf), .int (zI un)])), zA cI ka 96 K9]) hD hS hA [0, 1] rfl
    refine va_callv (va_runV (As := [.int (zI sx), .int (zI sy), .int (zI 0)]) (rest := []) ⟨hx, hb, hml, hown, hts⟩ (c_X1_put l dC dI cI cZ cL cT cJ H.size lv w h ka (.ref ta) sx sy fx fy lf un K9 sx sy 0 (by first | assumption | omega) (by first | assumption | omega) (by first | assumption | omega) (by first | assumption | omega) (by first | assumption | omega)) (cwV 3 hts gX1_fillBySeed_X1_put rfl rfl rfl (by decide +kernel) ⟨Nat.le_of_ble_eq_true rfl, Nat.le_of_ble_eq_true rfl⟩) ⟨zP_blind, va_recv hK hPc (ci := 1) (q0 := 0) rfl rfl, zP_pre hPc hDc hK⟩ rfl rfl hl.1 rfl (lv_room (Nat.le_of_ble_eq_true rfl)) dX1_fillBySeed_90 ⟨Nat.le_of_ble_eq_true rfl, Nat.le_of_ble_eq_true rfl⟩) hS (fun q _ h => hFc q h) hFc (fun u_3 t H1 locs ht hvm hw hB hz1 hk1 hS => ?_)
    obtain ⟨hP1, hK1, hD1⟩ := hB
    rw [ht] at hP1
    have hP1 : va_P (dC, dI) vwCl [(lv, .inr (1, [.int (zI w), .int (zI h), .ref ka, .ref ta, .int (zI sx), .int (zI sy), .int (zI fx), .int (zI fy), .int (zI lf), .int (zI un)])), zA cI ka 96 (zu K9 (sy * 12 + sx) 0)] H1 := hP1
    obtain ⟨hP, hD⟩ := va_join (wr := []) (w1 := [(lv, .inr (1, [.int (zI w), .int (zI h), .ref ka, .ref ta, .int (zI sx), .int (zI sy), .int (zI fx), .int (zI fy), .int (zI lf), .int (zI un)])), zA cI ka 96 (zu K9 (sy * 12 + sx) 0)]) hP hD [0, 1] [] rfl rfl (by decide) (by decide) hk1 hFc hP1 hD1
    clear hP1 hD1 hk1 hFc hPc hDc hz1
    generalize H1 = H at hP hS ⊢
    have hP : va_P (dC, dI) vwCl [(lv, .inr (1, [.int (zI w), .int (zI h), .ref ka, .ref ta, .int (zI sx), .int (zI sy), .int (zI fx), .int (zI fy), .int (zI lf), .int (zI un)])), zA cI ka 96 (zu K9 (sy * 12 + sx) 0)] H := hP.sub [0, 1] rfl
    have hD : va_D A [(lv, .inr (1, [.int (zI w), .int (zI h), .ref ka, .ref ta, .int (zI sx), .int (zI sy), .int (zI fx), .int (zI fy), .int (zI lf), .int (zI un)])), zA cI ka 96 (zu K9 (sy * 12 + sx) 0)] := hD.sub [0, 1] (by decide) rfl
    clear hK1 hvm
    refine W.eq (g2 := F0 m 93 ls []) rfl ?_
    refine lv_aload_n hx hb dX1_fillBySeed_93 rfl (lv_at hl 0 rfl) ?_
    refine lv_aload_n hx hb dX1_fillBySeed_94 rfl (lv_at hl 0 rfl) ?_
    refine va_get (D := (dC, dI)) (ci := 1) (v := .int (zI fx)) (C := RX1) (T := TX1) (N := 10) hx hb hts i_1 hown hK hP 0 rfl rfl 6 (by decide) f_39 (fun _ h9 => h9) rfl dX1_fillBySeed_95 ?_
    refine lv_aload_n hx hb dX1_fillBySeed_98 rfl (lv_at hl 0 rfl) ?_
    refine va_get (D := (dC, dI)) (ci := 1) (v := .int (zI fy)) (C := RX1) (T := TX1) (N := 10) hx hb hts i_1 hown hK hP 0 rfl rfl 7 (by decide) f_42 (fun _ h9 => h9) rfl dX1_fillBySeed_99 ?_
    refine lv_iconst (v := zI 0) hx hb dX1_fillBySeed_102 (rfl) ?_
    have hPc := hP.sub (ws' := [(lv, .inr (1, [.int (zI w), .int (zI h), .ref ka, .ref ta, .int (zI sx), .int (zI sy), .int (zI fx), .int (zI fy), .int (zI lf), .int (zI un)])), zA cI ka 96 (zu K9 (sy * 12 + sx) 0)]) [0, 1] rfl
    have hDc := hD.sub (ws' := [(lv, .inr (1, [.int (zI w), .int (zI h), .ref ka, .ref ta, .int (zI sx), .int (zI sy), .int (zI fx), .int (zI fy), .int (zI lf), .int (zI un)])), zA cI ka 96 (zu K9 (sy * 12 + sx) 0)]) [0, 1] (by decide) rfl
    have hFc := va_free (wc := [(lv, .inr (1, [.int (zI w), .int (zI h), .ref ka, .ref ta, .int (zI sx), .int (zI sy), .int (zI fx), .int (zI fy), .int (zI lf), .int (zI un)])), zA cI ka 96 (zu K9 (sy * 12 + sx) 0)]) hD hS hA [0, 1] rfl
    refine va_callv (va_runV (As := [.int (zI fx), .int (zI fy), .int (zI 0)]) (rest := []) ⟨hx, hb, hml, hown, hts⟩ (c_X1_put l dC dI cI cZ cL cT cJ H.size lv w h ka (.ref ta) sx sy fx fy lf un (zu K9 (sy * 12 + sx) 0) fx fy 0 (by first | assumption | omega) (by first | assumption | omega) (by exact Kin_zu kK (by omega)) (by first | assumption | omega) (by first | assumption | omega)) (cwV 3 hts gX1_fillBySeed_X1_put rfl rfl rfl (by decide +kernel) ⟨Nat.le_of_ble_eq_true rfl, Nat.le_of_ble_eq_true rfl⟩) ⟨zP_blind, va_recv hK hPc (ci := 1) (q0 := 0) rfl rfl, zP_pre hPc hDc hK⟩ rfl rfl hl.1 rfl (lv_room (Nat.le_of_ble_eq_true rfl)) dX1_fillBySeed_103 ⟨Nat.le_of_ble_eq_true rfl, Nat.le_of_ble_eq_true rfl⟩) hS (fun q _ h => hFc q h) hFc (fun u_5 t H1 locs ht hvm hw hB hz1 hk1 hS => ?_)
    obtain ⟨hP1, hK1, hD1⟩ := hB
    rw [ht] at hP1
    have hP1 : va_P (dC, dI) vwCl [(lv, .inr (1, [.int (zI w), .int (zI h), .ref ka, .ref ta, .int (zI sx), .int (zI sy), .int (zI fx), .int (zI fy), .int (zI lf), .int (zI un)])), zA cI ka 96 (zu (zu K9 (sy * 12 + sx) 0) (fy * 12 + fx) 0)] H1 := hP1
    obtain ⟨hP, hD⟩ := va_join (wr := []) (w1 := [(lv, .inr (1, [.int (zI w), .int (zI h), .ref ka, .ref ta, .int (zI sx), .int (zI sy), .int (zI fx), .int (zI fy), .int (zI lf), .int (zI un)])), zA cI ka 96 (zu (zu K9 (sy * 12 + sx) 0) (fy * 12 + fx) 0)]) hP hD [0, 1] [] rfl rfl (by decide) (by decide) hk1 hFc hP1 hD1
    clear hP1 hD1 hk1 hFc hPc hDc hz1
    generalize H1 = H at hP hS ⊢
    have hP : va_P (dC, dI) vwCl [(lv, .inr (1, [.int (zI w), .int (zI h), .ref ka, .ref ta, .int (zI sx), .int (zI sy), .int (zI fx), .int (zI fy), .int (zI lf), .int (zI un)])), zA cI ka 96 (zu (zu K9 (sy * 12 + sx) 0) (fy * 12 + fx) 0)] H := hP.sub [0, 1] rfl
    have hD : va_D A [(lv, .inr (1, [.int (zI w), .int (zI h), .ref ka, .ref ta, .int (zI sx), .int (zI sy), .int (zI fx), .int (zI fy), .int (zI lf), .int (zI un)])), zA cI ka 96 (zu (zu K9 (sy * 12 + sx) 0) (fy * 12 + fx) 0)] := hD.sub [0, 1] (by decide) rfl
    clear hK1 hvm
    refine W.eq (g2 := F0 m 106 ls []) rfl ?_
    have hP9 := hP.sub (ws' := [(lv, .inr (1, [.int (zI w), .int (zI h), .ref ka, .ref ta, .int (zI sx), .int (zI sy), .int (zI fx), .int (zI fy), .int (zI lf), .int (zI un)])), zA cI ka 96 (zu (zu K9 (sy * 12 + sx) 0) (fy * 12 + fx) 0)]) [0, 1] rfl
    have hD9 := hD.sub (ws' := [(lv, .inr (1, [.int (zI w), .int (zI h), .ref ka, .ref ta, .int (zI sx), .int (zI sy), .int (zI fx), .int (zI fy), .int (zI lf), .int (zI un)])), zA cI ka 96 (zu (zu K9 (sy * 12 + sx) 0) (fy * 12 + fx) 0)]) [0, 1] (by decide) rfl
    have po : (Kin (zu (zu K9 (sy * 12 + sx) 0) (fy * 12 + fx) 0) ∧ ∀ x y, 0 ≤ x → x < w → 0 ≤ y → y < h → (zu (zu K9 (sy * 12 + sx) 0) (fy * 12 + fx) 0) (y * 12 + x) = if (x = sx ∧ y = sy) ∨ (x = fx ∧ y = fy) then 0 else gcl sd w h x y) := by
      refine ⟨Kin_zu (Kin_zu kK (by omega)) (by omega), fun x y2 a1 a2 a3 a4 => ?_⟩
      unfold zu
      by_cases h1 : x = fx ∧ y2 = fy
      · rw [if_pos (by omega), if_pos (Or.inr h1)]
      · rw [if_neg (by omega)]
        by_cases h2 : x = sx ∧ y2 = sy
        · rw [if_pos (by omega), if_pos (Or.inl h2)]
        · rw [if_neg (by omega), if_neg (by omega)]
          exact hc y2 x a3 (by omega) a1 a2
    exact W.vret hx hb hr (fun t ht hW => ⟨⟨zu (zu K9 (sy * 12 + sx) 0) (fy * 12 + fx) 0, rfl, po, by rw [ht]; exact hP9, va_K.moved hW.alike hK, hD9⟩, hS.F ht⟩) hS.2.2 dX1_fillBySeed_106
  ·
    refine lv_iconst (v := zI 0) hx hb dX1_fillBySeed_12 (rfl) ?_
    refine lv_istore (lv' := [(4, .int (zI 0)), (0, .ref lv), (1, .int (zI sd)), (2, .int (zI n)), (3, .int (zI y))]) hx hb dX1_fillBySeed_13 hl (by decide) rfl (fun ls hl => ?_)
    refine z_loop (μ := fun (x9 : Int × Int × (Int → Int)) => match x9 with | (xx, n2, K8) => (w - xx).toNat) (I := fun (x9 : Int × Int × (Int → Int)) (H9 : Heap) (k9 : List Loc) (ls9 : Array Slot) => match x9 with | (xx, n2, K8) => (0 ≤ xx ∧ xx ≤ w) ∧ (0 ≤ n2 ∧ n2 ≤ 65535) ∧ (n2 = git xx.toNat n) ∧ (Kin K8) ∧ (∀ y2 x2, 0 ≤ y2 → 0 ≤ x2 → x2 < w → (y2 < y ∨ (y2 = y ∧ x2 < xx)) → K8 (y2 * 12 + x2) = gcl sd w h x2 y2) ∧ va_P (dC, dI) vwCl [(lv, .inr (1, [.int (zI w), .int (zI h), .ref ka, .ref ta, .int (zI sx), .int (zI sy), .int (zI fx), .int (zI fy), .int (zI lf), .int (zI un)])), zA cI ka 96 K8] H9 ∧ va_D A [(lv, .inr (1, [.int (zI w), .int (zI h), .ref ka, .ref ta, .int (zI sx), .int (zI sy), .int (zI fx), .int (zI fy), .int (zI lf), .int (zI un)])), zA cI ka 96 K8] ∧ va_S A s.heap H9 k9 ∧ lv_has ls9 5 [(0, .ref lv), (1, .int (zI sd)), (2, .int (zI n2)), (3, .int (zI y)), (4, .int (zI xx))]) (fr := fun (x9 : Int × Int × (Int → Int)) (ls9 : Array Slot) => match x9 with | (xx, n2, K8) => F0 m 15 ls9 []) ?_ (0, n, K9) ⟨(by omega), (by omega), (by rfl), (by assumption), (by intro y2 x2 a1 a2 a3 a4; exact hc y2 x2 a1 (by omega) a2 a3), hP, hD, hS, lv_sub hl [1, 2, 3, 4, 0] rfl⟩
    rintro ⟨xx, n2, K8⟩ H locs ls ⟨rx, rn2, hm, kK2, hd, hP, hD, hS, hl⟩ L_7
    refine W.eq (g2 := F0 m 15 ls []) rfl ?_
    refine lv_iload hx hb dX1_fillBySeed_15 (lv_at hl 4 rfl) ?_
    refine lv_aload_n hx hb dX1_fillBySeed_17 rfl (lv_at hl 0 rfl) ?_
    refine va_get (D := (dC, dI)) (ci := 1) (v := .int (zI w)) (C := RX1) (T := TX1) (N := 10) hx hb hts i_1 hown hK hP 0 rfl rfl 0 (by decide) f_9 (fun _ h9 => h9) rfl dX1_fillBySeed_18 ?_
    refine lz_icmp_ge (tgt := 74) hx hb dX1_fillBySeed_21 (by decide) (by omega) (by omega) (fun c_8 => ?_) (fun c_8 => ?_)
    ·
      refine lz_iinc (z := y + 1) (lv' := [(3, .int (zI (y + 1))), (0, .ref lv), (1, .int (zI sd)), (2, .int (zI n2)), (4, .int (zI xx))]) hx hb dX1_fillBySeed_74 hl (k := 3) rfl (by omega) (by decide) rfl (fun ls hl => ?_)
      refine lv_goto (tgt := 4) hx hb dX1_fillBySeed_77 (by decide) ?_
      exact L_1 (y + 1, n2, K8) _ _ _ (by (try dsimp only); omega) ⟨(by omega), (by omega), (by (rw [gro_step ry.1, ← hn]; rw [hm]; congr 1; omega)), (by assumption), (by intro y2 x2 a1 a2 a3 a4; exact hd y2 x2 a1 a3 a4 (by omega)), hP, hD, hS, lv_sub hl [1, 2, 3, 0] rfl⟩
    ·
      refine lv_iload_n hx hb dX1_fillBySeed_24 rfl (lv_at hl 2 rfl) ?_
      refine lv_sipush (v := zI 1103) hx hb dX1_fillBySeed_25 (by decide) ?_
      refine lz_imul (z := n2 * 1103) hx hb dX1_fillBySeed_28 (by rfl) ?_
      refine lv_sipush (v := zI 12345) hx hb dX1_fillBySeed_29 (by decide) ?_
      refine lz_iadd (z := (n2 * 1103) + 12345) hx hb dX1_fillBySeed_32 (by rfl) ?_
      refine lv_ldc (v := zI 65536) hx hb hown (hts (.constant RX1 56 (65536)) (by decide +kernel)) dX1_fillBySeed_33 ?_
      refine lz_irem hx hb dX1_fillBySeed_35 (by omega) (by decide) ?_
      refine lv_istore_n (lv' := [(2, .int (zI (((n2 * 1103) + 12345) % 65536))), (0, .ref lv), (1, .int (zI sd)), (3, .int (zI y)), (4, .int (zI xx))]) hx hb dX1_fillBySeed_36 rfl hl (by decide) rfl (fun ls hl => ?_)
      refine z_cut (I := fun (x9 : Int) (H9 : Heap) (k9 : List Loc) (ls9 : Array Slot) => match x9 with | kk => (kk = kgv h y ((n2 * 1103 + 12345) % 65536)) ∧ (0 ≤ kk ∧ kk ≤ 3) ∧ va_P (dC, dI) vwCl [(lv, .inr (1, [.int (zI w), .int (zI h), .ref ka, .ref ta, .int (zI sx), .int (zI sy), .int (zI fx), .int (zI fy), .int (zI lf), .int (zI un)])), zA cI ka 96 K8] H9 ∧ va_D A [(lv, .inr (1, [.int (zI w), .int (zI h), .ref ka, .ref ta, .int (zI sx), .int (zI sy), .int (zI fx), .int (zI fy), .int (zI lf), .int (zI un)])), zA cI ka 96 K8] ∧ va_S A s.heap H9 k9 ∧ lv_has ls9 5 [(0, .ref lv), (1, .int (zI sd)), (2, .int (zI (((n2 * 1103) + 12345) % 65536))), (3, .int (zI y)), (4, .int (zI xx))]) (fr := fun (x9 : Int) (ls9 : Array Slot) => match x9 with | kk => F0 m 65 ls9 [.int (zI kk), .int (zI y), .int (zI xx), .ref lv]) ?_ ?_
      · rintro kk H locs ls ⟨hk, rk, hP, hD, hS, hl⟩
        refine W.eq (g2 := F0 m 65 ls [.int (zI kk), .int (zI y), .int (zI xx), .ref lv]) rfl ?_
        have hPc := hP.sub (ws' := [(lv, .inr (1, [.int (zI w), .int (zI h), .ref ka, .ref ta, .int (zI sx), .int (zI sy), .int (zI fx), .int (zI fy), .int (zI lf), .int (zI un)])), zA cI ka 96 K8]) [0, 1] rfl
        have hDc := hD.sub (ws' := [(lv, .inr (1, [.int (zI w), .int (zI h), .ref ka, .ref ta, .int (zI sx), .int (zI sy), .int (zI fx), .int (zI fy), .int (zI lf), .int (zI un)])), zA cI ka 96 K8]) [0, 1] (by decide) rfl
        have hFc := va_free (wc := [(lv, .inr (1, [.int (zI w), .int (zI h), .ref ka, .ref ta, .int (zI sx), .int (zI sy), .int (zI fx), .int (zI fy), .int (zI lf), .int (zI un)])), zA cI ka 96 K8]) hD hS hA [0, 1] rfl
        refine va_callv (va_runV (As := [.int (zI xx), .int (zI y), .int (zI kk)]) (rest := []) ⟨hx, hb, hml, hown, hts⟩ (c_X1_put l dC dI cI cZ cL cT cJ H.size lv w h ka (.ref ta) sx sy fx fy lf un K8 xx y kk (by first | assumption | omega) (by first | assumption | omega) (by first | assumption | omega) (by first | assumption | omega) (by first | assumption | omega)) (cwV 3 hts gX1_fillBySeed_X1_put rfl rfl rfl (by decide +kernel) ⟨Nat.le_of_ble_eq_true rfl, Nat.le_of_ble_eq_true rfl⟩) ⟨zP_blind, va_recv hK hPc (ci := 1) (q0 := 0) rfl rfl, zP_pre hPc hDc hK⟩ rfl rfl hl.1 rfl (lv_room (Nat.le_of_ble_eq_true rfl)) dX1_fillBySeed_65 ⟨Nat.le_of_ble_eq_true rfl, Nat.le_of_ble_eq_true rfl⟩) hS (fun q _ h => hFc q h) hFc (fun u_9 t H1 locs ht hvm hw hB hz1 hk1 hS => ?_)
        obtain ⟨hP1, hK1, hD1⟩ := hB
        rw [ht] at hP1
        have hP1 : va_P (dC, dI) vwCl [(lv, .inr (1, [.int (zI w), .int (zI h), .ref ka, .ref ta, .int (zI sx), .int (zI sy), .int (zI fx), .int (zI fy), .int (zI lf), .int (zI un)])), zA cI ka 96 (zu K8 (y * 12 + xx) kk)] H1 := hP1
        obtain ⟨hP, hD⟩ := va_join (wr := []) (w1 := [(lv, .inr (1, [.int (zI w), .int (zI h), .ref ka, .ref ta, .int (zI sx), .int (zI sy), .int (zI fx), .int (zI fy), .int (zI lf), .int (zI un)])), zA cI ka 96 (zu K8 (y * 12 + xx) kk)]) hP hD [0, 1] [] rfl rfl (by decide) (by decide) hk1 hFc hP1 hD1
        clear hP1 hD1 hk1 hFc hPc hDc hz1
        generalize H1 = H at hP hS ⊢
        have hP : va_P (dC, dI) vwCl [(lv, .inr (1, [.int (zI w), .int (zI h), .ref ka, .ref ta, .int (zI sx), .int (zI sy), .int (zI fx), .int (zI fy), .int (zI lf), .int (zI un)])), zA cI ka 96 (zu K8 (y * 12 + xx) kk)] H := hP.sub [0, 1] rfl
        have hD : va_D A [(lv, .inr (1, [.int (zI w), .int (zI h), .ref ka, .ref ta, .int (zI sx), .int (zI sy), .int (zI fx), .int (zI fy), .int (zI lf), .int (zI un)])), zA cI ka 96 (zu K8 (y * 12 + xx) kk)] := hD.sub [0, 1] (by decide) rfl
        clear hK1 hvm
        refine W.eq (g2 := F0 m 68 ls []) rfl ?_
        refine lz_iinc (z := xx + 1) (lv' := [(4, .int (zI (xx + 1))), (0, .ref lv), (1, .int (zI sd)), (2, .int (zI (((n2 * 1103) + 12345) % 65536))), (3, .int (zI y))]) hx hb dX1_fillBySeed_68 hl (k := 4) rfl (by omega) (by decide) rfl (fun ls hl => ?_)
        refine lv_goto (tgt := 15) hx hb dX1_fillBySeed_71 (by decide) ?_
        exact L_7 (xx + 1, ((n2 * 1103) + 12345) % 65536, zu K8 (y * 12 + xx) kk) _ _ _ (by (try dsimp only); omega) ⟨(by omega), (by omega), (by (rw [git_step rx.1, ← hm])), (by exact Kin_zu kK2 (by omega)), (by intro y2 x2 a1 a2 a3 a4; unfold zu; split <;> first | (have e5 : y2 = y ∧ x2 = xx := (by omega); rw [e5.1, e5.2, gcl, ← hn, git_step rx.1, ← hm]; exact hk) | exact hd y2 x2 a1 a2 a3 (by omega)), hP, hD, hS, lv_sub hl [1, 2, 3, 4, 0] rfl⟩
      intro J_11
      refine lv_aload_n hx hb dX1_fillBySeed_37 rfl (lv_at hl 1 rfl) ?_
      refine lv_iload hx hb dX1_fillBySeed_38 (lv_at hl 4 rfl) ?_
      refine lv_iload_n hx hb dX1_fillBySeed_40 rfl (lv_at hl 3 rfl) ?_
      refine lv_iload_n hx hb dX1_fillBySeed_41 rfl (lv_at hl 3 rfl) ?_
      refine lv_aload_n hx hb dX1_fillBySeed_42 rfl (lv_at hl 1 rfl) ?_
      refine va_get (D := (dC, dI)) (ci := 1) (v := .int (zI h)) (C := RX1) (T := TX1) (N := 10) hx hb hts i_1 hown hK hP 0 rfl rfl 1 (by decide) f_15 (fun _ h9 => h9) rfl dX1_fillBySeed_43 ?_
      refine lv_iconst (v := zI 1) hx hb dX1_fillBySeed_46 (rfl) ?_
      refine lz_isub (z := h - 1) hx hb dX1_fillBySeed_47 (by rfl) ?_
      refine lz_icmp_ne (tgt := 55) hx hb dX1_fillBySeed_48 (by decide) (by omega) (by omega) (fun c_12 => ?_) (fun c_12 => ?_)
      ·
        refine lv_iload_n hx hb dX1_fillBySeed_55 rfl (lv_at hl 0 rfl) ?_
        refine lv_bipush (v := zI 16) hx hb dX1_fillBySeed_56 (by decide) ?_
        refine lz_idiv hx hb dX1_fillBySeed_58 (by omega) (by decide) ?_
        refine lv_bipush (v := zI 16) hx hb dX1_fillBySeed_59 (by decide) ?_
        refine lz_irem hx hb dX1_fillBySeed_61 (by omega) (by decide) ?_
        have hPc := hP.sub (ws' := []) [] rfl
        have hDc := hD.sub (ws' := []) [] (by decide) rfl
        have hFc := va_free (wc := []) hD hS hA [] rfl
        refine va_calli (va_runS (As := [.int (zI (((((n2 * 1103) + 12345) % 65536) / 16) % 16))]) (rest := [.int (zI y), .int (zI xx), .ref lv]) ⟨hx, hb, hml, hown, hts⟩ (c_X1_kindGrownFrom l dC dI cI cZ cL cT cJ H.size (((((n2 * 1103) + 12345) % 65536) / 16) % 16) (by first | assumption | omega)) (cwS 1 hts gX1_fillBySeed_X1_kindGrownFrom rfl rfl rfl (by decide +kernel) ⟨Nat.le_of_ble_eq_true rfl, Nat.le_of_ble_eq_true rfl⟩) ⟨zP_blind, zP_pre hPc hDc hK⟩ rfl rfl hl.1 rfl (lv_room (Nat.le_of_ble_eq_true rfl)) dX1_fillBySeed_62 ⟨Nat.le_of_ble_eq_true rfl, Nat.le_of_ble_eq_true rfl⟩) hS (fun q _ h => hFc q h) hFc (fun r_13 u_13 t H1 locs ht hvm hw hB hz1 hk1 hS => ?_)
        obtain ⟨r_14, rfl⟩ : ∃ z, z = u_13 := ⟨_, rfl⟩
        obtain ⟨hP1, hK1, hD1⟩ := hB
        rw [ht] at hP1
        have hP1 : va_P (dC, dI) vwCl [] H1 := hP1
        obtain ⟨hP, hD⟩ := va_join (wr := [(lv, .inr (1, [.int (zI w), .int (zI h), .ref ka, .ref ta, .int (zI sx), .int (zI sy), .int (zI fx), .int (zI fy), .int (zI lf), .int (zI un)])), zA cI ka 96 K8]) (w1 := []) hP hD [] [0, 1] rfl rfl (by decide) (by decide) hk1 hFc hP1 hD1
        clear hP1 hD1 hk1 hFc hPc hDc hz1
        generalize H1 = H at hP hS ⊢
        have hP : va_P (dC, dI) vwCl [(lv, .inr (1, [.int (zI w), .int (zI h), .ref ka, .ref ta, .int (zI sx), .int (zI sy), .int (zI fx), .int (zI fy), .int (zI lf), .int (zI un)])), zA cI ka 96 K8] H := hP.sub [0, 1] rfl
        have hD : va_D A [(lv, .inr (1, [.int (zI w), .int (zI h), .ref ka, .ref ta, .int (zI sx), .int (zI sy), .int (zI fx), .int (zI fy), .int (zI lf), .int (zI un)])), zA cI ka 96 K8] := hD.sub [0, 1] (by decide) rfl
        clear hK1 hvm
        obtain ⟨rfl, po_15⟩ := hw
        have po_15 : r_14 = kg (((((n2 * 1103) + 12345) % 65536) / 16) % 16) ∧ 0 ≤ r_14 ∧ r_14 ≤ 3 := po_15
        refine W.eq (g2 := F0 m 65 ls [.int (zI r_14), .int (zI y), .int (zI xx), .ref lv]) rfl ?_
        exact J_11 r_14 _ _ _ ⟨(by (unfold kgv; first | rw [if_pos (by omega)] | (rw [if_neg (by omega)]; exact po_15.1))), (by (first | omega | exact po_15.2)), hP, hD, hS, lv_sub hl [1, 2, 0, 3, 4] rfl⟩
      ·
        refine lv_iconst (v := zI 1) hx hb dX1_fillBySeed_51 (rfl) ?_
        refine lv_goto (tgt := 65) hx hb dX1_fillBySeed_52 (by decide) ?_
        exact J_11 1 _ _ _ ⟨(by (unfold kgv; first | rw [if_pos (by omega)] | (rw [if_neg (by omega)]; exact po_none.1))), (by (first | omega | exact po_none.2)), hP, hD, hS, lv_sub hl [1, 2, 0, 3, 4] rfl⟩
set_option maxHeartbeats 4000000 in
set_option maxRecDepth 100000 in
/-- Level.countBlocks -/
theorem c_X1_countBlocks (l : Launch) (dC : Nat → ClassId) (dI : Nat → Nat → Nat) (cI cZ cL cT cJ : ClassId) (sz : Nat) (lv : Nat) (w : Int) (h : Int) (ka : Nat) (ta : Nat) (sx : Int) (sy : Int) (fx : Int) (fy : Int) (lf : Int) (un : Int) (K : Int → Int) (gw : 0 < w ∧ w ≤ 12) (gh : 0 < h ∧ h ≤ 8) (gK : Kin K) : Met l yX1_countBlocks wsX1_countBlocks ({ frames := 1, cells := 0, slots := 0, locals := 23 }) (zP (dC, dI) (zT cI cZ cL cT cJ) sz [.ref lv] [(lv, .inr (1, [.int (zI w), .int (zI h), .ref ka, .ref ta, .int (zI sx), .int (zI sy), .int (zI fx), .int (zI fy), .int (zI lf), .int (zI un)])), zA cI ka 96 K]) (va_Qi (fun (r9 : Int32) (u9 : Int) => match u9 with | r => r9 = zI r ∧ (r = ctt (fun y x => K (y * 12 + x)) w.toNat h.toNat)) (zB (dC, dI) (zT cI cZ cL cT cJ) (va_A [(lv, .inr (1, [.int (zI w), .int (zI h), .ref ka, .ref ta, .int (zI sx), .int (zI sy), .int (zI fx), .int (zI fy), .int (zI lf), .int (zI un)])), zA cI ka 96 K] sz) (fun (u9 : Int) => match u9 with | r => [(lv, .inr (1, [.int (zI w), .int (zI h), .ref ka, .ref ta, .int (zI sx), .int (zI sy), .int (zI fx), .int (zI fy), .int (zI lf), .int (zI un)])), zA cI ka 96 K])) (va_A [(lv, .inr (1, [.int (zI w), .int (zI h), .ref ka, .ref ta, .int (zI sx), .int (zI sy), .int (zI fx), .int (zI fy), .int (zI lf), .int (zI un)])), zA cI ka 96 K] sz)) 0 0 (va_A [(lv, .inr (1, [.int (zI w), .int (zI h), .ref ka, .ref ta, .int (zI sx), .int (zI sy), .int (zI fx), .int (zI fy), .int (zI lf), .int (zI un)])), zA cI ka 96 K] sz) := by
  refine Met.ofW (cc := cX1_countBlocks) (maxL := 4) (ret := (some .int)) (by decide) rfl ?_
  intro p e s m args below meth c s₁ B hml hv
  obtain ⟨rfl, hsz, hP, hK, hD0⟩ := hv
  have hx := B.exec
  have hb := B.bytes
  have hr := B.returns
  have hts := atoms_spec (ws := wsX1_countBlocks) B.pre
  have hown : s.vm.findClass RX1 = some m.cls := findClass_of_methodNamed B.named
  have hlocks := B.notSynchronized
  subst hsz
  have hD := hD0.self (sz := s.heap.size)
  generalize hAe : va_A [(lv, .inr (1, [.int (zI w), .int (zI h), .ref ka, .ref ta, .int (zI sx), .int (zI sy), .int (zI fx), .int (zI fy), .int (zI lf), .int (zI un)])), zA cI ka 96 K] s.heap.size = A at hD ⊢
  have hA : ∀ q : Nat, s.heap.size ≤ q → A q := fun q h => by rw [← hAe]; exact Or.inr h
  clear hAe hD0
  have hS : va_S A s.heap s.heap [] := va_S.rf
  have hP : va_P (dC, dI) vwCl [(lv, .inr (1, [.int (zI w), .int (zI h), .ref ka, .ref ta, .int (zI sx), .int (zI sy), .int (zI fx), .int (zI fy), .int (zI lf), .int (zI un)])), zA cI ka 96 K] s.heap := hP
  have f_9 := hts (.fieldLink RX1 9 "SpringLevels$Level" "width" "I") (by decide +kernel)
  have f_15 := hts (.fieldLink RX1 15 "SpringLevels$Level" "height" "I") (by decide +kernel)
  have i_1 : ∀ w ∈ wsX10, w ∈ wsX1_countBlocks := by decide +kernel
  have hl := lv_entry ([.ref lv]) (n := 4) (Nat.le_of_ble_eq_true rfl)
  rw [lg_entry_eq]
  generalize (lg_sl ([.ref lv]) ++ List.replicate (4 - (lg_sl ([.ref lv])).length) Slot.unset).toArray = ls at hl ⊢
  have hl : lv_has ls 4 [(0, .ref lv)] := hl
  refine lv_iconst (v := zI 0) hx hb dX1_countBlocks_0 (rfl) ?_
  refine lv_istore_n (lv' := [(1, .int (zI 0)), (0, .ref lv)]) hx hb dX1_countBlocks_1 rfl hl (by decide) rfl (fun ls hl => ?_)
  refine lv_iconst (v := zI 0) hx hb dX1_countBlocks_2 (rfl) ?_
  refine lv_istore_n (lv' := [(2, .int (zI 0)), (1, .int (zI 0)), (0, .ref lv)]) hx hb dX1_countBlocks_3 rfl hl (by decide) rfl (fun ls hl => ?_)
  refine z_loop (μ := fun (x9 : Int × Int) => match x9 with | (y, bl) => (h - y).toNat) (I := fun (x9 : Int × Int) (H9 : Heap) (k9 : List Loc) (ls9 : Array Slot) => match x9 with | (y, bl) => (0 ≤ y ∧ y ≤ h) ∧ (bl = ctt (fun y x => K (y * 12 + x)) w.toNat y.toNat) ∧ va_P (dC, dI) vwCl [(lv, .inr (1, [.int (zI w), .int (zI h), .ref ka, .ref ta, .int (zI sx), .int (zI sy), .int (zI fx), .int (zI fy), .int (zI lf), .int (zI un)])), zA cI ka 96 K] H9 ∧ va_D A [(lv, .inr (1, [.int (zI w), .int (zI h), .ref ka, .ref ta, .int (zI sx), .int (zI sy), .int (zI fx), .int (zI fy), .int (zI lf), .int (zI un)])), zA cI ka 96 K] ∧ va_S A s.heap H9 k9 ∧ lv_has ls9 4 [(0, .ref lv), (1, .int (zI bl)), (2, .int (zI y))]) (fr := fun (x9 : Int × Int) (ls9 : Array Slot) => match x9 with | (y, bl) => F0 m 4 ls9 []) ?_ (0, 0) ⟨(by omega), (by rfl), hP, hD, hS, lv_sub hl [2, 1, 0] rfl⟩
  rintro ⟨y, bl⟩ H locs ls ⟨ry, hb9, hP, hD, hS, hl⟩ L_1
  refine W.eq (g2 := F0 m 4 ls []) rfl ?_
  refine lv_iload_n hx hb dX1_countBlocks_4 rfl (lv_at hl 2 rfl) ?_
  refine lv_aload_n hx hb dX1_countBlocks_5 rfl (lv_at hl 0 rfl) ?_
  refine va_get (D := (dC, dI)) (ci := 1) (v := .int (zI h)) (C := RX1) (T := TX1) (N := 10) hx hb hts i_1 hown hK hP 0 rfl rfl 1 (by decide) f_15 (fun _ h9 => h9) rfl dX1_countBlocks_6 ?_
  refine lz_icmp_ge (tgt := 47) hx hb dX1_countBlocks_9 (by decide) (by omega) (by omega) (fun c_2 => ?_) (fun c_2 => ?_)
  ·
    refine lv_iload_n hx hb dX1_countBlocks_47 rfl (lv_at hl 1 rfl) ?_
    have hP9 := hP.sub (ws' := [(lv, .inr (1, [.int (zI w), .int (zI h), .ref ka, .ref ta, .int (zI sx), .int (zI sy), .int (zI fx), .int (zI fy), .int (zI lf), .int (zI un)])), zA cI ka 96 K]) [0, 1] rfl
    have hD9 := hD.sub (ws' := [(lv, .inr (1, [.int (zI w), .int (zI h), .ref ka, .ref ta, .int (zI sx), .int (zI sy), .int (zI fx), .int (zI fy), .int (zI lf), .int (zI un)])), zA cI ka 96 K]) [0, 1] (by decide) rfl
    have po : zI bl = zI bl ∧ (bl = ctt (fun y x => K (y * 12 + x)) w.toNat h.toNat) := by
      refine ⟨by first | rfl | (congr 1; omega) | (congr 1; simp [*]), ?_⟩
      rw [hb9, show y = h by omega]
    exact W.iret (v := zI bl) hx hb hr (fun t ht hW => ⟨⟨zI bl, bl, rfl, po, by rw [ht]; exact hP9, va_K.moved hW.alike hK, hD9⟩, hS.F ht⟩) hS.2.2 dX1_countBlocks_48
  ·
    refine lv_iconst (v := zI 0) hx hb dX1_countBlocks_12 (rfl) ?_
    refine lv_istore_n (lv' := [(3, .int (zI 0)), (0, .ref lv), (1, .int (zI bl)), (2, .int (zI y))]) hx hb dX1_countBlocks_13 rfl hl (by decide) rfl (fun ls hl => ?_)
    refine z_loop (μ := fun (x9 : Int × Int) => match x9 with | (xx, b2) => (w - xx).toNat) (I := fun (x9 : Int × Int) (H9 : Heap) (k9 : List Loc) (ls9 : Array Slot) => match x9 with | (xx, b2) => (0 ≤ xx ∧ xx ≤ w) ∧ (b2 = ctt (fun y x => K (y * 12 + x)) w.toNat y.toNat + crw (fun x => K (y * 12 + x)) xx.toNat) ∧ va_P (dC, dI) vwCl [(lv, .inr (1, [.int (zI w), .int (zI h), .ref ka, .ref ta, .int (zI sx), .int (zI sy), .int (zI fx), .int (zI fy), .int (zI lf), .int (zI un)])), zA cI ka 96 K] H9 ∧ va_D A [(lv, .inr (1, [.int (zI w), .int (zI h), .ref ka, .ref ta, .int (zI sx), .int (zI sy), .int (zI fx), .int (zI fy), .int (zI lf), .int (zI un)])), zA cI ka 96 K] ∧ va_S A s.heap H9 k9 ∧ lv_has ls9 4 [(0, .ref lv), (1, .int (zI b2)), (2, .int (zI y)), (3, .int (zI xx))]) (fr := fun (x9 : Int × Int) (ls9 : Array Slot) => match x9 with | (xx, b2) => F0 m 14 ls9 []) ?_ (0, bl) ⟨(by omega), (by (rw [hb9]; exact (Int.add_zero _).symm)), hP, hD, hS, lv_sub hl [1, 2, 3, 0] rfl⟩
    rintro ⟨xx, b2⟩ H locs ls ⟨rx, hb8, hP, hD, hS, hl⟩ L_3
    refine W.eq (g2 := F0 m 14 ls []) rfl ?_
    refine lv_iload_n hx hb dX1_countBlocks_14 rfl (lv_at hl 3 rfl) ?_
    refine lv_aload_n hx hb dX1_countBlocks_15 rfl (lv_at hl 0 rfl) ?_
    refine va_get (D := (dC, dI)) (ci := 1) (v := .int (zI w)) (C := RX1) (T := TX1) (N := 10) hx hb hts i_1 hown hK hP 0 rfl rfl 0 (by decide) f_9 (fun _ h9 => h9) rfl dX1_countBlocks_16 ?_
    refine lz_icmp_ge (tgt := 41) hx hb dX1_countBlocks_19 (by decide) (by omega) (by omega) (fun c_4 => ?_) (fun c_4 => ?_)
    ·
      refine lz_iinc (z := y + 1) (lv' := [(2, .int (zI (y + 1))), (0, .ref lv), (1, .int (zI b2)), (3, .int (zI xx))]) hx hb dX1_countBlocks_41 hl (k := 2) rfl (by omega) (by decide) rfl (fun ls hl => ?_)
      refine lv_goto (tgt := 4) hx hb dX1_countBlocks_44 (by decide) ?_
      exact L_1 (y + 1, b2) _ _ _ (by (try dsimp only); omega) ⟨(by omega), (by (rw [ctt_step ry.1, hb8, show xx = w by omega])), hP, hD, hS, lv_sub hl [1, 2, 0] rfl⟩
    ·
      refine lv_aload_n hx hb dX1_countBlocks_22 rfl (lv_at hl 0 rfl) ?_
      refine lv_iload_n hx hb dX1_countBlocks_23 rfl (lv_at hl 3 rfl) ?_
      refine lv_iload_n hx hb dX1_countBlocks_24 rfl (lv_at hl 2 rfl) ?_
      have hPc := hP.sub (ws' := [(lv, .inr (1, [.int (zI w), .int (zI h), .ref ka, .ref ta, .int (zI sx), .int (zI sy), .int (zI fx), .int (zI fy), .int (zI lf), .int (zI un)])), zA cI ka 96 K]) [0, 1] rfl
      have hDc := hD.sub (ws' := [(lv, .inr (1, [.int (zI w), .int (zI h), .ref ka, .ref ta, .int (zI sx), .int (zI sy), .int (zI fx), .int (zI fy), .int (zI lf), .int (zI un)])), zA cI ka 96 K]) [0, 1] (by decide) rfl
      have hFc := va_free (wc := [(lv, .inr (1, [.int (zI w), .int (zI h), .ref ka, .ref ta, .int (zI sx), .int (zI sy), .int (zI fx), .int (zI fy), .int (zI lf), .int (zI un)])), zA cI ka 96 K]) hD hS hA [0, 1] rfl
      refine va_calli (va_runV (As := [.int (zI xx), .int (zI y)]) (rest := []) ⟨hx, hb, hml, hown, hts⟩ (c_X1_kindAt l dC dI cI cZ cL cT cJ H.size lv w h ka (.ref ta) sx sy fx fy lf un K xx y (by first | assumption | omega) (by first | assumption | omega) (by first | assumption | omega) (by first | assumption | omega) (by first | assumption | omega)) (cwV 2 hts gX1_countBlocks_X1_kindAt rfl rfl rfl (by decide +kernel) ⟨Nat.le_of_ble_eq_true rfl, Nat.le_of_ble_eq_true rfl⟩) ⟨zP_blind, va_recv hK hPc (ci := 1) (q0 := 0) rfl rfl, zP_pre hPc hDc hK⟩ rfl rfl hl.1 rfl (lv_room (Nat.le_of_ble_eq_true rfl)) dX1_countBlocks_25 ⟨Nat.le_of_ble_eq_true rfl, Nat.le_of_ble_eq_true rfl⟩) hS (fun q _ h => hFc q h) hFc (fun r_5 u_5 t H1 locs ht hvm hw hB hz1 hk1 hS => ?_)
      obtain ⟨r_6, rfl⟩ : ∃ z, z = u_5 := ⟨_, rfl⟩
      obtain ⟨hP1, hK1, hD1⟩ := hB
      rw [ht] at hP1
      have hP1 : va_P (dC, dI) vwCl [(lv, .inr (1, [.int (zI w), .int (zI h), .ref ka, .ref ta, .int (zI sx), .int (zI sy), .int (zI fx), .int (zI fy), .int (zI lf), .int (zI un)])), zA cI ka 96 K] H1 := hP1
      obtain ⟨hP, hD⟩ := va_join (wr := []) (w1 := [(lv, .inr (1, [.int (zI w), .int (zI h), .ref ka, .ref ta, .int (zI sx), .int (zI sy), .int (zI fx), .int (zI fy), .int (zI lf), .int (zI un)])), zA cI ka 96 K]) hP hD [0, 1] [] rfl rfl (by decide) (by decide) hk1 hFc hP1 hD1
      clear hP1 hD1 hk1 hFc hPc hDc hz1
      generalize H1 = H at hP hS ⊢
      have hP : va_P (dC, dI) vwCl [(lv, .inr (1, [.int (zI w), .int (zI h), .ref ka, .ref ta, .int (zI sx), .int (zI sy), .int (zI fx), .int (zI fy), .int (zI lf), .int (zI un)])), zA cI ka 96 K] H := hP.sub [0, 1] rfl
      have hD : va_D A [(lv, .inr (1, [.int (zI w), .int (zI h), .ref ka, .ref ta, .int (zI sx), .int (zI sy), .int (zI fx), .int (zI fy), .int (zI lf), .int (zI un)])), zA cI ka 96 K] := hD.sub [0, 1] (by decide) rfl
      clear hK1 hvm
      obtain ⟨rfl, po_7⟩ := hw
      have po_7 : r_6 = kd K w h xx y ∧ -1 ≤ r_6 ∧ r_6 ≤ 3 := po_7
      refine W.eq (g2 := F0 m 28 ls [.int (zI r_6)]) rfl ?_
      refine lv_iconst (v := zI 1) hx hb dX1_countBlocks_28 (rfl) ?_
      refine lz_icmp_ne (tgt := 35) hx hb dX1_countBlocks_29 (by decide) (by omega) ⟨by decide, by decide⟩ (fun c_8 => ?_) (fun c_8 => ?_)
      ·
        refine lz_iinc (z := xx + 1) (lv' := [(3, .int (zI (xx + 1))), (0, .ref lv), (1, .int (zI b2)), (2, .int (zI y))]) hx hb dX1_countBlocks_35 hl (k := 3) rfl (by omega) (by decide) rfl (fun ls hl => ?_)
        refine lv_goto (tgt := 14) hx hb dX1_countBlocks_38 (by decide) ?_
        exact L_3 (xx + 1, b2) _ _ _ (by (try dsimp only); omega) ⟨(by omega), (by (have e9 := po_7.1; rw [kd_at (by omega) (by omega)] at e9; rw [crw_step rx.1, ← e9]; first | (rw [if_pos (by omega)]; omega) | (rw [if_neg (by omega)]; omega))), hP, hD, hS, lv_sub hl [1, 2, 3, 0] rfl⟩
      ·
        refine lz_iinc (z := b2 + 1) (lv' := [(1, .int (zI (b2 + 1))), (0, .ref lv), (2, .int (zI y)), (3, .int (zI xx))]) hx hb dX1_countBlocks_32 hl (k := 1) rfl (by omega) (by decide) rfl (fun ls hl => ?_)
        refine lz_iinc (z := xx + 1) (lv' := [(3, .int (zI (xx + 1))), (1, .int (zI (b2 + 1))), (0, .ref lv), (2, .int (zI y))]) hx hb dX1_countBlocks_35 hl (k := 3) rfl (by omega) (by decide) rfl (fun ls hl => ?_)
        refine lv_goto (tgt := 14) hx hb dX1_countBlocks_38 (by decide) ?_
        exact L_3 (xx + 1, b2 + 1) _ _ _ (by (try dsimp only); omega) ⟨(by omega), (by (have e9 := po_7.1; rw [kd_at (by omega) (by omega)] at e9; rw [crw_step rx.1, ← e9]; first | (rw [if_pos (by omega)]; omega) | (rw [if_neg (by omega)]; omega))), hP, hD, hS, lv_sub hl [2, 1, 3, 0] rfl⟩
set_option maxHeartbeats 4000000 in
set_option maxRecDepth 100000 in
/-- Level.forgetWayAndRecords -/
theorem c_X1_forgetWayAndRecords (l : Launch) (dC : Nat → ClassId) (dI : Nat → Nat → Nat) (cI cZ cL cT cJ : ClassId) (sz : Nat) (lv : Nat) (w : Int) (h : Int) (ka : Nat) (ta : Nat) (sx : Int) (sy : Int) (fx : Int) (fy : Int) (lf : Int) (un : Int) (tq : Nat → Option Nat) (tp : Nat → Nat) (ti : Nat → Nat) (LN : Nat → Int) (HF : Nat → Int) (gt : ∀ k, k < 4 → tq k = some (tp k)) : Met l yX1_forgetWayAndRecords wsX1_forgetWayAndRecords ({ frames := 1, cells := 0, slots := 0, locals := 20 }) (zP (dC, dI) (zT cI cZ cL cT cJ) sz [.ref lv] [(lv, .inr (1, [.int (zI w), .int (zI h), .ref ka, .ref ta, .int (zI sx), .int (zI sy), .int (zI fx), .int (zI fy), .int (zI lf), .int (zI un)])), zQ cT ta 4 tq, (tp 0, .inr (4, [.ref (ti 0), .int (zI (LN 0)), .int (zI (HF 0))])), (tp 1, .inr (4, [.ref (ti 1), .int (zI (LN 1)), .int (zI (HF 1))])), (tp 2, .inr (4, [.ref (ti 2), .int (zI (LN 2)), .int (zI (HF 2))])), (tp 3, .inr (4, [.ref (ti 3), .int (zI (LN 3)), .int (zI (HF 3))]))]) (va_Qv (fun (u9 : Unit) => match u9 with | _ => (True)) (zB (dC, dI) (zT cI cZ cL cT cJ) (va_A [(lv, .inr (1, [.int (zI w), .int (zI h), .ref ka, .ref ta, .int (zI sx), .int (zI sy), .int (zI fx), .int (zI fy), .int (zI lf), .int (zI un)])), zQ cT ta 4 tq, (tp 0, .inr (4, [.ref (ti 0), .int (zI (LN 0)), .int (zI (HF 0))])), (tp 1, .inr (4, [.ref (ti 1), .int (zI (LN 1)), .int (zI (HF 1))])), (tp 2, .inr (4, [.ref (ti 2), .int (zI (LN 2)), .int (zI (HF 2))])), (tp 3, .inr (4, [.ref (ti 3), .int (zI (LN 3)), .int (zI (HF 3))]))] sz) (fun (u9 : Unit) => match u9 with | _ => [(lv, .inr (1, [.int (zI w), .int (zI h), .ref ka, .ref ta, .int (zI sx), .int (zI sy), .int (zI fx), .int (zI fy), .int (zI (-1)), .int (zI 0)])), zQ cT ta 4 tq, (tp 0, .inr (4, [.ref (ti 0), .int (zI (-1)), .int (zI (-1))])), (tp 1, .inr (4, [.ref (ti 1), .int (zI (-1)), .int (zI (-1))])), (tp 2, .inr (4, [.ref (ti 2), .int (zI (-1)), .int (zI (-1))])), (tp 3, .inr (4, [.ref (ti 3), .int (zI (-1)), .int (zI (-1))]))])) (va_A [(lv, .inr (1, [.int (zI w), .int (zI h), .ref ka, .ref ta, .int (zI sx), .int (zI sy), .int (zI fx), .int (zI fy), .int (zI lf), .int (zI un)])), zQ cT ta 4 tq, (tp 0, .inr (4, [.ref (ti 0), .int (zI (LN 0)), .int (zI (HF 0))])), (tp 1, .inr (4, [.ref (ti 1), .int (zI (LN 1)), .int (zI (HF 1))])), (tp 2, .inr (4, [.ref (ti 2), .int (zI (LN 2)), .int (zI (HF 2))])), (tp 3, .inr (4, [.ref (ti 3), .int (zI (LN 3)), .int (zI (HF 3))]))] sz)) 0 0 (va_A [(lv, .inr (1, [.int (zI w), .int (zI h), .ref ka, .ref ta, .int (zI sx), .int (zI sy), .int (zI fx), .int (zI fy), .int (zI lf), .int (zI un)])), zQ cT ta 4 tq, (tp 0, .inr (4, [.ref (ti 0), .int (zI (LN 0)), .int (zI (HF 0))])), (tp 1, .inr (4, [.ref (ti 1), .int (zI (LN 1)), .int (zI (HF 1))])), (tp 2, .inr (4, [.ref (ti 2), .int (zI (LN 2)), .int (zI (HF 2))])), (tp 3, .inr (4, [.ref (ti 3), .int (zI (LN 3)), .int (zI (HF 3))]))] sz) := by
  refine Met.ofW (cc := cX1_forgetWayAndRecords) (maxL := 5) (ret := none) (by decide) rfl ?_
  intro p e s m args below meth c s₁ B hml hv
  obtain ⟨rfl, hsz, hP, hK, hD0⟩ := hv
  have hx := B.exec
  have hb := B.bytes
  have hr := B.returns
  have hts := atoms_spec (ws := wsX1_forgetWayAndRecords) B.pre
  have hown : s.vm.findClass RX1 = some m.cls := findClass_of_methodNamed B.named
  have hlocks := B.notSynchronized
  subst hsz
  have hD := hD0.self (sz := s.heap.size)
  generalize hAe : va_A [(lv, .inr (1, [.int (zI w), .int (zI h), .ref ka, .ref ta, .int (zI sx), .int (zI sy), .int (zI fx), .int (zI fy), .int (zI lf), .int (zI un)])), zQ cT ta 4 tq, (tp 0, .inr (4, [.ref (ti 0), .int (zI (LN 0)), .int (zI (HF 0))])), (tp 1, .inr (4, [.ref (ti 1), .int (zI (LN 1)), .int (zI (HF 1))])), (tp 2, .inr (4, [.ref (ti 2), .int (zI (LN 2)), .int (zI (HF 2))])), (tp 3, .inr (4, [.ref (ti 3), .int (zI (LN 3)), .int (zI (HF 3))]))] s.heap.size = A at hD ⊢
  have hA : ∀ q : Nat, s.heap.size ≤ q → A q := fun q h => by rw [← hAe]; exact Or.inr h
  clear hAe hD0
  have hS : va_S A s.heap s.heap [] := va_S.rf
  have hP : va_P (dC, dI) vwCl [(lv, .inr (1, [.int (zI w), .int (zI h), .ref ka, .ref ta, .int (zI sx), .int (zI sy), .int (zI fx), .int (zI fy), .int (zI lf), .int (zI un)])), zQ cT ta 4 tq, (tp 0, .inr (4, [.ref (ti 0), .int (zI (LN 0)), .int (zI (HF 0))])), (tp 1, .inr (4, [.ref (ti 1), .int (zI (LN 1)), .int (zI (HF 1))])), (tp 2, .inr (4, [.ref (ti 2), .int (zI (LN 2)), .int (zI (HF 2))])), (tp 3, .inr (4, [.ref (ti 3), .int (zI (LN 3)), .int (zI (HF 3))]))] s.heap := hP
  have f_28 := hts (.fieldLink RX1 28 "SpringLevels$Level" "tapes" "[LSpringLevels$Tape;") (by decide +kernel)
  have f_45 := hts (.fieldLink RX1 45 "SpringLevels$Level" "leastFrames" "I") (by decide +kernel)
  have f_48 := hts (.fieldLink RX1 48 "SpringLevels$Level" "unlocked" "Z") (by decide +kernel)
  have i_1 : ∀ w ∈ wsX10, w ∈ wsX1_forgetWayAndRecords := by decide +kernel
  have hl := lv_entry ([.ref lv]) (n := 5) (Nat.le_of_ble_eq_true rfl)
  rw [lg_entry_eq]
  generalize (lg_sl ([.ref lv]) ++ List.replicate (5 - (lg_sl ([.ref lv])).length) Slot.unset).toArray = ls at hl ⊢
  have hl : lv_has ls 5 [(0, .ref lv)] := hl
  refine lv_aload_n hx hb dX1_forgetWayAndRecords_0 rfl (lv_at hl 0 rfl) ?_
  refine lv_iconst (v := zI (-1)) hx hb dX1_forgetWayAndRecords_1 (rfl) ?_
  refine va_put (D := (dC, dI)) (ci := 1) (v := .int (zI (-1))) (ty := .int) (C := RX1) (T := TX1) (N := 10) hx hb hts i_1 tyX1 tyX1_ok nmX1 hown hK hP hD hS 0 rfl rfl 8 (by decide) f_45 (fun _ h9 => h9) rfl (by decide +kernel) rfl rfl (Nat.le_of_ble_eq_true rfl) dX1_forgetWayAndRecords_2 (fun H locs hP hD hS => ?_)
  have hP : va_P (dC, dI) vwCl [(lv, .inr (1, [.int (zI w), .int (zI h), .ref ka, .ref ta, .int (zI sx), .int (zI sy), .int (zI fx), .int (zI fy), .int (zI (-1)), .int (zI un)])), zQ cT ta 4 tq, (tp 0, .inr (4, [.ref (ti 0), .int (zI (LN 0)), .int (zI (HF 0))])), (tp 1, .inr (4, [.ref (ti 1), .int (zI (LN 1)), .int (zI (HF 1))])), (tp 2, .inr (4, [.ref (ti 2), .int (zI (LN 2)), .int (zI (HF 2))])), (tp 3, .inr (4, [.ref (ti 3), .int (zI (LN 3)), .int (zI (HF 3))]))] H := hP
  have hD : va_D A [(lv, .inr (1, [.int (zI w), .int (zI h), .ref ka, .ref ta, .int (zI sx), .int (zI sy), .int (zI fx), .int (zI fy), .int (zI (-1)), .int (zI un)])), zQ cT ta 4 tq, (tp 0, .inr (4, [.ref (ti 0), .int (zI (LN 0)), .int (zI (HF 0))])), (tp 1, .inr (4, [.ref (ti 1), .int (zI (LN 1)), .int (zI (HF 1))])), (tp 2, .inr (4, [.ref (ti 2), .int (zI (LN 2)), .int (zI (HF 2))])), (tp 3, .inr (4, [.ref (ti 3), .int (zI (LN 3)), .int (zI (HF 3))]))] := hD
  refine lv_aload_n hx hb dX1_forgetWayAndRecords_5 rfl (lv_at hl 0 rfl) ?_
  refine lv_iconst (v := zI 0) hx hb dX1_forgetWayAndRecords_6 (rfl) ?_
  refine va_put (D := (dC, dI)) (ci := 1) (v := .int (zI 0)) (ty := .boolean) (C := RX1) (T := TX1) (N := 10) hx hb hts i_1 tyX1 tyX1_ok nmX1 hown hK hP hD hS 0 rfl rfl 9 (by decide) f_48 (fun _ h9 => h9) rfl (by decide +kernel) (by first | rfl | decide) (by first | rfl | decide) (Nat.le_of_ble_eq_true rfl) dX1_forgetWayAndRecords_7 (fun H locs hP hD hS => ?_)
  have hP : va_P (dC, dI) vwCl [(lv, .inr (1, [.int (zI w), .int (zI h), .ref ka, .ref ta, .int (zI sx), .int (zI sy), .int (zI fx), .int (zI fy), .int (zI (-1)), .int (zI 0)])), zQ cT ta 4 tq, (tp 0, .inr (4, [.ref (ti 0), .int (zI (LN 0)), .int (zI (HF 0))])), (tp 1, .inr (4, [.ref (ti 1), .int (zI (LN 1)), .int (zI (HF 1))])), (tp 2, .inr (4, [.ref (ti 2), .int (zI (LN 2)), .int (zI (HF 2))])), (tp 3, .inr (4, [.ref (ti 3), .int (zI (LN 3)), .int (zI (HF 3))]))] H := hP
  have hD : va_D A [(lv, .inr (1, [.int (zI w), .int (zI h), .ref ka, .ref ta, .int (zI sx), .int (zI sy), .int (zI fx), .int (zI fy), .int (zI (-1)), .int (zI 0)])), zQ cT ta 4 tq, (tp 0, .inr (4, [.ref (ti 0), .int (zI (LN 0)), .int (zI (HF 0))])), (tp 1, .inr (4, [.ref (ti 1), .int (zI (LN 1)), .int (zI (HF 1))])), (tp 2, .inr (4, [.ref (ti 2), .int (zI (LN 2)), .int (zI (HF 2))])), (tp 3, .inr (4, [.ref (ti 3), .int (zI (LN 3)), .int (zI (HF 3))]))] := hD
  refine lv_aload_n hx hb dX1_forgetWayAndRecords_10 rfl (lv_at hl 0 rfl) ?_
  refine va_get (D := (dC, dI)) (ci := 1) (v := .ref ta) (C := RX1) (T := TX1) (N := 10) hx hb hts i_1 hown hK hP 0 rfl rfl 3 (by decide) f_28 (fun _ h9 => h9) rfl dX1_forgetWayAndRecords_11 ?_
  refine lv_astore_n (lv' := [(1, .ref ta), (0, .ref lv)]) hx hb dX1_forgetWayAndRecords_14 rfl hl (by decide) rfl (fun ls hl => ?_)
  refine lv_aload_n hx hb dX1_forgetWayAndRecords_15 rfl (lv_at hl 0 rfl) ?_
  refine va_alen (v := zI 4) hx hb hK hP 1 3 rfl rfl rfl dX1_forgetWayAndRecords_16 ?_
  refine lv_istore_n (lv' := [(2, .int (zI 4)), (1, .ref ta), (0, .ref lv)]) hx hb dX1_forgetWayAndRecords_17 rfl hl (by decide) rfl (fun ls hl => ?_)
  refine lv_iconst (v := zI 0) hx hb dX1_forgetWayAndRecords_18 (rfl) ?_
  refine lv_istore_n (lv' := [(3, .int (zI 0)), (2, .int (zI 4)), (1, .ref ta), (0, .ref lv)]) hx hb dX1_forgetWayAndRecords_19 rfl hl (by decide) rfl (fun ls hl => ?_)
  refine lv_iload_n hx hb dX1_forgetWayAndRecords_20 rfl (lv_at hl 0 rfl) ?_
  refine lv_iload_n hx hb dX1_forgetWayAndRecords_21 rfl (lv_at hl 1 rfl) ?_
  refine lz_icmp_ge (tgt := 41) hx hb dX1_forgetWayAndRecords_22 (by decide) ⟨by decide, by decide⟩ ⟨by decide, by decide⟩ (fun c_1 => ?_) (fun c_1 => ?_)
  · exact absurd c_1 (by decide)
  ·
    refine lv_aload_n hx hb dX1_forgetWayAndRecords_25 rfl (lv_at hl 2 rfl) ?_
    refine lv_iload_n hx hb dX1_forgetWayAndRecords_26 rfl (lv_at hl 0 rfl) ?_
    refine lz_aldq (k := 0) (f := tq) (v := .ref (tp 0)) hx hb hK hP 1 3 rfl rfl (by omega) (by omega) (by decide) (by rw [gt 0 (by decide)]; rfl) dX1_forgetWayAndRecords_27 ?_
    refine lv_astore (lv' := [(4, .ref (tp 0)), (3, .int (zI 0)), (2, .int (zI 4)), (1, .ref ta), (0, .ref lv)]) hx hb dX1_forgetWayAndRecords_28 hl (by decide) rfl (fun ls hl => ?_)
    refine lv_aload hx hb dX1_forgetWayAndRecords_30 (lv_at hl 0 rfl) ?_
    have hPc := hP.sub (ws' := [(tp 0, .inr (4, [.ref (ti 0), .int (zI (LN 0)), .int (zI (HF 0))]))]) [2] rfl
    have hDc := hD.sub (ws' := [(tp 0, .inr (4, [.ref (ti 0), .int (zI (LN 0)), .int (zI (HF 0))]))]) [2] (by decide) rfl
    have hFc := va_free (wc := [(tp 0, .inr (4, [.ref (ti 0), .int (zI (LN 0)), .int (zI (HF 0))]))]) hD hS hA [2] rfl
    refine va_callv (va_runV (As := []) (rest := []) ⟨hx, hb, hml, hown, hts⟩ (c_X4_clear l dC dI cI cZ cL cT cJ H.size (tp 0) (ti 0) (LN 0) (HF 0) ) (cwV 0 hts gX1_forgetWayAndRecords_X4_clear rfl rfl rfl (by decide +kernel) ⟨Nat.le_of_ble_eq_true rfl, Nat.le_of_ble_eq_true rfl⟩) ⟨zP_blind, va_recv hK hPc (ci := 4) (q0 := 0) rfl rfl, zP_pre hPc hDc hK⟩ rfl rfl hl.1 rfl (lv_room (Nat.le_of_ble_eq_true rfl)) dX1_forgetWayAndRecords_32 ⟨Nat.le_of_ble_eq_true rfl, Nat.le_of_ble_eq_true rfl⟩) hS (fun q _ h => hFc q h) hFc (fun u_2 t H1 locs ht hvm hw hB hz1 hk1 hS => ?_)
    obtain ⟨hP1, hK1, hD1⟩ := hB
    rw [ht] at hP1
    have hP1 : va_P (dC, dI) vwCl [(tp 0, .inr (4, [.ref (ti 0), .int (zI (-1)), .int (zI (-1))]))] H1 := hP1
    obtain ⟨hP, hD⟩ := va_join (wr := [(lv, .inr (1, [.int (zI w), .int (zI h), .ref ka, .ref ta, .int (zI sx), .int (zI sy), .int (zI fx), .int (zI fy), .int (zI (-1)), .int (zI 0)])), zQ cT ta 4 tq, (tp 1, .inr (4, [.ref (ti 1), .int (zI (LN 1)), .int (zI (HF 1))])), (tp 2, .inr (4, [.ref (ti 2), .int (zI (LN 2)), .int (zI (HF 2))])), (tp 3, .inr (4, [.ref (ti 3), .int (zI (LN 3)), .int (zI (HF 3))]))]) (w1 := [(tp 0, .inr (4, [.ref (ti 0), .int (zI (-1)), .int (zI (-1))]))]) hP hD [2] [0, 1, 3, 4, 5] rfl rfl (by decide) (by decide) hk1 hFc hP1 hD1
    clear hP1 hD1 hk1 hFc hPc hDc hz1
    generalize H1 = H at hP hS ⊢
    have hP : va_P (dC, dI) vwCl [(lv, .inr (1, [.int (zI w), .int (zI h), .ref ka, .ref ta, .int (zI sx), .int (zI sy), .int (zI fx), .int (zI fy), .int (zI (-1)), .int (zI 0)])), zQ cT ta 4 tq, (tp 0, .inr (4, [.ref (ti 0), .int (zI (-1)), .int (zI (-1))])), (tp 1, .inr (4, [.ref (ti 1), .int (zI (LN 1)), .int (zI (HF 1))])), (tp 2, .inr (4, [.ref (ti 2), .int (zI (LN 2)), .int (zI (HF 2))])), (tp 3, .inr (4, [.ref (ti 3), .int (zI (LN 3)), .int (zI (HF 3))]))] H := hP.sub [0, 1, 5, 2, 3, 4] rfl
    have hD : va_D A [(lv, .inr (1, [.int (zI w), .int (zI h), .ref ka, .ref ta, .int (zI sx), .int (zI sy), .int (zI fx), .int (zI fy), .int (zI (-1)), .int (zI 0)])), zQ cT ta 4 tq, (tp 0, .inr (4, [.ref (ti 0), .int (zI (-1)), .int (zI (-1))])), (tp 1, .inr (4, [.ref (ti 1), .int (zI (LN 1)), .int (zI (HF 1))])), (tp 2, .inr (4, [.ref (ti 2), .int (zI (LN 2)), .int (zI (HF 2))])), (tp 3, .inr (4, [.ref (ti 3), .int (zI (LN 3)), .int (zI (HF 3))]))] := hD.sub [0, 1, 5, 2, 3, 4] (by decide) rfl
    clear hK1 hvm
    refine W.eq (g2 := F0 m 35 ls []) rfl ?_
    refine lz_iinc (z := 1) (lv' := [(3, .int (zI 1)), (4, .ref (tp 0)), (2, .int (zI 4)), (1, .ref ta), (0, .ref lv)]) hx hb dX1_forgetWayAndRecords_35 hl (k := 1) rfl (by omega) (by decide) rfl (fun ls hl => ?_)
    refine lv_goto (tgt := 20) hx hb dX1_forgetWayAndRecords_38 (by decide) ?_
    refine lv_iload_n hx hb dX1_forgetWayAndRecords_20 rfl (lv_at hl 0 rfl) ?_
    refine lv_iload_n hx hb dX1_forgetWayAndRecords_21 rfl (lv_at hl 2 rfl) ?_
    refine lz_icmp_ge (tgt := 41) hx hb dX1_forgetWayAndRecords_22 (by decide) ⟨by decide, by decide⟩ ⟨by decide, by decide⟩ (fun c_4 => ?_) (fun c_4 => ?_)
    · exact absurd c_4 (by decide)
    ·
      refine lv_aload_n hx hb dX1_forgetWayAndRecords_25 rfl (lv_at hl 3 rfl) ?_
      refine lv_iload_n hx hb dX1_forgetWayAndRecords_26 rfl (lv_at hl 0 rfl) ?_
      refine lz_aldq (k := 1) (f := tq) (v := .ref (tp 1)) hx hb hK hP 1 3 rfl rfl (by omega) (by omega) (by decide) (by rw [gt 1 (by decide)]; rfl) dX1_forgetWayAndRecords_27 ?_
      refine lv_astore (lv' := [(4, .ref (tp 1)), (3, .int (zI 1)), (2, .int (zI 4)), (1, .ref ta), (0, .ref lv)]) hx hb dX1_forgetWayAndRecords_28 hl (by decide) rfl (fun ls hl => ?_)
      refine lv_aload hx hb dX1_forgetWayAndRecords_30 (lv_at hl 0 rfl) ?_
      have hPc := hP.sub (ws' := [(tp 1, .inr (4, [.ref (ti 1), .int (zI (LN 1)), .int (zI (HF 1))]))]) [3] rfl
      have hDc := hD.sub (ws' := [(tp 1, .inr (4, [.ref (ti 1), .int (zI (LN 1)), .int (zI (HF 1))]))]) [3] (by decide) rfl
      have hFc := va_free (wc := [(tp 1, .inr (4, [.ref (ti 1), .int (zI (LN 1)), .int (zI (HF 1))]))]) hD hS hA [3] rfl
      refine va_callv (va_runV (As := []) (rest := []) ⟨hx, hb, hml, hown, hts⟩ (c_X4_clear l dC dI cI cZ cL cT cJ H.size (tp 1) (ti 1) (LN 1) (HF 1) ) (cwV 0 hts gX1_forgetWayAndRecords_X4_clear rfl rfl rfl (by decide +kernel) ⟨Nat.le_of_ble_eq_true rfl, Nat.le_of_ble_eq_true rfl⟩) ⟨zP_blind, va_recv hK hPc (ci := 4) (q0 := 0) rfl rfl, zP_pre hPc hDc hK⟩ rfl rfl hl.1 rfl (lv_room (Nat.le_of_ble_eq_true rfl)) dX1_forgetWayAndRecords_32 ⟨Nat.le_of_ble_eq_true rfl, Nat.le_of_ble_eq_true rfl⟩) hS (fun q _ h => hFc q h) hFc (fun u_5 t H1 locs ht hvm hw hB hz1 hk1 hS => ?_)
      obtain ⟨hP1, hK1, hD1⟩ := hB
      rw [ht] at hP1
      have hP1 : va_P (dC, dI) vwCl [(tp 1, .inr (4, [.ref (ti 1), .int (zI (-1)), .int (zI (-1))]))] H1 := hP1
      obtain ⟨hP, hD⟩ := va_join (wr := [(lv, .inr (1, [.int (zI w), .int (zI h), .ref ka, .ref ta, .int (zI sx), .int (zI sy), .int (zI fx), .int (zI fy), .int (zI (-1)), .int (zI 0)])), zQ cT ta 4 tq, (tp 0, .inr (4, [.ref (ti 0), .int (zI (-1)), .int (zI (-1))])), (tp 2, .inr (4, [.ref (ti 2), .int (zI (LN 2)), .int (zI (HF 2))])), (tp 3, .inr (4, [.ref (ti 3), .int (zI (LN 3)), .int (zI (HF 3))]))]) (w1 := [(tp 1, .inr (4, [.ref (ti 1), .int (zI (-1)), .int (zI (-1))]))]) hP hD [3] [0, 1, 2, 4, 5] rfl rfl (by decide) (by decide) hk1 hFc hP1 hD1
      clear hP1 hD1 hk1 hFc hPc hDc hz1
      generalize H1 = H at hP hS ⊢
      have hP : va_P (dC, dI) vwCl [(lv, .inr (1, [.int (zI w), .int (zI h), .ref ka, .ref ta, .int (zI sx), .int (zI sy), .int (zI fx), .int (zI fy), .int (zI (-1)), .int (zI 0)])), zQ cT ta 4 tq, (tp 0, .inr (4, [.ref (ti 0), .int (zI (-1)), .int (zI (-1))])), (tp 1, .inr (4, [.ref (ti 1), .int (zI (-1)), .int (zI (-1))])), (tp 2, .inr (4, [.ref (ti 2), .int (zI (LN 2)), .int (zI (HF 2))])), (tp 3, .inr (4, [.ref (ti 3), .int (zI (LN 3)), .int (zI (HF 3))]))] H := hP.sub [0, 1, 2, 5, 3, 4] rfl
      have hD : va_D A [(lv, .inr (1, [.int (zI w), .int (zI h), .ref ka, .ref ta, .int (zI sx), .int (zI sy), .int (zI fx), .int (zI fy), .int (zI (-1)), .int (zI 0)])), zQ cT ta 4 tq, (tp 0, .inr (4, [.ref (ti 0), .int (zI (-1)), .int (zI (-1))])), (tp 1, .inr (4, [.ref (ti 1), .int (zI (-1)), .int (zI (-1))])), (tp 2, .inr (4, [.ref (ti 2), .int (zI (LN 2)), .int (zI (HF 2))])), (tp 3, .inr (4, [.ref (ti 3), .int (zI (LN 3)), .int (zI (HF 3))]))] := hD.sub [0, 1, 2, 5, 3, 4] (by decide) rfl
      clear hK1 hvm
      refine W.eq (g2 := F0 m 35 ls []) rfl ?_
      refine lz_iinc (z := 2) (lv' := [(3, .int (zI 2)), (4, .ref (tp 1)), (2, .int (zI 4)), (1, .ref ta), (0, .ref lv)]) hx hb dX1_forgetWayAndRecords_35 hl (k := 1) rfl (by omega) (by decide) rfl (fun ls hl => ?_)
      refine lv_goto (tgt := 20) hx hb dX1_forgetWayAndRecords_38 (by decide) ?_
      refine lv_iload_n hx hb dX1_forgetWayAndRecords_20 rfl (lv_at hl 0 rfl) ?_
      refine lv_iload_n hx hb dX1_forgetWayAndRecords_21 rfl (lv_at hl 2 rfl) ?_
      refine lz_icmp_ge (tgt := 41) hx hb dX1_forgetWayAndRecords_22 (by decide) ⟨by decide, by decide⟩ ⟨by decide, by decide⟩ (fun c_7 => ?_) (fun c_7 => ?_)
      · exact absurd c_7 (by decide)
      ·
        refine lv_aload_n hx hb dX1_forgetWayAndRecords_25 rfl (lv_at hl 3 rfl) ?_
        refine lv_iload_n hx hb dX1_forgetWayAndRecords_26 rfl (lv_at hl 0 rfl) ?_
        refine lz_aldq (k := 2) (f := tq) (v := .ref (tp 2)) hx hb hK hP 1 3 rfl rfl (by omega) (by omega) (by decide) (by rw [gt 2 (by decide)]; rfl) dX1_forgetWayAndRecords_27 ?_
        refine lv_astore (lv' := [(4, .ref (tp 2)), (3, .int (zI 2)), (2, .int (zI 4)), (1, .ref ta), (0, .ref lv)]) hx hb dX1_forgetWayAndRecords_28 hl (by decide) rfl (fun ls hl => ?_)
        refine lv_aload hx hb dX1_forgetWayAndRecords_30 (lv_at hl 0 rfl) ?_
        have hPc := hP.sub (ws' := [(tp 2, .inr (4, [.ref (ti 2), .int (zI (LN 2)), .int (zI (HF 2))]))]) [4] rfl
        have hDc := hD.sub (ws' := [(tp 2, .inr (4, [.ref (ti 2), .int (zI (LN 2)), .int (zI (HF 2))]))]) [4] (by decide) rfl
        have hFc := va_free (wc := [(tp 2, .inr (4, [.ref (ti 2), .int (zI (LN 2)), .int (zI (HF 2))]))]) hD hS hA [4] rfl
        refine va_callv (va_runV (As := []) (rest := []) ⟨hx, hb, hml, hown, hts⟩ (c_X4_clear l dC dI cI cZ cL cT cJ H.size (tp 2) (ti 2) (LN 2) (HF 2) ) (cwV 0 hts gX1_forgetWayAndRecords_X4_clear rfl rfl rfl (by decide +kernel) ⟨Nat.le_of_ble_eq_true rfl, Nat.le_of_ble_eq_true rfl⟩) ⟨zP_blind, va_recv hK hPc (ci := 4) (q0 := 0) rfl rfl, zP_pre hPc hDc hK⟩ rfl rfl hl.1 rfl (lv_room (Nat.le_of_ble_eq_true rfl)) dX1_forgetWayAndRecords_32 ⟨Nat.le_of_ble_eq_true rfl, Nat.le_of_ble_eq_true rfl⟩) hS (fun q _ h => hFc q h) hFc (fun u_8 t H1 locs ht hvm hw hB hz1 hk1 hS => ?_)
        obtain ⟨hP1, hK1, hD1⟩ := hB
        rw [ht] at hP1
        have hP1 : va_P (dC, dI) vwCl [(tp 2, .inr (4, [.ref (ti 2), .int (zI (-1)), .int (zI (-1))]))] H1 := hP1
        obtain ⟨hP, hD⟩ := va_join (wr := [(lv, .inr (1, [.int (zI w), .int (zI h), .ref ka, .ref ta, .int (zI sx), .int (zI sy), .int (zI fx), .int (zI fy), .int (zI (-1)), .int (zI 0)])), zQ cT ta 4 tq, (tp 0, .inr (4, [.ref (ti 0), .int (zI (-1)), .int (zI (-1))])), (tp 1, .inr (4, [.ref (ti 1), .int (zI (-1)), .int (zI (-1))])), (tp 3, .inr (4, [.ref (ti 3), .int (zI (LN 3)), .int (zI (HF 3))]))]) (w1 := [(tp 2, .inr (4, [.ref (ti 2), .int (zI (-1)), .int (zI (-1))]))]) hP hD [4] [0, 1, 2, 3, 5] rfl rfl (by decide) (by decide) hk1 hFc hP1 hD1
        clear hP1 hD1 hk1 hFc hPc hDc hz1
        generalize H1 = H at hP hS ⊢
        have hP : va_P (dC, dI) vwCl [(lv, .inr (1, [.int (zI w), .int (zI h), .ref ka, .ref ta, .int (zI sx), .int (zI sy), .int (zI fx), .int (zI fy), .int (zI (-1)), .int (zI 0)])), zQ cT ta 4 tq, (tp 0, .inr (4, [.ref (ti 0), .int (zI (-1)), .int (zI (-1))])), (tp 1, .inr (4, [.ref (ti 1), .int (zI (-1)), .int (zI (-1))])), (tp 2, .inr (4, [.ref (ti 2), .int (zI (-1)), .int (zI (-1))])), (tp 3, .inr (4, [.ref (ti 3), .int (zI (LN 3)), .int (zI (HF 3))]))] H := hP.sub [0, 1, 2, 3, 5, 4] rfl
        have hD : va_D A [(lv, .inr (1, [.int (zI w), .int (zI h), .ref ka, .ref ta, .int (zI sx), .int (zI sy), .int (zI fx), .int (zI fy), .int (zI (-1)), .int (zI 0)])), zQ cT ta 4 tq, (tp 0, .inr (4, [.ref (ti 0), .int (zI (-1)), .int (zI (-1))])), (tp 1, .inr (4, [.ref (ti 1), .int (zI (-1)), .int (zI (-1))])), (tp 2, .inr (4, [.ref (ti 2), .int (zI (-1)), .int (zI (-1))])), (tp 3, .inr (4, [.ref (ti 3), .int (zI (LN 3)), .int (zI (HF 3))]))] := hD.sub [0, 1, 2, 3, 5, 4] (by decide) rfl
        clear hK1 hvm
        refine W.eq (g2 := F0 m 35 ls []) rfl ?_
        refine lz_iinc (z := 3) (lv' := [(3, .int (zI 3)), (4, .ref (tp 2)), (2, .int (zI 4)), (1, .ref ta), (0, .ref lv)]) hx hb dX1_forgetWayAndRecords_35 hl (k := 1) rfl (by omega) (by decide) rfl (fun ls hl => ?_)
        refine lv_goto (tgt := 20) hx hb dX1_forgetWayAndRecords_38 (by decide) ?_
        refine lv_iload_n hx hb dX1_forgetWayAndRecords_20 rfl (lv_at hl 0 rfl) ?_
        refine lv_iload_n hx hb dX1_forgetWayAndRecords_21 rfl (lv_at hl 2 rfl) ?_
        refine lz_icmp_ge (tgt := 41) hx hb dX1_forgetWayAndRecords_22 (by decide) ⟨by decide, by decide⟩ ⟨by decide, by decide⟩ (fun c_10 => ?_) (fun c_10 => ?_)
        · exact absurd c_10 (by decide)
        ·
          refine lv_aload_n hx hb dX1_forgetWayAndRecords_25 rfl (lv_at hl 3 rfl) ?_
          refine lv_iload_n hx hb dX1_forgetWayAndRecords_26 rfl (lv_at hl 0 rfl) ?_
          refine lz_aldq (k := 3) (f := tq) (v := .ref (tp 3)) hx hb hK hP 1 3 rfl rfl (by omega) (by omega) (by decide) (by rw [gt 3 (by decide)]; rfl) dX1_forgetWayAndRecords_27 ?_
          refine lv_astore (lv' := [(4, .ref (tp 3)), (3, .int (zI 3)), (2, .int (zI 4)), (1, .ref ta), (0, .ref lv)]) hx hb dX1_forgetWayAndRecords_28 hl (by decide) rfl (fun ls hl => ?_)
          refine lv_aload hx hb dX1_forgetWayAndRecords_30 (lv_at hl 0 rfl) ?_
          have hPc := hP.sub (ws' := [(tp 3, .inr (4, [.ref (ti 3), .int (zI (LN 3)), .int (zI (HF 3))]))]) [5] rfl
          have hDc := hD.sub (ws' := [(tp 3, .inr (4, [.ref (ti 3), .int (zI (LN 3)), .int (zI (HF 3))]))]) [5] (by decide) rfl
          have hFc := va_free (wc := [(tp 3, .inr (4, [.ref (ti 3), .int (zI (LN 3)), .int (zI (HF 3))]))]) hD hS hA [5] rfl
          refine va_callv (va_runV (As := []) (rest := []) ⟨hx, hb, hml, hown, hts⟩ (c_X4_clear l dC dI cI cZ cL cT cJ H.size (tp 3) (ti 3) (LN 3) (HF 3) ) (cwV 0 hts gX1_forgetWayAndRecords_X4_clear rfl rfl rfl (by decide +kernel) ⟨Nat.le_of_ble_eq_true rfl, Nat.le_of_ble_eq_true rfl⟩) ⟨zP_blind, va_recv hK hPc (ci := 4) (q0 := 0) rfl rfl, zP_pre hPc hDc hK⟩ rfl rfl hl.1 rfl (lv_room (Nat.le_of_ble_eq_true rfl)) dX1_forgetWayAndRecords_32 ⟨Nat.le_of_ble_eq_true rfl, Nat.le_of_ble_eq_true rfl⟩) hS (fun q _ h => hFc q h) hFc (fun u_11 t H1 locs ht hvm hw hB hz1 hk1 hS => ?_)
          obtain ⟨hP1, hK1, hD1⟩ := hB
          rw [ht] at hP1
          have hP1 : va_P (dC, dI) vwCl [(tp 3, .inr (4, [.ref (ti 3), .int (zI (-1)), .int (zI (-1))]))] H1 := hP1
          obtain ⟨hP, hD⟩ := va_join (wr := [(lv, .inr (1, [.int (zI w), .int (zI h), .ref ka, .ref ta, .int (zI sx), .int (zI sy), .int (zI fx), .int (zI fy), .int (zI (-1)), .int (zI 0)])), zQ cT ta 4 tq, (tp 0, .inr (4, [.ref (ti 0), .int (zI (-1)), .int (zI (-1))])), (tp 1, .inr (4, [.ref (ti 1), .int (zI (-1)), .int (zI (-1))])), (tp 2, .inr (4, [.ref (ti 2), .int (zI (-1)), .int (zI (-1))]))]) (w1 := [(tp 3, .inr (4, [.ref (ti 3), .int (zI (-1)), .int (zI (-1))]))]) hP hD [5] [0, 1, 2, 3, 4] rfl rfl (by decide) (by decide) hk1 hFc hP1 hD1
          clear hP1 hD1 hk1 hFc hPc hDc hz1
          generalize H1 = H at hP hS ⊢
          have hP : va_P (dC, dI) vwCl [(lv, .inr (1, [.int (zI w), .int (zI h), .ref ka, .ref ta, .int (zI sx), .int (zI sy), .int (zI fx), .int (zI fy), .int (zI (-1)), .int (zI 0)])), zQ cT ta 4 tq, (tp 0, .inr (4, [.ref (ti 0), .int (zI (-1)), .int (zI (-1))])), (tp 1, .inr (4, [.ref (ti 1), .int (zI (-1)), .int (zI (-1))])), (tp 2, .inr (4, [.ref (ti 2), .int (zI (-1)), .int (zI (-1))])), (tp 3, .inr (4, [.ref (ti 3), .int (zI (-1)), .int (zI (-1))]))] H := hP.sub [0, 1, 2, 3, 4, 5] rfl
          have hD : va_D A [(lv, .inr (1, [.int (zI w), .int (zI h), .ref ka, .ref ta, .int (zI sx), .int (zI sy), .int (zI fx), .int (zI fy), .int (zI (-1)), .int (zI 0)])), zQ cT ta 4 tq, (tp 0, .inr (4, [.ref (ti 0), .int (zI (-1)), .int (zI (-1))])), (tp 1, .inr (4, [.ref (ti 1), .int (zI (-1)), .int (zI (-1))])), (tp 2, .inr (4, [.ref (ti 2), .int (zI (-1)), .int (zI (-1))])), (tp 3, .inr (4, [.ref (ti 3), .int (zI (-1)), .int (zI (-1))]))] := hD.sub [0, 1, 2, 3, 4, 5] (by decide) rfl
          clear hK1 hvm
          refine W.eq (g2 := F0 m 35 ls []) rfl ?_
          refine lz_iinc (z := 4) (lv' := [(3, .int (zI 4)), (4, .ref (tp 3)), (2, .int (zI 4)), (1, .ref ta), (0, .ref lv)]) hx hb dX1_forgetWayAndRecords_35 hl (k := 1) rfl (by omega) (by decide) rfl (fun ls hl => ?_)
          refine lv_goto (tgt := 20) hx hb dX1_forgetWayAndRecords_38 (by decide) ?_
          refine lv_iload_n hx hb dX1_forgetWayAndRecords_20 rfl (lv_at hl 0 rfl) ?_
          refine lv_iload_n hx hb dX1_forgetWayAndRecords_21 rfl (lv_at hl 2 rfl) ?_
          refine lz_icmp_ge (tgt := 41) hx hb dX1_forgetWayAndRecords_22 (by decide) ⟨by decide, by decide⟩ ⟨by decide, by decide⟩ (fun c_13 => ?_) (fun c_13 => ?_)
          ·
            have hP9 := hP.sub (ws' := [(lv, .inr (1, [.int (zI w), .int (zI h), .ref ka, .ref ta, .int (zI sx), .int (zI sy), .int (zI fx), .int (zI fy), .int (zI (-1)), .int (zI 0)])), zQ cT ta 4 tq, (tp 0, .inr (4, [.ref (ti 0), .int (zI (-1)), .int (zI (-1))])), (tp 1, .inr (4, [.ref (ti 1), .int (zI (-1)), .int (zI (-1))])), (tp 2, .inr (4, [.ref (ti 2), .int (zI (-1)), .int (zI (-1))])), (tp 3, .inr (4, [.ref (ti 3), .int (zI (-1)), .int (zI (-1))]))]) [0, 1, 2, 3, 4, 5] rfl
            have hD9 := hD.sub (ws' := [(lv, .inr (1, [.int (zI w), .int (zI h), .ref ka, .ref ta, .int (zI sx), .int (zI sy), .int (zI fx), .int (zI fy), .int (zI (-1)), .int (zI 0)])), zQ cT ta 4 tq, (tp 0, .inr (4, [.ref (ti 0), .int (zI (-1)), .int (zI (-1))])), (tp 1, .inr (4, [.ref (ti 1), .int (zI (-1)), .int (zI (-1))])), (tp 2, .inr (4, [.ref (ti 2), .int (zI (-1)), .int (zI (-1))])), (tp 3, .inr (4, [.ref (ti 3), .int (zI (-1)), .int (zI (-1))]))]) [0, 1, 2, 3, 4, 5] (by decide) rfl
            have po : (True) := by
              trivial
            exact W.vret hx hb hr (fun t ht hW => ⟨⟨(), rfl, po, by rw [ht]; exact hP9, va_K.moved hW.alike hK, hD9⟩, hS.F ht⟩) hS.2.2 dX1_forgetWayAndRecords_41
          · exact absurd c_13 (by decide)
set_option maxHeartbeats 4000000 in
set_option maxRecDepth 100000 in
/-- Level.tapeOf, a player -/
theorem c_X1_tapeOf (l : Launch) (dC : Nat → ClassId) (dI : Nat → Nat → Nat) (cI cZ cL cT cJ : ClassId) (sz : Nat) (lv : Nat) (w : Int) (h : Int) (ka : Nat) (ta : Nat) (sx : Int) (sy : Int) (fx : Int) (fy : Int) (lf : Int) (un : Int) (tq : Nat → Option Nat) (tp : Nat → Nat) (pl : Int) (k : Nat) (gt : ∀ k, k < 4 → tq k = some (tp k)) (gk : pl = (k : Int) ∧ k < 4) : Met l yX1_tapeOf wsX1_tapeOf ({ frames := 0, cells := 0, slots := 0, locals := 0 }) (zP (dC, dI) (zT cI cZ cL cT cJ) sz [.ref lv, .int (zI pl)] [(lv, .inr (1, [.int (zI w), .int (zI h), .ref ka, .ref ta, .int (zI sx), .int (zI sy), .int (zI fx), .int (zI fy), .int (zI lf), .int (zI un)])), zQ cT ta 4 tq]) (va_Qq (fun (r9 : Option Nat) (u9 : Unit) => match u9 with | _ => r9 = some (tp k) ∧ (True)) (zB (dC, dI) (zT cI cZ cL cT cJ) (va_A [(lv, .inr (1, [.int (zI w), .int (zI h), .ref ka, .ref ta, .int (zI sx), .int (zI sy), .int (zI fx), .int (zI fy), .int (zI lf), .int (zI un)])), zQ cT ta 4 tq] sz) (fun (u9 : Unit) => match u9 with | _ => [(lv, .inr (1, [.int (zI w), .int (zI h), .ref ka, .ref ta, .int (zI sx), .int (zI sy), .int (zI fx), .int (zI fy), .int (zI lf), .int (zI un)])), zQ cT ta 4 tq])) (va_A [(lv, .inr (1, [.int (zI w), .int (zI h), .ref ka, .ref ta, .int (zI sx), .int (zI sy), .int (zI fx), .int (zI fy), .int (zI lf), .int (zI un)])), zQ cT ta 4 tq] sz)) 0 0 (va_A [(lv, .inr (1, [.int (zI w), .int (zI h), .ref ka, .ref ta, .int (zI sx), .int (zI sy), .int (zI fx), .int (zI fy), .int (zI lf), .int (zI un)])), zQ cT ta 4 tq] sz) := by
  refine Met.ofW (cc := cX1_tapeOf) (maxL := 2) (ret := (some (.object "SpringLevels$Tape"))) (by decide) rfl ?_
  intro p e s m args below meth c s₁ B hml hv
  obtain ⟨rfl, hsz, hP, hK, hD0⟩ := hv
  have hx := B.exec
  have hb := B.bytes
  have hr := B.returns
  have hts := atoms_spec (ws := wsX1_tapeOf) B.pre
  have hown : s.vm.findClass RX1 = some m.cls := findClass_of_methodNamed B.named
  have hlocks := B.notSynchronized
  subst hsz
  have hD := hD0.self (sz := s.heap.size)
  generalize hAe : va_A [(lv, .inr (1, [.int (zI w), .int (zI h), .ref ka, .ref ta, .int (zI sx), .int (zI sy), .int (zI fx), .int (zI fy), .int (zI lf), .int (zI un)])), zQ cT ta 4 tq] s.heap.size = A at hD ⊢
  have hA : ∀ q : Nat, s.heap.size ≤ q → A q := fun q h => by rw [← hAe]; exact Or.inr h
  clear hAe hD0
  have hS : va_S A s.heap s.heap [] := va_S.rf
  have hP : va_P (dC, dI) vwCl [(lv, .inr (1, [.int (zI w), .int (zI h), .ref ka, .ref ta, .int (zI sx), .int (zI sy), .int (zI fx), .int (zI fy), .int (zI lf), .int (zI un)])), zQ cT ta 4 tq] s.heap := hP
  have f_28 := hts (.fieldLink RX1 28 "SpringLevels$Level" "tapes" "[LSpringLevels$Tape;") (by decide +kernel)
  have i_1 : ∀ w ∈ wsX10, w ∈ wsX1_tapeOf := by decide +kernel
  have hl := lv_entry ([.ref lv, .int (zI pl)]) (n := 2) (Nat.le_of_ble_eq_true rfl)
  rw [lg_entry_eq]
  generalize (lg_sl ([.ref lv, .int (zI pl)]) ++ List.replicate (2 - (lg_sl ([.ref lv, .int (zI pl)])).length) Slot.unset).toArray = ls at hl ⊢
  have hl : lv_has ls 2 [(0, .ref lv), (1, .int (zI pl))] := hl
  refine lv_iload_n hx hb dX1_tapeOf_0 rfl (lv_at hl 1 rfl) ?_
  refine lz_if_lt (tgt := 13) hx hb dX1_tapeOf_1 (by decide) (by omega) (fun c_1 => ?_) (fun c_1 => ?_)
  · exact absurd c_1 (by omega)
  ·
    refine lv_iload_n hx hb dX1_tapeOf_4 rfl (lv_at hl 1 rfl) ?_
    refine lv_aload_n hx hb dX1_tapeOf_5 rfl (lv_at hl 0 rfl) ?_
    refine va_get (D := (dC, dI)) (ci := 1) (v := .ref ta) (C := RX1) (T := TX1) (N := 10) hx hb hts i_1 hown hK hP 0 rfl rfl 3 (by decide) f_28 (fun _ h9 => h9) rfl dX1_tapeOf_6 ?_
    refine va_alen (v := zI 4) hx hb hK hP 1 3 rfl rfl rfl dX1_tapeOf_9 ?_
    refine lz_icmp_lt (tgt := 17) hx hb dX1_tapeOf_10 (by decide) (by omega) ⟨by decide, by decide⟩ (fun c_2 => ?_) (fun c_2 => ?_)
    ·
      refine lv_aload_n hx hb dX1_tapeOf_17 rfl (lv_at hl 0 rfl) ?_
      refine va_get (D := (dC, dI)) (ci := 1) (v := .ref ta) (C := RX1) (T := TX1) (N := 10) hx hb hts i_1 hown hK hP 0 rfl rfl 3 (by decide) f_28 (fun _ h9 => h9) rfl dX1_tapeOf_18 ?_
      refine lv_iload_n hx hb dX1_tapeOf_21 rfl (lv_at hl 1 rfl) ?_
      refine lz_aldq (k := k) (f := tq) (v := .ref (tp k)) hx hb hK hP 1 3 rfl rfl (by omega) (by omega) (by decide) (by rw [gt k (by omega)]; rfl) dX1_tapeOf_22 ?_
      have hP9 := hP.sub (ws' := [(lv, .inr (1, [.int (zI w), .int (zI h), .ref ka, .ref ta, .int (zI sx), .int (zI sy), .int (zI fx), .int (zI fy), .int (zI lf), .int (zI un)])), zQ cT ta 4 tq]) [0, 1] rfl
      have hD9 := hD.sub (ws' := [(lv, .inr (1, [.int (zI w), .int (zI h), .ref ka, .ref ta, .int (zI sx), .int (zI sy), .int (zI fx), .int (zI fy), .int (zI lf), .int (zI un)])), zQ cT ta 4 tq]) [0, 1] (by decide) rfl
      have po : (some (tp k)) = some (tp k) ∧ (True) := by
        refine ⟨by first | rfl | simp [*], ?_⟩
        trivial
      exact W.aret (v := va_rf (some (tp k))) hx hb hr (by first | exact Or.inl ⟨_, rfl⟩ | exact Or.inr ⟨_, rfl⟩) (va_rf_or _) (fun t ht hW => ⟨⟨(some (tp k)), (), rfl, po, by rw [ht]; exact hP9, va_K.moved hW.alike hK, hD9⟩, hS.F ht⟩) hS.2.2 dX1_tapeOf_23
    · exact absurd c_2 (by omega)
set_option maxHeartbeats 4000000 in
set_option maxRecDepth 100000 in
/-- Level.tapeOf, no player -/
theorem c_X1_tapeOf_no (l : Launch) (dC : Nat → ClassId) (dI : Nat → Nat → Nat) (cI cZ cL cT cJ : ClassId) (sz : Nat) (lv : Nat) (w : Int) (h : Int) (ka : Nat) (ta : Nat) (sx : Int) (sy : Int) (fx : Int) (fy : Int) (lf : Int) (un : Int) (tq : Nat → Option Nat) (tp : Nat → Nat) (pl : Int) (gr : -2147483648 ≤ pl ∧ pl < 2147483648) (gk : pl < 0 ∨ 4 ≤ pl) : Met l yX1_tapeOf wsX1_tapeOf ({ frames := 0, cells := 0, slots := 0, locals := 0 }) (zP (dC, dI) (zT cI cZ cL cT cJ) sz [.ref lv, .int (zI pl)] [(lv, .inr (1, [.int (zI w), .int (zI h), .ref ka, .ref ta, .int (zI sx), .int (zI sy), .int (zI fx), .int (zI fy), .int (zI lf), .int (zI un)])), zQ cT ta 4 tq]) (va_Qq (fun (r9 : Option Nat) (u9 : Unit) => match u9 with | _ => r9 = none ∧ (True)) (zB (dC, dI) (zT cI cZ cL cT cJ) (va_A [(lv, .inr (1, [.int (zI w), .int (zI h), .ref ka, .ref ta, .int (zI sx), .int (zI sy), .int (zI fx), .int (zI fy), .int (zI lf), .int (zI un)])), zQ cT ta 4 tq] sz) (fun (u9 : Unit) => match u9 with | _ => [(lv, .inr (1, [.int (zI w), .int (zI h), .ref ka, .ref ta, .int (zI sx), .int (zI sy), .int (zI fx), .int (zI fy), .int (zI lf), .int (zI un)])), zQ cT ta 4 tq])) (va_A [(lv, .inr (1, [.int (zI w), .int (zI h), .ref ka, .ref ta, .int (zI sx), .int (zI sy), .int (zI fx), .int (zI fy), .int (zI lf), .int (zI un)])), zQ cT ta 4 tq] sz)) 0 0 (va_A [(lv, .inr (1, [.int (zI w), .int (zI h), .ref ka, .ref ta, .int (zI sx), .int (zI sy), .int (zI fx), .int (zI fy), .int (zI lf), .int (zI un)])), zQ cT ta 4 tq] sz) := by
  refine Met.ofW (cc := cX1_tapeOf) (maxL := 2) (ret := (some (.object "SpringLevels$Tape"))) (by decide) rfl ?_
  intro p e s m args below meth c s₁ B hml hv
  obtain ⟨rfl, hsz, hP, hK, hD0⟩ := hv
  have hx := B.exec
  have hb := B.bytes
  have hr := B.returns
  have hts := atoms_spec (ws := wsX1_tapeOf) B.pre
  have hown : s.vm.findClass RX1 = some m.cls := findClass_of_methodNamed B.named
  have hlocks := B.notSynchronized
  subst hsz
  have hD := hD0.self (sz := s.heap.size)
  generalize hAe : va_A [(lv, .inr (1, [.int (zI w), .int (zI h), .ref ka, .ref ta, .int (zI sx), .int (zI sy), .int (zI fx), .int (zI fy), .int (zI lf), .int (zI un)])), zQ cT ta 4 tq] s.heap.size = A at hD ⊢
  have hA : ∀ q : Nat, s.heap.size ≤ q → A q := fun q h => by rw [← hAe]; exact Or.inr h
  clear hAe hD0
  have hS : va_S A s.heap s.heap [] := va_S.rf
  have hP : va_P (dC, dI) vwCl [(lv, .inr (1, [.int (zI w), .int (zI h), .ref ka, .ref ta, .int (zI sx), .int (zI sy), .int (zI fx), .int (zI fy), .int (zI lf), .int (zI un)])), zQ cT ta 4 tq] s.heap := hP
  have f_28 := hts (.fieldLink RX1 28 "SpringLevels$Level" "tapes" "[LSpringLevels$Tape;") (by decide +kernel)
  have i_1 : ∀ w ∈ wsX10, w ∈ wsX1_tapeOf := by decide +kernel
  have hl := lv_entry ([.ref lv, .int (zI pl)]) (n := 2) (Nat.le_of_ble_eq_true rfl)
  rw [lg_entry_eq]
  generalize (lg_sl ([.ref lv, .int (zI pl)]) ++ List.replicate (2 - (lg_sl ([.ref lv, .int (zI pl)])).length) Slot.unset).toArray = ls at hl ⊢
  have hl : lv_has ls 2 [(0, .ref lv), (1, .int (zI pl))] := hl
  refine lv_iload_n hx hb dX1_tapeOf_0 rfl (lv_at hl 1 rfl) ?_
  refine lz_if_lt (tgt := 13) hx hb dX1_tapeOf_1 (by decide) (by omega) (fun c_1 => ?_) (fun c_1 => ?_)
  ·
    refine lv_null hx hb dX1_tapeOf_13 ?_
    refine lv_goto (tgt := 23) hx hb dX1_tapeOf_14 (by decide) ?_
    have hP9 := hP.sub (ws' := [(lv, .inr (1, [.int (zI w), .int (zI h), .ref ka, .ref ta, .int (zI sx), .int (zI sy), .int (zI fx), .int (zI fy), .int (zI lf), .int (zI un)])), zQ cT ta 4 tq]) [0, 1] rfl
    have hD9 := hD.sub (ws' := [(lv, .inr (1, [.int (zI w), .int (zI h), .ref ka, .ref ta, .int (zI sx), .int (zI sy), .int (zI fx), .int (zI fy), .int (zI lf), .int (zI un)])), zQ cT ta 4 tq]) [0, 1] (by decide) rfl
    have po : (none : Option Nat) = none ∧ (True) := by
      refine ⟨by first | rfl | simp [*], ?_⟩
      trivial
    exact W.aret (v := va_rf (none : Option Nat)) hx hb hr (by first | exact Or.inl ⟨_, rfl⟩ | exact Or.inr ⟨_, rfl⟩) (va_rf_or _) (fun t ht hW => ⟨⟨(none : Option Nat), (), rfl, po, by rw [ht]; exact hP9, va_K.moved hW.alike hK, hD9⟩, hS.F ht⟩) hS.2.2 dX1_tapeOf_23
  ·
    refine lv_iload_n hx hb dX1_tapeOf_4 rfl (lv_at hl 1 rfl) ?_
    refine lv_aload_n hx hb dX1_tapeOf_5 rfl (lv_at hl 0 rfl) ?_
    refine va_get (D := (dC, dI)) (ci := 1) (v := .ref ta) (C := RX1) (T := TX1) (N := 10) hx hb hts i_1 hown hK hP 0 rfl rfl 3 (by decide) f_28 (fun _ h9 => h9) rfl dX1_tapeOf_6 ?_
    refine va_alen (v := zI 4) hx hb hK hP 1 3 rfl rfl rfl dX1_tapeOf_9 ?_
    refine lz_icmp_lt (tgt := 17) hx hb dX1_tapeOf_10 (by decide) (by omega) ⟨by decide, by decide⟩ (fun c_2 => ?_) (fun c_2 => ?_)
    · exact absurd c_2 (by omega)
    ·
      refine lv_null hx hb dX1_tapeOf_13 ?_
      refine lv_goto (tgt := 23) hx hb dX1_tapeOf_14 (by decide) ?_
      have hP9 := hP.sub (ws' := [(lv, .inr (1, [.int (zI w), .int (zI h), .ref ka, .ref ta, .int (zI sx), .int (zI sy), .int (zI fx), .int (zI fy), .int (zI lf), .int (zI un)])), zQ cT ta 4 tq]) [0, 1] rfl
      have hD9 := hD.sub (ws' := [(lv, .inr (1, [.int (zI w), .int (zI h), .ref ka, .ref ta, .int (zI sx), .int (zI sy), .int (zI fx), .int (zI fy), .int (zI lf), .int (zI un)])), zQ cT ta 4 tq]) [0, 1] (by decide) rfl
      have po : (none : Option Nat) = none ∧ (True) := by
        refine ⟨by first | rfl | simp [*], ?_⟩
        trivial
      exact W.aret (v := va_rf (none : Option Nat)) hx hb hr (by first | exact Or.inl ⟨_, rfl⟩ | exact Or.inr ⟨_, rfl⟩) (va_rf_or _) (fun t ht hW => ⟨⟨(none : Option Nat), (), rfl, po, by rw [ht]; exact hP9, va_K.moved hW.alike hK, hD9⟩, hS.F ht⟩) hS.2.2 dX1_tapeOf_23
set_option maxHeartbeats 4000000 in
set_option maxRecDepth 100000 in
/-- Level.fastestPlayer -/
theorem c_X1_fastestPlayer (l : Launch) (dC : Nat → ClassId) (dI : Nat → Nat → Nat) (cI cZ cL cT cJ : ClassId) (sz : Nat) (lv : Nat) (w : Int) (h : Int) (ka : Nat) (ta : Nat) (sx : Int) (sy : Int) (fx : Int) (fy : Int) (lf : Int) (un : Int) (tq : Nat → Option Nat) (tp : Nat → Nat) (ti : Nat → Nat) (LN : Nat → Int) (HF : Nat → Int) (gt : ∀ k, k < 4 → tq k = some (tp k)) (gL : ∀ k, k < 4 → -1 ≤ LN k ∧ LN k ≤ 100) : Met l yX1_fastestPlayer wsX1_fastestPlayer ({ frames := 0, cells := 0, slots := 0, locals := 0 }) (zP (dC, dI) (zT cI cZ cL cT cJ) sz [.ref lv] [(lv, .inr (1, [.int (zI w), .int (zI h), .ref ka, .ref ta, .int (zI sx), .int (zI sy), .int (zI fx), .int (zI fy), .int (zI lf), .int (zI un)])), zQ cT ta 4 tq, (tp 0, .inr (4, [.ref (ti 0), .int (zI (LN 0)), .int (zI (HF 0))])), (tp 1, .inr (4, [.ref (ti 1), .int (zI (LN 1)), .int (zI (HF 1))])), (tp 2, .inr (4, [.ref (ti 2), .int (zI (LN 2)), .int (zI (HF 2))])), (tp 3, .inr (4, [.ref (ti 3), .int (zI (LN 3)), .int (zI (HF 3))]))]) (va_Qi (fun (r9 : Int32) (u9 : Int) => match u9 with | r => r9 = zI r ∧ (r = (bp4 LN).1)) (zB (dC, dI) (zT cI cZ cL cT cJ) (va_A [(lv, .inr (1, [.int (zI w), .int (zI h), .ref ka, .ref ta, .int (zI sx), .int (zI sy), .int (zI fx), .int (zI fy), .int (zI lf), .int (zI un)])), zQ cT ta 4 tq, (tp 0, .inr (4, [.ref (ti 0), .int (zI (LN 0)), .int (zI (HF 0))])), (tp 1, .inr (4, [.ref (ti 1), .int (zI (LN 1)), .int (zI (HF 1))])), (tp 2, .inr (4, [.ref (ti 2), .int (zI (LN 2)), .int (zI (HF 2))])), (tp 3, .inr (4, [.ref (ti 3), .int (zI (LN 3)), .int (zI (HF 3))]))] sz) (fun (u9 : Int) => match u9 with | r => [(lv, .inr (1, [.int (zI w), .int (zI h), .ref ka, .ref ta, .int (zI sx), .int (zI sy), .int (zI fx), .int (zI fy), .int (zI lf), .int (zI un)])), zQ cT ta 4 tq, (tp 0, .inr (4, [.ref (ti 0), .int (zI (LN 0)), .int (zI (HF 0))])), (tp 1, .inr (4, [.ref (ti 1), .int (zI (LN 1)), .int (zI (HF 1))])), (tp 2, .inr (4, [.ref (ti 2), .int (zI (LN 2)), .int (zI (HF 2))])), (tp 3, .inr (4, [.ref (ti 3), .int (zI (LN 3)), .int (zI (HF 3))]))])) (va_A [(lv, .inr (1, [.int (zI w), .int (zI h), .ref ka, .ref ta, .int (zI sx), .int (zI sy), .int (zI fx), .int (zI fy), .int (zI lf), .int (zI un)])), zQ cT ta 4 tq, (tp 0, .inr (4, [.ref (ti 0), .int (zI (LN 0)), .int (zI (HF 0))])), (tp 1, .inr (4, [.ref (ti 1), .int (zI (LN 1)), .int (zI (HF 1))])), (tp 2, .inr (4, [.ref (ti 2), .int (zI (LN 2)), .int (zI (HF 2))])), (tp 3, .inr (4, [.ref (ti 3), .int (zI (LN 3)), .int (zI (HF 3))]))] sz)) 0 0 (va_A [(lv, .inr (1, [.int (zI w), .int (zI h), .ref ka, .ref ta, .int (zI sx), .int (zI sy), .int (zI fx), .int (zI fy), .int (zI lf), .int (zI un)])), zQ cT ta 4 tq, (tp 0, .inr (4, [.ref (ti 0), .int (zI (LN 0)), .int (zI (HF 0))])), (tp 1, .inr (4, [.ref (ti 1), .int (zI (LN 1)), .int (zI (HF 1))])), (tp 2, .inr (4, [.ref (ti 2), .int (zI (LN 2)), .int (zI (HF 2))])), (tp 3, .inr (4, [.ref (ti 3), .int (zI (LN 3)), .int (zI (HF 3))]))] sz) := by
  refine Met.ofW (cc := cX1_fastestPlayer) (maxL := 5) (ret := (some .int)) (by decide) rfl ?_
  intro p e s m args below meth c s₁ B hml hv
  obtain ⟨rfl, hsz, hP, hK, hD0⟩ := hv
  have hx := B.exec
  have hb := B.bytes
  have hr := B.returns
  have hts := atoms_spec (ws := wsX1_fastestPlayer) B.pre
  have hown : s.vm.findClass RX1 = some m.cls := findClass_of_methodNamed B.named
  have hlocks := B.notSynchronized
  subst hsz
  have hD := hD0.self (sz := s.heap.size)
  generalize hAe : va_A [(lv, .inr (1, [.int (zI w), .int (zI h), .ref ka, .ref ta, .int (zI sx), .int (zI sy), .int (zI fx), .int (zI fy), .int (zI lf), .int (zI un)])), zQ cT ta 4 tq, (tp 0, .inr (4, [.ref (ti 0), .int (zI (LN 0)), .int (zI (HF 0))])), (tp 1, .inr (4, [.ref (ti 1), .int (zI (LN 1)), .int (zI (HF 1))])), (tp 2, .inr (4, [.ref (ti 2), .int (zI (LN 2)), .int (zI (HF 2))])), (tp 3, .inr (4, [.ref (ti 3), .int (zI (LN 3)), .int (zI (HF 3))]))] s.heap.size = A at hD ⊢
  have hA : ∀ q : Nat, s.heap.size ≤ q → A q := fun q h => by rw [← hAe]; exact Or.inr h
  clear hAe hD0
  have hS : va_S A s.heap s.heap [] := va_S.rf
  have hP : va_P (dC, dI) vwCl [(lv, .inr (1, [.int (zI w), .int (zI h), .ref ka, .ref ta, .int (zI sx), .int (zI sy), .int (zI fx), .int (zI fy), .int (zI lf), .int (zI un)])), zQ cT ta 4 tq, (tp 0, .inr (4, [.ref (ti 0), .int (zI (LN 0)), .int (zI (HF 0))])), (tp 1, .inr (4, [.ref (ti 1), .int (zI (LN 1)), .int (zI (HF 1))])), (tp 2, .inr (4, [.ref (ti 2), .int (zI (LN 2)), .int (zI (HF 2))])), (tp 3, .inr (4, [.ref (ti 3), .int (zI (LN 3)), .int (zI (HF 3))]))] s.heap := hP
  have f_28 := hts (.fieldLink RX1 28 "SpringLevels$Level" "tapes" "[LSpringLevels$Tape;") (by decide +kernel)
  have f_68 := hts (.fieldLink RX1 68 "SpringLevels$Tape" "length" "I") (by decide +kernel)
  have i_1 : ∀ w ∈ wsX10, w ∈ wsX1_fastestPlayer := by decide +kernel
  have i_4 : ∀ w ∈ wsX40, w ∈ wsX1_fastestPlayer := by decide +kernel
  have hl := lv_entry ([.ref lv]) (n := 5) (Nat.le_of_ble_eq_true rfl)
  rw [lg_entry_eq]
  generalize (lg_sl ([.ref lv]) ++ List.replicate (5 - (lg_sl ([.ref lv])).length) Slot.unset).toArray = ls at hl ⊢
  have hl : lv_has ls 5 [(0, .ref lv)] := hl
  refine lv_iconst (v := zI (-1)) hx hb dX1_fastestPlayer_0 (rfl) ?_
  refine lv_istore_n (lv' := [(1, .int (zI (-1))), (0, .ref lv)]) hx hb dX1_fastestPlayer_1 rfl hl (by decide) rfl (fun ls hl => ?_)
  refine lv_bipush (v := zI 101) hx hb dX1_fastestPlayer_2 (by decide) ?_
  refine lv_istore_n (lv' := [(2, .int (zI 101)), (1, .int (zI (-1))), (0, .ref lv)]) hx hb dX1_fastestPlayer_4 rfl hl (by decide) rfl (fun ls hl => ?_)
  refine lv_iconst (v := zI 0) hx hb dX1_fastestPlayer_5 (rfl) ?_
  refine lv_istore_n (lv' := [(3, .int (zI 0)), (2, .int (zI 101)), (1, .int (zI (-1))), (0, .ref lv)]) hx hb dX1_fastestPlayer_6 rfl hl (by decide) rfl (fun ls hl => ?_)
  refine lv_iload_n hx hb dX1_fastestPlayer_7 rfl (lv_at hl 0 rfl) ?_
  refine lv_aload_n hx hb dX1_fastestPlayer_8 rfl (lv_at hl 3 rfl) ?_
  refine va_get (D := (dC, dI)) (ci := 1) (v := .ref ta) (C := RX1) (T := TX1) (N := 10) hx hb hts i_1 hown hK hP 0 rfl rfl 3 (by decide) f_28 (fun _ h9 => h9) rfl dX1_fastestPlayer_9 ?_
  refine va_alen (v := zI 4) hx hb hK hP 1 3 rfl rfl rfl dX1_fastestPlayer_12 ?_
  refine lz_icmp_ge (tgt := 50) hx hb dX1_fastestPlayer_13 (by decide) ⟨by decide, by decide⟩ ⟨by decide, by decide⟩ (fun c_1 => ?_) (fun c_1 => ?_)
  · exact absurd c_1 (by decide)
  ·
    refine z_cut (I := fun (x9 : Int × Int) (H9 : Heap) (k9 : List Loc) (ls9 : Array Slot) => match x9 with | (fa0, fe0) => ((fa0, fe0) = bpt (LN 0) 0 (((-1 : Int), (101 : Int)) : Int × Int)) ∧ (-1 ≤ fa0 ∧ fa0 ≤ 3 ∧ fe0 ≤ 101 ∧ -1 ≤ fe0) ∧ va_P (dC, dI) vwCl [(lv, .inr (1, [.int (zI w), .int (zI h), .ref ka, .ref ta, .int (zI sx), .int (zI sy), .int (zI fx), .int (zI fy), .int (zI lf), .int (zI un)])), zQ cT ta 4 tq, (tp 0, .inr (4, [.ref (ti 0), .int (zI (LN 0)), .int (zI (HF 0))])), (tp 1, .inr (4, [.ref (ti 1), .int (zI (LN 1)), .int (zI (HF 1))])), (tp 2, .inr (4, [.ref (ti 2), .int (zI (LN 2)), .int (zI (HF 2))])), (tp 3, .inr (4, [.ref (ti 3), .int (zI (LN 3)), .int (zI (HF 3))]))] H9 ∧ va_D A [(lv, .inr (1, [.int (zI w), .int (zI h), .ref ka, .ref ta, .int (zI sx), .int (zI sy), .int (zI fx), .int (zI fy), .int (zI lf), .int (zI un)])), zQ cT ta 4 tq, (tp 0, .inr (4, [.ref (ti 0), .int (zI (LN 0)), .int (zI (HF 0))])), (tp 1, .inr (4, [.ref (ti 1), .int (zI (LN 1)), .int (zI (HF 1))])), (tp 2, .inr (4, [.ref (ti 2), .int (zI (LN 2)), .int (zI (HF 2))])), (tp 3, .inr (4, [.ref (ti 3), .int (zI (LN 3)), .int (zI (HF 3))]))] ∧ va_S A s.heap H9 k9 ∧ lv_has ls9 5 [(0, .ref lv), (1, .int (zI fa0)), (2, .int (zI fe0)), (3, .int (zI 0))]) (fr := fun (x9 : Int × Int) (ls9 : Array Slot) => match x9 with | (fa0, fe0) => F0 m 44 ls9 []) ?_ ?_
    · rintro ⟨fa0, fe0⟩ H locs ls ⟨hf0, rf0, hP, hD, hS, hl⟩
      refine W.eq (g2 := F0 m 44 ls []) rfl ?_
      refine lz_iinc (z := 1) (lv' := [(3, .int (zI 1)), (0, .ref lv), (1, .int (zI fa0)), (2, .int (zI fe0))]) hx hb dX1_fastestPlayer_44 hl (k := 3) rfl (by omega) (by decide) rfl (fun ls hl => ?_)
      refine lv_goto (tgt := 7) hx hb dX1_fastestPlayer_47 (by decide) ?_
      refine lv_iload_n hx hb dX1_fastestPlayer_7 rfl (lv_at hl 0 rfl) ?_
      refine lv_aload_n hx hb dX1_fastestPlayer_8 rfl (lv_at hl 1 rfl) ?_
      refine va_get (D := (dC, dI)) (ci := 1) (v := .ref ta) (C := RX1) (T := TX1) (N := 10) hx hb hts i_1 hown hK hP 0 rfl rfl 3 (by decide) f_28 (fun _ h9 => h9) rfl dX1_fastestPlayer_9 ?_
      refine va_alen (v := zI 4) hx hb hK hP 1 3 rfl rfl rfl dX1_fastestPlayer_12 ?_
      refine lz_icmp_ge (tgt := 50) hx hb dX1_fastestPlayer_13 (by decide) ⟨by decide, by decide⟩ ⟨by decide, by decide⟩ (fun c_2 => ?_) (fun c_2 => ?_)
      · exact absurd c_2 (by decide)
      ·
        refine z_cut (I := fun (x9 : Int × Int) (H9 : Heap) (k9 : List Loc) (ls9 : Array Slot) => match x9 with | (fa1, fe1) => ((fa1, fe1) = bpt (LN 1) 1 ((fa0, fe0) : Int × Int)) ∧ (-1 ≤ fa1 ∧ fa1 ≤ 3 ∧ fe1 ≤ 101 ∧ -1 ≤ fe1) ∧ va_P (dC, dI) vwCl [(lv, .inr (1, [.int (zI w), .int (zI h), .ref ka, .ref ta, .int (zI sx), .int (zI sy), .int (zI fx), .int (zI fy), .int (zI lf), .int (zI un)])), zQ cT ta 4 tq, (tp 0, .inr (4, [.ref (ti 0), .int (zI (LN 0)), .int (zI (HF 0))])), (tp 1, .inr (4, [.ref (ti 1), .int (zI (LN 1)), .int (zI (HF 1))])), (tp 2, .inr (4, [.ref (ti 2), .int (zI (LN 2)), .int (zI (HF 2))])), (tp 3, .inr (4, [.ref (ti 3), .int (zI (LN 3)), .int (zI (HF 3))]))] H9 ∧ va_D A [(lv, .inr (1, [.int (zI w), .int (zI h), .ref ka, .ref ta, .int (zI sx), .int (zI sy), .int (zI fx), .int (zI fy), .int (zI lf), .int (zI un)])), zQ cT ta 4 tq, (tp 0, .inr (4, [.ref (ti 0), .int (zI (LN 0)), .int (zI (HF 0))])), (tp 1, .inr (4, [.ref (ti 1), .int (zI (LN 1)), .int (zI (HF 1))])), (tp 2, .inr (4, [.ref (ti 2), .int (zI (LN 2)), .int (zI (HF 2))])), (tp 3, .inr (4, [.ref (ti 3), .int (zI (LN 3)), .int (zI (HF 3))]))] ∧ va_S A s.heap H9 k9 ∧ lv_has ls9 5 [(0, .ref lv), (1, .int (zI fa1)), (2, .int (zI fe1)), (3, .int (zI 1))]) (fr := fun (x9 : Int × Int) (ls9 : Array Slot) => match x9 with | (fa1, fe1) => F0 m 44 ls9 []) ?_ ?_
        · rintro ⟨fa1, fe1⟩ H locs ls ⟨hf1, rf1, hP, hD, hS, hl⟩
          refine W.eq (g2 := F0 m 44 ls []) rfl ?_
          refine lz_iinc (z := 2) (lv' := [(3, .int (zI 2)), (0, .ref lv), (1, .int (zI fa1)), (2, .int (zI fe1))]) hx hb dX1_fastestPlayer_44 hl (k := 3) rfl (by omega) (by decide) rfl (fun ls hl => ?_)
          refine lv_goto (tgt := 7) hx hb dX1_fastestPlayer_47 (by decide) ?_
          refine lv_iload_n hx hb dX1_fastestPlayer_7 rfl (lv_at hl 0 rfl) ?_
          refine lv_aload_n hx hb dX1_fastestPlayer_8 rfl (lv_at hl 1 rfl) ?_
          refine va_get (D := (dC, dI)) (ci := 1) (v := .ref ta) (C := RX1) (T := TX1) (N := 10) hx hb hts i_1 hown hK hP 0 rfl rfl 3 (by decide) f_28 (fun _ h9 => h9) rfl dX1_fastestPlayer_9 ?_
          refine va_alen (v := zI 4) hx hb hK hP 1 3 rfl rfl rfl dX1_fastestPlayer_12 ?_
          refine lz_icmp_ge (tgt := 50) hx hb dX1_fastestPlayer_13 (by decide) ⟨by decide, by decide⟩ ⟨by decide, by decide⟩ (fun c_3 => ?_) (fun c_3 => ?_)
          · exact absurd c_3 (by decide)
          ·
            refine z_cut (I := fun (x9 : Int × Int) (H9 : Heap) (k9 : List Loc) (ls9 : Array Slot) => match x9 with | (fa2, fe2) => ((fa2, fe2) = bpt (LN 2) 2 ((fa1, fe1) : Int × Int)) ∧ (-1 ≤ fa2 ∧ fa2 ≤ 3 ∧ fe2 ≤ 101 ∧ -1 ≤ fe2) ∧ va_P (dC, dI) vwCl [(lv, .inr (1, [.int (zI w), .int (zI h), .ref ka, .ref ta, .int (zI sx), .int (zI sy), .int (zI fx), .int (zI fy), .int (zI lf), .int (zI un)])), zQ cT ta 4 tq, (tp 0, .inr (4, [.ref (ti 0), .int (zI (LN 0)), .int (zI (HF 0))])), (tp 1, .inr (4, [.ref (ti 1), .int (zI (LN 1)), .int (zI (HF 1))])), (tp 2, .inr (4, [.ref (ti 2), .int (zI (LN 2)), .int (zI (HF 2))])), (tp 3, .inr (4, [.ref (ti 3), .int (zI (LN 3)), .int (zI (HF 3))]))] H9 ∧ va_D A [(lv, .inr (1, [.int (zI w), .int (zI h), .ref ka, .ref ta, .int (zI sx), .int (zI sy), .int (zI fx), .int (zI fy), .int (zI lf), .int (zI un)])), zQ cT ta 4 tq, (tp 0, .inr (4, [.ref (ti 0), .int (zI (LN 0)), .int (zI (HF 0))])), (tp 1, .inr (4, [.ref (ti 1), .int (zI (LN 1)), .int (zI (HF 1))])), (tp 2, .inr (4, [.ref (ti 2), .int (zI (LN 2)), .int (zI (HF 2))])), (tp 3, .inr (4, [.ref (ti 3), .int (zI (LN 3)), .int (zI (HF 3))]))] ∧ va_S A s.heap H9 k9 ∧ lv_has ls9 5 [(0, .ref lv), (1, .int (zI fa2)), (2, .int (zI fe2)), (3, .int (zI 2))]) (fr := fun (x9 : Int × Int) (ls9 : Array Slot) => match x9 with | (fa2, fe2) => F0 m 44 ls9 []) ?_ ?_
            · rintro ⟨fa2, fe2⟩ H locs ls ⟨hf2, rf2, hP, hD, hS, hl⟩
              refine W.eq (g2 := F0 m 44 ls []) rfl ?_
              refine lz_iinc (z := 3) (lv' := [(3, .int (zI 3)), (0, .ref lv), (1, .int (zI fa2)), (2, .int (zI fe2))]) hx hb dX1_fastestPlayer_44 hl (k := 3) rfl (by omega) (by decide) rfl (fun ls hl => ?_)
              refine lv_goto (tgt := 7) hx hb dX1_fastestPlayer_47 (by decide) ?_
              refine lv_iload_n hx hb dX1_fastestPlayer_7 rfl (lv_at hl 0 rfl) ?_
              refine lv_aload_n hx hb dX1_fastestPlayer_8 rfl (lv_at hl 1 rfl) ?_
              refine va_get (D := (dC, dI)) (ci := 1) (v := .ref ta) (C := RX1) (T := TX1) (N := 10) hx hb hts i_1 hown hK hP 0 rfl rfl 3 (by decide) f_28 (fun _ h9 => h9) rfl dX1_fastestPlayer_9 ?_
              refine va_alen (v := zI 4) hx hb hK hP 1 3 rfl rfl rfl dX1_fastestPlayer_12 ?_
              refine lz_icmp_ge (tgt := 50) hx hb dX1_fastestPlayer_13 (by decide) ⟨by decide, by decide⟩ ⟨by decide, by decide⟩ (fun c_4 => ?_) (fun c_4 => ?_)
              · exact absurd c_4 (by decide)
              ·
                refine z_cut (I := fun (x9 : Int × Int) (H9 : Heap) (k9 : List Loc) (ls9 : Array Slot) => match x9 with | (fa3, fe3) => ((fa3, fe3) = bpt (LN 3) 3 ((fa2, fe2) : Int × Int)) ∧ (-1 ≤ fa3 ∧ fa3 ≤ 3 ∧ fe3 ≤ 101 ∧ -1 ≤ fe3) ∧ va_P (dC, dI) vwCl [(lv, .inr (1, [.int (zI w), .int (zI h), .ref ka, .ref ta, .int (zI sx), .int (zI sy), .int (zI fx), .int (zI fy), .int (zI lf), .int (zI un)])), zQ cT ta 4 tq, (tp 0, .inr (4, [.ref (ti 0), .int (zI (LN 0)), .int (zI (HF 0))])), (tp 1, .inr (4, [.ref (ti 1), .int (zI (LN 1)), .int (zI (HF 1))])), (tp 2, .inr (4, [.ref (ti 2), .int (zI (LN 2)), .int (zI (HF 2))])), (tp 3, .inr (4, [.ref (ti 3), .int (zI (LN 3)), .int (zI (HF 3))]))] H9 ∧ va_D A [(lv, .inr (1, [.int (zI w), .int (zI h), .ref ka, .ref ta, .int (zI sx), .int (zI sy), .int (zI fx), .int (zI fy), .int (zI lf), .int (zI un)])), zQ cT ta 4 tq, (tp 0, .inr (4, [.ref (ti 0), .int (zI (LN 0)), .int (zI (HF 0))])), (tp 1, .inr (4, [.ref (ti 1), .int (zI (LN 1)), .int (zI (HF 1))])), (tp 2, .inr (4, [.ref (ti 2), .int (zI (LN 2)), .int (zI (HF 2))])), (tp 3, .inr (4, [.ref (ti 3), .int (zI (LN 3)), .int (zI (HF 3))]))] ∧ va_S A s.heap H9 k9 ∧ lv_has ls9 5 [(0, .ref lv), (1, .int (zI fa3)), (2, .int (zI fe3)), (3, .int (zI 3))]) (fr := fun (x9 : Int × Int) (ls9 : Array Slot) => match x9 with | (fa3, fe3) => F0 m 44 ls9 []) ?_ ?_
                · rintro ⟨fa3, fe3⟩ H locs ls ⟨hf3, rf3, hP, hD, hS, hl⟩
                  refine W.eq (g2 := F0 m 44 ls []) rfl ?_
                  refine lz_iinc (z := 4) (lv' := [(3, .int (zI 4)), (0, .ref lv), (1, .int (zI fa3)), (2, .int (zI fe3))]) hx hb dX1_fastestPlayer_44 hl (k := 3) rfl (by omega) (by decide) rfl (fun ls hl => ?_)
                  refine lv_goto (tgt := 7) hx hb dX1_fastestPlayer_47 (by decide) ?_
                  refine lv_iload_n hx hb dX1_fastestPlayer_7 rfl (lv_at hl 0 rfl) ?_
                  refine lv_aload_n hx hb dX1_fastestPlayer_8 rfl (lv_at hl 1 rfl) ?_
                  refine va_get (D := (dC, dI)) (ci := 1) (v := .ref ta) (C := RX1) (T := TX1) (N := 10) hx hb hts i_1 hown hK hP 0 rfl rfl 3 (by decide) f_28 (fun _ h9 => h9) rfl dX1_fastestPlayer_9 ?_
                  refine va_alen (v := zI 4) hx hb hK hP 1 3 rfl rfl rfl dX1_fastestPlayer_12 ?_
                  refine lz_icmp_ge (tgt := 50) hx hb dX1_fastestPlayer_13 (by decide) ⟨by decide, by decide⟩ ⟨by decide, by decide⟩ (fun c_5 => ?_) (fun c_5 => ?_)
                  ·
                    refine lv_iload_n hx hb dX1_fastestPlayer_50 rfl (lv_at hl 2 rfl) ?_
                    have hP9 := hP.sub (ws' := [(lv, .inr (1, [.int (zI w), .int (zI h), .ref ka, .ref ta, .int (zI sx), .int (zI sy), .int (zI fx), .int (zI fy), .int (zI lf), .int (zI un)])), zQ cT ta 4 tq, (tp 0, .inr (4, [.ref (ti 0), .int (zI (LN 0)), .int (zI (HF 0))])), (tp 1, .inr (4, [.ref (ti 1), .int (zI (LN 1)), .int (zI (HF 1))])), (tp 2, .inr (4, [.ref (ti 2), .int (zI (LN 2)), .int (zI (HF 2))])), (tp 3, .inr (4, [.ref (ti 3), .int (zI (LN 3)), .int (zI (HF 3))]))]) [0, 1, 2, 3, 4, 5] rfl
                    have hD9 := hD.sub (ws' := [(lv, .inr (1, [.int (zI w), .int (zI h), .ref ka, .ref ta, .int (zI sx), .int (zI sy), .int (zI fx), .int (zI fy), .int (zI lf), .int (zI un)])), zQ cT ta 4 tq, (tp 0, .inr (4, [.ref (ti 0), .int (zI (LN 0)), .int (zI (HF 0))])), (tp 1, .inr (4, [.ref (ti 1), .int (zI (LN 1)), .int (zI (HF 1))])), (tp 2, .inr (4, [.ref (ti 2), .int (zI (LN 2)), .int (zI (HF 2))])), (tp 3, .inr (4, [.ref (ti 3), .int (zI (LN 3)), .int (zI (HF 3))]))]) [0, 1, 2, 3, 4, 5] (by decide) rfl
                    have po : zI fa3 = zI fa3 ∧ (fa3 = (bp4 LN).1) := by
                      refine ⟨by first | rfl | (congr 1; omega) | (congr 1; simp [*]), ?_⟩
                      have e9 : (fa3, fe3) = bp4 LN := by unfold bp4; rw [← hf0, ← hf1, ← hf2]; exact hf3
                      rw [← e9]
                    exact W.iret (v := zI fa3) hx hb hr (fun t ht hW => ⟨⟨zI fa3, fa3, rfl, po, by rw [ht]; exact hP9, va_K.moved hW.alike hK, hD9⟩, hS.F ht⟩) hS.2.2 dX1_fastestPlayer_51
                  · exact absurd c_5 (by decide)
                intro J_6
                refine lv_aload_n hx hb dX1_fastestPlayer_16 rfl (lv_at hl 1 rfl) ?_
                refine va_get (D := (dC, dI)) (ci := 1) (v := .ref ta) (C := RX1) (T := TX1) (N := 10) hx hb hts i_1 hown hK hP 0 rfl rfl 3 (by decide) f_28 (fun _ h9 => h9) rfl dX1_fastestPlayer_17 ?_
                refine lv_iload_n hx hb dX1_fastestPlayer_20 rfl (lv_at hl 0 rfl) ?_
                refine lz_aldq (k := 3) (f := tq) (v := .ref (tp 3)) hx hb hK hP 1 3 rfl rfl (by omega) (by omega) (by decide) (by rw [gt 3 (by decide)]; rfl) dX1_fastestPlayer_21 ?_
                refine va_get (D := (dC, dI)) (ci := 4) (v := .int (zI (LN 3))) (C := RX4) (T := TX4) (N := 3) hx hb hts i_4 hown hK hP 5 rfl rfl 1 (by decide) f_68 (fun _ h9 => h9) rfl dX1_fastestPlayer_22 ?_
                have e9 := gL 3 (by decide)
                refine lv_istore (lv' := [(4, .int (zI (LN 3))), (3, .int (zI 3)), (0, .ref lv), (1, .int (zI fa2)), (2, .int (zI fe2))]) hx hb dX1_fastestPlayer_25 hl (by decide) rfl (fun ls hl => ?_)
                refine lv_iload hx hb dX1_fastestPlayer_27 (lv_at hl 0 rfl) ?_
                refine lv_iconst (v := zI (-1)) hx hb dX1_fastestPlayer_29 (rfl) ?_
                refine lz_icmp_eq (tgt := 44) hx hb dX1_fastestPlayer_30 (by decide) (by omega) ⟨by decide, by decide⟩ (fun c_7 => ?_) (fun c_7 => ?_)
                ·
                  exact J_6 (fa2, fe2) _ _ _ ⟨(by (unfold bpt; first | (exfalso; omega) | rw [if_pos (by omega)] | rw [if_neg (by omega)])), (by omega), hP, hD, hS, lv_sub hl [2, 3, 4, 1] rfl⟩
                ·
                  refine lv_iload hx hb dX1_fastestPlayer_33 (lv_at hl 0 rfl) ?_
                  refine lv_iload_n hx hb dX1_fastestPlayer_35 rfl (lv_at hl 4 rfl) ?_
                  refine lz_icmp_ge (tgt := 44) hx hb dX1_fastestPlayer_36 (by decide) (by omega) (by omega) (fun c_8 => ?_) (fun c_8 => ?_)
                  ·
                    exact J_6 (fa2, fe2) _ _ _ ⟨(by (unfold bpt; first | (exfalso; omega) | rw [if_pos (by omega)] | rw [if_neg (by omega)])), (by omega), hP, hD, hS, lv_sub hl [2, 3, 4, 1] rfl⟩
                  ·
                    refine lv_iload_n hx hb dX1_fastestPlayer_39 rfl (lv_at hl 1 rfl) ?_
                    refine lv_istore_n (lv' := [(1, .int (zI 3)), (4, .int (zI (LN 3))), (3, .int (zI 3)), (0, .ref lv), (2, .int (zI fe2))]) hx hb dX1_fastestPlayer_40 rfl hl (by decide) rfl (fun ls hl => ?_)
                    refine lv_iload hx hb dX1_fastestPlayer_41 (lv_at hl 1 rfl) ?_
                    refine lv_istore_n (lv' := [(2, .int (zI (LN 3))), (1, .int (zI 3)), (4, .int (zI (LN 3))), (3, .int (zI 3)), (0, .ref lv)]) hx hb dX1_fastestPlayer_43 rfl hl (by decide) rfl (fun ls hl => ?_)
                    exact J_6 (3, LN 3) _ _ _ ⟨(by (unfold bpt; first | (exfalso; omega) | rw [if_pos (by omega)] | rw [if_neg (by omega)])), (by omega), hP, hD, hS, lv_sub hl [4, 1, 0, 3] rfl⟩
            intro J_9
            refine lv_aload_n hx hb dX1_fastestPlayer_16 rfl (lv_at hl 1 rfl) ?_
            refine va_get (D := (dC, dI)) (ci := 1) (v := .ref ta) (C := RX1) (T := TX1) (N := 10) hx hb hts i_1 hown hK hP 0 rfl rfl 3 (by decide) f_28 (fun _ h9 => h9) rfl dX1_fastestPlayer_17 ?_
            refine lv_iload_n hx hb dX1_fastestPlayer_20 rfl (lv_at hl 0 rfl) ?_
            refine lz_aldq (k := 2) (f := tq) (v := .ref (tp 2)) hx hb hK hP 1 3 rfl rfl (by omega) (by omega) (by decide) (by rw [gt 2 (by decide)]; rfl) dX1_fastestPlayer_21 ?_
            refine va_get (D := (dC, dI)) (ci := 4) (v := .int (zI (LN 2))) (C := RX4) (T := TX4) (N := 3) hx hb hts i_4 hown hK hP 4 rfl rfl 1 (by decide) f_68 (fun _ h9 => h9) rfl dX1_fastestPlayer_22 ?_
            have e9 := gL 2 (by decide)
            refine lv_istore (lv' := [(4, .int (zI (LN 2))), (3, .int (zI 2)), (0, .ref lv), (1, .int (zI fa1)), (2, .int (zI fe1))]) hx hb dX1_fastestPlayer_25 hl (by decide) rfl (fun ls hl => ?_)
            refine lv_iload hx hb dX1_fastestPlayer_27 (lv_at hl 0 rfl) ?_
            refine lv_iconst (v := zI (-1)) hx hb dX1_fastestPlayer_29 (rfl) ?_
            refine lz_icmp_eq (tgt := 44) hx hb dX1_fastestPlayer_30 (by decide) (by omega) ⟨by decide, by decide⟩ (fun c_10 => ?_) (fun c_10 => ?_)
            ·
              exact J_9 (fa1, fe1) _ _ _ ⟨(by (unfold bpt; first | (exfalso; omega) | rw [if_pos (by omega)] | rw [if_neg (by omega)])), (by omega), hP, hD, hS, lv_sub hl [2, 3, 4, 1] rfl⟩
            ·
              refine lv_iload hx hb dX1_fastestPlayer_33 (lv_at hl 0 rfl) ?_
              refine lv_iload_n hx hb dX1_fastestPlayer_35 rfl (lv_at hl 4 rfl) ?_
              refine lz_icmp_ge (tgt := 44) hx hb dX1_fastestPlayer_36 (by decide) (by omega) (by omega) (fun c_11 => ?_) (fun c_11 => ?_)
              ·
                exact J_9 (fa1, fe1) _ _ _ ⟨(by (unfold bpt; first | (exfalso; omega) | rw [if_pos (by omega)] | rw [if_neg (by omega)])), (by omega), hP, hD, hS, lv_sub hl [2, 3, 4, 1] rfl⟩
              ·
                refine lv_iload_n hx hb dX1_fastestPlayer_39 rfl (lv_at hl 1 rfl) ?_
                refine lv_istore_n (lv' := [(1, .int (zI 2)), (4, .int (zI (LN 2))), (3, .int (zI 2)), (0, .ref lv), (2, .int (zI fe1))]) hx hb dX1_fastestPlayer_40 rfl hl (by decide) rfl (fun ls hl => ?_)
                refine lv_iload hx hb dX1_fastestPlayer_41 (lv_at hl 1 rfl) ?_
                refine lv_istore_n (lv' := [(2, .int (zI (LN 2))), (1, .int (zI 2)), (4, .int (zI (LN 2))), (3, .int (zI 2)), (0, .ref lv)]) hx hb dX1_fastestPlayer_43 rfl hl (by decide) rfl (fun ls hl => ?_)
                exact J_9 (2, LN 2) _ _ _ ⟨(by (unfold bpt; first | (exfalso; omega) | rw [if_pos (by omega)] | rw [if_neg (by omega)])), (by omega), hP, hD, hS, lv_sub hl [4, 1, 0, 3] rfl⟩
        intro J_12
        refine lv_aload_n hx hb dX1_fastestPlayer_16 rfl (lv_at hl 1 rfl) ?_
        refine va_get (D := (dC, dI)) (ci := 1) (v := .ref ta) (C := RX1) (T := TX1) (N := 10) hx hb hts i_1 hown hK hP 0 rfl rfl 3 (by decide) f_28 (fun _ h9 => h9) rfl dX1_fastestPlayer_17 ?_
        refine lv_iload_n hx hb dX1_fastestPlayer_20 rfl (lv_at hl 0 rfl) ?_
        refine lz_aldq (k := 1) (f := tq) (v := .ref (tp 1)) hx hb hK hP 1 3 rfl rfl (by omega) (by omega) (by decide) (by rw [gt 1 (by decide)]; rfl) dX1_fastestPlayer_21 ?_
        refine va_get (D := (dC, dI)) (ci := 4) (v := .int (zI (LN 1))) (C := RX4) (T := TX4) (N := 3) hx hb hts i_4 hown hK hP 3 rfl rfl 1 (by decide) f_68 (fun _ h9 => h9) rfl dX1_fastestPlayer_22 ?_
        have e9 := gL 1 (by decide)
        refine lv_istore (lv' := [(4, .int (zI (LN 1))), (3, .int (zI 1)), (0, .ref lv), (1, .int (zI fa0)), (2, .int (zI fe0))]) hx hb dX1_fastestPlayer_25 hl (by decide) rfl (fun ls hl => ?_)
        refine lv_iload hx hb dX1_fastestPlayer_27 (lv_at hl 0 rfl) ?_
        refine lv_iconst (v := zI (-1)) hx hb dX1_fastestPlayer_29 (rfl) ?_
        refine lz_icmp_eq (tgt := 44) hx hb dX1_fastestPlayer_30 (by decide) (by omega) ⟨by decide, by decide⟩ (fun c_13 => ?_) (fun c_13 => ?_)
        ·
          exact J_12 (fa0, fe0) _ _ _ ⟨(by (unfold bpt; first | (exfalso; omega) | rw [if_pos (by omega)] | rw [if_neg (by omega)])), (by omega), hP, hD, hS, lv_sub hl [2, 3, 4, 1] rfl⟩
        ·
          refine lv_iload hx hb dX1_fastestPlayer_33 (lv_at hl 0 rfl) ?_
          refine lv_iload_n hx hb dX1_fastestPlayer_35 rfl (lv_at hl 4 rfl) ?_
          refine lz_icmp_ge (tgt := 44) hx hb dX1_fastestPlayer_36 (by decide) (by omega) (by omega) (fun c_14 => ?_) (fun c_14 => ?_)
          ·
            exact J_12 (fa0, fe0) _ _ _ ⟨(by (unfold bpt; first | (exfalso; omega) | rw [if_pos (by omega)] | rw [if_neg (by omega)])), (by omega), hP, hD, hS, lv_sub hl [2, 3, 4, 1] rfl⟩
          ·
            refine lv_iload_n hx hb dX1_fastestPlayer_39 rfl (lv_at hl 1 rfl) ?_
            refine lv_istore_n (lv' := [(1, .int (zI 1)), (4, .int (zI (LN 1))), (3, .int (zI 1)), (0, .ref lv), (2, .int (zI fe0))]) hx hb dX1_fastestPlayer_40 rfl hl (by decide) rfl (fun ls hl => ?_)
            refine lv_iload hx hb dX1_fastestPlayer_41 (lv_at hl 1 rfl) ?_
            refine lv_istore_n (lv' := [(2, .int (zI (LN 1))), (1, .int (zI 1)), (4, .int (zI (LN 1))), (3, .int (zI 1)), (0, .ref lv)]) hx hb dX1_fastestPlayer_43 rfl hl (by decide) rfl (fun ls hl => ?_)
            exact J_12 (1, LN 1) _ _ _ ⟨(by (unfold bpt; first | (exfalso; omega) | rw [if_pos (by omega)] | rw [if_neg (by omega)])), (by omega), hP, hD, hS, lv_sub hl [4, 1, 0, 3] rfl⟩
    intro J_15
    refine lv_aload_n hx hb dX1_fastestPlayer_16 rfl (lv_at hl 3 rfl) ?_
    refine va_get (D := (dC, dI)) (ci := 1) (v := .ref ta) (C := RX1) (T := TX1) (N := 10) hx hb hts i_1 hown hK hP 0 rfl rfl 3 (by decide) f_28 (fun _ h9 => h9) rfl dX1_fastestPlayer_17 ?_
    refine lv_iload_n hx hb dX1_fastestPlayer_20 rfl (lv_at hl 0 rfl) ?_
    refine lz_aldq (k := 0) (f := tq) (v := .ref (tp 0)) hx hb hK hP 1 3 rfl rfl (by omega) (by omega) (by decide) (by rw [gt 0 (by decide)]; rfl) dX1_fastestPlayer_21 ?_
    refine va_get (D := (dC, dI)) (ci := 4) (v := .int (zI (LN 0))) (C := RX4) (T := TX4) (N := 3) hx hb hts i_4 hown hK hP 2 rfl rfl 1 (by decide) f_68 (fun _ h9 => h9) rfl dX1_fastestPlayer_22 ?_
    have e9 := gL 0 (by decide)
    refine lv_istore (lv' := [(4, .int (zI (LN 0))), (3, .int (zI 0)), (2, .int (zI 101)), (1, .int (zI (-1))), (0, .ref lv)]) hx hb dX1_fastestPlayer_25 hl (by decide) rfl (fun ls hl => ?_)
    refine lv_iload hx hb dX1_fastestPlayer_27 (lv_at hl 0 rfl) ?_
    refine lv_iconst (v := zI (-1)) hx hb dX1_fastestPlayer_29 (rfl) ?_
    refine lz_icmp_eq (tgt := 44) hx hb dX1_fastestPlayer_30 (by decide) (by omega) ⟨by decide, by decide⟩ (fun c_16 => ?_) (fun c_16 => ?_)
    ·
      exact J_15 (-1, 101) _ _ _ ⟨(by (unfold bpt; first | (exfalso; omega) | rw [if_pos (by omega)] | rw [if_neg (by omega)])), (by omega), hP, hD, hS, lv_sub hl [4, 3, 2, 1] rfl⟩
    ·
      refine lv_iload hx hb dX1_fastestPlayer_33 (lv_at hl 0 rfl) ?_
      refine lv_iload_n hx hb dX1_fastestPlayer_35 rfl (lv_at hl 2 rfl) ?_
      refine lz_icmp_ge (tgt := 44) hx hb dX1_fastestPlayer_36 (by decide) (by omega) ⟨by decide, by decide⟩ (fun c_17 => ?_) (fun c_17 => ?_)
      ·
        exact J_15 (-1, 101) _ _ _ ⟨(by (unfold bpt; first | (exfalso; omega) | rw [if_pos (by omega)] | rw [if_neg (by omega)])), (by omega), hP, hD, hS, lv_sub hl [4, 3, 2, 1] rfl⟩
      ·
        refine lv_iload_n hx hb dX1_fastestPlayer_39 rfl (lv_at hl 1 rfl) ?_
        refine lv_istore_n (lv' := [(1, .int (zI 0)), (4, .int (zI (LN 0))), (3, .int (zI 0)), (2, .int (zI 101)), (0, .ref lv)]) hx hb dX1_fastestPlayer_40 rfl hl (by decide) rfl (fun ls hl => ?_)
        refine lv_iload hx hb dX1_fastestPlayer_41 (lv_at hl 1 rfl) ?_
        refine lv_istore_n (lv' := [(2, .int (zI (LN 0))), (1, .int (zI 0)), (4, .int (zI (LN 0))), (3, .int (zI 0)), (0, .ref lv)]) hx hb dX1_fastestPlayer_43 rfl hl (by decide) rfl (fun ls hl => ?_)
        exact J_15 (0, LN 0) _ _ _ ⟨(by (unfold bpt; first | (exfalso; omega) | rw [if_pos (by omega)] | rw [if_neg (by omega)])), (by omega), hP, hD, hS, lv_sub hl [4, 1, 0, 3] rfl⟩
set_option maxHeartbeats 4000000 in
set_option maxRecDepth 100000 in
/-- Level.keepIfBetter -/
theorem c_X1_keepIfBetter (l : Launch) (dC : Nat → ClassId) (dI : Nat → Nat → Nat) (cI cZ cL cT cJ : ClassId) (sz : Nat) (lv : Nat) (w : Int) (h : Int) (ka : Nat) (ta : Nat) (sx : Int) (sy : Int) (fx : Int) (fy : Int) (lf : Int) (un : Int) (tq : Nat → Option Nat) (tp : Nat → Nat) (pl : Int) (k : Nat) (ti : Nat) (ln : Int) (hf : Int) (FI : Int → Int) (tw : Nat) (tj : Nat) (ln2 : Int) (hf2 : Int) (GI : Int → Int) (gt : ∀ k, k < 4 → tq k = some (tp k)) (gk : pl = (k : Int) ∧ k < 4) (gl : -1 ≤ ln ∧ ln ≤ 100) (gl2 : 0 ≤ ln2 ∧ ln2 ≤ 100) : Met l yX1_keepIfBetter wsX1_keepIfBetter ({ frames := 1, cells := 0, slots := 0, locals := 22 }) (zP (dC, dI) (zT cI cZ cL cT cJ) sz [.ref lv, .int (zI pl), .ref tw] [(lv, .inr (1, [.int (zI w), .int (zI h), .ref ka, .ref ta, .int (zI sx), .int (zI sy), .int (zI fx), .int (zI fy), .int (zI lf), .int (zI un)])), zQ cT ta 4 tq, (tp k, .inr (4, [.ref ti, .int (zI ln), .int (zI hf)])), zA cI ti 100 FI, (tw, .inr (4, [.ref tj, .int (zI ln2), .int (zI hf2)])), zA cI tj 100 GI]) (va_Qv (fun (u9 : Int × Int × (Int → Int)) => match u9 with | (l1, h1, F1) => ((ln = -1 ∨ ln2 < ln) ∧ l1 = ln2 ∧ h1 = hf2 ∧ (∀ j, 0 ≤ j → j < 100 → F1 j = GI j) ∨ ¬ (ln = -1 ∨ ln2 < ln) ∧ l1 = ln ∧ h1 = hf ∧ F1 = FI)) (zB (dC, dI) (zT cI cZ cL cT cJ) (va_A [(lv, .inr (1, [.int (zI w), .int (zI h), .ref ka, .ref ta, .int (zI sx), .int (zI sy), .int (zI fx), .int (zI fy), .int (zI lf), .int (zI un)])), zQ cT ta 4 tq, (tp k, .inr (4, [.ref ti, .int (zI ln), .int (zI hf)])), zA cI ti 100 FI, (tw, .inr (4, [.ref tj, .int (zI ln2), .int (zI hf2)])), zA cI tj 100 GI] sz) (fun (u9 : Int × Int × (Int → Int)) => match u9 with | (l1, h1, F1) => [(lv, .inr (1, [.int (zI w), .int (zI h), .ref ka, .ref ta, .int (zI sx), .int (zI sy), .int (zI fx), .int (zI fy), .int (zI lf), .int (zI un)])), zQ cT ta 4 tq, (tp k, .inr (4, [.ref ti, .int (zI l1), .int (zI h1)])), zA cI ti 100 F1, (tw, .inr (4, [.ref tj, .int (zI ln2), .int (zI hf2)])), zA cI tj 100 GI])) (va_A [(lv, .inr (1, [.int (zI w), .int (zI h), .ref ka, .ref ta, .int (zI sx), .int (zI sy), .int (zI fx), .int (zI fy), .int (zI lf), .int (zI un)])), zQ cT ta 4 tq, (tp k, .inr (4, [.ref ti, .int (zI ln), .int (zI hf)])), zA cI ti 100 FI, (tw, .inr (4, [.ref tj, .int (zI ln2), .int (zI hf2)])), zA cI tj 100 GI] sz)) 0 0 (va_A [(lv, .inr (1, [.int (zI w), .int (zI h), .ref ka, .ref ta, .int (zI sx), .int (zI sy), .int (zI fx), .int (zI fy), .int (zI lf), .int (zI un)])), zQ cT ta 4 tq, (tp k, .inr (4, [.ref ti, .int (zI ln), .int (zI hf)])), zA cI ti 100 FI, (tw, .inr (4, [.ref tj, .int (zI ln2), .int (zI hf2)])), zA cI tj 100 GI] sz) := by
  refine Met.ofW (cc := cX1_keepIfBetter) (maxL := 4) (ret := none) (by decide) rfl ?_
  intro p e s m args below meth c s₁ B hml hv
  obtain ⟨rfl, hsz, hP, hK, hD0⟩ := hv
  have hx := B.exec
  have hb := B.bytes
  have hr := B.returns
  have hts := atoms_spec (ws := wsX1_keepIfBetter) B.pre
  have hown : s.vm.findClass RX1 = some m.cls := findClass_of_methodNamed B.named
  have hlocks := B.notSynchronized
  subst hsz
  have hD := hD0.self (sz := s.heap.size)
  generalize hAe : va_A [(lv, .inr (1, [.int (zI w), .int (zI h), .ref ka, .ref ta, .int (zI sx), .int (zI sy), .int (zI fx), .int (zI fy), .int (zI lf), .int (zI un)])), zQ cT ta 4 tq, (tp k, .inr (4, [.ref ti, .int (zI ln), .int (zI hf)])), zA cI ti 100 FI, (tw, .inr (4, [.ref tj, .int (zI ln2), .int (zI hf2)])), zA cI tj 100 GI] s.heap.size = A at hD ⊢
  have hA : ∀ q : Nat, s.heap.size ≤ q → A q := fun q h => by rw [← hAe]; exact Or.inr h
  clear hAe hD0
  have hS : va_S A s.heap s.heap [] := va_S.rf
  have hP : va_P (dC, dI) vwCl [(lv, .inr (1, [.int (zI w), .int (zI h), .ref ka, .ref ta, .int (zI sx), .int (zI sy), .int (zI fx), .int (zI fy), .int (zI lf), .int (zI un)])), zQ cT ta 4 tq, (tp k, .inr (4, [.ref ti, .int (zI ln), .int (zI hf)])), zA cI ti 100 FI, (tw, .inr (4, [.ref tj, .int (zI ln2), .int (zI hf2)])), zA cI tj 100 GI] s.heap := hP
  have f_68 := hts (.fieldLink RX1 68 "SpringLevels$Tape" "length" "I") (by decide +kernel)
  have i_4 : ∀ w ∈ wsX40, w ∈ wsX1_keepIfBetter := by decide +kernel
  have hl := lv_entry ([.ref lv, .int (zI pl), .ref tw]) (n := 4) (Nat.le_of_ble_eq_true rfl)
  rw [lg_entry_eq]
  generalize (lg_sl ([.ref lv, .int (zI pl), .ref tw]) ++ List.replicate (4 - (lg_sl ([.ref lv, .int (zI pl), .ref tw])).length) Slot.unset).toArray = ls at hl ⊢
  have hl : lv_has ls 4 [(0, .ref lv), (1, .int (zI pl)), (2, .ref tw)] := hl
  refine lv_aload_n hx hb dX1_keepIfBetter_0 rfl (lv_at hl 0 rfl) ?_
  refine lv_iload_n hx hb dX1_keepIfBetter_1 rfl (lv_at hl 1 rfl) ?_
  have hPc := hP.sub (ws' := [(lv, .inr (1, [.int (zI w), .int (zI h), .ref ka, .ref ta, .int (zI sx), .int (zI sy), .int (zI fx), .int (zI fy), .int (zI lf), .int (zI un)])), zQ cT ta 4 tq]) [0, 1] rfl
  have hDc := hD.sub (ws' := [(lv, .inr (1, [.int (zI w), .int (zI h), .ref ka, .ref ta, .int (zI sx), .int (zI sy), .int (zI fx), .int (zI fy), .int (zI lf), .int (zI un)])), zQ cT ta 4 tq]) [0, 1] (by decide) rfl
  have hFc := va_free (wc := [(lv, .inr (1, [.int (zI w), .int (zI h), .ref ka, .ref ta, .int (zI sx), .int (zI sy), .int (zI fx), .int (zI fy), .int (zI lf), .int (zI un)])), zQ cT ta 4 tq]) hD hS hA [0, 1] rfl
  refine va_callq (va_runV (As := [.int (zI pl)]) (rest := []) ⟨hx, hb, hml, hown, hts⟩ (c_X1_tapeOf l dC dI cI cZ cL cT cJ s.heap.size lv w h ka ta sx sy fx fy lf un tq tp pl k (by first | assumption | omega) (by first | assumption | omega)) (cwV 1 hts gX1_keepIfBetter_X1_tapeOf rfl rfl rfl (by decide +kernel) ⟨Nat.le_of_ble_eq_true rfl, Nat.le_of_ble_eq_true rfl⟩) ⟨zP_blind, va_recv hK hPc (ci := 1) (q0 := 0) rfl rfl, zP_pre hPc hDc hK⟩ rfl rfl hl.1 rfl (lv_room (Nat.le_of_ble_eq_true rfl)) dX1_keepIfBetter_2 ⟨Nat.le_of_ble_eq_true rfl, Nat.le_of_ble_eq_true rfl⟩) hS (fun q _ h => hFc q h) hFc (fun r_1 u_1 t H1 locs ht hvm hw hB hz1 hk1 hS => ?_)
  obtain ⟨hP1, hK1, hD1⟩ := hB
  rw [ht] at hP1
  have hP1 : va_P (dC, dI) vwCl [(lv, .inr (1, [.int (zI w), .int (zI h), .ref ka, .ref ta, .int (zI sx), .int (zI sy), .int (zI fx), .int (zI fy), .int (zI lf), .int (zI un)])), zQ cT ta 4 tq] H1 := hP1
  obtain ⟨hP, hD⟩ := va_join (wr := [(tp k, .inr (4, [.ref ti, .int (zI ln), .int (zI hf)])), zA cI ti 100 FI, (tw, .inr (4, [.ref tj, .int (zI ln2), .int (zI hf2)])), zA cI tj 100 GI]) (w1 := [(lv, .inr (1, [.int (zI w), .int (zI h), .ref ka, .ref ta, .int (zI sx), .int (zI sy), .int (zI fx), .int (zI fy), .int (zI lf), .int (zI un)])), zQ cT ta 4 tq]) hP hD [0, 1] [2, 3, 4, 5] rfl rfl (by decide) (by decide) hk1 hFc hP1 hD1
  clear hP1 hD1 hk1 hFc hPc hDc hz1
  generalize H1 = H at hP hS ⊢
  have hP : va_P (dC, dI) vwCl [(lv, .inr (1, [.int (zI w), .int (zI h), .ref ka, .ref ta, .int (zI sx), .int (zI sy), .int (zI fx), .int (zI fy), .int (zI lf), .int (zI un)])), zQ cT ta 4 tq, (tp k, .inr (4, [.ref ti, .int (zI ln), .int (zI hf)])), zA cI ti 100 FI, (tw, .inr (4, [.ref tj, .int (zI ln2), .int (zI hf2)])), zA cI tj 100 GI] H := hP.sub [4, 5, 0, 1, 2, 3] rfl
  have hD : va_D A [(lv, .inr (1, [.int (zI w), .int (zI h), .ref ka, .ref ta, .int (zI sx), .int (zI sy), .int (zI fx), .int (zI fy), .int (zI lf), .int (zI un)])), zQ cT ta 4 tq, (tp k, .inr (4, [.ref ti, .int (zI ln), .int (zI hf)])), zA cI ti 100 FI, (tw, .inr (4, [.ref tj, .int (zI ln2), .int (zI hf2)])), zA cI tj 100 GI] := hD.sub [4, 5, 0, 1, 2, 3] (by decide) rfl
  clear hK1 hvm
  obtain ⟨rfl, po_2⟩ := hw
  refine W.eq (g2 := F0 m 5 ls [.ref (tp k)]) rfl ?_
  refine lv_astore_n (lv' := [(3, .ref (tp k)), (0, .ref lv), (1, .int (zI pl)), (2, .ref tw)]) hx hb dX1_keepIfBetter_5 rfl hl (by decide) rfl (fun ls hl => ?_)
  refine lv_aload_n hx hb dX1_keepIfBetter_6 rfl (lv_at hl 0 rfl) ?_
  refine lv_ifnull hx hb dX1_keepIfBetter_7 ?_
  refine lv_aload_n hx hb dX1_keepIfBetter_10 rfl (lv_at hl 0 rfl) ?_
  refine va_get (D := (dC, dI)) (ci := 4) (v := .int (zI ln)) (C := RX4) (T := TX4) (N := 3) hx hb hts i_4 hown hK hP 2 rfl rfl 1 (by decide) f_68 (fun _ h9 => h9) rfl dX1_keepIfBetter_11 ?_
  refine lv_iconst (v := zI (-1)) hx hb dX1_keepIfBetter_14 (rfl) ?_
  refine lz_icmp_eq (tgt := 29) hx hb dX1_keepIfBetter_15 (by decide) (by omega) ⟨by decide, by decide⟩ (fun c_3 => ?_) (fun c_3 => ?_)
  ·
    refine lv_aload_n hx hb dX1_keepIfBetter_29 rfl (lv_at hl 0 rfl) ?_
    refine lv_aload_n hx hb dX1_keepIfBetter_30 rfl (lv_at hl 3 rfl) ?_
    have hPc := hP.sub (ws' := [(tp k, .inr (4, [.ref ti, .int (zI ln), .int (zI hf)])), zA cI ti 100 FI, (tw, .inr (4, [.ref tj, .int (zI ln2), .int (zI hf2)])), zA cI tj 100 GI]) [2, 3, 4, 5] rfl
    have hDc := hD.sub (ws' := [(tp k, .inr (4, [.ref ti, .int (zI ln), .int (zI hf)])), zA cI ti 100 FI, (tw, .inr (4, [.ref tj, .int (zI ln2), .int (zI hf2)])), zA cI tj 100 GI]) [2, 3, 4, 5] (by decide) rfl
    have hFc := va_free (wc := [(tp k, .inr (4, [.ref ti, .int (zI ln), .int (zI hf)])), zA cI ti 100 FI, (tw, .inr (4, [.ref tj, .int (zI ln2), .int (zI hf2)])), zA cI tj 100 GI]) hD hS hA [2, 3, 4, 5] rfl
    refine va_callv (va_runV (As := [.ref tw]) (rest := []) ⟨hx, hb, hml, hown, hts⟩ (c_X4_copy l dC dI cI cZ cL cT cJ H.size (tp k) ti ln hf FI tw tj ln2 hf2 GI ) (cwV 1 hts gX1_keepIfBetter_X4_copy rfl rfl rfl (by decide +kernel) ⟨Nat.le_of_ble_eq_true rfl, Nat.le_of_ble_eq_true rfl⟩) ⟨zP_blind, va_recv hK hPc (ci := 4) (q0 := 0) rfl rfl, zP_pre hPc hDc hK⟩ rfl rfl hl.1 rfl (lv_room (Nat.le_of_ble_eq_true rfl)) dX1_keepIfBetter_31 ⟨Nat.le_of_ble_eq_true rfl, Nat.le_of_ble_eq_true rfl⟩) hS (fun q _ h => hFc q h) hFc (fun u_4 t H1 locs ht hvm hw hB hz1 hk1 hS => ?_)
    obtain ⟨F1_5, rfl⟩ : ∃ z, z = u_4 := ⟨_, rfl⟩
    obtain ⟨hP1, hK1, hD1⟩ := hB
    rw [ht] at hP1
    have hP1 : va_P (dC, dI) vwCl [(tp k, .inr (4, [.ref ti, .int (zI ln2), .int (zI hf2)])), zA cI ti 100 F1_5, (tw, .inr (4, [.ref tj, .int (zI ln2), .int (zI hf2)])), zA cI tj 100 GI] H1 := hP1
    obtain ⟨hP, hD⟩ := va_join (wr := [(lv, .inr (1, [.int (zI w), .int (zI h), .ref ka, .ref ta, .int (zI sx), .int (zI sy), .int (zI fx), .int (zI fy), .int (zI lf), .int (zI un)])), zQ cT ta 4 tq]) (w1 := [(tp k, .inr (4, [.ref ti, .int (zI ln2), .int (zI hf2)])), zA cI ti 100 F1_5, (tw, .inr (4, [.ref tj, .int (zI ln2), .int (zI hf2)])), zA cI tj 100 GI]) hP hD [2, 3, 4, 5] [0, 1] rfl rfl (by decide) (by decide) hk1 hFc hP1 hD1
    clear hP1 hD1 hk1 hFc hPc hDc hz1
    generalize H1 = H at hP hS ⊢
    have hP : va_P (dC, dI) vwCl [(lv, .inr (1, [.int (zI w), .int (zI h), .ref ka, .ref ta, .int (zI sx), .int (zI sy), .int (zI fx), .int (zI fy), .int (zI lf), .int (zI un)])), zQ cT ta 4 tq, (tp k, .inr (4, [.ref ti, .int (zI ln2), .int (zI hf2)])), zA cI ti 100 F1_5, (tw, .inr (4, [.ref tj, .int (zI ln2), .int (zI hf2)])), zA cI tj 100 GI] H := hP.sub [0, 1, 2, 3, 4, 5] rfl
    have hD : va_D A [(lv, .inr (1, [.int (zI w), .int (zI h), .ref ka, .ref ta, .int (zI sx), .int (zI sy), .int (zI fx), .int (zI fy), .int (zI lf), .int (zI un)])), zQ cT ta 4 tq, (tp k, .inr (4, [.ref ti, .int (zI ln2), .int (zI hf2)])), zA cI ti 100 F1_5, (tw, .inr (4, [.ref tj, .int (zI ln2), .int (zI hf2)])), zA cI tj 100 GI] := hD.sub [0, 1, 2, 3, 4, 5] (by decide) rfl
    clear hK1 hvm
    have po_6 : ∀ j, 0 ≤ j → j < 100 → F1_5 j = GI j := hw
    refine W.eq (g2 := F0 m 34 ls []) rfl ?_
    have hP9 := hP.sub (ws' := [(lv, .inr (1, [.int (zI w), .int (zI h), .ref ka, .ref ta, .int (zI sx), .int (zI sy), .int (zI fx), .int (zI fy), .int (zI lf), .int (zI un)])), zQ cT ta 4 tq, (tp k, .inr (4, [.ref ti, .int (zI ln2), .int (zI hf2)])), zA cI ti 100 F1_5, (tw, .inr (4, [.ref tj, .int (zI ln2), .int (zI hf2)])), zA cI tj 100 GI]) [0, 1, 2, 3, 4, 5] rfl
    have hD9 := hD.sub (ws' := [(lv, .inr (1, [.int (zI w), .int (zI h), .ref ka, .ref ta, .int (zI sx), .int (zI sy), .int (zI fx), .int (zI fy), .int (zI lf), .int (zI un)])), zQ cT ta 4 tq, (tp k, .inr (4, [.ref ti, .int (zI ln2), .int (zI hf2)])), zA cI ti 100 F1_5, (tw, .inr (4, [.ref tj, .int (zI ln2), .int (zI hf2)])), zA cI tj 100 GI]) [0, 1, 2, 3, 4, 5] (by decide) rfl
    have po : ((ln = -1 ∨ ln2 < ln) ∧ ln2 = ln2 ∧ hf2 = hf2 ∧ (∀ j, 0 ≤ j → j < 100 → F1_5 j = GI j) ∨ ¬ (ln = -1 ∨ ln2 < ln) ∧ ln2 = ln ∧ hf2 = hf ∧ F1_5 = FI) := by
      first | exact Or.inl ⟨by omega, rfl, rfl, po_6⟩ | exact Or.inr ⟨by omega, rfl, rfl, rfl⟩
    exact W.vret hx hb hr (fun t ht hW => ⟨⟨(ln2, hf2, F1_5), rfl, po, by rw [ht]; exact hP9, va_K.moved hW.alike hK, hD9⟩, hS.F ht⟩) hS.2.2 dX1_keepIfBetter_34
  ·
    refine lv_aload_n hx hb dX1_keepIfBetter_18 rfl (lv_at hl 0 rfl) ?_
    refine va_get (D := (dC, dI)) (ci := 4) (v := .int (zI ln)) (C := RX4) (T := TX4) (N := 3) hx hb hts i_4 hown hK hP 2 rfl rfl 1 (by decide) f_68 (fun _ h9 => h9) rfl dX1_keepIfBetter_19 ?_
    refine lv_aload_n hx hb dX1_keepIfBetter_22 rfl (lv_at hl 3 rfl) ?_
    refine va_get (D := (dC, dI)) (ci := 4) (v := .int (zI ln2)) (C := RX4) (T := TX4) (N := 3) hx hb hts i_4 hown hK hP 4 rfl rfl 1 (by decide) f_68 (fun _ h9 => h9) rfl dX1_keepIfBetter_23 ?_
    refine lz_icmp_le (tgt := 34) hx hb dX1_keepIfBetter_26 (by decide) (by omega) (by omega) (fun c_7 => ?_) (fun c_7 => ?_)
    ·
      have hP9 := hP.sub (ws' := [(lv, .inr (1, [.int (zI w), .int (zI h), .ref ka, .ref ta, .int (zI sx), .int (zI sy), .int (zI fx), .int (zI fy), .int (zI lf), .int (zI un)])), zQ cT ta 4 tq, (tp k, .inr (4, [.ref ti, .int (zI ln), .int (zI hf)])), zA cI ti 100 FI, (tw, .inr (4, [.ref tj, .int (zI ln2), .int (zI hf2)])), zA cI tj 100 GI]) [0, 1, 2, 3, 4, 5] rfl
      have hD9 := hD.sub (ws' := [(lv, .inr (1, [.int (zI w), .int (zI h), .ref ka, .ref ta, .int (zI sx), .int (zI sy), .int (zI fx), .int (zI fy), .int (zI lf), .int (zI un)])), zQ cT ta 4 tq, (tp k, .inr (4, [.ref ti, .int (zI ln), .int (zI hf)])), zA cI ti 100 FI, (tw, .inr (4, [.ref tj, .int (zI ln2), .int (zI hf2)])), zA cI tj 100 GI]) [0, 1, 2, 3, 4, 5] (by decide) rfl
      have po : ((ln = -1 ∨ ln2 < ln) ∧ ln = ln2 ∧ hf = hf2 ∧ (∀ j, 0 ≤ j → j < 100 → FI j = GI j) ∨ ¬ (ln = -1 ∨ ln2 < ln) ∧ ln = ln ∧ hf = hf ∧ FI = FI) := by
        first | exact Or.inl ⟨by omega, rfl, rfl, po_2⟩ | exact Or.inr ⟨by omega, rfl, rfl, rfl⟩
      exact W.vret hx hb hr (fun t ht hW => ⟨⟨(ln, hf, FI), rfl, po, by rw [ht]; exact hP9, va_K.moved hW.alike hK, hD9⟩, hS.F ht⟩) hS.2.2 dX1_keepIfBetter_34
    ·
      refine lv_aload_n hx hb dX1_keepIfBetter_29 rfl (lv_at hl 0 rfl) ?_
      refine lv_aload_n hx hb dX1_keepIfBetter_30 rfl (lv_at hl 3 rfl) ?_
      have hPc := hP.sub (ws' := [(tp k, .inr (4, [.ref ti, .int (zI ln), .int (zI hf)])), zA cI ti 100 FI, (tw, .inr (4, [.ref tj, .int (zI ln2), .int (zI hf2)])), zA cI tj 100 GI]) [2, 3, 4, 5] rfl
      have hDc := hD.sub (ws' := [(tp k, .inr (4, [.ref ti, .int (zI ln), .int (zI hf)])), zA cI ti 100 FI, (tw, .inr (4, [.ref tj, .int (zI ln2), .int (zI hf2)])), zA cI tj 100 GI]) [2, 3, 4, 5] (by decide) rfl
      have hFc := va_free (wc := [(tp k, .inr (4, [.ref ti, .int (zI ln), .int (zI hf)])), zA cI ti 100 FI, (tw, .inr (4, [.ref tj, .int (zI ln2), .int (zI hf2)])), zA cI tj 100 GI]) hD hS hA [2, 3, 4, 5] rfl
      refine va_callv (va_runV (As := [.ref tw]) (rest := []) ⟨hx, hb, hml, hown, hts⟩ (c_X4_copy l dC dI cI cZ cL cT cJ H.size (tp k) ti ln hf FI tw tj ln2 hf2 GI ) (cwV 1 hts gX1_keepIfBetter_X4_copy rfl rfl rfl (by decide +kernel) ⟨Nat.le_of_ble_eq_true rfl, Nat.le_of_ble_eq_true rfl⟩) ⟨zP_blind, va_recv hK hPc (ci := 4) (q0 := 0) rfl rfl, zP_pre hPc hDc hK⟩ rfl rfl hl.1 rfl (lv_room (Nat.le_of_ble_eq_true rfl)) dX1_keepIfBetter_31 ⟨Nat.le_of_ble_eq_true rfl, Nat.le_of_ble_eq_true rfl⟩) hS (fun q _ h => hFc q h) hFc (fun u_8 t H1 locs ht hvm hw hB hz1 hk1 hS => ?_)
      obtain ⟨F1_9, rfl⟩ : ∃ z, z = u_8 := ⟨_, rfl⟩
      obtain ⟨hP1, hK1, hD1⟩ := hB
      rw [ht] at hP1
      have hP1 : va_P (dC, dI) vwCl [(tp k, .inr (4, [.ref ti, .int (zI ln2), .int (zI hf2)])), zA cI ti 100 F1_9, (tw, .inr (4, [.ref tj, .int (zI ln2), .int (zI hf2)])), zA cI tj 100 GI] H1 := hP1
      obtain ⟨hP, hD⟩ := va_join (wr := [(lv, .inr (1, [.int (zI w), .int (zI h), .ref ka, .ref ta, .int (zI sx), .int (zI sy), .int (zI fx), .int (zI fy), .int (zI lf), .int (zI un)])), zQ cT ta 4 tq]) (w1 := [(tp k, .inr (4, [.ref ti, .int (zI ln2), .int (zI hf2)])), zA cI ti 100 F1_9, (tw, .inr (4, [.ref tj, .int (zI ln2), .int (zI hf2)])), zA cI tj 100 GI]) hP hD [2, 3, 4, 5] [0, 1] rfl rfl (by decide) (by decide) hk1 hFc hP1 hD1
      clear hP1 hD1 hk1 hFc hPc hDc hz1
      generalize H1 = H at hP hS ⊢
      have hP : va_P (dC, dI) vwCl [(lv, .inr (1, [.int (zI w), .int (zI h), .ref ka, .ref ta, .int (zI sx), .int (zI sy), .int (zI fx), .int (zI fy), .int (zI lf), .int (zI un)])), zQ cT ta 4 tq, (tp k, .inr (4, [.ref ti, .int (zI ln2), .int (zI hf2)])), zA cI ti 100 F1_9, (tw, .inr (4, [.ref tj, .int (zI ln2), .int (zI hf2)])), zA cI tj 100 GI] H := hP.sub [0, 1, 2, 3, 4, 5] rfl
      have hD : va_D A [(lv, .inr (1, [.int (zI w), .int (zI h), .ref ka, .ref ta, .int (zI sx), .int (zI sy), .int (zI fx), .int (zI fy), .int (zI lf), .int (zI un)])), zQ cT ta 4 tq, (tp k, .inr (4, [.ref ti, .int (zI ln2), .int (zI hf2)])), zA cI ti 100 F1_9, (tw, .inr (4, [.ref tj, .int (zI ln2), .int (zI hf2)])), zA cI tj 100 GI] := hD.sub [0, 1, 2, 3, 4, 5] (by decide) rfl
      clear hK1 hvm
      have po_10 : ∀ j, 0 ≤ j → j < 100 → F1_9 j = GI j := hw
      refine W.eq (g2 := F0 m 34 ls []) rfl ?_
      have hP9 := hP.sub (ws' := [(lv, .inr (1, [.int (zI w), .int (zI h), .ref ka, .ref ta, .int (zI sx), .int (zI sy), .int (zI fx), .int (zI fy), .int (zI lf), .int (zI un)])), zQ cT ta 4 tq, (tp k, .inr (4, [.ref ti, .int (zI ln2), .int (zI hf2)])), zA cI ti 100 F1_9, (tw, .inr (4, [.ref tj, .int (zI ln2), .int (zI hf2)])), zA cI tj 100 GI]) [0, 1, 2, 3, 4, 5] rfl
      have hD9 := hD.sub (ws' := [(lv, .inr (1, [.int (zI w), .int (zI h), .ref ka, .ref ta, .int (zI sx), .int (zI sy), .int (zI fx), .int (zI fy), .int (zI lf), .int (zI un)])), zQ cT ta 4 tq, (tp k, .inr (4, [.ref ti, .int (zI ln2), .int (zI hf2)])), zA cI ti 100 F1_9, (tw, .inr (4, [.ref tj, .int (zI ln2), .int (zI hf2)])), zA cI tj 100 GI]) [0, 1, 2, 3, 4, 5] (by decide) rfl
      have po : ((ln = -1 ∨ ln2 < ln) ∧ ln2 = ln2 ∧ hf2 = hf2 ∧ (∀ j, 0 ≤ j → j < 100 → F1_9 j = GI j) ∨ ¬ (ln = -1 ∨ ln2 < ln) ∧ ln2 = ln ∧ hf2 = hf ∧ F1_9 = FI) := by
        first | exact Or.inl ⟨by omega, rfl, rfl, po_10⟩ | exact Or.inr ⟨by omega, rfl, rfl, rfl⟩
      exact W.vret hx hb hr (fun t ht hW => ⟨⟨(ln2, hf2, F1_9), rfl, po, by rw [ht]; exact hP9, va_K.moved hW.alike hK, hD9⟩, hS.F ht⟩) hS.2.2 dX1_keepIfBetter_34
set_option maxHeartbeats 4000000 in
set_option maxRecDepth 100000 in
/-- Level() -/
theorem c_X1_init (l : Launch) (dC : Nat → ClassId) (dI : Nat → Nat → Nat) (cI cZ cL cT cJ : ClassId) (sz : Nat) (lv : Nat) (w : Int) (h : Int) (gw : 2 ≤ w ∧ w ≤ 12) (gh : 2 ≤ h ∧ h ≤ 8) : Met l yX1_init wsX1_init ({ frames := 2, cells := 10, slots := 512, locals := 46 }) (zPo (dC, dI) (zT cI cZ cL cT cJ) sz [.ref lv, .int (zI w), .int (zI h)] [(lv, .inr (1, [.int (zI 0), .int (zI 0), .null, .null, .int (zI 0), .int (zI 0), .int (zI 0), .int (zI 0), .int (zI 0), .int (zI 0)]))]) (va_Qv (fun (u9 : Nat × Nat × Nat × Nat × Nat × Nat × Nat × Nat × Nat × Nat × (Int → Int) × (Nat → Option Nat)) => match u9 with | (ka, ta, t0, t1, t2, t3, j0, j1, j2, j3, K1, tq) => (Kin K1 ∧ (∀ x y, 0 ≤ x → x < w → 0 ≤ y → y < h → K1 (y * 12 + x) = if y = h - 1 then 1 else 0) ∧ tq 0 = some t0 ∧ tq 1 = some t1 ∧ tq 2 = some t2 ∧ tq 3 = some t3)) (zB (dC, dI) (zT cI cZ cL cT cJ) (va_A [(lv, .inr (1, [.int (zI 0), .int (zI 0), .null, .null, .int (zI 0), .int (zI 0), .int (zI 0), .int (zI 0), .int (zI 0), .int (zI 0)]))] sz) (fun (u9 : Nat × Nat × Nat × Nat × Nat × Nat × Nat × Nat × Nat × Nat × (Int → Int) × (Nat → Option Nat)) => match u9 with | (ka, ta, t0, t1, t2, t3, j0, j1, j2, j3, K1, tq) => [(lv, .inr (1, [.int (zI w), .int (zI h), .ref ka, .ref ta, .int (zI 0), .int (zI (h - 2)), .int (zI (w - 1)), .int (zI (h - 2)), .int (zI (-1)), .int (zI 0)])), zA cI ka 96 K1, zQ cT ta 4 tq, (t0, .inr (4, [.ref j0, .int (zI (-1)), .int (zI (-1))])), (t1, .inr (4, [.ref j1, .int (zI (-1)), .int (zI (-1))])), (t2, .inr (4, [.ref j2, .int (zI (-1)), .int (zI (-1))])), (t3, .inr (4, [.ref j3, .int (zI (-1)), .int (zI (-1))])), zA cI j0 100 (fun _ => 0), zA cI j1 100 (fun _ => 0), zA cI j2 100 (fun _ => 0), zA cI j3 100 (fun _ => 0)])) (va_A [(lv, .inr (1, [.int (zI 0), .int (zI 0), .null, .null, .int (zI 0), .int (zI 0), .int (zI 0), .int (zI 0), .int (zI 0), .int (zI 0)]))] sz)) 10 512 (va_A [(lv, .inr (1, [.int (zI 0), .int (zI 0), .null, .null, .int (zI 0), .int (zI 0), .int (zI 0), .int (zI 0), .int (zI 0), .int (zI 0)]))] sz) := by
  refine Met.ofW (cc := cX1_init) (maxL := 4) (ret := none) (by decide) rfl ?_
  intro p e s m args below meth c s₁ B hml hv
  obtain ⟨rfl, hsz, hP, hK, hD0, hAo⟩ := hv
  have hx := B.exec
  have hb := B.bytes
  have hr := B.returns
  have hts := atoms_spec (ws := wsX1_init) B.pre
  have hown : s.vm.findClass RX1 = some m.cls := findClass_of_methodNamed B.named
  have hlocks := B.notSynchronized
  have hin : meth.name = "<init>" := (name_of_methodNamed B.named B.method).1
  subst hsz
  have hD := hD0.self (sz := s.heap.size)
  generalize hAe : va_A [(lv, .inr (1, [.int (zI 0), .int (zI 0), .null, .null, .int (zI 0), .int (zI 0), .int (zI 0), .int (zI 0), .int (zI 0), .int (zI 0)]))] s.heap.size = A at hD ⊢
  have hA : ∀ q : Nat, s.heap.size ≤ q → A q := fun q h => by rw [← hAe]; exact Or.inr h
  clear hAe hD0
  have hS : va_S A s.heap s.heap [] := va_S.rf
  have hP : va_P (dC, dI) vwCl [(lv, .inr (1, [.int (zI 0), .int (zI 0), .null, .null, .int (zI 0), .int (zI 0), .int (zI 0), .int (zI 0), .int (zI 0), .int (zI 0)]))] s.heap := hP
  have f_9 := hts (.fieldLink RX1 9 "SpringLevels$Level" "width" "I") (by decide +kernel)
  have f_15 := hts (.fieldLink RX1 15 "SpringLevels$Level" "height" "I") (by decide +kernel)
  have f_18 := hts (.fieldLink RX1 18 "SpringLevels$Level" "kinds" "[I") (by decide +kernel)
  have f_28 := hts (.fieldLink RX1 28 "SpringLevels$Level" "tapes" "[LSpringLevels$Tape;") (by decide +kernel)
  have f_33 := hts (.fieldLink RX1 33 "SpringLevels$Level" "startX" "I") (by decide +kernel)
  have f_36 := hts (.fieldLink RX1 36 "SpringLevels$Level" "startY" "I") (by decide +kernel)
  have f_39 := hts (.fieldLink RX1 39 "SpringLevels$Level" "flagX" "I") (by decide +kernel)
  have f_42 := hts (.fieldLink RX1 42 "SpringLevels$Level" "flagY" "I") (by decide +kernel)
  have f_45 := hts (.fieldLink RX1 45 "SpringLevels$Level" "leastFrames" "I") (by decide +kernel)
  have f_48 := hts (.fieldLink RX1 48 "SpringLevels$Level" "unlocked" "Z") (by decide +kernel)
  have i_1 : ∀ w ∈ wsX10, w ∈ wsX1_init := by decide +kernel
  have i_4 : ∀ w ∈ wsX40, w ∈ wsX1_init := by decide +kernel
  have hl := lv_entry ([.ref lv, .int (zI w), .int (zI h)]) (n := 4) (Nat.le_of_ble_eq_true rfl)
  rw [lg_entry_eq]
  generalize (lg_sl ([.ref lv, .int (zI w), .int (zI h)]) ++ List.replicate (4 - (lg_sl ([.ref lv, .int (zI w), .int (zI h)])).length) Slot.unset).toArray = ls at hl ⊢
  have hl : lv_has ls 4 [(0, .ref lv), (1, .int (zI w)), (2, .int (zI h))] := hl
  refine lv_aload_n hx hb dX1_init_0 rfl (lv_at hl 0 rfl) ?_
  refine W.objInit hx hb hown (hts (.methodLink RX1 3 objectInit) (by decide +kernel)) (hts (.instanceMethod objectInit) (by decide +kernel)) (hts (.code objectInit ⟨#[0xb1]⟩ 1 none) (by decide +kernel)) rfl (by rw [hml]; exact hl.1) rfl dX1_init_1 (Nat.le_of_ble_eq_true rfl) (Nat.le_of_ble_eq_true rfl) ?_
  refine W.eq (g2 := F0 m 4 ls []) rfl ?_
  refine lv_aload_n hx hb dX1_init_4 rfl (lv_at hl 0 rfl) ?_
  refine lv_iload_n hx hb dX1_init_5 rfl (lv_at hl 1 rfl) ?_
  refine va_putF (D := (dC, dI)) (ci := 1) (v := .int (zI w)) (ty := .int) (C := RX1) (T := TX1) (N := 10) hx hb hts i_1 tyX1 tyX1_ok nmX1 hown hK hP hD hS 0 rfl rfl 0 (by decide) f_9 (fun _ h9 => h9) rfl hin rfl (by decide +kernel) rfl rfl (Nat.le_of_ble_eq_true rfl) dX1_init_6 (fun H locs hP hD hS => ?_)
  have hP : va_P (dC, dI) vwCl [(lv, .inr (1, [.int (zI w), .int (zI 0), .null, .null, .int (zI 0), .int (zI 0), .int (zI 0), .int (zI 0), .int (zI 0), .int (zI 0)]))] H := hP
  have hD : va_D A [(lv, .inr (1, [.int (zI w), .int (zI 0), .null, .null, .int (zI 0), .int (zI 0), .int (zI 0), .int (zI 0), .int (zI 0), .int (zI 0)]))] := hD
  refine lv_aload_n hx hb dX1_init_9 rfl (lv_at hl 0 rfl) ?_
  refine lv_iload_n hx hb dX1_init_10 rfl (lv_at hl 2 rfl) ?_
  refine va_putF (D := (dC, dI)) (ci := 1) (v := .int (zI h)) (ty := .int) (C := RX1) (T := TX1) (N := 10) hx hb hts i_1 tyX1 tyX1_ok nmX1 hown hK hP hD hS 0 rfl rfl 1 (by decide) f_15 (fun _ h9 => h9) rfl hin rfl (by decide +kernel) rfl rfl (Nat.le_of_ble_eq_true rfl) dX1_init_11 (fun H locs hP hD hS => ?_)
  have hP : va_P (dC, dI) vwCl [(lv, .inr (1, [.int (zI w), .int (zI h), .null, .null, .int (zI 0), .int (zI 0), .int (zI 0), .int (zI 0), .int (zI 0), .int (zI 0)]))] H := hP
  have hD : va_D A [(lv, .inr (1, [.int (zI w), .int (zI h), .null, .null, .int (zI 0), .int (zI 0), .int (zI 0), .int (zI 0), .int (zI 0), .int (zI 0)]))] := hD
  refine lv_aload_n hx hb dX1_init_14 rfl (lv_at hl 0 rfl) ?_
  refine lv_bipush (v := zI 96) hx hb dX1_init_15 (by decide) ?_
  refine lz_newa (N := 96) hx hb (hts (.arrayClass .int) (by decide +kernel)) hK hP hD hS hA 0 rfl (by decide) (Nat.le_of_ble_eq_true rfl) (Nat.le_of_ble_eq_true rfl) dX1_init_17 (fun q_1 H hP hD hS => ?_)
  have hP : va_P (dC, dI) vwCl [(lv, .inr (1, [.int (zI w), .int (zI h), .null, .null, .int (zI 0), .int (zI 0), .int (zI 0), .int (zI 0), .int (zI 0), .int (zI 0)])), zA cI q_1 96 (fun _ => 0)] H := hP
  have hD : va_D A [(lv, .inr (1, [.int (zI w), .int (zI h), .null, .null, .int (zI 0), .int (zI 0), .int (zI 0), .int (zI 0), .int (zI 0), .int (zI 0)])), zA cI q_1 96 (fun _ => 0)] := hD
  refine va_putF (D := (dC, dI)) (ci := 1) (v := .ref q_1) (ty := .array .int) (C := RX1) (T := TX1) (N := 10) hx hb hts i_1 tyX1 tyX1_ok nmX1 hown hK hP hD hS 0 rfl rfl 2 (by decide) f_18 (fun _ h9 => h9) rfl hin rfl (by decide +kernel) rfl rfl (Nat.le_of_ble_eq_true rfl) dX1_init_19 (fun H locs hP hD hS => ?_)
  have hP : va_P (dC, dI) vwCl [(lv, .inr (1, [.int (zI w), .int (zI h), .ref q_1, .null, .int (zI 0), .int (zI 0), .int (zI 0), .int (zI 0), .int (zI 0), .int (zI 0)])), zA cI q_1 96 (fun _ => 0)] H := hP
  have hD : va_D A [(lv, .inr (1, [.int (zI w), .int (zI h), .ref q_1, .null, .int (zI 0), .int (zI 0), .int (zI 0), .int (zI 0), .int (zI 0), .int (zI 0)])), zA cI q_1 96 (fun _ => 0)] := hD
  refine lv_iconst (v := zI 0) hx hb dX1_init_22 (rfl) ?_
  refine lv_istore_n (lv' := [(3, .int (zI 0)), (0, .ref lv), (1, .int (zI w)), (2, .int (zI h))]) hx hb dX1_init_23 rfl hl (by decide) rfl (fun ls hl => ?_)
  refine z_loop (μ := fun (x9 : Int × (Int → Int)) => match x9 with | (i, K9) => (w - i).toNat) (I := fun (x9 : Int × (Int → Int)) (H9 : Heap) (k9 : List Loc) (ls9 : Array Slot) => match x9 with | (i, K9) => (0 ≤ i ∧ i ≤ w) ∧ (Kin K9) ∧ (∀ x y, 0 ≤ x → x < w → 0 ≤ y → y < h → K9 (y * 12 + x) = if y = h - 1 ∧ x < i then 1 else 0) ∧ va_P (dC, dI) vwCl [(lv, .inr (1, [.int (zI w), .int (zI h), .ref q_1, .null, .int (zI 0), .int (zI 0), .int (zI 0), .int (zI 0), .int (zI 0), .int (zI 0)])), zA cI q_1 96 K9] H9 ∧ va_D A [(lv, .inr (1, [.int (zI w), .int (zI h), .ref q_1, .null, .int (zI 0), .int (zI 0), .int (zI 0), .int (zI 0), .int (zI 0), .int (zI 0)])), zA cI q_1 96 K9] ∧ va_S A s.heap H9 k9 ∧ lv_has ls9 4 [(0, .ref lv), (1, .int (zI w)), (2, .int (zI h)), (3, .int (zI i))]) (fr := fun (x9 : Int × (Int → Int)) (ls9 : Array Slot) => match x9 with | (i, K9) => F0 m 24 ls9 []) ?_ (0, fun _ => 0) ⟨(by omega), (by intro i; show (0 : Int) ≤ 0 ∧ (0 : Int) ≤ 3; omega), (by intro x y a1 a2 a3 a4; rw [if_neg (by omega)]), hP, hD, hS, lv_sub hl [1, 2, 3, 0] rfl⟩
  rintro ⟨i, K9⟩ H locs ls ⟨ri, kK, hc, hP, hD, hS, hl⟩ L_2
  refine W.eq (g2 := F0 m 24 ls []) rfl ?_
  refine lv_iload_n hx hb dX1_init_24 rfl (lv_at hl 3 rfl) ?_
  refine lv_iload_n hx hb dX1_init_25 rfl (lv_at hl 1 rfl) ?_
  refine lz_icmp_ge (tgt := 44) hx hb dX1_init_26 (by decide) (by omega) (by omega) (fun c_3 => ?_) (fun c_3 => ?_)
  ·
    refine lv_aload_n hx hb dX1_init_44 rfl (lv_at hl 0 rfl) ?_
    refine lv_iconst (v := zI 4) hx hb dX1_init_45 (rfl) ?_
    refine lz_newq (C := RX4) (N := 4) hx hb hown (hts (.classLink RX1 26 RX4) (by decide +kernel)) hAo.2.1 hK hP hD hS hA 3 rfl (by decide) (Nat.le_of_ble_eq_true rfl) (Nat.le_of_ble_eq_true rfl) dX1_init_46 (fun q_4 H hP hD hS => ?_)
    have hP : va_P (dC, dI) vwCl [(lv, .inr (1, [.int (zI w), .int (zI h), .ref q_1, .null, .int (zI 0), .int (zI 0), .int (zI 0), .int (zI 0), .int (zI 0), .int (zI 0)])), zA cI q_1 96 K9, zQ cT q_4 4 (fun _ => none)] H := hP
    have hD : va_D A [(lv, .inr (1, [.int (zI w), .int (zI h), .ref q_1, .null, .int (zI 0), .int (zI 0), .int (zI 0), .int (zI 0), .int (zI 0), .int (zI 0)])), zA cI q_1 96 K9, zQ cT q_4 4 (fun _ => none)] := hD
    refine va_putF (D := (dC, dI)) (ci := 1) (v := .ref q_4) (ty := .array (.object "SpringLevels$Tape")) (C := RX1) (T := TX1) (N := 10) hx hb hts i_1 tyX1 tyX1_ok nmX1 hown hK hP hD hS 0 rfl rfl 3 (by decide) f_28 (fun _ h9 => h9) rfl hin rfl (by decide +kernel) rfl rfl (Nat.le_of_ble_eq_true rfl) dX1_init_49 (fun H locs hP hD hS => ?_)
    have hP : va_P (dC, dI) vwCl [(lv, .inr (1, [.int (zI w), .int (zI h), .ref q_1, .ref q_4, .int (zI 0), .int (zI 0), .int (zI 0), .int (zI 0), .int (zI 0), .int (zI 0)])), zA cI q_1 96 K9, zQ cT q_4 4 (fun _ => none)] H := hP
    have hD : va_D A [(lv, .inr (1, [.int (zI w), .int (zI h), .ref q_1, .ref q_4, .int (zI 0), .int (zI 0), .int (zI 0), .int (zI 0), .int (zI 0), .int (zI 0)])), zA cI q_1 96 K9, zQ cT q_4 4 (fun _ => none)] := hD
    refine lv_iconst (v := zI 0) hx hb dX1_init_52 (rfl) ?_
    refine lv_istore_n (lv' := [(3, .int (zI 0)), (0, .ref lv), (1, .int (zI w)), (2, .int (zI h))]) hx hb dX1_init_53 rfl hl (by decide) rfl (fun ls hl => ?_)
    refine lv_iload_n hx hb dX1_init_54 rfl (lv_at hl 0 rfl) ?_
    refine lv_iconst (v := zI 4) hx hb dX1_init_55 (rfl) ?_
    refine lz_icmp_ge (tgt := 78) hx hb dX1_init_56 (by decide) ⟨by decide, by decide⟩ ⟨by decide, by decide⟩ (fun c_5 => ?_) (fun c_5 => ?_)
    · exact absurd c_5 (by decide)
    ·
      refine lv_aload_n hx hb dX1_init_59 rfl (lv_at hl 1 rfl) ?_
      refine va_get (D := (dC, dI)) (ci := 1) (v := .ref q_4) (C := RX1) (T := TX1) (N := 10) hx hb hts i_1 hown hK hP 0 rfl rfl 3 (by decide) f_28 (fun _ h9 => h9) rfl dX1_init_60 ?_
      refine lv_iload_n hx hb dX1_init_63 rfl (lv_at hl 0 rfl) ?_
      refine va_new (ci := 4) (fs := [.null, .int (zI 0), .int (zI 0)]) (C := RX4) (T := TX4) (N := 3) hx hb hts i_4 tyX4 tyX4_ok hown (hts (.classLink RX1 26 RX4) (by decide +kernel)) (hts (.instantiable RX4 3) (by decide +kernel)) (hts (.initialized RX4) (by decide +kernel)) hK hP hD hS hA rfl (fun j hj => by rcases (show j = 0 ∨ j = 1 ∨ j = 2 by omega) with rfl | rfl | rfl <;> rfl) (Nat.le_of_ble_eq_true rfl) (Nat.le_of_ble_eq_true rfl) dX1_init_64 (fun q_6 H hP hD hS => ?_)
      have hP : va_P (dC, dI) vwCl [(lv, .inr (1, [.int (zI w), .int (zI h), .ref q_1, .ref q_4, .int (zI 0), .int (zI 0), .int (zI 0), .int (zI 0), .int (zI 0), .int (zI 0)])), zA cI q_1 96 K9, zQ cT q_4 4 (fun _ => none), (q_6, .inr (4, [.null, .int (zI 0), .int (zI 0)]))] H := hP
      have hD : va_D A [(lv, .inr (1, [.int (zI w), .int (zI h), .ref q_1, .ref q_4, .int (zI 0), .int (zI 0), .int (zI 0), .int (zI 0), .int (zI 0), .int (zI 0)])), zA cI q_1 96 K9, zQ cT q_4 4 (fun _ => none), (q_6, .inr (4, [.null, .int (zI 0), .int (zI 0)]))] := hD
      refine lv_dup hx hb dX1_init_67 rfl ?_
      have hPc := hP.sub (ws' := [(q_6, .inr (4, [.null, .int (zI 0), .int (zI 0)]))]) [3] rfl
      have hDc := hD.sub (ws' := [(q_6, .inr (4, [.null, .int (zI 0), .int (zI 0)]))]) [3] (by decide) rfl
      have hFc := va_free (wc := [(q_6, .inr (4, [.null, .int (zI 0), .int (zI 0)]))]) hD hS hA [3] rfl
      refine va_callv (va_runI (As := []) (rest := [.ref q_6, .int (zI 0), .ref q_4]) ⟨hx, hb, hml, hown, hts⟩ (c_X4_init l dC dI cI cZ cL cT cJ H.size q_6 ) (cwI 0 hts ggX1_init_X4_init rfl rfl rfl (hts (.initialized RX4) (by decide +kernel)) (hts (.methodLink RX1 32 yX4_init) (by decide +kernel)) (hts (.instanceMethod yX4_init) (by decide +kernel)) rfl (by decide +kernel) ⟨Nat.le_of_ble_eq_true rfl, Nat.le_of_ble_eq_true rfl⟩) ⟨zP_blind, zP_pre hPc hDc hK⟩ rfl rfl hl.1 rfl (lv_room (Nat.le_of_ble_eq_true rfl)) dX1_init_68 ⟨Nat.le_of_ble_eq_true rfl, Nat.le_of_ble_eq_true rfl⟩) hS (fun q _ h => hFc q h) hFc (fun u_7 t H1 locs ht hvm hw hB hz1 hk1 hS => ?_)
      obtain ⟨ti_8, rfl⟩ : ∃ z, z = u_7 := ⟨_, rfl⟩
      obtain ⟨hP1, hK1, hD1⟩ := hB
      rw [ht] at hP1
      have hP1 : va_P (dC, dI) vwCl [(q_6, .inr (4, [.ref ti_8, .int (zI (-1)), .int (zI (-1))])), zA cI ti_8 100 (fun _ => 0)] H1 := hP1
      obtain ⟨hP, hD⟩ := va_join (wr := [(lv, .inr (1, [.int (zI w), .int (zI h), .ref q_1, .ref q_4, .int (zI 0), .int (zI 0), .int (zI 0), .int (zI 0), .int (zI 0), .int (zI 0)])), zA cI q_1 96 K9, zQ cT q_4 4 (fun _ => none)]) (w1 := [(q_6, .inr (4, [.ref ti_8, .int (zI (-1)), .int (zI (-1))])), zA cI ti_8 100 (fun _ => 0)]) hP hD [3] [0, 1, 2] rfl rfl (by decide) (by decide) hk1 hFc hP1 hD1
      clear hP1 hD1 hk1 hFc hPc hDc hz1
      generalize H1 = H at hP hS ⊢
      have hP : va_P (dC, dI) vwCl [(lv, .inr (1, [.int (zI w), .int (zI h), .ref q_1, .ref q_4, .int (zI 0), .int (zI 0), .int (zI 0), .int (zI 0), .int (zI 0), .int (zI 0)])), zA cI q_1 96 K9, zQ cT q_4 4 (fun _ => none), (q_6, .inr (4, [.ref ti_8, .int (zI (-1)), .int (zI (-1))])), zA cI ti_8 100 (fun _ => 0)] H := hP.sub [0, 1, 2, 3, 4] rfl
      have hD : va_D A [(lv, .inr (1, [.int (zI w), .int (zI h), .ref q_1, .ref q_4, .int (zI 0), .int (zI 0), .int (zI 0), .int (zI 0), .int (zI 0), .int (zI 0)])), zA cI q_1 96 K9, zQ cT q_4 4 (fun _ => none), (q_6, .inr (4, [.ref ti_8, .int (zI (-1)), .int (zI (-1))])), zA cI ti_8 100 (fun _ => 0)] := hD.sub [0, 1, 2, 3, 4] (by decide) rfl
      clear hK1 hvm
      refine W.eq (g2 := F0 m 71 ls [.ref q_6, .int (zI 0), .ref q_4]) rfl ?_
      refine lz_astq (k := 0) (f := fun _ => none) hx hb hK hP hD hS 2 3 3 4 rfl rfl rfl rfl (by omega) (by omega) (by decide) dX1_init_71 (fun H locs hP hD hS => ?_)
      have hP : va_P (dC, dI) vwCl [(lv, .inr (1, [.int (zI w), .int (zI h), .ref q_1, .ref q_4, .int (zI 0), .int (zI 0), .int (zI 0), .int (zI 0), .int (zI 0), .int (zI 0)])), zA cI q_1 96 K9, zQ cT q_4 4 (va_up (fun _ => none) 0 (some q_6)), (q_6, .inr (4, [.ref ti_8, .int (zI (-1)), .int (zI (-1))])), zA cI ti_8 100 (fun _ => 0)] H := hP
      have hD : va_D A [(lv, .inr (1, [.int (zI w), .int (zI h), .ref q_1, .ref q_4, .int (zI 0), .int (zI 0), .int (zI 0), .int (zI 0), .int (zI 0), .int (zI 0)])), zA cI q_1 96 K9, zQ cT q_4 4 (va_up (fun _ => none) 0 (some q_6)), (q_6, .inr (4, [.ref ti_8, .int (zI (-1)), .int (zI (-1))])), zA cI ti_8 100 (fun _ => 0)] := hD
      refine lz_iinc (z := 1) (lv' := [(3, .int (zI 1)), (0, .ref lv), (1, .int (zI w)), (2, .int (zI h))]) hx hb dX1_init_72 hl (k := 0) rfl (by omega) (by decide) rfl (fun ls hl => ?_)
      refine lv_goto (tgt := 54) hx hb dX1_init_75 (by decide) ?_
      refine lv_iload_n hx hb dX1_init_54 rfl (lv_at hl 0 rfl) ?_
      refine lv_iconst (v := zI 4) hx hb dX1_init_55 (rfl) ?_
      refine lz_icmp_ge (tgt := 78) hx hb dX1_init_56 (by decide) ⟨by decide, by decide⟩ ⟨by decide, by decide⟩ (fun c_10 => ?_) (fun c_10 => ?_)
      · exact absurd c_10 (by decide)
      ·
        refine lv_aload_n hx hb dX1_init_59 rfl (lv_at hl 1 rfl) ?_
        refine va_get (D := (dC, dI)) (ci := 1) (v := .ref q_4) (C := RX1) (T := TX1) (N := 10) hx hb hts i_1 hown hK hP 0 rfl rfl 3 (by decide) f_28 (fun _ h9 => h9) rfl dX1_init_60 ?_
        refine lv_iload_n hx hb dX1_init_63 rfl (lv_at hl 0 rfl) ?_
        refine va_new (ci := 4) (fs := [.null, .int (zI 0), .int (zI 0)]) (C := RX4) (T := TX4) (N := 3) hx hb hts i_4 tyX4 tyX4_ok hown (hts (.classLink RX1 26 RX4) (by decide +kernel)) (hts (.instantiable RX4 3) (by decide +kernel)) (hts (.initialized RX4) (by decide +kernel)) hK hP hD hS hA rfl (fun j hj => by rcases (show j = 0 ∨ j = 1 ∨ j = 2 by omega) with rfl | rfl | rfl <;> rfl) (Nat.le_of_ble_eq_true rfl) (Nat.le_of_ble_eq_true rfl) dX1_init_64 (fun q_11 H hP hD hS => ?_)
        have hP : va_P (dC, dI) vwCl [(lv, .inr (1, [.int (zI w), .int (zI h), .ref q_1, .ref q_4, .int (zI 0), .int (zI 0), .int (zI 0), .int (zI 0), .int (zI 0), .int (zI 0)])), zA cI q_1 96 K9, zQ cT q_4 4 (va_up (fun _ => none) 0 (some q_6)), (q_6, .inr (4, [.ref ti_8, .int (zI (-1)), .int (zI (-1))])), zA cI ti_8 100 (fun _ => 0), (q_11, .inr (4, [.null, .int (zI 0), .int (zI 0)]))] H := hP
        have hD : va_D A [(lv, .inr (1, [.int (zI w), .int (zI h), .ref q_1, .ref q_4, .int (zI 0), .int (zI 0), .int (zI 0), .int (zI 0), .int (zI 0), .int (zI 0)])), zA cI q_1 96 K9, zQ cT q_4 4 (va_up (fun _ => none) 0 (some q_6)), (q_6, .inr (4, [.ref ti_8, .int (zI (-1)), .int (zI (-1))])), zA cI ti_8 100 (fun _ => 0), (q_11, .inr (4, [.null, .int (zI 0), .int (zI 0)]))] := hD
        refine lv_dup hx hb dX1_init_67 rfl ?_
        have hPc := hP.sub (ws' := [(q_11, .inr (4, [.null, .int (zI 0), .int (zI 0)]))]) [5] rfl
        have hDc := hD.sub (ws' := [(q_11, .inr (4, [.null, .int (zI 0), .int (zI 0)]))]) [5] (by decide) rfl
        have hFc := va_free (wc := [(q_11, .inr (4, [.null, .int (zI 0), .int (zI 0)]))]) hD hS hA [5] rfl
        refine va_callv (va_runI (As := []) (rest := [.ref q_11, .int (zI 1), .ref q_4]) ⟨hx, hb, hml, hown, hts⟩ (c_X4_init l dC dI cI cZ cL cT cJ H.size q_11 ) (cwI 0 hts ggX1_init_X4_init rfl rfl rfl (hts (.initialized RX4) (by decide +kernel)) (hts (.methodLink RX1 32 yX4_init) (by decide +kernel)) (hts (.instanceMethod yX4_init) (by decide +kernel)) rfl (by decide +kernel) ⟨Nat.le_of_ble_eq_true rfl, Nat.le_of_ble_eq_true rfl⟩) ⟨zP_blind, zP_pre hPc hDc hK⟩ rfl rfl hl.1 rfl (lv_room (Nat.le_of_ble_eq_true rfl)) dX1_init_68 ⟨Nat.le_of_ble_eq_true rfl, Nat.le_of_ble_eq_true rfl⟩) hS (fun q _ h => hFc q h) hFc (fun u_12 t H1 locs ht hvm hw hB hz1 hk1 hS => ?_)
        obtain ⟨ti_13, rfl⟩ : ∃ z, z = u_12 := ⟨_, rfl⟩
        obtain ⟨hP1, hK1, hD1⟩ := hB
        rw [ht] at hP1
        have hP1 : va_P (dC, dI) vwCl [(q_11, .inr (4, [.ref ti_13, .int (zI (-1)), .int (zI (-1))])), zA cI ti_13 100 (fun _ => 0)] H1 := hP1
        obtain ⟨hP, hD⟩ := va_join (wr := [(lv, .inr (1, [.int (zI w), .int (zI h), .ref q_1, .ref q_4, .int (zI 0), .int (zI 0), .int (zI 0), .int (zI 0), .int (zI 0), .int (zI 0)])), zA cI q_1 96 K9, zQ cT q_4 4 (va_up (fun _ => none) 0 (some q_6)), (q_6, .inr (4, [.ref ti_8, .int (zI (-1)), .int (zI (-1))])), zA cI ti_8 100 (fun _ => 0)]) (w1 := [(q_11, .inr (4, [.ref ti_13, .int (zI (-1)), .int (zI (-1))])), zA cI ti_13 100 (fun _ => 0)]) hP hD [5] [0, 1, 2, 3, 4] rfl rfl (by decide) (by decide) hk1 hFc hP1 hD1
        clear hP1 hD1 hk1 hFc hPc hDc hz1
        generalize H1 = H at hP hS ⊢
        have hP : va_P (dC, dI) vwCl [(lv, .inr (1, [.int (zI w), .int (zI h), .ref q_1, .ref q_4, .int (zI 0), .int (zI 0), .int (zI 0), .int (zI 0), .int (zI 0), .int (zI 0)])), zA cI q_1 96 K9, zQ cT q_4 4 (va_up (fun _ => none) 0 (some q_6)), (q_6, .inr (4, [.ref ti_8, .int (zI (-1)), .int (zI (-1))])), zA cI ti_8 100 (fun _ => 0), (q_11, .inr (4, [.ref ti_13, .int (zI (-1)), .int (zI (-1))])), zA cI ti_13 100 (fun _ => 0)] H := hP.sub [0, 1, 2, 3, 4, 5, 6] rfl
        have hD : va_D A [(lv, .inr (1, [.int (zI w), .int (zI h), .ref q_1, .ref q_4, .int (zI 0), .int (zI 0), .int (zI 0), .int (zI 0), .int (zI 0), .int (zI 0)])), zA cI q_1 96 K9, zQ cT q_4 4 (va_up (fun _ => none) 0 (some q_6)), (q_6, .inr (4, [.ref ti_8, .int (zI (-1)), .int (zI (-1))])), zA cI ti_8 100 (fun _ => 0), (q_11, .inr (4, [.ref ti_13, .int (zI (-1)), .int (zI (-1))])), zA cI ti_13 100 (fun _ => 0)] := hD.sub [0, 1, 2, 3, 4, 5, 6] (by decide) rfl
        clear hK1 hvm
        refine W.eq (g2 := F0 m 71 ls [.ref q_11, .int (zI 1), .ref q_4]) rfl ?_
        refine lz_astq (k := 1) (f := va_up (fun _ => none) 0 (some q_6)) hx hb hK hP hD hS 2 3 5 4 rfl rfl rfl rfl (by omega) (by omega) (by decide) dX1_init_71 (fun H locs hP hD hS => ?_)
        have hP : va_P (dC, dI) vwCl [(lv, .inr (1, [.int (zI w), .int (zI h), .ref q_1, .ref q_4, .int (zI 0), .int (zI 0), .int (zI 0), .int (zI 0), .int (zI 0), .int (zI 0)])), zA cI q_1 96 K9, zQ cT q_4 4 (va_up (va_up (fun _ => none) 0 (some q_6)) 1 (some q_11)), (q_6, .inr (4, [.ref ti_8, .int (zI (-1)), .int (zI (-1))])), zA cI ti_8 100 (fun _ => 0), (q_11, .inr (4, [.ref ti_13, .int (zI (-1)), .int (zI (-1))])), zA cI ti_13 100 (fun _ => 0)] H := hP
        have hD : va_D A [(lv, .inr (1, [.int (zI w), .int (zI h), .ref q_1, .ref q_4, .int (zI 0), .int (zI 0), .int (zI 0), .int (zI 0), .int (zI 0), .int (zI 0)])), zA cI q_1 96 K9, zQ cT q_4 4 (va_up (va_up (fun _ => none) 0 (some q_6)) 1 (some q_11)), (q_6, .inr (4, [.ref ti_8, .int (zI (-1)), .int (zI (-1))])), zA cI ti_8 100 (fun _ => 0), (q_11, .inr (4, [.ref ti_13, .int (zI (-1)), .int (zI (-1))])), zA cI ti_13 100 (fun _ => 0)] := hD
        refine lz_iinc (z := 2) (lv' := [(3, .int (zI 2)), (0, .ref lv), (1, .int (zI w)), (2, .int (zI h))]) hx hb dX1_init_72 hl (k := 0) rfl (by omega) (by decide) rfl (fun ls hl => ?_)
        refine lv_goto (tgt := 54) hx hb dX1_init_75 (by decide) ?_
        refine lv_iload_n hx hb dX1_init_54 rfl (lv_at hl 0 rfl) ?_
        refine lv_iconst (v := zI 4) hx hb dX1_init_55 (rfl) ?_
        refine lz_icmp_ge (tgt := 78) hx hb dX1_init_56 (by decide) ⟨by decide, by decide⟩ ⟨by decide, by decide⟩ (fun c_15 => ?_) (fun c_15 => ?_)
        · exact absurd c_15 (by decide)
        ·
          refine lv_aload_n hx hb dX1_init_59 rfl (lv_at hl 1 rfl) ?_
          refine va_get (D := (dC, dI)) (ci := 1) (v := .ref q_4) (C := RX1) (T := TX1) (N := 10) hx hb hts i_1 hown hK hP 0 rfl rfl 3 (by decide) f_28 (fun _ h9 => h9) rfl dX1_init_60 ?_
          refine lv_iload_n hx hb dX1_init_63 rfl (lv_at hl 0 rfl) ?_
          refine va_new (ci := 4) (fs := [.null, .int (zI 0), .int (zI 0)]) (C := RX4) (T := TX4) (N := 3) hx hb hts i_4 tyX4 tyX4_ok hown (hts (.classLink RX1 26 RX4) (by decide +kernel)) (hts (.instantiable RX4 3) (by decide +kernel)) (hts (.initialized RX4) (by decide +kernel)) hK hP hD hS hA rfl (fun j hj => by rcases (show j = 0 ∨ j = 1 ∨ j = 2 by omega) with rfl | rfl | rfl <;> rfl) (Nat.le_of_ble_eq_true rfl) (Nat.le_of_ble_eq_true rfl) dX1_init_64 (fun q_16 H hP hD hS => ?_)
          have hP : va_P (dC, dI) vwCl [(lv, .inr (1, [.int (zI w), .int (zI h), .ref q_1, .ref q_4, .int (zI 0), .int (zI 0), .int (zI 0), .int (zI 0), .int (zI 0), .int (zI 0)])), zA cI q_1 96 K9, zQ cT q_4 4 (va_up (va_up (fun _ => none) 0 (some q_6)) 1 (some q_11)), (q_6, .inr (4, [.ref ti_8, .int (zI (-1)), .int (zI (-1))])), zA cI ti_8 100 (fun _ => 0), (q_11, .inr (4, [.ref ti_13, .int (zI (-1)), .int (zI (-1))])), zA cI ti_13 100 (fun _ => 0), (q_16, .inr (4, [.null, .int (zI 0), .int (zI 0)]))] H := hP
          have hD : va_D A [(lv, .inr (1, [.int (zI w), .int (zI h), .ref q_1, .ref q_4, .int (zI 0), .int (zI 0), .int (zI 0), .int (zI 0), .int (zI 0), .int (zI 0)])), zA cI q_1 96 K9, zQ cT q_4 4 (va_up (va_up (fun _ => none) 0 (some q_6)) 1 (some q_11)), (q_6, .inr (4, [.ref ti_8, .int (zI (-1)), .int (zI (-1))])), zA cI ti_8 100 (fun _ => 0), (q_11, .inr (4, [.ref ti_13, .int (zI (-1)), .int (zI (-1))])), zA cI ti_13 100 (fun _ => 0), (q_16, .inr (4, [.null, .int (zI 0), .int (zI 0)]))] := hD
          refine lv_dup hx hb dX1_init_67 rfl ?_
          have hPc := hP.sub (ws' := [(q_16, .inr (4, [.null, .int (zI 0), .int (zI 0)]))]) [7] rfl
          have hDc := hD.sub (ws' := [(q_16, .inr (4, [.null, .int (zI 0), .int (zI 0)]))]) [7] (by decide) rfl
          have hFc := va_free (wc := [(q_16, .inr (4, [.null, .int (zI 0), .int (zI 0)]))]) hD hS hA [7] rfl
          refine va_callv (va_runI (As := []) (rest := [.ref q_16, .int (zI 2), .ref q_4]) ⟨hx, hb, hml, hown, hts⟩ (c_X4_init l dC dI cI cZ cL cT cJ H.size q_16 ) (cwI 0 hts ggX1_init_X4_init rfl rfl rfl (hts (.initialized RX4) (by decide +kernel)) (hts (.methodLink RX1 32 yX4_init) (by decide +kernel)) (hts (.instanceMethod yX4_init) (by decide +kernel)) rfl (by decide +kernel) ⟨Nat.le_of_ble_eq_true rfl, Nat.le_of_ble_eq_true rfl⟩) ⟨zP_blind, zP_pre hPc hDc hK⟩ rfl rfl hl.1 rfl (lv_room (Nat.le_of_ble_eq_true rfl)) dX1_init_68 ⟨Nat.le_of_ble_eq_true rfl, Nat.le_of_ble_eq_true rfl⟩) hS (fun q _ h => hFc q h) hFc (fun u_17 t H1 locs ht hvm hw hB hz1 hk1 hS => ?_)
          obtain ⟨ti_18, rfl⟩ : ∃ z, z = u_17 := ⟨_, rfl⟩
          obtain ⟨hP1, hK1, hD1⟩ := hB
          rw [ht] at hP1
          have hP1 : va_P (dC, dI) vwCl [(q_16, .inr (4, [.ref ti_18, .int (zI (-1)), .int (zI (-1))])), zA cI ti_18 100 (fun _ => 0)] H1 := hP1
          obtain ⟨hP, hD⟩ := va_join (wr := [(lv, .inr (1, [.int (zI w), .int (zI h), .ref q_1, .ref q_4, .int (zI 0), .int (zI 0), .int (zI 0), .int (zI 0), .int (zI 0), .int (zI 0)])), zA cI q_1 96 K9, zQ cT q_4 4 (va_up (va_up (fun _ => none) 0 (some q_6)) 1 (some q_11)), (q_6, .inr (4, [.ref ti_8, .int (zI (-1)), .int (zI (-1))])), zA cI ti_8 100 (fun _ => 0), (q_11, .inr (4, [.ref ti_13, .int (zI (-1)), .int (zI (-1))])), zA cI ti_13 100 (fun _ => 0)]) (w1 := [(q_16, .inr (4, [.ref ti_18, .int (zI (-1)), .int (zI (-1))])), zA cI ti_18 100 (fun _ => 0)]) hP hD [7] [0, 1, 2, 3, 4, 5, 6] rfl rfl (by decide) (by decide) hk1 hFc hP1 hD1
          clear hP1 hD1 hk1 hFc hPc hDc hz1
          generalize H1 = H at hP hS ⊢
          have hP : va_P (dC, dI) vwCl [(lv, .inr (1, [.int (zI w), .int (zI h), .ref q_1, .ref q_4, .int (zI 0), .int (zI 0), .int (zI 0), .int (zI 0), .int (zI 0), .int (zI 0)])), zA cI q_1 96 K9, zQ cT q_4 4 (va_up (va_up (fun _ => none) 0 (some q_6)) 1 (some q_11)), (q_6, .inr (4, [.ref ti_8, .int (zI (-1)), .int (zI (-1))])), zA cI ti_8 100 (fun _ => 0), (q_11, .inr (4, [.ref ti_13, .int (zI (-1)), .int (zI (-1))])), zA cI ti_13 100 (fun _ => 0), (q_16, .inr (4, [.ref ti_18, .int (zI (-1)), .int (zI (-1))])), zA cI ti_18 100 (fun _ => 0)] H := hP.sub [0, 1, 2, 3, 4, 5, 6, 7, 8] rfl
          have hD : va_D A [(lv, .inr (1, [.int (zI w), .int (zI h), .ref q_1, .ref q_4, .int (zI 0), .int (zI 0), .int (zI 0), .int (zI 0), .int (zI 0), .int (zI 0)])), zA cI q_1 96 K9, zQ cT q_4 4 (va_up (va_up (fun _ => none) 0 (some q_6)) 1 (some q_11)), (q_6, .inr (4, [.ref ti_8, .int (zI (-1)), .int (zI (-1))])), zA cI ti_8 100 (fun _ => 0), (q_11, .inr (4, [.ref ti_13, .int (zI (-1)), .int (zI (-1))])), zA cI ti_13 100 (fun _ => 0), (q_16, .inr (4, [.ref ti_18, .int (zI (-1)), .int (zI (-1))])), zA cI ti_18 100 (fun _ => 0)] := hD.sub [0, 1, 2, 3, 4, 5, 6, 7, 8] (by decide) rfl
          clear hK1 hvm
          refine W.eq (g2 := F0 m 71 ls [.ref q_16, .int (zI 2), .ref q_4]) rfl ?_
          refine lz_astq (k := 2) (f := va_up (va_up (fun _ => none) 0 (some q_6)) 1 (some q_11)) hx hb hK hP hD hS 2 3 7 4 rfl rfl rfl rfl (by omega) (by omega) (by decide) dX1_init_71 (fun H locs hP hD hS => ?_)
          have hP : va_P (dC, dI) vwCl [(lv, .inr (1, [.int (zI w), .int (zI h), .ref q_1, .ref q_4, .int (zI 0), .int (zI 0), .int (zI 0), .int (zI 0), .int (zI 0), .int (zI 0)])), zA cI q_1 96 K9, zQ cT q_4 4 (va_up (va_up (va_up (fun _ => none) 0 (some q_6)) 1 (some q_11)) 2 (some q_16)), (q_6, .inr (4, [.ref ti_8, .int (zI (-1)), .int (zI (-1))])), zA cI ti_8 100 (fun _ => 0), (q_11, .inr (4, [.ref ti_13, .int (zI (-1)), .int (zI (-1))])), zA cI ti_13 100 (fun _ => 0), (q_16, .inr (4, [.ref ti_18, .int (zI (-1)), .int (zI (-1))])), zA cI ti_18 100 (fun _ => 0)] H := hP
          have hD : va_D A [(lv, .inr (1, [.int (zI w), .int (zI h), .ref q_1, .ref q_4, .int (zI 0), .int (zI 0), .int (zI 0), .int (zI 0), .int (zI 0), .int (zI 0)])), zA cI q_1 96 K9, zQ cT q_4 4 (va_up (va_up (va_up (fun _ => none) 0 (some q_6)) 1 (some q_11)) 2 (some q_16)), (q_6, .inr (4, [.ref ti_8, .int (zI (-1)), .int (zI (-1))])), zA cI ti_8 100 (fun _ => 0), (q_11, .inr (4, [.ref ti_13, .int (zI (-1)), .int (zI (-1))])), zA cI ti_13 100 (fun _ => 0), (q_16, .inr (4, [.ref ti_18, .int (zI (-1)), .int (zI (-1))])), zA cI ti_18 100 (fun _ => 0)] := hD
          refine lz_iinc (z := 3) (lv' := [(3, .int (zI 3)), (0, .ref lv), (1, .int (zI w)), (2, .int (zI h))]) hx hb dX1_init_72 hl (k := 0) rfl (by omega) (by decide) rfl (fun ls hl => ?_)
          refine lv_goto (tgt := 54) hx hb dX1_init_75 (by decide) ?_
          refine lv_iload_n hx hb dX1_init_54 rfl (lv_at hl 0 rfl) ?_
          refine lv_iconst (v := zI 4) hx hb dX1_init_55 (rfl) ?_
          refine lz_icmp_ge (tgt := 78) hx hb dX1_init_56 (by decide) ⟨by decide, by decide⟩ ⟨by decide, by decide⟩ (fun c_20 => ?_) (fun c_20 => ?_)
          · exact absurd c_20 (by decide)
          ·
            refine lv_aload_n hx hb dX1_init_59 rfl (lv_at hl 1 rfl) ?_
            refine va_get (D := (dC, dI)) (ci := 1) (v := .ref q_4) (C := RX1) (T := TX1) (N := 10) hx hb hts i_1 hown hK hP 0 rfl rfl 3 (by decide) f_28 (fun _ h9 => h9) rfl dX1_init_60 ?_
            refine lv_iload_n hx hb dX1_init_63 rfl (lv_at hl 0 rfl) ?_
            refine va_new (ci := 4) (fs := [.null, .int (zI 0), .int (zI 0)]) (C := RX4) (T := TX4) (N := 3) hx hb hts i_4 tyX4 tyX4_ok hown (hts (.classLink RX1 26 RX4) (by decide +kernel)) (hts (.instantiable RX4 3) (by decide +kernel)) (hts (.initialized RX4) (by decide +kernel)) hK hP hD hS hA rfl (fun j hj => by rcases (show j = 0 ∨ j = 1 ∨ j = 2 by omega) with rfl | rfl | rfl <;> rfl) (Nat.le_of_ble_eq_true rfl) (Nat.le_of_ble_eq_true rfl) dX1_init_64 (fun q_21 H hP hD hS => ?_)
            have hP : va_P (dC, dI) vwCl [(lv, .inr (1, [.int (zI w), .int (zI h), .ref q_1, .ref q_4, .int (zI 0), .int (zI 0), .int (zI 0), .int (zI 0), .int (zI 0), .int (zI 0)])), zA cI q_1 96 K9, zQ cT q_4 4 (va_up (va_up (va_up (fun _ => none) 0 (some q_6)) 1 (some q_11)) 2 (some q_16)), (q_6, .inr (4, [.ref ti_8, .int (zI (-1)), .int (zI (-1))])), zA cI ti_8 100 (fun _ => 0), (q_11, .inr (4, [.ref ti_13, .int (zI (-1)), .int (zI (-1))])), zA cI ti_13 100 (fun _ => 0), (q_16, .inr (4, [.ref ti_18, .int (zI (-1)), .int (zI (-1))])), zA cI ti_18 100 (fun _ => 0), (q_21, .inr (4, [.null, .int (zI 0), .int (zI 0)]))] H := hP
            have hD : va_D A [(lv, .inr (1, [.int (zI w), .int (zI h), .ref q_1, .ref q_4, .int (zI 0), .int (zI 0), .int (zI 0), .int (zI 0), .int (zI 0), .int (zI 0)])), zA cI q_1 96 K9, zQ cT q_4 4 (va_up (va_up (va_up (fun _ => none) 0 (some q_6)) 1 (some q_11)) 2 (some q_16)), (q_6, .inr (4, [.ref ti_8, .int (zI (-1)), .int (zI (-1))])), zA cI ti_8 100 (fun _ => 0), (q_11, .inr (4, [.ref ti_13, .int (zI (-1)), .int (zI (-1))])), zA cI ti_13 100 (fun _ => 0), (q_16, .inr (4, [.ref ti_18, .int (zI (-1)), .int (zI (-1))])), zA cI ti_18 100 (fun _ => 0), (q_21, .inr (4, [.null, .int (zI 0), .int (zI 0)]))] := hD
            refine lv_dup hx hb dX1_init_67 rfl ?_
            have hPc := hP.sub (ws' := [(q_21, .inr (4, [.null, .int (zI 0), .int (zI 0)]))]) [9] rfl
            have hDc := hD.sub (ws' := [(q_21, .inr (4, [.null, .int (zI 0), .int (zI 0)]))]) [9] (by decide) rfl
            have hFc := va_free (wc := [(q_21, .inr (4, [.null, .int (zI 0), .int (zI 0)]))]) hD hS hA [9] rfl
            refine va_callv (va_runI (As := []) (rest := [.ref q_21, .int (zI 3), .ref q_4]) ⟨hx, hb, hml, hown, hts⟩ (c_X4_init l dC dI cI cZ cL cT cJ H.size q_21 ) (cwI 0 hts ggX1_init_X4_init rfl rfl rfl (hts (.initialized RX4) (by decide +kernel)) (hts (.methodLink RX1 32 yX4_init) (by decide +kernel)) (hts (.instanceMethod yX4_init) (by decide +kernel)) rfl (by decide +kernel) ⟨Nat.le_of_ble_eq_true rfl, Nat.le_of_ble_eq_true rfl⟩) ⟨zP_blind, zP_pre hPc hDc hK⟩ rfl rfl hl.1 rfl (lv_room (Nat.le_of_ble_eq_true rfl)) dX1_init_68 ⟨Nat.le_of_ble_eq_true rfl, Nat.le_of_ble_eq_true rfl⟩) hS (fun q _ h => hFc q h) hFc (fun u_22 t H1 locs ht hvm hw hB hz1 hk1 hS => ?_)
            obtain ⟨ti_23, rfl⟩ : ∃ z, z = u_22 := ⟨_, rfl⟩
            obtain ⟨hP1, hK1, hD1⟩ := hB
            rw [ht] at hP1
            have hP1 : va_P (dC, dI) vwCl [(q_21, .inr (4, [.ref ti_23, .int (zI (-1)), .int (zI (-1))])), zA cI ti_23 100 (fun _ => 0)] H1 := hP1
            obtain ⟨hP, hD⟩ := va_join (wr := [(lv, .inr (1, [.int (zI w), .int (zI h), .ref q_1, .ref q_4, .int (zI 0), .int (zI 0), .int (zI 0), .int (zI 0), .int (zI 0), .int (zI 0)])), zA cI q_1 96 K9, zQ cT q_4 4 (va_up (va_up (va_up (fun _ => none) 0 (some q_6)) 1 (some q_11)) 2 (some q_16)), (q_6, .inr (4, [.ref ti_8, .int (zI (-1)), .int (zI (-1))])), zA cI ti_8 100 (fun _ => 0), (q_11, .inr (4, [.ref ti_13, .int (zI (-1)), .int (zI (-1))])), zA cI ti_13 100 (fun _ => 0), (q_16, .inr (4, [.ref ti_18, .int (zI (-1)), .int (zI (-1))])), zA cI ti_18 100 (fun _ => 0)]) (w1 := [(q_21, .inr (4, [.ref ti_23, .int (zI (-1)), .int (zI (-1))])), zA cI ti_23 100 (fun _ => 0)]) hP hD [9] [0, 1, 2, 3, 4, 5, 6, 7, 8] rfl rfl (by decide) (by decide) hk1 hFc hP1 hD1
            clear hP1 hD1 hk1 hFc hPc hDc hz1
            generalize H1 = H at hP hS ⊢
            have hP : va_P (dC, dI) vwCl [(lv, .inr (1, [.int (zI w), .int (zI h), .ref q_1, .ref q_4, .int (zI 0), .int (zI 0), .int (zI 0), .int (zI 0), .int (zI 0), .int (zI 0)])), zA cI q_1 96 K9, zQ cT q_4 4 (va_up (va_up (va_up (fun _ => none) 0 (some q_6)) 1 (some q_11)) 2 (some q_16)), (q_6, .inr (4, [.ref ti_8, .int (zI (-1)), .int (zI (-1))])), zA cI ti_8 100 (fun _ => 0), (q_11, .inr (4, [.ref ti_13, .int (zI (-1)), .int (zI (-1))])), zA cI ti_13 100 (fun _ => 0), (q_16, .inr (4, [.ref ti_18, .int (zI (-1)), .int (zI (-1))])), zA cI ti_18 100 (fun _ => 0), (q_21, .inr (4, [.ref ti_23, .int (zI (-1)), .int (zI (-1))])), zA cI ti_23 100 (fun _ => 0)] H := hP.sub [0, 1, 2, 3, 4, 5, 6, 7, 8, 9, 10] rfl
            have hD : va_D A [(lv, .inr (1, [.int (zI w), .int (zI h), .ref q_1, .ref q_4, .int (zI 0), .int (zI 0), .int (zI 0), .int (zI 0), .int (zI 0), .int (zI 0)])), zA cI q_1 96 K9, zQ cT q_4 4 (va_up (va_up (va_up (fun _ => none) 0 (some q_6)) 1 (some q_11)) 2 (some q_16)), (q_6, .inr (4, [.ref ti_8, .int (zI (-1)), .int (zI (-1))])), zA cI ti_8 100 (fun _ => 0), (q_11, .inr (4, [.ref ti_13, .int (zI (-1)), .int (zI (-1))])), zA cI ti_13 100 (fun _ => 0), (q_16, .inr (4, [.ref ti_18, .int (zI (-1)), .int (zI (-1))])), zA cI ti_18 100 (fun _ => 0), (q_21, .inr (4, [.ref ti_23, .int (zI (-1)), .int (zI (-1))])), zA cI ti_23 100 (fun _ => 0)] := hD.sub [0, 1, 2, 3, 4, 5, 6, 7, 8, 9, 10] (by decide) rfl
            clear hK1 hvm
            refine W.eq (g2 := F0 m 71 ls [.ref q_21, .int (zI 3), .ref q_4]) rfl ?_
            refine lz_astq (k := 3) (f := va_up (va_up (va_up (fun _ => none) 0 (some q_6)) 1 (some q_11)) 2 (some q_16)) hx hb hK hP hD hS 2 3 9 4 rfl rfl rfl rfl (by omega) (by omega) (by decide) dX1_init_71 (fun H locs hP hD hS => ?_)
            have hP : va_P (dC, dI) vwCl [(lv, .inr (1, [.int (zI w), .int (zI h), .ref q_1, .ref q_4, .int (zI 0), .int (zI 0), .int (zI 0), .int (zI 0), .int (zI 0), .int (zI 0)])), zA cI q_1 96 K9, zQ cT q_4 4 (va_up (va_up (va_up (va_up (fun _ => none) 0 (some q_6)) 1 (some q_11)) 2 (some q_16)) 3 (some q_21)), (q_6, .inr (4, [.ref ti_8, .int (zI (-1)), .int (zI (-1))])), zA cI ti_8 100 (fun _ => 0), (q_11, .inr (4, [.ref ti_13, .int (zI (-1)), .int (zI (-1))])), zA cI ti_13 100 (fun _ => 0), (q_16, .inr (4, [.ref ti_18, .int (zI (-1)), .int (zI (-1))])), zA cI ti_18 100 (fun _ => 0), (q_21, .inr (4, [.ref ti_23, .int (zI (-1)), .int (zI (-1))])), zA cI ti_23 100 (fun _ => 0)] H := hP
            have hD : va_D A [(lv, .inr (1, [.int (zI w), .int (zI h), .ref q_1, .ref q_4, .int (zI 0), .int (zI 0), .int (zI 0), .int (zI 0), .int (zI 0), .int (zI 0)])), zA cI q_1 96 K9, zQ cT q_4 4 (va_up (va_up (va_up (va_up (fun _ => none) 0 (some q_6)) 1 (some q_11)) 2 (some q_16)) 3 (some q_21)), (q_6, .inr (4, [.ref ti_8, .int (zI (-1)), .int (zI (-1))])), zA cI ti_8 100 (fun _ => 0), (q_11, .inr (4, [.ref ti_13, .int (zI (-1)), .int (zI (-1))])), zA cI ti_13 100 (fun _ => 0), (q_16, .inr (4, [.ref ti_18, .int (zI (-1)), .int (zI (-1))])), zA cI ti_18 100 (fun _ => 0), (q_21, .inr (4, [.ref ti_23, .int (zI (-1)), .int (zI (-1))])), zA cI ti_23 100 (fun _ => 0)] := hD
            refine lz_iinc (z := 4) (lv' := [(3, .int (zI 4)), (0, .ref lv), (1, .int (zI w)), (2, .int (zI h))]) hx hb dX1_init_72 hl (k := 0) rfl (by omega) (by decide) rfl (fun ls hl => ?_)
            refine lv_goto (tgt := 54) hx hb dX1_init_75 (by decide) ?_
            refine lv_iload_n hx hb dX1_init_54 rfl (lv_at hl 0 rfl) ?_
            refine lv_iconst (v := zI 4) hx hb dX1_init_55 (rfl) ?_
            refine lz_icmp_ge (tgt := 78) hx hb dX1_init_56 (by decide) ⟨by decide, by decide⟩ ⟨by decide, by decide⟩ (fun c_25 => ?_) (fun c_25 => ?_)
            ·
              refine lv_aload_n hx hb dX1_init_78 rfl (lv_at hl 1 rfl) ?_
              refine lv_iconst (v := zI 0) hx hb dX1_init_79 (rfl) ?_
              refine va_put (D := (dC, dI)) (ci := 1) (v := .int (zI 0)) (ty := .int) (C := RX1) (T := TX1) (N := 10) hx hb hts i_1 tyX1 tyX1_ok nmX1 hown hK hP hD hS 0 rfl rfl 4 (by decide) f_33 (fun _ h9 => h9) rfl (by decide +kernel) rfl rfl (Nat.le_of_ble_eq_true rfl) dX1_init_80 (fun H locs hP hD hS => ?_)
              have hP : va_P (dC, dI) vwCl [(lv, .inr (1, [.int (zI w), .int (zI h), .ref q_1, .ref q_4, .int (zI 0), .int (zI 0), .int (zI 0), .int (zI 0), .int (zI 0), .int (zI 0)])), zA cI q_1 96 K9, zQ cT q_4 4 (va_up (va_up (va_up (va_up (fun _ => none) 0 (some q_6)) 1 (some q_11)) 2 (some q_16)) 3 (some q_21)), (q_6, .inr (4, [.ref ti_8, .int (zI (-1)), .int (zI (-1))])), zA cI ti_8 100 (fun _ => 0), (q_11, .inr (4, [.ref ti_13, .int (zI (-1)), .int (zI (-1))])), zA cI ti_13 100 (fun _ => 0), (q_16, .inr (4, [.ref ti_18, .int (zI (-1)), .int (zI (-1))])), zA cI ti_18 100 (fun _ => 0), (q_21, .inr (4, [.ref ti_23, .int (zI (-1)), .int (zI (-1))])), zA cI ti_23 100 (fun _ => 0)] H := hP
              have hD : va_D A [(lv, .inr (1, [.int (zI w), .int (zI h), .ref q_1, .ref q_4, .int (zI 0), .int (zI 0), .int (zI 0), .int (zI 0), .int (zI 0), .int (zI 0)])), zA cI q_1 96 K9, zQ cT q_4 4 (va_up (va_up (va_up (va_up (fun _ => none) 0 (some q_6)) 1 (some q_11)) 2 (some q_16)) 3 (some q_21)), (q_6, .inr (4, [.ref ti_8, .int (zI (-1)), .int (zI (-1))])), zA cI ti_8 100 (fun _ => 0), (q_11, .inr (4, [.ref ti_13, .int (zI (-1)), .int (zI (-1))])), zA cI ti_13 100 (fun _ => 0), (q_16, .inr (4, [.ref ti_18, .int (zI (-1)), .int (zI (-1))])), zA cI ti_18 100 (fun _ => 0), (q_21, .inr (4, [.ref ti_23, .int (zI (-1)), .int (zI (-1))])), zA cI ti_23 100 (fun _ => 0)] := hD
              refine lv_aload_n hx hb dX1_init_83 rfl (lv_at hl 1 rfl) ?_
              refine lv_iload_n hx hb dX1_init_84 rfl (lv_at hl 3 rfl) ?_
              refine lv_iconst (v := zI 2) hx hb dX1_init_85 (rfl) ?_
              refine lz_isub (z := h - 2) hx hb dX1_init_86 (by rfl) ?_
              refine va_put (D := (dC, dI)) (ci := 1) (v := .int (zI (h - 2))) (ty := .int) (C := RX1) (T := TX1) (N := 10) hx hb hts i_1 tyX1 tyX1_ok nmX1 hown hK hP hD hS 0 rfl rfl 5 (by decide) f_36 (fun _ h9 => h9) rfl (by decide +kernel) rfl rfl (Nat.le_of_ble_eq_true rfl) dX1_init_87 (fun H locs hP hD hS => ?_)
              have hP : va_P (dC, dI) vwCl [(lv, .inr (1, [.int (zI w), .int (zI h), .ref q_1, .ref q_4, .int (zI 0), .int (zI (h - 2)), .int (zI 0), .int (zI 0), .int (zI 0), .int (zI 0)])), zA cI q_1 96 K9, zQ cT q_4 4 (va_up (va_up (va_up (va_up (fun _ => none) 0 (some q_6)) 1 (some q_11)) 2 (some q_16)) 3 (some q_21)), (q_6, .inr (4, [.ref ti_8, .int (zI (-1)), .int (zI (-1))])), zA cI ti_8 100 (fun _ => 0), (q_11, .inr (4, [.ref ti_13, .int (zI (-1)), .int (zI (-1))])), zA cI ti_13 100 (fun _ => 0), (q_16, .inr (4, [.ref ti_18, .int (zI (-1)), .int (zI (-1))])), zA cI ti_18 100 (fun _ => 0), (q_21, .inr (4, [.ref ti_23, .int (zI (-1)), .int (zI (-1))])), zA cI ti_23 100 (fun _ => 0)] H := hP
              have hD : va_D A [(lv, .inr (1, [.int (zI w), .int (zI h), .ref q_1, .ref q_4, .int (zI 0), .int (zI (h - 2)), .int (zI 0), .int (zI 0), .int (zI 0), .int (zI 0)])), zA cI q_1 96 K9, zQ cT q_4 4 (va_up (va_up (va_up (va_up (fun _ => none) 0 (some q_6)) 1 (some q_11)) 2 (some q_16)) 3 (some q_21)), (q_6, .inr (4, [.ref ti_8, .int (zI (-1)), .int (zI (-1))])), zA cI ti_8 100 (fun _ => 0), (q_11, .inr (4, [.ref ti_13, .int (zI (-1)), .int (zI (-1))])), zA cI ti_13 100 (fun _ => 0), (q_16, .inr (4, [.ref ti_18, .int (zI (-1)), .int (zI (-1))])), zA cI ti_18 100 (fun _ => 0), (q_21, .inr (4, [.ref ti_23, .int (zI (-1)), .int (zI (-1))])), zA cI ti_23 100 (fun _ => 0)] := hD
              refine lv_aload_n hx hb dX1_init_90 rfl (lv_at hl 1 rfl) ?_
              refine lv_iload_n hx hb dX1_init_91 rfl (lv_at hl 2 rfl) ?_
              refine lv_iconst (v := zI 1) hx hb dX1_init_92 (rfl) ?_
              refine lz_isub (z := w - 1) hx hb dX1_init_93 (by rfl) ?_
              refine va_put (D := (dC, dI)) (ci := 1) (v := .int (zI (w - 1))) (ty := .int) (C := RX1) (T := TX1) (N := 10) hx hb hts i_1 tyX1 tyX1_ok nmX1 hown hK hP hD hS 0 rfl rfl 6 (by decide) f_39 (fun _ h9 => h9) rfl (by decide +kernel) rfl rfl (Nat.le_of_ble_eq_true rfl) dX1_init_94 (fun H locs hP hD hS => ?_)
              have hP : va_P (dC, dI) vwCl [(lv, .inr (1, [.int (zI w), .int (zI h), .ref q_1, .ref q_4, .int (zI 0), .int (zI (h - 2)), .int (zI (w - 1)), .int (zI 0), .int (zI 0), .int (zI 0)])), zA cI q_1 96 K9, zQ cT q_4 4 (va_up (va_up (va_up (va_up (fun _ => none) 0 (some q_6)) 1 (some q_11)) 2 (some q_16)) 3 (some q_21)), (q_6, .inr (4, [.ref ti_8, .int (zI (-1)), .int (zI (-1))])), zA cI ti_8 100 (fun _ => 0), (q_11, .inr (4, [.ref ti_13, .int (zI (-1)), .int (zI (-1))])), zA cI ti_13 100 (fun _ => 0), (q_16, .inr (4, [.ref ti_18, .int (zI (-1)), .int (zI (-1))])), zA cI ti_18 100 (fun _ => 0), (q_21, .inr (4, [.ref ti_23, .int (zI (-1)), .int (zI (-1))])), zA cI ti_23 100 (fun _ => 0)] H := hP
              have hD : va_D A [(lv, .inr (1, [.int (zI w), .int (zI h), .ref q_1, .ref q_4, .int (zI 0), .int (zI (h - 2)), .int (zI (w - 1)), .int (zI 0), .int (zI 0), .int (zI 0)])), zA cI q_1 96 K9, zQ cT q_4 4 (va_up (va_up (va_up (va_up (fun _ => none) 0 (some q_6)) 1 (some q_11)) 2 (some q_16)) 3 (some q_21)), (q_6, .inr (4, [.ref ti_8, .int (zI (-1)), .int (zI (-1))])), zA cI ti_8 100 (fun _ => 0), (q_11, .inr (4, [.ref ti_13, .int (zI (-1)), .int (zI (-1))])), zA cI ti_13 100 (fun _ => 0), (q_16, .inr (4, [.ref ti_18, .int (zI (-1)), .int (zI (-1))])), zA cI ti_18 100 (fun _ => 0), (q_21, .inr (4, [.ref ti_23, .int (zI (-1)), .int (zI (-1))])), zA cI ti_23 100 (fun _ => 0)] := hD
              refine lv_aload_n hx hb dX1_init_97 rfl (lv_at hl 1 rfl) ?_
              refine lv_iload_n hx hb dX1_init_98 rfl (lv_at hl 3 rfl) ?_
              refine lv_iconst (v := zI 2) hx hb dX1_init_99 (rfl) ?_
              refine lz_isub (z := h - 2) hx hb dX1_init_100 (by rfl) ?_
              refine va_put (D := (dC, dI)) (ci := 1) (v := .int (zI (h - 2))) (ty := .int) (C := RX1) (T := TX1) (N := 10) hx hb hts i_1 tyX1 tyX1_ok nmX1 hown hK hP hD hS 0 rfl rfl 7 (by decide) f_42 (fun _ h9 => h9) rfl (by decide +kernel) rfl rfl (Nat.le_of_ble_eq_true rfl) dX1_init_101 (fun H locs hP hD hS => ?_)
              have hP : va_P (dC, dI) vwCl [(lv, .inr (1, [.int (zI w), .int (zI h), .ref q_1, .ref q_4, .int (zI 0), .int (zI (h - 2)), .int (zI (w - 1)), .int (zI (h - 2)), .int (zI 0), .int (zI 0)])), zA cI q_1 96 K9, zQ cT q_4 4 (va_up (va_up (va_up (va_up (fun _ => none) 0 (some q_6)) 1 (some q_11)) 2 (some q_16)) 3 (some q_21)), (q_6, .inr (4, [.ref ti_8, .int (zI (-1)), .int (zI (-1))])), zA cI ti_8 100 (fun _ => 0), (q_11, .inr (4, [.ref ti_13, .int (zI (-1)), .int (zI (-1))])), zA cI ti_13 100 (fun _ => 0), (q_16, .inr (4, [.ref ti_18, .int (zI (-1)), .int (zI (-1))])), zA cI ti_18 100 (fun _ => 0), (q_21, .inr (4, [.ref ti_23, .int (zI (-1)), .int (zI (-1))])), zA cI ti_23 100 (fun _ => 0)] H := hP
              have hD : va_D A [(lv, .inr (1, [.int (zI w), .int (zI h), .ref q_1, .ref q_4, .int (zI 0), .int (zI (h - 2)), .int (zI (w - 1)), .int (zI (h - 2)), .int (zI 0), .int (zI 0)])), zA cI q_1 96 K9, zQ cT q_4 4 (va_up (va_up (va_up (va_up (fun _ => none) 0 (some q_6)) 1 (some q_11)) 2 (some q_16)) 3 (some q_21)), (q_6, .inr (4, [.ref ti_8, .int (zI (-1)), .int (zI (-1))])), zA cI ti_8 100 (fun _ => 0), (q_11, .inr (4, [.ref ti_13, .int (zI (-1)), .int (zI (-1))])), zA cI ti_13 100 (fun _ => 0), (q_16, .inr (4, [.ref ti_18, .int (zI (-1)), .int (zI (-1))])), zA cI ti_18 100 (fun _ => 0), (q_21, .inr (4, [.ref ti_23, .int (zI (-1)), .int (zI (-1))])), zA cI ti_23 100 (fun _ => 0)] := hD
              refine lv_aload_n hx hb dX1_init_104 rfl (lv_at hl 1 rfl) ?_
              refine lv_iconst (v := zI (-1)) hx hb dX1_init_105 (rfl) ?_
              refine va_put (D := (dC, dI)) (ci := 1) (v := .int (zI (-1))) (ty := .int) (C := RX1) (T := TX1) (N := 10) hx hb hts i_1 tyX1 tyX1_ok nmX1 hown hK hP hD hS 0 rfl rfl 8 (by decide) f_45 (fun _ h9 => h9) rfl (by decide +kernel) rfl rfl (Nat.le_of_ble_eq_true rfl) dX1_init_106 (fun H locs hP hD hS => ?_)
              have hP : va_P (dC, dI) vwCl [(lv, .inr (1, [.int (zI w), .int (zI h), .ref q_1, .ref q_4, .int (zI 0), .int (zI (h - 2)), .int (zI (w - 1)), .int (zI (h - 2)), .int (zI (-1)), .int (zI 0)])), zA cI q_1 96 K9, zQ cT q_4 4 (va_up (va_up (va_up (va_up (fun _ => none) 0 (some q_6)) 1 (some q_11)) 2 (some q_16)) 3 (some q_21)), (q_6, .inr (4, [.ref ti_8, .int (zI (-1)), .int (zI (-1))])), zA cI ti_8 100 (fun _ => 0), (q_11, .inr (4, [.ref ti_13, .int (zI (-1)), .int (zI (-1))])), zA cI ti_13 100 (fun _ => 0), (q_16, .inr (4, [.ref ti_18, .int (zI (-1)), .int (zI (-1))])), zA cI ti_18 100 (fun _ => 0), (q_21, .inr (4, [.ref ti_23, .int (zI (-1)), .int (zI (-1))])), zA cI ti_23 100 (fun _ => 0)] H := hP
              have hD : va_D A [(lv, .inr (1, [.int (zI w), .int (zI h), .ref q_1, .ref q_4, .int (zI 0), .int (zI (h - 2)), .int (zI (w - 1)), .int (zI (h - 2)), .int (zI (-1)), .int (zI 0)])), zA cI q_1 96 K9, zQ cT q_4 4 (va_up (va_up (va_up (va_up (fun _ => none) 0 (some q_6)) 1 (some q_11)) 2 (some q_16)) 3 (some q_21)), (q_6, .inr (4, [.ref ti_8, .int (zI (-1)), .int (zI (-1))])), zA cI ti_8 100 (fun _ => 0), (q_11, .inr (4, [.ref ti_13, .int (zI (-1)), .int (zI (-1))])), zA cI ti_13 100 (fun _ => 0), (q_16, .inr (4, [.ref ti_18, .int (zI (-1)), .int (zI (-1))])), zA cI ti_18 100 (fun _ => 0), (q_21, .inr (4, [.ref ti_23, .int (zI (-1)), .int (zI (-1))])), zA cI ti_23 100 (fun _ => 0)] := hD
              refine lv_aload_n hx hb dX1_init_109 rfl (lv_at hl 1 rfl) ?_
              refine lv_iconst (v := zI 0) hx hb dX1_init_110 (rfl) ?_
              refine va_put (D := (dC, dI)) (ci := 1) (v := .int (zI 0)) (ty := .boolean) (C := RX1) (T := TX1) (N := 10) hx hb hts i_1 tyX1 tyX1_ok nmX1 hown hK hP hD hS 0 rfl rfl 9 (by decide) f_48 (fun _ h9 => h9) rfl (by decide +kernel) (by first | rfl | decide) (by first | rfl | decide) (Nat.le_of_ble_eq_true rfl) dX1_init_111 (fun H locs hP hD hS => ?_)
              have hP : va_P (dC, dI) vwCl [(lv, .inr (1, [.int (zI w), .int (zI h), .ref q_1, .ref q_4, .int (zI 0), .int (zI (h - 2)), .int (zI (w - 1)), .int (zI (h - 2)), .int (zI (-1)), .int (zI 0)])), zA cI q_1 96 K9, zQ cT q_4 4 (va_up (va_up (va_up (va_up (fun _ => none) 0 (some q_6)) 1 (some q_11)) 2 (some q_16)) 3 (some q_21)), (q_6, .inr (4, [.ref ti_8, .int (zI (-1)), .int (zI (-1))])), zA cI ti_8 100 (fun _ => 0), (q_11, .inr (4, [.ref ti_13, .int (zI (-1)), .int (zI (-1))])), zA cI ti_13 100 (fun _ => 0), (q_16, .inr (4, [.ref ti_18, .int (zI (-1)), .int (zI (-1))])), zA cI ti_18 100 (fun _ => 0), (q_21, .inr (4, [.ref ti_23, .int (zI (-1)), .int (zI (-1))])), zA cI ti_23 100 (fun _ => 0)] H := hP
              have hD : va_D A [(lv, .inr (1, [.int (zI w), .int (zI h), .ref q_1, .ref q_4, .int (zI 0), .int (zI (h - 2)), .int (zI (w - 1)), .int (zI (h - 2)), .int (zI (-1)), .int (zI 0)])), zA cI q_1 96 K9, zQ cT q_4 4 (va_up (va_up (va_up (va_up (fun _ => none) 0 (some q_6)) 1 (some q_11)) 2 (some q_16)) 3 (some q_21)), (q_6, .inr (4, [.ref ti_8, .int (zI (-1)), .int (zI (-1))])), zA cI ti_8 100 (fun _ => 0), (q_11, .inr (4, [.ref ti_13, .int (zI (-1)), .int (zI (-1))])), zA cI ti_13 100 (fun _ => 0), (q_16, .inr (4, [.ref ti_18, .int (zI (-1)), .int (zI (-1))])), zA cI ti_18 100 (fun _ => 0), (q_21, .inr (4, [.ref ti_23, .int (zI (-1)), .int (zI (-1))])), zA cI ti_23 100 (fun _ => 0)] := hD
              have hP9 := hP.sub (ws' := [(lv, .inr (1, [.int (zI w), .int (zI h), .ref q_1, .ref q_4, .int (zI 0), .int (zI (h - 2)), .int (zI (w - 1)), .int (zI (h - 2)), .int (zI (-1)), .int (zI 0)])), zA cI q_1 96 K9, zQ cT q_4 4 (va_up (va_up (va_up (va_up (fun _ => none) 0 (some q_6)) 1 (some q_11)) 2 (some q_16)) 3 (some q_21)), (q_6, .inr (4, [.ref ti_8, .int (zI (-1)), .int (zI (-1))])), (q_11, .inr (4, [.ref ti_13, .int (zI (-1)), .int (zI (-1))])), (q_16, .inr (4, [.ref ti_18, .int (zI (-1)), .int (zI (-1))])), (q_21, .inr (4, [.ref ti_23, .int (zI (-1)), .int (zI (-1))])), zA cI ti_8 100 (fun _ => 0), zA cI ti_13 100 (fun _ => 0), zA cI ti_18 100 (fun _ => 0), zA cI ti_23 100 (fun _ => 0)]) [0, 1, 2, 3, 5, 7, 9, 4, 6, 8, 10] rfl
              have hD9 := hD.sub (ws' := [(lv, .inr (1, [.int (zI w), .int (zI h), .ref q_1, .ref q_4, .int (zI 0), .int (zI (h - 2)), .int (zI (w - 1)), .int (zI (h - 2)), .int (zI (-1)), .int (zI 0)])), zA cI q_1 96 K9, zQ cT q_4 4 (va_up (va_up (va_up (va_up (fun _ => none) 0 (some q_6)) 1 (some q_11)) 2 (some q_16)) 3 (some q_21)), (q_6, .inr (4, [.ref ti_8, .int (zI (-1)), .int (zI (-1))])), (q_11, .inr (4, [.ref ti_13, .int (zI (-1)), .int (zI (-1))])), (q_16, .inr (4, [.ref ti_18, .int (zI (-1)), .int (zI (-1))])), (q_21, .inr (4, [.ref ti_23, .int (zI (-1)), .int (zI (-1))])), zA cI ti_8 100 (fun _ => 0), zA cI ti_13 100 (fun _ => 0), zA cI ti_18 100 (fun _ => 0), zA cI ti_23 100 (fun _ => 0)]) [0, 1, 2, 3, 5, 7, 9, 4, 6, 8, 10] (by decide) rfl
              refine W.widen (k := 10) (n := 512) (Nat.le_of_ble_eq_true rfl) (Nat.le_of_ble_eq_true rfl) ?_
              have po : (Kin K9 ∧ (∀ x y, 0 ≤ x → x < w → 0 ≤ y → y < h → K9 (y * 12 + x) = if y = h - 1 then 1 else 0) ∧ (va_up (va_up (va_up (va_up (fun _ => none) 0 (some q_6)) 1 (some q_11)) 2 (some q_16)) 3 (some q_21)) 0 = some q_6 ∧ (va_up (va_up (va_up (va_up (fun _ => none) 0 (some q_6)) 1 (some q_11)) 2 (some q_16)) 3 (some q_21)) 1 = some q_11 ∧ (va_up (va_up (va_up (va_up (fun _ => none) 0 (some q_6)) 1 (some q_11)) 2 (some q_16)) 3 (some q_21)) 2 = some q_16 ∧ (va_up (va_up (va_up (va_up (fun _ => none) 0 (some q_6)) 1 (some q_11)) 2 (some q_16)) 3 (some q_21)) 3 = some q_21) := by
                refine ⟨kK, fun x y a1 a2 a3 a4 => ?_, rfl, rfl, rfl, rfl⟩
                rw [hc x y a1 a2 a3 a4]
                by_cases h1 : y = h - 1
                · rw [if_pos (by omega), if_pos h1]
                · rw [if_neg (by omega), if_neg h1]
              exact W.vret hx hb hr (fun t ht hW => ⟨⟨(q_1, q_4, q_6, q_11, q_16, q_21, ti_8, ti_13, ti_18, ti_23, K9, va_up (va_up (va_up (va_up (fun _ => none) 0 (some q_6)) 1 (some q_11)) 2 (some q_16)) 3 (some q_21)), rfl, po, by rw [ht]; exact hP9, va_K.moved hW.alike hK, hD9⟩, hS.F ht⟩) hS.2.2 dX1_init_114
            · exact absurd c_25 (by decide)
  ·
    refine lv_aload_n hx hb dX1_init_29 rfl (lv_at hl 0 rfl) ?_
    refine lv_iload_n hx hb dX1_init_30 rfl (lv_at hl 3 rfl) ?_
    refine lv_iload_n hx hb dX1_init_31 rfl (lv_at hl 2 rfl) ?_
    refine lv_iconst (v := zI 1) hx hb dX1_init_32 (rfl) ?_
    refine lz_isub (z := h - 1) hx hb dX1_init_33 (by rfl) ?_
    refine lv_iconst (v := zI 1) hx hb dX1_init_34 (rfl) ?_
    have hPc := hP.sub (ws' := [(lv, .inr (1, [.int (zI w), .int (zI h), .ref q_1, .null, .int (zI 0), .int (zI 0), .int (zI 0), .int (zI 0), .int (zI 0), .int (zI 0)])), zA cI q_1 96 K9]) [0, 1] rfl
    have hDc := hD.sub (ws' := [(lv, .inr (1, [.int (zI w), .int (zI h), .ref q_1, .null, .int (zI 0), .int (zI 0), .int (zI 0), .int (zI 0), .int (zI 0), .int (zI 0)])), zA cI q_1 96 K9]) [0, 1] (by decide) rfl
    have hFc := va_free (wc := [(lv, .inr (1, [.int (zI w), .int (zI h), .ref q_1, .null, .int (zI 0), .int (zI 0), .int (zI 0), .int (zI 0), .int (zI 0), .int (zI 0)])), zA cI q_1 96 K9]) hD hS hA [0, 1] rfl
    refine va_callv (va_runV (As := [.int (zI i), .int (zI (h - 1)), .int (zI 1)]) (rest := []) ⟨hx, hb, hml, hown, hts⟩ (c_X1_put l dC dI cI cZ cL cT cJ H.size lv w h q_1 .null 0 0 0 0 0 0 K9 i (h - 1) 1 (by first | assumption | omega) (by first | assumption | omega) (by first | assumption | omega) (by first | assumption | omega) (by first | assumption | omega)) (cwV 3 hts gX1_init_X1_put rfl rfl rfl (by decide +kernel) ⟨Nat.le_of_ble_eq_true rfl, Nat.le_of_ble_eq_true rfl⟩) ⟨zP_blind, va_recv hK hPc (ci := 1) (q0 := 0) rfl rfl, zP_pre hPc hDc hK⟩ rfl rfl hl.1 rfl (lv_room (Nat.le_of_ble_eq_true rfl)) dX1_init_35 ⟨Nat.le_of_ble_eq_true rfl, Nat.le_of_ble_eq_true rfl⟩) hS (fun q _ h => hFc q h) hFc (fun u_26 t H1 locs ht hvm hw hB hz1 hk1 hS => ?_)
    obtain ⟨hP1, hK1, hD1⟩ := hB
    rw [ht] at hP1
    have hP1 : va_P (dC, dI) vwCl [(lv, .inr (1, [.int (zI w), .int (zI h), .ref q_1, .null, .int (zI 0), .int (zI 0), .int (zI 0), .int (zI 0), .int (zI 0), .int (zI 0)])), zA cI q_1 96 (zu K9 ((h - 1) * 12 + i) 1)] H1 := hP1
    obtain ⟨hP, hD⟩ := va_join (wr := []) (w1 := [(lv, .inr (1, [.int (zI w), .int (zI h), .ref q_1, .null, .int (zI 0), .int (zI 0), .int (zI 0), .int (zI 0), .int (zI 0), .int (zI 0)])), zA cI q_1 96 (zu K9 ((h - 1) * 12 + i) 1)]) hP hD [0, 1] [] rfl rfl (by decide) (by decide) hk1 hFc hP1 hD1
    clear hP1 hD1 hk1 hFc hPc hDc hz1
    generalize H1 = H at hP hS ⊢
    have hP : va_P (dC, dI) vwCl [(lv, .inr (1, [.int (zI w), .int (zI h), .ref q_1, .null, .int (zI 0), .int (zI 0), .int (zI 0), .int (zI 0), .int (zI 0), .int (zI 0)])), zA cI q_1 96 (zu K9 ((h - 1) * 12 + i) 1)] H := hP.sub [0, 1] rfl
    have hD : va_D A [(lv, .inr (1, [.int (zI w), .int (zI h), .ref q_1, .null, .int (zI 0), .int (zI 0), .int (zI 0), .int (zI 0), .int (zI 0), .int (zI 0)])), zA cI q_1 96 (zu K9 ((h - 1) * 12 + i) 1)] := hD.sub [0, 1] (by decide) rfl
    clear hK1 hvm
    refine W.eq (g2 := F0 m 38 ls []) rfl ?_
    refine lz_iinc (z := i + 1) (lv' := [(3, .int (zI (i + 1))), (0, .ref lv), (1, .int (zI w)), (2, .int (zI h))]) hx hb dX1_init_38 hl (k := 3) rfl (by omega) (by decide) rfl (fun ls hl => ?_)
    refine lv_goto (tgt := 24) hx hb dX1_init_41 (by decide) ?_
    exact L_2 (i + 1, zu K9 ((h - 1) * 12 + i) 1) _ _ _ (by (try dsimp only); omega) ⟨(by omega), (by exact Kin_zu kK (by omega)), (by intro x y a1 a2 a3 a4; have e9 := hc x y a1 a2 a3 a4; unfold zu; rw [e9]; (repeat' split) <;> omega), hP, hD, hS, lv_sub hl [1, 2, 3, 0] rfl⟩
set_option maxHeartbeats 4000000 in
set_option maxRecDepth 100000 in
/-- Run() -/
theorem c_X2_init (l : Launch) (dC : Nat → ClassId) (dI : Nat → Nat → Nat) (cI cZ cL cT cJ : ClassId) (sz : Nat) (ru : Nat)  : Met l yX2_init wsX2_init ({ frames := 2, cells := 3, slots := 106, locals := 32 }) (zPo (dC, dI) (zT cI cZ cL cT cJ) sz [.ref ru] [(ru, .inr (2, [.null, .null, .null, .int (zI 0), .int (zI 0)]))]) (va_Qv (fun (u9 : Nat × Nat × Nat) => match u9 with | (rh, tp, ti) => (True)) (zB (dC, dI) (zT cI cZ cL cT cJ) (va_A [(ru, .inr (2, [.null, .null, .null, .int (zI 0), .int (zI 0)]))] sz) (fun (u9 : Nat × Nat × Nat) => match u9 with | (rh, tp, ti) => [(ru, .inr (2, [.ref rh, .ref tp, .null, .int (zI 0), .int (zI 0)])), (rh, .inr (0, [.int (zI 0), .int (zI 0), .int (zI 0)])), (tp, .inr (4, [.ref ti, .int (zI (-1)), .int (zI (-1))])), zA cI ti 100 (fun _ => 0)])) (va_A [(ru, .inr (2, [.null, .null, .null, .int (zI 0), .int (zI 0)]))] sz)) 3 106 (va_A [(ru, .inr (2, [.null, .null, .null, .int (zI 0), .int (zI 0)]))] sz) := by
  refine Met.ofW (cc := cX2_init) (maxL := 1) (ret := none) (by decide) rfl ?_
  intro p e s m args below meth c s₁ B hml hv
  obtain ⟨rfl, hsz, hP, hK, hD0, hAo⟩ := hv
  have hx := B.exec
  have hb := B.bytes
  have hr := B.returns
  have hts := atoms_spec (ws := wsX2_init) B.pre
  have hown : s.vm.findClass RX2 = some m.cls := findClass_of_methodNamed B.named
  have hlocks := B.notSynchronized
  have hin : meth.name = "<init>" := (name_of_methodNamed B.named B.method).1
  subst hsz
  have hD := hD0.self (sz := s.heap.size)
  generalize hAe : va_A [(ru, .inr (2, [.null, .null, .null, .int (zI 0), .int (zI 0)]))] s.heap.size = A at hD ⊢
  have hA : ∀ q : Nat, s.heap.size ≤ q → A q := fun q h => by rw [← hAe]; exact Or.inr h
  clear hAe hD0
  have hS : va_S A s.heap s.heap [] := va_S.rf
  have hP : va_P (dC, dI) vwCl [(ru, .inr (2, [.null, .null, .null, .int (zI 0), .int (zI 0)]))] s.heap := hP
  have f_12 := hts (.fieldLink RX2 12 "SpringLevels$Run" "hero" "LSpringLevels$Hero;") (by decide +kernel)
  have f_21 := hts (.fieldLink RX2 21 "SpringLevels$Run" "tape" "LSpringLevels$Tape;") (by decide +kernel)
  have f_25 := hts (.fieldLink RX2 25 "SpringLevels$Run" "level" "LSpringLevels$Level;") (by decide +kernel)
  have f_29 := hts (.fieldLink RX2 29 "SpringLevels$Run" "player" "I") (by decide +kernel)
  have f_33 := hts (.fieldLink RX2 33 "SpringLevels$Run" "outcome" "I") (by decide +kernel)
  have i_0 : ∀ w ∈ wsX00, w ∈ wsX2_init := by decide +kernel
  have i_2 : ∀ w ∈ wsX20, w ∈ wsX2_init := by decide +kernel
  have i_4 : ∀ w ∈ wsX40, w ∈ wsX2_init := by decide +kernel
  have hl := lv_entry ([.ref ru]) (n := 1) (Nat.le_of_ble_eq_true rfl)
  rw [lg_entry_eq]
  generalize (lg_sl ([.ref ru]) ++ List.replicate (1 - (lg_sl ([.ref ru])).length) Slot.unset).toArray = ls at hl ⊢
  have hl : lv_has ls 1 [(0, .ref ru)] := hl
  refine lv_aload_n hx hb dX2_init_0 rfl (lv_at hl 0 rfl) ?_
  refine W.objInit hx hb hown (hts (.methodLink RX2 3 objectInit) (by decide +kernel)) (hts (.instanceMethod objectInit) (by decide +kernel)) (hts (.code objectInit ⟨#[0xb1]⟩ 1 none) (by decide +kernel)) rfl (by rw [hml]; exact hl.1) rfl dX2_init_1 (Nat.le_of_ble_eq_true rfl) (Nat.le_of_ble_eq_true rfl) ?_
  refine W.eq (g2 := F0 m 4 ls []) rfl ?_
  refine lv_aload_n hx hb dX2_init_4 rfl (lv_at hl 0 rfl) ?_
  refine va_new (ci := 0) (fs := [.int (zI 0), .int (zI 0), .int (zI 0)]) (C := RX0) (T := TX0) (N := 3) hx hb hts i_0 tyX0 tyX0_ok hown (hts (.classLink RX2 9 RX0) (by decide +kernel)) (hts (.instantiable RX0 3) (by decide +kernel)) (hts (.initialized RX0) (by decide +kernel)) hK hP hD hS hA rfl (fun j hj => by rcases (show j = 0 ∨ j = 1 ∨ j = 2 by omega) with rfl | rfl | rfl <;> rfl) (Nat.le_of_ble_eq_true rfl) (Nat.le_of_ble_eq_true rfl) dX2_init_5 (fun q_1 H hP hD hS => ?_)
  have hP : va_P (dC, dI) vwCl [(ru, .inr (2, [.null, .null, .null, .int (zI 0), .int (zI 0)])), (q_1, .inr (0, [.int (zI 0), .int (zI 0), .int (zI 0)]))] H := hP
  have hD : va_D A [(ru, .inr (2, [.null, .null, .null, .int (zI 0), .int (zI 0)])), (q_1, .inr (0, [.int (zI 0), .int (zI 0), .int (zI 0)]))] := hD
  refine lv_dup hx hb dX2_init_8 rfl ?_
  have hPc := hP.sub (ws' := [(q_1, .inr (0, [.int (zI 0), .int (zI 0), .int (zI 0)]))]) [1] rfl
  have hDc := hD.sub (ws' := [(q_1, .inr (0, [.int (zI 0), .int (zI 0), .int (zI 0)]))]) [1] (by decide) rfl
  have hFc := va_free (wc := [(q_1, .inr (0, [.int (zI 0), .int (zI 0), .int (zI 0)]))]) hD hS hA [1] rfl
  refine va_callv (va_runIN (As := []) (rest := [.ref q_1, .ref ru]) ⟨hx, hb, hml, hown, hts⟩ (c_X0_init l dC dI cI cZ cL cT cJ H.size q_1 0 0 0 ) ⟨va_cnB 0 hts ggX2_init_X0_init rfl rfl rfl hAo.2.2.2.1 (hts (.initialized RX0) (by decide +kernel)) (by decide +kernel) ⟨Nat.le_of_ble_eq_true rfl, Nat.le_of_ble_eq_true rfl⟩, rfl, hts (.instanceMethod yX0_init) (by decide +kernel)⟩ ⟨zP_blind, zP_pre hPc hDc hK⟩ rfl rfl hl.1 rfl (lv_room (Nat.le_of_ble_eq_true rfl)) dX2_init_9 ⟨Nat.le_of_ble_eq_true rfl, Nat.le_of_ble_eq_true rfl⟩) hS (fun q _ h => hFc q h) hFc (fun u_2 t H1 locs ht hvm hw hB hz1 hk1 hS => ?_)
  obtain ⟨hP1, hK1, hD1⟩ := hB
  rw [ht] at hP1
  have hP1 : va_P (dC, dI) vwCl [(q_1, .inr (0, [.int (zI 0), .int (zI 0), .int (zI 0)]))] H1 := hP1
  obtain ⟨hP, hD⟩ := va_join (wr := [(ru, .inr (2, [.null, .null, .null, .int (zI 0), .int (zI 0)]))]) (w1 := [(q_1, .inr (0, [.int (zI 0), .int (zI 0), .int (zI 0)]))]) hP hD [1] [0] rfl rfl (by decide) (by decide) hk1 hFc hP1 hD1
  clear hP1 hD1 hk1 hFc hPc hDc hz1
  generalize H1 = H at hP hS ⊢
  have hP : va_P (dC, dI) vwCl [(ru, .inr (2, [.null, .null, .null, .int (zI 0), .int (zI 0)])), (q_1, .inr (0, [.int (zI 0), .int (zI 0), .int (zI 0)]))] H := hP.sub [0, 1] rfl
  have hD : va_D A [(ru, .inr (2, [.null, .null, .null, .int (zI 0), .int (zI 0)])), (q_1, .inr (0, [.int (zI 0), .int (zI 0), .int (zI 0)]))] := hD.sub [0, 1] (by decide) rfl
  clear hK1 hvm
  refine W.eq (g2 := F0 m 12 ls [.ref q_1, .ref ru]) rfl ?_
  refine va_putF (D := (dC, dI)) (ci := 2) (v := .ref q_1) (ty := .object "SpringLevels$Hero") (C := RX2) (T := TX2) (N := 5) hx hb hts i_2 tyX2 tyX2_ok nmX2 hown hK hP hD hS 0 rfl rfl 0 (by decide) f_12 (fun _ h9 => h9) rfl hin rfl (by decide +kernel) rfl rfl (Nat.le_of_ble_eq_true rfl) dX2_init_12 (fun H locs hP hD hS => ?_)
  have hP : va_P (dC, dI) vwCl [(ru, .inr (2, [.ref q_1, .null, .null, .int (zI 0), .int (zI 0)])), (q_1, .inr (0, [.int (zI 0), .int (zI 0), .int (zI 0)]))] H := hP
  have hD : va_D A [(ru, .inr (2, [.ref q_1, .null, .null, .int (zI 0), .int (zI 0)])), (q_1, .inr (0, [.int (zI 0), .int (zI 0), .int (zI 0)]))] := hD
  refine lv_aload_n hx hb dX2_init_15 rfl (lv_at hl 0 rfl) ?_
  refine va_new (ci := 4) (fs := [.null, .int (zI 0), .int (zI 0)]) (C := RX4) (T := TX4) (N := 3) hx hb hts i_4 tyX4 tyX4_ok hown (hts (.classLink RX2 18 RX4) (by decide +kernel)) (hts (.instantiable RX4 3) (by decide +kernel)) (hts (.initialized RX4) (by decide +kernel)) hK hP hD hS hA rfl (fun j hj => by rcases (show j = 0 ∨ j = 1 ∨ j = 2 by omega) with rfl | rfl | rfl <;> rfl) (Nat.le_of_ble_eq_true rfl) (Nat.le_of_ble_eq_true rfl) dX2_init_16 (fun q_4 H hP hD hS => ?_)
  have hP : va_P (dC, dI) vwCl [(ru, .inr (2, [.ref q_1, .null, .null, .int (zI 0), .int (zI 0)])), (q_1, .inr (0, [.int (zI 0), .int (zI 0), .int (zI 0)])), (q_4, .inr (4, [.null, .int (zI 0), .int (zI 0)]))] H := hP
  have hD : va_D A [(ru, .inr (2, [.ref q_1, .null, .null, .int (zI 0), .int (zI 0)])), (q_1, .inr (0, [.int (zI 0), .int (zI 0), .int (zI 0)])), (q_4, .inr (4, [.null, .int (zI 0), .int (zI 0)]))] := hD
  refine lv_dup hx hb dX2_init_19 rfl ?_
  have hPc := hP.sub (ws' := [(q_4, .inr (4, [.null, .int (zI 0), .int (zI 0)]))]) [2] rfl
  have hDc := hD.sub (ws' := [(q_4, .inr (4, [.null, .int (zI 0), .int (zI 0)]))]) [2] (by decide) rfl
  have hFc := va_free (wc := [(q_4, .inr (4, [.null, .int (zI 0), .int (zI 0)]))]) hD hS hA [2] rfl
  refine va_callv (va_runI (As := []) (rest := [.ref q_4, .ref ru]) ⟨hx, hb, hml, hown, hts⟩ (c_X4_init l dC dI cI cZ cL cT cJ H.size q_4 ) (cwI 0 hts ggX2_init_X4_init rfl rfl rfl (hts (.initialized RX4) (by decide +kernel)) (hts (.methodLink RX2 20 yX4_init) (by decide +kernel)) (hts (.instanceMethod yX4_init) (by decide +kernel)) rfl (by decide +kernel) ⟨Nat.le_of_ble_eq_true rfl, Nat.le_of_ble_eq_true rfl⟩) ⟨zP_blind, zP_pre hPc hDc hK⟩ rfl rfl hl.1 rfl (lv_room (Nat.le_of_ble_eq_true rfl)) dX2_init_20 ⟨Nat.le_of_ble_eq_true rfl, Nat.le_of_ble_eq_true rfl⟩) hS (fun q _ h => hFc q h) hFc (fun u_5 t H1 locs ht hvm hw hB hz1 hk1 hS => ?_)
  obtain ⟨ti_6, rfl⟩ : ∃ z, z = u_5 := ⟨_, rfl⟩
  obtain ⟨hP1, hK1, hD1⟩ := hB
  rw [ht] at hP1
  have hP1 : va_P (dC, dI) vwCl [(q_4, .inr (4, [.ref ti_6, .int (zI (-1)), .int (zI (-1))])), zA cI ti_6 100 (fun _ => 0)] H1 := hP1
  obtain ⟨hP, hD⟩ := va_join (wr := [(ru, .inr (2, [.ref q_1, .null, .null, .int (zI 0), .int (zI 0)])), (q_1, .inr (0, [.int (zI 0), .int (zI 0), .int (zI 0)]))]) (w1 := [(q_4, .inr (4, [.ref ti_6, .int (zI (-1)), .int (zI (-1))])), zA cI ti_6 100 (fun _ => 0)]) hP hD [2] [0, 1] rfl rfl (by decide) (by decide) hk1 hFc hP1 hD1
  clear hP1 hD1 hk1 hFc hPc hDc hz1
  generalize H1 = H at hP hS ⊢
  have hP : va_P (dC, dI) vwCl [(ru, .inr (2, [.ref q_1, .null, .null, .int (zI 0), .int (zI 0)])), (q_1, .inr (0, [.int (zI 0), .int (zI 0), .int (zI 0)])), (q_4, .inr (4, [.ref ti_6, .int (zI (-1)), .int (zI (-1))])), zA cI ti_6 100 (fun _ => 0)] H := hP.sub [0, 1, 2, 3] rfl
  have hD : va_D A [(ru, .inr (2, [.ref q_1, .null, .null, .int (zI 0), .int (zI 0)])), (q_1, .inr (0, [.int (zI 0), .int (zI 0), .int (zI 0)])), (q_4, .inr (4, [.ref ti_6, .int (zI (-1)), .int (zI (-1))])), zA cI ti_6 100 (fun _ => 0)] := hD.sub [0, 1, 2, 3] (by decide) rfl
  clear hK1 hvm
  refine W.eq (g2 := F0 m 23 ls [.ref q_4, .ref ru]) rfl ?_
  refine va_putF (D := (dC, dI)) (ci := 2) (v := .ref q_4) (ty := .object "SpringLevels$Tape") (C := RX2) (T := TX2) (N := 5) hx hb hts i_2 tyX2 tyX2_ok nmX2 hown hK hP hD hS 0 rfl rfl 1 (by decide) f_21 (fun _ h9 => h9) rfl hin rfl (by decide +kernel) rfl rfl (Nat.le_of_ble_eq_true rfl) dX2_init_23 (fun H locs hP hD hS => ?_)
  have hP : va_P (dC, dI) vwCl [(ru, .inr (2, [.ref q_1, .ref q_4, .null, .int (zI 0), .int (zI 0)])), (q_1, .inr (0, [.int (zI 0), .int (zI 0), .int (zI 0)])), (q_4, .inr (4, [.ref ti_6, .int (zI (-1)), .int (zI (-1))])), zA cI ti_6 100 (fun _ => 0)] H := hP
  have hD : va_D A [(ru, .inr (2, [.ref q_1, .ref q_4, .null, .int (zI 0), .int (zI 0)])), (q_1, .inr (0, [.int (zI 0), .int (zI 0), .int (zI 0)])), (q_4, .inr (4, [.ref ti_6, .int (zI (-1)), .int (zI (-1))])), zA cI ti_6 100 (fun _ => 0)] := hD
  refine lv_aload_n hx hb dX2_init_26 rfl (lv_at hl 0 rfl) ?_
  refine lv_null hx hb dX2_init_27 ?_
  refine va_put (D := (dC, dI)) (ci := 2) (v := .null) (ty := .object "SpringLevels$Level") (C := RX2) (T := TX2) (N := 5) hx hb hts i_2 tyX2 tyX2_ok nmX2 hown hK hP hD hS 0 rfl rfl 2 (by decide) f_25 (fun _ h9 => h9) rfl (by decide +kernel) rfl rfl (Nat.le_of_ble_eq_true rfl) dX2_init_28 (fun H locs hP hD hS => ?_)
  have hP : va_P (dC, dI) vwCl [(ru, .inr (2, [.ref q_1, .ref q_4, .null, .int (zI 0), .int (zI 0)])), (q_1, .inr (0, [.int (zI 0), .int (zI 0), .int (zI 0)])), (q_4, .inr (4, [.ref ti_6, .int (zI (-1)), .int (zI (-1))])), zA cI ti_6 100 (fun _ => 0)] H := hP
  have hD : va_D A [(ru, .inr (2, [.ref q_1, .ref q_4, .null, .int (zI 0), .int (zI 0)])), (q_1, .inr (0, [.int (zI 0), .int (zI 0), .int (zI 0)])), (q_4, .inr (4, [.ref ti_6, .int (zI (-1)), .int (zI (-1))])), zA cI ti_6 100 (fun _ => 0)] := hD
  refine lv_aload_n hx hb dX2_init_31 rfl (lv_at hl 0 rfl) ?_
  refine lv_iconst (v := zI 0) hx hb dX2_init_32 (rfl) ?_
  refine va_put (D := (dC, dI)) (ci := 2) (v := .int (zI 0)) (ty := .int) (C := RX2) (T := TX2) (N := 5) hx hb hts i_2 tyX2 tyX2_ok nmX2 hown hK hP hD hS 0 rfl rfl 3 (by decide) f_29 (fun _ h9 => h9) rfl (by decide +kernel) rfl rfl (Nat.le_of_ble_eq_true rfl) dX2_init_33 (fun H locs hP hD hS => ?_)
  have hP : va_P (dC, dI) vwCl [(ru, .inr (2, [.ref q_1, .ref q_4, .null, .int (zI 0), .int (zI 0)])), (q_1, .inr (0, [.int (zI 0), .int (zI 0), .int (zI 0)])), (q_4, .inr (4, [.ref ti_6, .int (zI (-1)), .int (zI (-1))])), zA cI ti_6 100 (fun _ => 0)] H := hP
  have hD : va_D A [(ru, .inr (2, [.ref q_1, .ref q_4, .null, .int (zI 0), .int (zI 0)])), (q_1, .inr (0, [.int (zI 0), .int (zI 0), .int (zI 0)])), (q_4, .inr (4, [.ref ti_6, .int (zI (-1)), .int (zI (-1))])), zA cI ti_6 100 (fun _ => 0)] := hD
  refine lv_aload_n hx hb dX2_init_36 rfl (lv_at hl 0 rfl) ?_
  refine lv_iconst (v := zI 0) hx hb dX2_init_37 (rfl) ?_
  refine va_put (D := (dC, dI)) (ci := 2) (v := .int (zI 0)) (ty := .int) (C := RX2) (T := TX2) (N := 5) hx hb hts i_2 tyX2 tyX2_ok nmX2 hown hK hP hD hS 0 rfl rfl 4 (by decide) f_33 (fun _ h9 => h9) rfl (by decide +kernel) rfl rfl (Nat.le_of_ble_eq_true rfl) dX2_init_38 (fun H locs hP hD hS => ?_)
  have hP : va_P (dC, dI) vwCl [(ru, .inr (2, [.ref q_1, .ref q_4, .null, .int (zI 0), .int (zI 0)])), (q_1, .inr (0, [.int (zI 0), .int (zI 0), .int (zI 0)])), (q_4, .inr (4, [.ref ti_6, .int (zI (-1)), .int (zI (-1))])), zA cI ti_6 100 (fun _ => 0)] H := hP
  have hD : va_D A [(ru, .inr (2, [.ref q_1, .ref q_4, .null, .int (zI 0), .int (zI 0)])), (q_1, .inr (0, [.int (zI 0), .int (zI 0), .int (zI 0)])), (q_4, .inr (4, [.ref ti_6, .int (zI (-1)), .int (zI (-1))])), zA cI ti_6 100 (fun _ => 0)] := hD
  have hP9 := hP.sub (ws' := [(ru, .inr (2, [.ref q_1, .ref q_4, .null, .int (zI 0), .int (zI 0)])), (q_1, .inr (0, [.int (zI 0), .int (zI 0), .int (zI 0)])), (q_4, .inr (4, [.ref ti_6, .int (zI (-1)), .int (zI (-1))])), zA cI ti_6 100 (fun _ => 0)]) [0, 1, 2, 3] rfl
  have hD9 := hD.sub (ws' := [(ru, .inr (2, [.ref q_1, .ref q_4, .null, .int (zI 0), .int (zI 0)])), (q_1, .inr (0, [.int (zI 0), .int (zI 0), .int (zI 0)])), (q_4, .inr (4, [.ref ti_6, .int (zI (-1)), .int (zI (-1))])), zA cI ti_6 100 (fun _ => 0)]) [0, 1, 2, 3] (by decide) rfl
  refine W.widen (k := 3) (n := 106) (Nat.le_of_ble_eq_true rfl) (Nat.le_of_ble_eq_true rfl) ?_
  have po : (True) := by
    trivial
  exact W.vret hx hb hr (fun t ht hW => ⟨⟨(q_1, q_4, ti_6), rfl, po, by rw [ht]; exact hP9, va_K.moved hW.alike hK, hD9⟩, hS.F ht⟩) hS.2.2 dX2_init_41
set_option maxHeartbeats 4000000 in
set_option maxRecDepth 100000 in
/-- Run.start -/
theorem c_X2_start (l : Launch) (dC : Nat → ClassId) (dI : Nat → Nat → Nat) (cI cZ cL cT cJ : ClassId) (sz : Nat) (ru : Nat) (rh : Nat) (rl : Option Nat) (pl : Int) (oc : Int) (x : Int) (y : Int) (li : Int) (tp : Nat) (ti : Nat) (ln : Int) (hf : Int) (lv : Nat) (w : Int) (h : Int) (ka : Nat) (ta : Nat) (sx : Int) (sy : Int) (fx : Int) (fy : Int) (lf : Int) (un : Int) (np : Int) (gw : 0 ≤ w ∧ w ≤ 100) (gs : 0 ≤ sx ∧ sx ≤ 100) : Met l yX2_start wsX2_start ({ frames := 2, cells := 0, slots := 0, locals := 44 }) (zP (dC, dI) (zT cI cZ cL cT cJ) sz [.ref ru, .int (zI np), .ref lv] [(ru, .inr (2, [.ref rh, .ref tp, va_rf rl, .int (zI pl), .int (zI oc)])), (rh, .inr (0, [.int (zI x), .int (zI y), .int (zI li)])), (tp, .inr (4, [.ref ti, .int (zI ln), .int (zI hf)])), (lv, .inr (1, [.int (zI w), .int (zI h), .ref ka, .ref ta, .int (zI sx), .int (zI sy), .int (zI fx), .int (zI fy), .int (zI lf), .int (zI un)]))]) (va_Qv (fun (u9 : Int) => match u9 with | h1 => (h1 = ncF (-1) 0 sx w)) (zB (dC, dI) (zT cI cZ cL cT cJ) (va_A [(ru, .inr (2, [.ref rh, .ref tp, va_rf rl, .int (zI pl), .int (zI oc)])), (rh, .inr (0, [.int (zI x), .int (zI y), .int (zI li)])), (tp, .inr (4, [.ref ti, .int (zI ln), .int (zI hf)])), (lv, .inr (1, [.int (zI w), .int (zI h), .ref ka, .ref ta, .int (zI sx), .int (zI sy), .int (zI fx), .int (zI fy), .int (zI lf), .int (zI un)]))] sz) (fun (u9 : Int) => match u9 with | h1 => [(ru, .inr (2, [.ref rh, .ref tp, va_rf (some lv), .int (zI np), .int (zI 0)])), (rh, .inr (0, [.int (zI sx), .int (zI sy), .int (zI 0)])), (tp, .inr (4, [.ref ti, .int (zI 0), .int (zI h1)])), (lv, .inr (1, [.int (zI w), .int (zI h), .ref ka, .ref ta, .int (zI sx), .int (zI sy), .int (zI fx), .int (zI fy), .int (zI lf), .int (zI un)]))])) (va_A [(ru, .inr (2, [.ref rh, .ref tp, va_rf rl, .int (zI pl), .int (zI oc)])), (rh, .inr (0, [.int (zI x), .int (zI y), .int (zI li)])), (tp, .inr (4, [.ref ti, .int (zI ln), .int (zI hf)])), (lv, .inr (1, [.int (zI w), .int (zI h), .ref ka, .ref ta, .int (zI sx), .int (zI sy), .int (zI fx), .int (zI fy), .int (zI lf), .int (zI un)]))] sz)) 0 0 (va_A [(ru, .inr (2, [.ref rh, .ref tp, va_rf rl, .int (zI pl), .int (zI oc)])), (rh, .inr (0, [.int (zI x), .int (zI y), .int (zI li)])), (tp, .inr (4, [.ref ti, .int (zI ln), .int (zI hf)])), (lv, .inr (1, [.int (zI w), .int (zI h), .ref ka, .ref ta, .int (zI sx), .int (zI sy), .int (zI fx), .int (zI fy), .int (zI lf), .int (zI un)]))] sz) := by
  refine Met.ofW (cc := cX2_start) (maxL := 3) (ret := none) (by decide) rfl ?_
  intro p e s m args below meth c s₁ B hml hv
  obtain ⟨rfl, hsz, hP, hK, hD0⟩ := hv
  have hx := B.exec
  have hb := B.bytes
  have hr := B.returns
  have hts := atoms_spec (ws := wsX2_start) B.pre
  have hown : s.vm.findClass RX2 = some m.cls := findClass_of_methodNamed B.named
  have hlocks := B.notSynchronized
  subst hsz
  have hD := hD0.self (sz := s.heap.size)
  generalize hAe : va_A [(ru, .inr (2, [.ref rh, .ref tp, va_rf rl, .int (zI pl), .int (zI oc)])), (rh, .inr (0, [.int (zI x), .int (zI y), .int (zI li)])), (tp, .inr (4, [.ref ti, .int (zI ln), .int (zI hf)])), (lv, .inr (1, [.int (zI w), .int (zI h), .ref ka, .ref ta, .int (zI sx), .int (zI sy), .int (zI fx), .int (zI fy), .int (zI lf), .int (zI un)]))] s.heap.size = A at hD ⊢
  have hA : ∀ q : Nat, s.heap.size ≤ q → A q := fun q h => by rw [← hAe]; exact Or.inr h
  clear hAe hD0
  have hS : va_S A s.heap s.heap [] := va_S.rf
  have hP : va_P (dC, dI) vwCl [(ru, .inr (2, [.ref rh, .ref tp, va_rf rl, .int (zI pl), .int (zI oc)])), (rh, .inr (0, [.int (zI x), .int (zI y), .int (zI li)])), (tp, .inr (4, [.ref ti, .int (zI ln), .int (zI hf)])), (lv, .inr (1, [.int (zI w), .int (zI h), .ref ka, .ref ta, .int (zI sx), .int (zI sy), .int (zI fx), .int (zI fy), .int (zI lf), .int (zI un)]))] s.heap := hP
  have f_12 := hts (.fieldLink RX2 12 "SpringLevels$Run" "hero" "LSpringLevels$Hero;") (by decide +kernel)
  have f_21 := hts (.fieldLink RX2 21 "SpringLevels$Run" "tape" "LSpringLevels$Tape;") (by decide +kernel)
  have f_25 := hts (.fieldLink RX2 25 "SpringLevels$Run" "level" "LSpringLevels$Level;") (by decide +kernel)
  have f_29 := hts (.fieldLink RX2 29 "SpringLevels$Run" "player" "I") (by decide +kernel)
  have f_33 := hts (.fieldLink RX2 33 "SpringLevels$Run" "outcome" "I") (by decide +kernel)
  have f_43 := hts (.fieldLink RX2 43 "SpringLevels$Hero" "x" "I") (by decide +kernel)
  have f_46 := hts (.fieldLink RX2 46 "SpringLevels$Level" "width" "I") (by decide +kernel)
  have i_0 : ∀ w ∈ wsX00, w ∈ wsX2_start := by decide +kernel
  have i_1 : ∀ w ∈ wsX10, w ∈ wsX2_start := by decide +kernel
  have i_2 : ∀ w ∈ wsX20, w ∈ wsX2_start := by decide +kernel
  have hl := lv_entry ([.ref ru, .int (zI np), .ref lv]) (n := 3) (Nat.le_of_ble_eq_true rfl)
  rw [lg_entry_eq]
  generalize (lg_sl ([.ref ru, .int (zI np), .ref lv]) ++ List.replicate (3 - (lg_sl ([.ref ru, .int (zI np), .ref lv])).length) Slot.unset).toArray = ls at hl ⊢
  have hl : lv_has ls 3 [(0, .ref ru), (1, .int (zI np)), (2, .ref lv)] := hl
  refine lv_aload_n hx hb dX2_start_0 rfl (lv_at hl 0 rfl) ?_
  refine lv_iload_n hx hb dX2_start_1 rfl (lv_at hl 1 rfl) ?_
  refine va_put (D := (dC, dI)) (ci := 2) (v := .int (zI np)) (ty := .int) (C := RX2) (T := TX2) (N := 5) hx hb hts i_2 tyX2 tyX2_ok nmX2 hown hK hP hD hS 0 rfl rfl 3 (by decide) f_29 (fun _ h9 => h9) rfl (by decide +kernel) rfl rfl (Nat.le_of_ble_eq_true rfl) dX2_start_2 (fun H locs hP hD hS => ?_)
  have hP : va_P (dC, dI) vwCl [(ru, .inr (2, [.ref rh, .ref tp, va_rf rl, .int (zI np), .int (zI oc)])), (rh, .inr (0, [.int (zI x), .int (zI y), .int (zI li)])), (tp, .inr (4, [.ref ti, .int (zI ln), .int (zI hf)])), (lv, .inr (1, [.int (zI w), .int (zI h), .ref ka, .ref ta, .int (zI sx), .int (zI sy), .int (zI fx), .int (zI fy), .int (zI lf), .int (zI un)]))] H := hP
  have hD : va_D A [(ru, .inr (2, [.ref rh, .ref tp, va_rf rl, .int (zI np), .int (zI oc)])), (rh, .inr (0, [.int (zI x), .int (zI y), .int (zI li)])), (tp, .inr (4, [.ref ti, .int (zI ln), .int (zI hf)])), (lv, .inr (1, [.int (zI w), .int (zI h), .ref ka, .ref ta, .int (zI sx), .int (zI sy), .int (zI fx), .int (zI fy), .int (zI lf), .int (zI un)]))] := hD
  refine lv_aload_n hx hb dX2_start_5 rfl (lv_at hl 0 rfl) ?_
  refine lv_aload_n hx hb dX2_start_6 rfl (lv_at hl 2 rfl) ?_
  refine va_put (D := (dC, dI)) (ci := 2) (v := .ref lv) (ty := .object "SpringLevels$Level") (C := RX2) (T := TX2) (N := 5) hx hb hts i_2 tyX2 tyX2_ok nmX2 hown hK hP hD hS 0 rfl rfl 2 (by decide) f_25 (fun _ h9 => h9) rfl (by decide +kernel) rfl rfl (Nat.le_of_ble_eq_true rfl) dX2_start_7 (fun H locs hP hD hS => ?_)
  have hP : va_P (dC, dI) vwCl [(ru, .inr (2, [.ref rh, .ref tp, .ref lv, .int (zI np), .int (zI oc)])), (rh, .inr (0, [.int (zI x), .int (zI y), .int (zI li)])), (tp, .inr (4, [.ref ti, .int (zI ln), .int (zI hf)])), (lv, .inr (1, [.int (zI w), .int (zI h), .ref ka, .ref ta, .int (zI sx), .int (zI sy), .int (zI fx), .int (zI fy), .int (zI lf), .int (zI un)]))] H := hP
  have hD : va_D A [(ru, .inr (2, [.ref rh, .ref tp, .ref lv, .int (zI np), .int (zI oc)])), (rh, .inr (0, [.int (zI x), .int (zI y), .int (zI li)])), (tp, .inr (4, [.ref ti, .int (zI ln), .int (zI hf)])), (lv, .inr (1, [.int (zI w), .int (zI h), .ref ka, .ref ta, .int (zI sx), .int (zI sy), .int (zI fx), .int (zI fy), .int (zI lf), .int (zI un)]))] := hD
  refine lv_aload_n hx hb dX2_start_10 rfl (lv_at hl 0 rfl) ?_
  refine lv_iconst (v := zI 0) hx hb dX2_start_11 (rfl) ?_
  refine va_put (D := (dC, dI)) (ci := 2) (v := .int (zI 0)) (ty := .int) (C := RX2) (T := TX2) (N := 5) hx hb hts i_2 tyX2 tyX2_ok nmX2 hown hK hP hD hS 0 rfl rfl 4 (by decide) f_33 (fun _ h9 => h9) rfl (by decide +kernel) rfl rfl (Nat.le_of_ble_eq_true rfl) dX2_start_12 (fun H locs hP hD hS => ?_)
  have hP : va_P (dC, dI) vwCl [(ru, .inr (2, [.ref rh, .ref tp, .ref lv, .int (zI np), .int (zI 0)])), (rh, .inr (0, [.int (zI x), .int (zI y), .int (zI li)])), (tp, .inr (4, [.ref ti, .int (zI ln), .int (zI hf)])), (lv, .inr (1, [.int (zI w), .int (zI h), .ref ka, .ref ta, .int (zI sx), .int (zI sy), .int (zI fx), .int (zI fy), .int (zI lf), .int (zI un)]))] H := hP
  have hD : va_D A [(ru, .inr (2, [.ref rh, .ref tp, .ref lv, .int (zI np), .int (zI 0)])), (rh, .inr (0, [.int (zI x), .int (zI y), .int (zI li)])), (tp, .inr (4, [.ref ti, .int (zI ln), .int (zI hf)])), (lv, .inr (1, [.int (zI w), .int (zI h), .ref ka, .ref ta, .int (zI sx), .int (zI sy), .int (zI fx), .int (zI fy), .int (zI lf), .int (zI un)]))] := hD
  refine lv_aload_n hx hb dX2_start_15 rfl (lv_at hl 0 rfl) ?_
  refine va_get (D := (dC, dI)) (ci := 2) (v := .ref rh) (C := RX2) (T := TX2) (N := 5) hx hb hts i_2 hown hK hP 0 rfl rfl 0 (by decide) f_12 (fun _ h9 => h9) rfl dX2_start_16 ?_
  refine lv_aload_n hx hb dX2_start_19 rfl (lv_at hl 2 rfl) ?_
  have hPc := hP.sub (ws' := [(rh, .inr (0, [.int (zI x), .int (zI y), .int (zI li)])), (lv, .inr (1, [.int (zI w), .int (zI h), .ref ka, .ref ta, .int (zI sx), .int (zI sy), .int (zI fx), .int (zI fy), .int (zI lf), .int (zI un)]))]) [1, 3] rfl
  have hDc := hD.sub (ws' := [(rh, .inr (0, [.int (zI x), .int (zI y), .int (zI li)])), (lv, .inr (1, [.int (zI w), .int (zI h), .ref ka, .ref ta, .int (zI sx), .int (zI sy), .int (zI fx), .int (zI fy), .int (zI lf), .int (zI un)]))]) [1, 3] (by decide) rfl
  have hFc := va_free (wc := [(rh, .inr (0, [.int (zI x), .int (zI y), .int (zI li)])), (lv, .inr (1, [.int (zI w), .int (zI h), .ref ka, .ref ta, .int (zI sx), .int (zI sy), .int (zI fx), .int (zI fy), .int (zI lf), .int (zI un)]))]) hD hS hA [1, 3] rfl
  refine va_callv (va_runV (As := [.ref lv]) (rest := []) ⟨hx, hb, hml, hown, hts⟩ (c_X0_toStart l dC dI cI cZ cL cT cJ H.size rh x y li lv w h ka ta sx sy fx fy lf un ) (cwV 1 hts gX2_start_X0_toStart rfl rfl rfl (by decide +kernel) ⟨Nat.le_of_ble_eq_true rfl, Nat.le_of_ble_eq_true rfl⟩) ⟨zP_blind, va_recv hK hPc (ci := 0) (q0 := 0) rfl rfl, zP_pre hPc hDc hK⟩ rfl rfl hl.1 rfl (lv_room (Nat.le_of_ble_eq_true rfl)) dX2_start_20 ⟨Nat.le_of_ble_eq_true rfl, Nat.le_of_ble_eq_true rfl⟩) hS (fun q _ h => hFc q h) hFc (fun u_1 t H1 locs ht hvm hw hB hz1 hk1 hS => ?_)
  obtain ⟨hP1, hK1, hD1⟩ := hB
  rw [ht] at hP1
  have hP1 : va_P (dC, dI) vwCl [(rh, .inr (0, [.int (zI sx), .int (zI sy), .int (zI 0)])), (lv, .inr (1, [.int (zI w), .int (zI h), .ref ka, .ref ta, .int (zI sx), .int (zI sy), .int (zI fx), .int (zI fy), .int (zI lf), .int (zI un)]))] H1 := hP1
  obtain ⟨hP, hD⟩ := va_join (wr := [(ru, .inr (2, [.ref rh, .ref tp, .ref lv, .int (zI np), .int (zI 0)])), (tp, .inr (4, [.ref ti, .int (zI ln), .int (zI hf)]))]) (w1 := [(rh, .inr (0, [.int (zI sx), .int (zI sy), .int (zI 0)])), (lv, .inr (1, [.int (zI w), .int (zI h), .ref ka, .ref ta, .int (zI sx), .int (zI sy), .int (zI fx), .int (zI fy), .int (zI lf), .int (zI un)]))]) hP hD [1, 3] [0, 2] rfl rfl (by decide) (by decide) hk1 hFc hP1 hD1
  clear hP1 hD1 hk1 hFc hPc hDc hz1
  generalize H1 = H at hP hS ⊢
  have hP : va_P (dC, dI) vwCl [(ru, .inr (2, [.ref rh, .ref tp, .ref lv, .int (zI np), .int (zI 0)])), (rh, .inr (0, [.int (zI sx), .int (zI sy), .int (zI 0)])), (tp, .inr (4, [.ref ti, .int (zI ln), .int (zI hf)])), (lv, .inr (1, [.int (zI w), .int (zI h), .ref ka, .ref ta, .int (zI sx), .int (zI sy), .int (zI fx), .int (zI fy), .int (zI lf), .int (zI un)]))] H := hP.sub [0, 2, 1, 3] rfl
  have hD : va_D A [(ru, .inr (2, [.ref rh, .ref tp, .ref lv, .int (zI np), .int (zI 0)])), (rh, .inr (0, [.int (zI sx), .int (zI sy), .int (zI 0)])), (tp, .inr (4, [.ref ti, .int (zI ln), .int (zI hf)])), (lv, .inr (1, [.int (zI w), .int (zI h), .ref ka, .ref ta, .int (zI sx), .int (zI sy), .int (zI fx), .int (zI fy), .int (zI lf), .int (zI un)]))] := hD.sub [0, 2, 1, 3] (by decide) rfl
  clear hK1 hvm
  refine W.eq (g2 := F0 m 23 ls []) rfl ?_
  refine lv_aload_n hx hb dX2_start_23 rfl (lv_at hl 0 rfl) ?_
  refine va_get (D := (dC, dI)) (ci := 2) (v := .ref tp) (C := RX2) (T := TX2) (N := 5) hx hb hts i_2 hown hK hP 0 rfl rfl 1 (by decide) f_21 (fun _ h9 => h9) rfl dX2_start_24 ?_
  have hPc := hP.sub (ws' := [(tp, .inr (4, [.ref ti, .int (zI ln), .int (zI hf)]))]) [2] rfl
  have hDc := hD.sub (ws' := [(tp, .inr (4, [.ref ti, .int (zI ln), .int (zI hf)]))]) [2] (by decide) rfl
  have hFc := va_free (wc := [(tp, .inr (4, [.ref ti, .int (zI ln), .int (zI hf)]))]) hD hS hA [2] rfl
  refine va_callv (va_runV (As := []) (rest := []) ⟨hx, hb, hml, hown, hts⟩ (c_X4_rewind l dC dI cI cZ cL cT cJ H.size tp ti ln hf ) (cwV 0 hts gX2_start_X4_rewind rfl rfl rfl (by decide +kernel) ⟨Nat.le_of_ble_eq_true rfl, Nat.le_of_ble_eq_true rfl⟩) ⟨zP_blind, va_recv hK hPc (ci := 4) (q0 := 0) rfl rfl, zP_pre hPc hDc hK⟩ rfl rfl hl.1 rfl (lv_room (Nat.le_of_ble_eq_true rfl)) dX2_start_27 ⟨Nat.le_of_ble_eq_true rfl, Nat.le_of_ble_eq_true rfl⟩) hS (fun q _ h => hFc q h) hFc (fun u_3 t H1 locs ht hvm hw hB hz1 hk1 hS => ?_)
  obtain ⟨hP1, hK1, hD1⟩ := hB
  rw [ht] at hP1
  have hP1 : va_P (dC, dI) vwCl [(tp, .inr (4, [.ref ti, .int (zI 0), .int (zI (-1))]))] H1 := hP1
  obtain ⟨hP, hD⟩ := va_join (wr := [(ru, .inr (2, [.ref rh, .ref tp, .ref lv, .int (zI np), .int (zI 0)])), (rh, .inr (0, [.int (zI sx), .int (zI sy), .int (zI 0)])), (lv, .inr (1, [.int (zI w), .int (zI h), .ref ka, .ref ta, .int (zI sx), .int (zI sy), .int (zI fx), .int (zI fy), .int (zI lf), .int (zI un)]))]) (w1 := [(tp, .inr (4, [.ref ti, .int (zI 0), .int (zI (-1))]))]) hP hD [2] [0, 1, 3] rfl rfl (by decide) (by decide) hk1 hFc hP1 hD1
  clear hP1 hD1 hk1 hFc hPc hDc hz1
  generalize H1 = H at hP hS ⊢
  have hP : va_P (dC, dI) vwCl [(ru, .inr (2, [.ref rh, .ref tp, .ref lv, .int (zI np), .int (zI 0)])), (rh, .inr (0, [.int (zI sx), .int (zI sy), .int (zI 0)])), (tp, .inr (4, [.ref ti, .int (zI 0), .int (zI (-1))])), (lv, .inr (1, [.int (zI w), .int (zI h), .ref ka, .ref ta, .int (zI sx), .int (zI sy), .int (zI fx), .int (zI fy), .int (zI lf), .int (zI un)]))] H := hP.sub [0, 1, 3, 2] rfl
  have hD : va_D A [(ru, .inr (2, [.ref rh, .ref tp, .ref lv, .int (zI np), .int (zI 0)])), (rh, .inr (0, [.int (zI sx), .int (zI sy), .int (zI 0)])), (tp, .inr (4, [.ref ti, .int (zI 0), .int (zI (-1))])), (lv, .inr (1, [.int (zI w), .int (zI h), .ref ka, .ref ta, .int (zI sx), .int (zI sy), .int (zI fx), .int (zI fy), .int (zI lf), .int (zI un)]))] := hD.sub [0, 1, 3, 2] (by decide) rfl
  clear hK1 hvm
  refine W.eq (g2 := F0 m 30 ls []) rfl ?_
  refine lv_aload_n hx hb dX2_start_30 rfl (lv_at hl 0 rfl) ?_
  refine va_get (D := (dC, dI)) (ci := 2) (v := .ref tp) (C := RX2) (T := TX2) (N := 5) hx hb hts i_2 hown hK hP 0 rfl rfl 1 (by decide) f_21 (fun _ h9 => h9) rfl dX2_start_31 ?_
  refine lv_aload_n hx hb dX2_start_34 rfl (lv_at hl 0 rfl) ?_
  refine va_get (D := (dC, dI)) (ci := 2) (v := .ref rh) (C := RX2) (T := TX2) (N := 5) hx hb hts i_2 hown hK hP 0 rfl rfl 0 (by decide) f_12 (fun _ h9 => h9) rfl dX2_start_35 ?_
  refine va_get (D := (dC, dI)) (ci := 0) (v := .int (zI sx)) (C := RX0) (T := TX0) (N := 3) hx hb hts i_0 hown hK hP 1 rfl rfl 0 (by decide) f_43 (fun _ h9 => h9) rfl dX2_start_38 ?_
  refine lv_aload_n hx hb dX2_start_41 rfl (lv_at hl 2 rfl) ?_
  refine va_get (D := (dC, dI)) (ci := 1) (v := .int (zI w)) (C := RX1) (T := TX1) (N := 10) hx hb hts i_1 hown hK hP 3 rfl rfl 0 (by decide) f_46 (fun _ h9 => h9) rfl dX2_start_42 ?_
  have hPc := hP.sub (ws' := [(tp, .inr (4, [.ref ti, .int (zI 0), .int (zI (-1))]))]) [2] rfl
  have hDc := hD.sub (ws' := [(tp, .inr (4, [.ref ti, .int (zI 0), .int (zI (-1))]))]) [2] (by decide) rfl
  have hFc := va_free (wc := [(tp, .inr (4, [.ref ti, .int (zI 0), .int (zI (-1))]))]) hD hS hA [2] rfl
  refine va_callv (va_runV (As := [.int (zI sx), .int (zI w)]) (rest := []) ⟨hx, hb, hml, hown, hts⟩ (c_X4_noteColumn l dC dI cI cZ cL cT cJ H.size tp ti 0 (-1) sx w (by first | assumption | omega) (by first | assumption | omega) (by first | assumption | omega)) (cwV 2 hts gX2_start_X4_noteColumn rfl rfl rfl (by decide +kernel) ⟨Nat.le_of_ble_eq_true rfl, Nat.le_of_ble_eq_true rfl⟩) ⟨zP_blind, va_recv hK hPc (ci := 4) (q0 := 0) rfl rfl, zP_pre hPc hDc hK⟩ rfl rfl hl.1 rfl (lv_room (Nat.le_of_ble_eq_true rfl)) dX2_start_45 ⟨Nat.le_of_ble_eq_true rfl, Nat.le_of_ble_eq_true rfl⟩) hS (fun q _ h => hFc q h) hFc (fun u_5 t H1 locs ht hvm hw hB hz1 hk1 hS => ?_)
  obtain ⟨h1_6, rfl⟩ : ∃ z, z = u_5 := ⟨_, rfl⟩
  obtain ⟨hP1, hK1, hD1⟩ := hB
  rw [ht] at hP1
  have hP1 : va_P (dC, dI) vwCl [(tp, .inr (4, [.ref ti, .int (zI 0), .int (zI h1_6)]))] H1 := hP1
  obtain ⟨hP, hD⟩ := va_join (wr := [(ru, .inr (2, [.ref rh, .ref tp, .ref lv, .int (zI np), .int (zI 0)])), (rh, .inr (0, [.int (zI sx), .int (zI sy), .int (zI 0)])), (lv, .inr (1, [.int (zI w), .int (zI h), .ref ka, .ref ta, .int (zI sx), .int (zI sy), .int (zI fx), .int (zI fy), .int (zI lf), .int (zI un)]))]) (w1 := [(tp, .inr (4, [.ref ti, .int (zI 0), .int (zI h1_6)]))]) hP hD [2] [0, 1, 3] rfl rfl (by decide) (by decide) hk1 hFc hP1 hD1
  clear hP1 hD1 hk1 hFc hPc hDc hz1
  generalize H1 = H at hP hS ⊢
  have hP : va_P (dC, dI) vwCl [(ru, .inr (2, [.ref rh, .ref tp, .ref lv, .int (zI np), .int (zI 0)])), (rh, .inr (0, [.int (zI sx), .int (zI sy), .int (zI 0)])), (tp, .inr (4, [.ref ti, .int (zI 0), .int (zI h1_6)])), (lv, .inr (1, [.int (zI w), .int (zI h), .ref ka, .ref ta, .int (zI sx), .int (zI sy), .int (zI fx), .int (zI fy), .int (zI lf), .int (zI un)]))] H := hP.sub [0, 1, 3, 2] rfl
  have hD : va_D A [(ru, .inr (2, [.ref rh, .ref tp, .ref lv, .int (zI np), .int (zI 0)])), (rh, .inr (0, [.int (zI sx), .int (zI sy), .int (zI 0)])), (tp, .inr (4, [.ref ti, .int (zI 0), .int (zI h1_6)])), (lv, .inr (1, [.int (zI w), .int (zI h), .ref ka, .ref ta, .int (zI sx), .int (zI sy), .int (zI fx), .int (zI fy), .int (zI lf), .int (zI un)]))] := hD.sub [0, 1, 3, 2] (by decide) rfl
  clear hK1 hvm
  have po_7 : h1_6 = ncF (-1 : Int) (0 : Int) sx w := hw
  refine W.eq (g2 := F0 m 48 ls []) rfl ?_
  have hP9 := hP.sub (ws' := [(ru, .inr (2, [.ref rh, .ref tp, .ref lv, .int (zI np), .int (zI 0)])), (rh, .inr (0, [.int (zI sx), .int (zI sy), .int (zI 0)])), (tp, .inr (4, [.ref ti, .int (zI 0), .int (zI h1_6)])), (lv, .inr (1, [.int (zI w), .int (zI h), .ref ka, .ref ta, .int (zI sx), .int (zI sy), .int (zI fx), .int (zI fy), .int (zI lf), .int (zI un)]))]) [0, 1, 2, 3] rfl
  have hD9 := hD.sub (ws' := [(ru, .inr (2, [.ref rh, .ref tp, .ref lv, .int (zI np), .int (zI 0)])), (rh, .inr (0, [.int (zI sx), .int (zI sy), .int (zI 0)])), (tp, .inr (4, [.ref ti, .int (zI 0), .int (zI h1_6)])), (lv, .inr (1, [.int (zI w), .int (zI h), .ref ka, .ref ta, .int (zI sx), .int (zI sy), .int (zI fx), .int (zI fy), .int (zI lf), .int (zI un)]))]) [0, 1, 2, 3] (by decide) rfl
  have po : (h1_6 = ncF (-1) 0 sx w) := by
    exact po_7
  exact W.vret hx hb hr (fun t ht hW => ⟨⟨h1_6, rfl, po, by rw [ht]; exact hP9, va_K.moved hW.alike hK, hD9⟩, hS.F ht⟩) hS.2.2 dX2_start_48
set_option maxHeartbeats 4000000 in
set_option maxRecDepth 100000 in
/-- Run.advance -/
theorem c_X2_advance (l : Launch) (dC : Nat → ClassId) (dI : Nat → Nat → Nat) (cI cZ cL cT cJ : ClassId) (sz : Nat) (ru : Nat) (rh : Nat) (rl : Option Nat) (pl : Int) (oc : Int) (x : Int) (y : Int) (li : Int) (tp : Nat) (ti : Nat) (ln : Int) (hf : Int) (FI : Int → Int) (lv : Nat) (w : Int) (h : Int) (ka : Nat) (ta : Nat) (sx : Int) (sy : Int) (fx : Int) (fy : Int) (lf : Int) (un : Int) (K : Int → Int) (i : Int) (gw : 0 < w ∧ w ≤ 12) (gh : 0 < h ∧ h ≤ 8) (gK : Kin K) (gx : 0 ≤ x ∧ x < w) (gy : 0 ≤ y ∧ y < h) (gl : 0 ≤ li ∧ li ≤ 4) (gf : -2147483648 ≤ fx ∧ fx < 2147483648) (gf2 : -2147483648 ≤ fy ∧ fy < 2147483648) (gi : 0 ≤ i ∧ i ≤ 5) (gn : 0 ≤ ln ∧ ln < 100) (ghf : -1 ≤ hf ∧ hf ≤ 100) : Met l yX2_advance wsX2_advance ({ frames := 3, cells := 0, slots := 0, locals := 69 }) (zP (dC, dI) (zT cI cZ cL cT cJ) sz [.ref ru, .ref lv, .int (zI i)] [(ru, .inr (2, [.ref rh, .ref tp, va_rf rl, .int (zI pl), .int (zI oc)])), (rh, .inr (0, [.int (zI x), .int (zI y), .int (zI li)])), (tp, .inr (4, [.ref ti, .int (zI ln), .int (zI hf)])), zA cI ti 100 FI, (lv, .inr (1, [.int (zI w), .int (zI h), .ref ka, .ref ta, .int (zI sx), .int (zI sy), .int (zI fx), .int (zI fy), .int (zI lf), .int (zI un)])), zA cI ka 96 K]) (va_Qv (fun (u9 : Int × Int × Int × Int × Int) => match u9 with | (x1, y1, l1, o1, h1) => (x1 = mvX K w h x y i ∧ y1 = mvY K w h x y li i ∧ l1 = mvL K w h x y li i ∧ o1 = (if mvO K w h fx fy x y li i = 0 ∧ 100 ≤ ln + 1 then 1 else mvO K w h fx fy x y li i) ∧ h1 = ncF hf (ln + 1) x1 w)) (zB (dC, dI) (zT cI cZ cL cT cJ) (va_A [(ru, .inr (2, [.ref rh, .ref tp, va_rf rl, .int (zI pl), .int (zI oc)])), (rh, .inr (0, [.int (zI x), .int (zI y), .int (zI li)])), (tp, .inr (4, [.ref ti, .int (zI ln), .int (zI hf)])), zA cI ti 100 FI, (lv, .inr (1, [.int (zI w), .int (zI h), .ref ka, .ref ta, .int (zI sx), .int (zI sy), .int (zI fx), .int (zI fy), .int (zI lf), .int (zI un)])), zA cI ka 96 K] sz) (fun (u9 : Int × Int × Int × Int × Int) => match u9 with | (x1, y1, l1, o1, h1) => [(ru, .inr (2, [.ref rh, .ref tp, va_rf rl, .int (zI pl), .int (zI o1)])), (rh, .inr (0, [.int (zI x1), .int (zI y1), .int (zI l1)])), (tp, .inr (4, [.ref ti, .int (zI (ln + 1)), .int (zI h1)])), zA cI ti 100 (zu FI ln i), (lv, .inr (1, [.int (zI w), .int (zI h), .ref ka, .ref ta, .int (zI sx), .int (zI sy), .int (zI fx), .int (zI fy), .int (zI lf), .int (zI un)])), zA cI ka 96 K])) (va_A [(ru, .inr (2, [.ref rh, .ref tp, va_rf rl, .int (zI pl), .int (zI oc)])), (rh, .inr (0, [.int (zI x), .int (zI y), .int (zI li)])), (tp, .inr (4, [.ref ti, .int (zI ln), .int (zI hf)])), zA cI ti 100 FI, (lv, .inr (1, [.int (zI w), .int (zI h), .ref ka, .ref ta, .int (zI sx), .int (zI sy), .int (zI fx), .int (zI fy), .int (zI lf), .int (zI un)])), zA cI ka 96 K] sz)) 0 0 (va_A [(ru, .inr (2, [.ref rh, .ref tp, va_rf rl, .int (zI pl), .int (zI oc)])), (rh, .inr (0, [.int (zI x), .int (zI y), .int (zI li)])), (tp, .inr (4, [.ref ti, .int (zI ln), .int (zI hf)])), zA cI ti 100 FI, (lv, .inr (1, [.int (zI w), .int (zI h), .ref ka, .ref ta, .int (zI sx), .int (zI sy), .int (zI fx), .int (zI fy), .int (zI lf), .int (zI un)])), zA cI ka 96 K] sz) := by
  refine Met.ofW (cc := cX2_advance) (maxL := 3) (ret := none) (by decide) rfl ?_
  intro p e s m args below meth c s₁ B hml hv
  obtain ⟨rfl, hsz, hP, hK, hD0⟩ := hv
  have hx := B.exec
  have hb := B.bytes
  have hr := B.returns
  have hts := atoms_spec (ws := wsX2_advance) B.pre
  have hown : s.vm.findClass RX2 = some m.cls := findClass_of_methodNamed B.named
  have hlocks := B.notSynchronized
  subst hsz
  have hD := hD0.self (sz := s.heap.size)
  generalize hAe : va_A [(ru, .inr (2, [.ref rh, .ref tp, va_rf rl, .int (zI pl), .int (zI oc)])), (rh, .inr (0, [.int (zI x), .int (zI y), .int (zI li)])), (tp, .inr (4, [.ref ti, .int (zI ln), .int (zI hf)])), zA cI ti 100 FI, (lv, .inr (1, [.int (zI w), .int (zI h), .ref ka, .ref ta, .int (zI sx), .int (zI sy), .int (zI fx), .int (zI fy), .int (zI lf), .int (zI un)])), zA cI ka 96 K] s.heap.size = A at hD ⊢
  have hA : ∀ q : Nat, s.heap.size ≤ q → A q := fun q h => by rw [← hAe]; exact Or.inr h
  clear hAe hD0
  have hS : va_S A s.heap s.heap [] := va_S.rf
  have hP : va_P (dC, dI) vwCl [(ru, .inr (2, [.ref rh, .ref tp, va_rf rl, .int (zI pl), .int (zI oc)])), (rh, .inr (0, [.int (zI x), .int (zI y), .int (zI li)])), (tp, .inr (4, [.ref ti, .int (zI ln), .int (zI hf)])), zA cI ti 100 FI, (lv, .inr (1, [.int (zI w), .int (zI h), .ref ka, .ref ta, .int (zI sx), .int (zI sy), .int (zI fx), .int (zI fy), .int (zI lf), .int (zI un)])), zA cI ka 96 K] s.heap := hP
  have f_12 := hts (.fieldLink RX2 12 "SpringLevels$Run" "hero" "LSpringLevels$Hero;") (by decide +kernel)
  have f_21 := hts (.fieldLink RX2 21 "SpringLevels$Run" "tape" "LSpringLevels$Tape;") (by decide +kernel)
  have f_33 := hts (.fieldLink RX2 33 "SpringLevels$Run" "outcome" "I") (by decide +kernel)
  have f_43 := hts (.fieldLink RX2 43 "SpringLevels$Hero" "x" "I") (by decide +kernel)
  have f_46 := hts (.fieldLink RX2 46 "SpringLevels$Level" "width" "I") (by decide +kernel)
  have f_63 := hts (.fieldLink RX2 63 "SpringLevels$Tape" "length" "I") (by decide +kernel)
  have i_0 : ∀ w ∈ wsX00, w ∈ wsX2_advance := by decide +kernel
  have i_1 : ∀ w ∈ wsX10, w ∈ wsX2_advance := by decide +kernel
  have i_2 : ∀ w ∈ wsX20, w ∈ wsX2_advance := by decide +kernel
  have i_4 : ∀ w ∈ wsX40, w ∈ wsX2_advance := by decide +kernel
  have hl := lv_entry ([.ref ru, .ref lv, .int (zI i)]) (n := 3) (Nat.le_of_ble_eq_true rfl)
  rw [lg_entry_eq]
  generalize (lg_sl ([.ref ru, .ref lv, .int (zI i)]) ++ List.replicate (3 - (lg_sl ([.ref ru, .ref lv, .int (zI i)])).length) Slot.unset).toArray = ls at hl ⊢
  have hl : lv_has ls 3 [(0, .ref ru), (1, .ref lv), (2, .int (zI i))] := hl
  refine lv_aload_n hx hb dX2_advance_0 rfl (lv_at hl 0 rfl) ?_
  refine lv_aload_n hx hb dX2_advance_1 rfl (lv_at hl 0 rfl) ?_
  refine va_get (D := (dC, dI)) (ci := 2) (v := .ref rh) (C := RX2) (T := TX2) (N := 5) hx hb hts i_2 hown hK hP 0 rfl rfl 0 (by decide) f_12 (fun _ h9 => h9) rfl dX2_advance_2 ?_
  refine lv_aload_n hx hb dX2_advance_5 rfl (lv_at hl 1 rfl) ?_
  refine lv_iload_n hx hb dX2_advance_6 rfl (lv_at hl 2 rfl) ?_
  have hPc := hP.sub (ws' := [(rh, .inr (0, [.int (zI x), .int (zI y), .int (zI li)])), (lv, .inr (1, [.int (zI w), .int (zI h), .ref ka, .ref ta, .int (zI sx), .int (zI sy), .int (zI fx), .int (zI fy), .int (zI lf), .int (zI un)])), zA cI ka 96 K]) [1, 4, 5] rfl
  have hDc := hD.sub (ws' := [(rh, .inr (0, [.int (zI x), .int (zI y), .int (zI li)])), (lv, .inr (1, [.int (zI w), .int (zI h), .ref ka, .ref ta, .int (zI sx), .int (zI sy), .int (zI fx), .int (zI fy), .int (zI lf), .int (zI un)])), zA cI ka 96 K]) [1, 4, 5] (by decide) rfl
  have hFc := va_free (wc := [(rh, .inr (0, [.int (zI x), .int (zI y), .int (zI li)])), (lv, .inr (1, [.int (zI w), .int (zI h), .ref ka, .ref ta, .int (zI sx), .int (zI sy), .int (zI fx), .int (zI fy), .int (zI lf), .int (zI un)])), zA cI ka 96 K]) hD hS hA [1, 4, 5] rfl
  refine va_calli (va_runV (As := [.ref lv, .int (zI i)]) (rest := [.ref ru]) ⟨hx, hb, hml, hown, hts⟩ (c_X0_move l dC dI cI cZ cL cT cJ s.heap.size rh x y li lv w h ka ta sx sy fx fy lf un K i (by first | assumption | omega) (by first | assumption | omega) (by first | assumption | omega) (by first | assumption | omega) (by first | assumption | omega) (by first | assumption | omega) (by first | assumption | omega) (by first | assumption | omega) (by first | assumption | omega)) (cwV 2 hts gX2_advance_X0_move rfl rfl rfl (by decide +kernel) ⟨Nat.le_of_ble_eq_true rfl, Nat.le_of_ble_eq_true rfl⟩) ⟨zP_blind, va_recv hK hPc (ci := 0) (q0 := 0) rfl rfl, zP_pre hPc hDc hK⟩ rfl rfl hl.1 rfl (lv_room (Nat.le_of_ble_eq_true rfl)) dX2_advance_7 ⟨Nat.le_of_ble_eq_true rfl, Nat.le_of_ble_eq_true rfl⟩) hS (fun q _ h => hFc q h) hFc (fun r_1 u_1 t H1 locs ht hvm hw hB hz1 hk1 hS => ?_)
  obtain ⟨x1_2, y1_3, l1_4, o1_5⟩ := u_1
  obtain ⟨hP1, hK1, hD1⟩ := hB
  rw [ht] at hP1
  have hP1 : va_P (dC, dI) vwCl [(rh, .inr (0, [.int (zI x1_2), .int (zI y1_3), .int (zI l1_4)])), (lv, .inr (1, [.int (zI w), .int (zI h), .ref ka, .ref ta, .int (zI sx), .int (zI sy), .int (zI fx), .int (zI fy), .int (zI lf), .int (zI un)])), zA cI ka 96 K] H1 := hP1
  obtain ⟨hP, hD⟩ := va_join (wr := [(ru, .inr (2, [.ref rh, .ref tp, va_rf rl, .int (zI pl), .int (zI oc)])), (tp, .inr (4, [.ref ti, .int (zI ln), .int (zI hf)])), zA cI ti 100 FI]) (w1 := [(rh, .inr (0, [.int (zI x1_2), .int (zI y1_3), .int (zI l1_4)])), (lv, .inr (1, [.int (zI w), .int (zI h), .ref ka, .ref ta, .int (zI sx), .int (zI sy), .int (zI fx), .int (zI fy), .int (zI lf), .int (zI un)])), zA cI ka 96 K]) hP hD [1, 4, 5] [0, 2, 3] rfl rfl (by decide) (by decide) hk1 hFc hP1 hD1
  clear hP1 hD1 hk1 hFc hPc hDc hz1
  generalize H1 = H at hP hS ⊢
  have hP : va_P (dC, dI) vwCl [(ru, .inr (2, [.ref rh, .ref tp, va_rf rl, .int (zI pl), .int (zI oc)])), (rh, .inr (0, [.int (zI x1_2), .int (zI y1_3), .int (zI l1_4)])), (tp, .inr (4, [.ref ti, .int (zI ln), .int (zI hf)])), zA cI ti 100 FI, (lv, .inr (1, [.int (zI w), .int (zI h), .ref ka, .ref ta, .int (zI sx), .int (zI sy), .int (zI fx), .int (zI fy), .int (zI lf), .int (zI un)])), zA cI ka 96 K] H := hP.sub [0, 3, 1, 2, 4, 5] rfl
  have hD : va_D A [(ru, .inr (2, [.ref rh, .ref tp, va_rf rl, .int (zI pl), .int (zI oc)])), (rh, .inr (0, [.int (zI x1_2), .int (zI y1_3), .int (zI l1_4)])), (tp, .inr (4, [.ref ti, .int (zI ln), .int (zI hf)])), zA cI ti 100 FI, (lv, .inr (1, [.int (zI w), .int (zI h), .ref ka, .ref ta, .int (zI sx), .int (zI sy), .int (zI fx), .int (zI fy), .int (zI lf), .int (zI un)])), zA cI ka 96 K] := hD.sub [0, 3, 1, 2, 4, 5] (by decide) rfl
  clear hK1 hvm
  obtain ⟨rfl, po_6⟩ := hw
  have po_6 : x1_2 = mvX K w h x y i ∧ y1_3 = mvY K w h x y li i ∧ l1_4 = mvL K w h x y li i ∧ o1_5 = mvO K w h fx fy x y li i := po_6
  refine W.eq (g2 := F0 m 10 ls [.int (zI o1_5), .ref ru]) rfl ?_
  have e9 := mv_rng (K := K) (w := w) (h := h) (fx := fx) (fy := fy) (x := x) (y := y) (li := li) (i := i) gx gy gl
  rw [← po_6.1, ← po_6.2.1, ← po_6.2.2.1, ← po_6.2.2.2] at e9
  have m9 := po_6
  refine va_put (D := (dC, dI)) (ci := 2) (v := .int (zI o1_5)) (ty := .int) (C := RX2) (T := TX2) (N := 5) hx hb hts i_2 tyX2 tyX2_ok nmX2 hown hK hP hD hS 0 rfl rfl 4 (by decide) f_33 (fun _ h9 => h9) rfl (by decide +kernel) rfl rfl (Nat.le_of_ble_eq_true rfl) dX2_advance_10 (fun H locs hP hD hS => ?_)
  have hP : va_P (dC, dI) vwCl [(ru, .inr (2, [.ref rh, .ref tp, va_rf rl, .int (zI pl), .int (zI o1_5)])), (rh, .inr (0, [.int (zI x1_2), .int (zI y1_3), .int (zI l1_4)])), (tp, .inr (4, [.ref ti, .int (zI ln), .int (zI hf)])), zA cI ti 100 FI, (lv, .inr (1, [.int (zI w), .int (zI h), .ref ka, .ref ta, .int (zI sx), .int (zI sy), .int (zI fx), .int (zI fy), .int (zI lf), .int (zI un)])), zA cI ka 96 K] H := hP
  have hD : va_D A [(ru, .inr (2, [.ref rh, .ref tp, va_rf rl, .int (zI pl), .int (zI o1_5)])), (rh, .inr (0, [.int (zI x1_2), .int (zI y1_3), .int (zI l1_4)])), (tp, .inr (4, [.ref ti, .int (zI ln), .int (zI hf)])), zA cI ti 100 FI, (lv, .inr (1, [.int (zI w), .int (zI h), .ref ka, .ref ta, .int (zI sx), .int (zI sy), .int (zI fx), .int (zI fy), .int (zI lf), .int (zI un)])), zA cI ka 96 K] := hD
  refine lv_aload_n hx hb dX2_advance_13 rfl (lv_at hl 0 rfl) ?_
  refine va_get (D := (dC, dI)) (ci := 2) (v := .ref tp) (C := RX2) (T := TX2) (N := 5) hx hb hts i_2 hown hK hP 0 rfl rfl 1 (by decide) f_21 (fun _ h9 => h9) rfl dX2_advance_14 ?_
  refine lv_iload_n hx hb dX2_advance_17 rfl (lv_at hl 2 rfl) ?_
  have hPc := hP.sub (ws' := [(tp, .inr (4, [.ref ti, .int (zI ln), .int (zI hf)])), zA cI ti 100 FI]) [2, 3] rfl
  have hDc := hD.sub (ws' := [(tp, .inr (4, [.ref ti, .int (zI ln), .int (zI hf)])), zA cI ti 100 FI]) [2, 3] (by decide) rfl
  have hFc := va_free (wc := [(tp, .inr (4, [.ref ti, .int (zI ln), .int (zI hf)])), zA cI ti 100 FI]) hD hS hA [2, 3] rfl
  refine va_callv (va_runV (As := [.int (zI i)]) (rest := []) ⟨hx, hb, hml, hown, hts⟩ (c_X4_append l dC dI cI cZ cL cT cJ H.size tp ti ln hf FI i (by first | assumption | omega)) (cwV 1 hts gX2_advance_X4_append rfl rfl rfl (by decide +kernel) ⟨Nat.le_of_ble_eq_true rfl, Nat.le_of_ble_eq_true rfl⟩) ⟨zP_blind, va_recv hK hPc (ci := 4) (q0 := 0) rfl rfl, zP_pre hPc hDc hK⟩ rfl rfl hl.1 rfl (lv_room (Nat.le_of_ble_eq_true rfl)) dX2_advance_18 ⟨Nat.le_of_ble_eq_true rfl, Nat.le_of_ble_eq_true rfl⟩) hS (fun q _ h => hFc q h) hFc (fun u_7 t H1 locs ht hvm hw hB hz1 hk1 hS => ?_)
  obtain ⟨hP1, hK1, hD1⟩ := hB
  rw [ht] at hP1
  have hP1 : va_P (dC, dI) vwCl [(tp, .inr (4, [.ref ti, .int (zI (ln + 1)), .int (zI hf)])), zA cI ti 100 (zu FI ln i)] H1 := hP1
  obtain ⟨hP, hD⟩ := va_join (wr := [(ru, .inr (2, [.ref rh, .ref tp, va_rf rl, .int (zI pl), .int (zI o1_5)])), (rh, .inr (0, [.int (zI x1_2), .int (zI y1_3), .int (zI l1_4)])), (lv, .inr (1, [.int (zI w), .int (zI h), .ref ka, .ref ta, .int (zI sx), .int (zI sy), .int (zI fx), .int (zI fy), .int (zI lf), .int (zI un)])), zA cI ka 96 K]) (w1 := [(tp, .inr (4, [.ref ti, .int (zI (ln + 1)), .int (zI hf)])), zA cI ti 100 (zu FI ln i)]) hP hD [2, 3] [0, 1, 4, 5] rfl rfl (by decide) (by decide) hk1 hFc hP1 hD1
  clear hP1 hD1 hk1 hFc hPc hDc hz1
  generalize H1 = H at hP hS ⊢
  have hP : va_P (dC, dI) vwCl [(ru, .inr (2, [.ref rh, .ref tp, va_rf rl, .int (zI pl), .int (zI o1_5)])), (rh, .inr (0, [.int (zI x1_2), .int (zI y1_3), .int (zI l1_4)])), (tp, .inr (4, [.ref ti, .int (zI (ln + 1)), .int (zI hf)])), zA cI ti 100 (zu FI ln i), (lv, .inr (1, [.int (zI w), .int (zI h), .ref ka, .ref ta, .int (zI sx), .int (zI sy), .int (zI fx), .int (zI fy), .int (zI lf), .int (zI un)])), zA cI ka 96 K] H := hP.sub [0, 1, 4, 5, 2, 3] rfl
  have hD : va_D A [(ru, .inr (2, [.ref rh, .ref tp, va_rf rl, .int (zI pl), .int (zI o1_5)])), (rh, .inr (0, [.int (zI x1_2), .int (zI y1_3), .int (zI l1_4)])), (tp, .inr (4, [.ref ti, .int (zI (ln + 1)), .int (zI hf)])), zA cI ti 100 (zu FI ln i), (lv, .inr (1, [.int (zI w), .int (zI h), .ref ka, .ref ta, .int (zI sx), .int (zI sy), .int (zI fx), .int (zI fy), .int (zI lf), .int (zI un)])), zA cI ka 96 K] := hD.sub [0, 1, 4, 5, 2, 3] (by decide) rfl
  clear hK1 hvm
  refine W.eq (g2 := F0 m 21 ls []) rfl ?_
  refine lv_aload_n hx hb dX2_advance_21 rfl (lv_at hl 0 rfl) ?_
  refine va_get (D := (dC, dI)) (ci := 2) (v := .ref tp) (C := RX2) (T := TX2) (N := 5) hx hb hts i_2 hown hK hP 0 rfl rfl 1 (by decide) f_21 (fun _ h9 => h9) rfl dX2_advance_22 ?_
  refine lv_aload_n hx hb dX2_advance_25 rfl (lv_at hl 0 rfl) ?_
  refine va_get (D := (dC, dI)) (ci := 2) (v := .ref rh) (C := RX2) (T := TX2) (N := 5) hx hb hts i_2 hown hK hP 0 rfl rfl 0 (by decide) f_12 (fun _ h9 => h9) rfl dX2_advance_26 ?_
  refine va_get (D := (dC, dI)) (ci := 0) (v := .int (zI x1_2)) (C := RX0) (T := TX0) (N := 3) hx hb hts i_0 hown hK hP 1 rfl rfl 0 (by decide) f_43 (fun _ h9 => h9) rfl dX2_advance_29 ?_
  refine lv_aload_n hx hb dX2_advance_32 rfl (lv_at hl 1 rfl) ?_
  refine va_get (D := (dC, dI)) (ci := 1) (v := .int (zI w)) (C := RX1) (T := TX1) (N := 10) hx hb hts i_1 hown hK hP 4 rfl rfl 0 (by decide) f_46 (fun _ h9 => h9) rfl dX2_advance_33 ?_
  have hPc := hP.sub (ws' := [(tp, .inr (4, [.ref ti, .int (zI (ln + 1)), .int (zI hf)]))]) [2] rfl
  have hDc := hD.sub (ws' := [(tp, .inr (4, [.ref ti, .int (zI (ln + 1)), .int (zI hf)]))]) [2] (by decide) rfl
  have hFc := va_free (wc := [(tp, .inr (4, [.ref ti, .int (zI (ln + 1)), .int (zI hf)]))]) hD hS hA [2] rfl
  refine va_callv (va_runV (As := [.int (zI x1_2), .int (zI w)]) (rest := []) ⟨hx, hb, hml, hown, hts⟩ (c_X4_noteColumn l dC dI cI cZ cL cT cJ H.size tp ti (ln + 1) hf x1_2 w (by first | assumption | omega) (by first | assumption | omega) (by first | assumption | omega)) (cwV 2 hts gX2_advance_X4_noteColumn rfl rfl rfl (by decide +kernel) ⟨Nat.le_of_ble_eq_true rfl, Nat.le_of_ble_eq_true rfl⟩) ⟨zP_blind, va_recv hK hPc (ci := 4) (q0 := 0) rfl rfl, zP_pre hPc hDc hK⟩ rfl rfl hl.1 rfl (lv_room (Nat.le_of_ble_eq_true rfl)) dX2_advance_36 ⟨Nat.le_of_ble_eq_true rfl, Nat.le_of_ble_eq_true rfl⟩) hS (fun q _ h => hFc q h) hFc (fun u_9 t H1 locs ht hvm hw hB hz1 hk1 hS => ?_)
  obtain ⟨h1_10, rfl⟩ : ∃ z, z = u_9 := ⟨_, rfl⟩
  obtain ⟨hP1, hK1, hD1⟩ := hB
  rw [ht] at hP1
  have hP1 : va_P (dC, dI) vwCl [(tp, .inr (4, [.ref ti, .int (zI (ln + 1)), .int (zI h1_10)]))] H1 := hP1
  obtain ⟨hP, hD⟩ := va_join (wr := [(ru, .inr (2, [.ref rh, .ref tp, va_rf rl, .int (zI pl), .int (zI o1_5)])), (rh, .inr (0, [.int (zI x1_2), .int (zI y1_3), .int (zI l1_4)])), zA cI ti 100 (zu FI ln i), (lv, .inr (1, [.int (zI w), .int (zI h), .ref ka, .ref ta, .int (zI sx), .int (zI sy), .int (zI fx), .int (zI fy), .int (zI lf), .int (zI un)])), zA cI ka 96 K]) (w1 := [(tp, .inr (4, [.ref ti, .int (zI (ln + 1)), .int (zI h1_10)]))]) hP hD [2] [0, 1, 3, 4, 5] rfl rfl (by decide) (by decide) hk1 hFc hP1 hD1
  clear hP1 hD1 hk1 hFc hPc hDc hz1
  generalize H1 = H at hP hS ⊢
  have hP : va_P (dC, dI) vwCl [(ru, .inr (2, [.ref rh, .ref tp, va_rf rl, .int (zI pl), .int (zI o1_5)])), (rh, .inr (0, [.int (zI x1_2), .int (zI y1_3), .int (zI l1_4)])), (tp, .inr (4, [.ref ti, .int (zI (ln + 1)), .int (zI h1_10)])), zA cI ti 100 (zu FI ln i), (lv, .inr (1, [.int (zI w), .int (zI h), .ref ka, .ref ta, .int (zI sx), .int (zI sy), .int (zI fx), .int (zI fy), .int (zI lf), .int (zI un)])), zA cI ka 96 K] H := hP.sub [0, 1, 5, 2, 3, 4] rfl
  have hD : va_D A [(ru, .inr (2, [.ref rh, .ref tp, va_rf rl, .int (zI pl), .int (zI o1_5)])), (rh, .inr (0, [.int (zI x1_2), .int (zI y1_3), .int (zI l1_4)])), (tp, .inr (4, [.ref ti, .int (zI (ln + 1)), .int (zI h1_10)])), zA cI ti 100 (zu FI ln i), (lv, .inr (1, [.int (zI w), .int (zI h), .ref ka, .ref ta, .int (zI sx), .int (zI sy), .int (zI fx), .int (zI fy), .int (zI lf), .int (zI un)])), zA cI ka 96 K] := hD.sub [0, 1, 5, 2, 3, 4] (by decide) rfl
  clear hK1 hvm
  have po_11 : h1_10 = ncF hf (ln + 1) x1_2 w := hw
  refine W.eq (g2 := F0 m 39 ls []) rfl ?_
  refine lv_aload_n hx hb dX2_advance_39 rfl (lv_at hl 0 rfl) ?_
  refine va_get (D := (dC, dI)) (ci := 2) (v := .int (zI o1_5)) (C := RX2) (T := TX2) (N := 5) hx hb hts i_2 hown hK hP 0 rfl rfl 4 (by decide) f_33 (fun _ h9 => h9) rfl dX2_advance_40 ?_
  refine lz_if_ne (tgt := 63) hx hb dX2_advance_43 (by decide) (by omega) (fun c_12 => ?_) (fun c_12 => ?_)
  ·
    have hP9 := hP.sub (ws' := [(ru, .inr (2, [.ref rh, .ref tp, va_rf rl, .int (zI pl), .int (zI o1_5)])), (rh, .inr (0, [.int (zI x1_2), .int (zI y1_3), .int (zI l1_4)])), (tp, .inr (4, [.ref ti, .int (zI (ln + 1)), .int (zI h1_10)])), zA cI ti 100 (zu FI ln i), (lv, .inr (1, [.int (zI w), .int (zI h), .ref ka, .ref ta, .int (zI sx), .int (zI sy), .int (zI fx), .int (zI fy), .int (zI lf), .int (zI un)])), zA cI ka 96 K]) [0, 1, 2, 3, 4, 5] rfl
    have hD9 := hD.sub (ws' := [(ru, .inr (2, [.ref rh, .ref tp, va_rf rl, .int (zI pl), .int (zI o1_5)])), (rh, .inr (0, [.int (zI x1_2), .int (zI y1_3), .int (zI l1_4)])), (tp, .inr (4, [.ref ti, .int (zI (ln + 1)), .int (zI h1_10)])), zA cI ti 100 (zu FI ln i), (lv, .inr (1, [.int (zI w), .int (zI h), .ref ka, .ref ta, .int (zI sx), .int (zI sy), .int (zI fx), .int (zI fy), .int (zI lf), .int (zI un)])), zA cI ka 96 K]) [0, 1, 2, 3, 4, 5] (by decide) rfl
    have po : (x1_2 = mvX K w h x y i ∧ y1_3 = mvY K w h x y li i ∧ l1_4 = mvL K w h x y li i ∧ o1_5 = (if mvO K w h fx fy x y li i = 0 ∧ 100 ≤ ln + 1 then 1 else mvO K w h fx fy x y li i) ∧ h1_10 = ncF hf (ln + 1) x1_2 w) := by
      refine ⟨m9.1, m9.2.1, m9.2.2.1, ?_, po_11⟩
      rw [← m9.2.2.2]
      first | rw [if_pos (by omega)] | rw [if_neg (by omega)]
    exact W.vret hx hb hr (fun t ht hW => ⟨⟨(x1_2, y1_3, l1_4, o1_5, h1_10), rfl, po, by rw [ht]; exact hP9, va_K.moved hW.alike hK, hD9⟩, hS.F ht⟩) hS.2.2 dX2_advance_63
  ·
    refine lv_aload_n hx hb dX2_advance_46 rfl (lv_at hl 0 rfl) ?_
    refine va_get (D := (dC, dI)) (ci := 2) (v := .ref tp) (C := RX2) (T := TX2) (N := 5) hx hb hts i_2 hown hK hP 0 rfl rfl 1 (by decide) f_21 (fun _ h9 => h9) rfl dX2_advance_47 ?_
    refine va_get (D := (dC, dI)) (ci := 4) (v := .int (zI (ln + 1))) (C := RX4) (T := TX4) (N := 3) hx hb hts i_4 hown hK hP 2 rfl rfl 1 (by decide) f_63 (fun _ h9 => h9) rfl dX2_advance_50 ?_
    refine lv_bipush (v := zI 100) hx hb dX2_advance_53 (by decide) ?_
    refine lz_icmp_lt (tgt := 63) hx hb dX2_advance_55 (by decide) (by omega) ⟨by decide, by decide⟩ (fun c_13 => ?_) (fun c_13 => ?_)
    ·
      have hP9 := hP.sub (ws' := [(ru, .inr (2, [.ref rh, .ref tp, va_rf rl, .int (zI pl), .int (zI o1_5)])), (rh, .inr (0, [.int (zI x1_2), .int (zI y1_3), .int (zI l1_4)])), (tp, .inr (4, [.ref ti, .int (zI (ln + 1)), .int (zI h1_10)])), zA cI ti 100 (zu FI ln i), (lv, .inr (1, [.int (zI w), .int (zI h), .ref ka, .ref ta, .int (zI sx), .int (zI sy), .int (zI fx), .int (zI fy), .int (zI lf), .int (zI un)])), zA cI ka 96 K]) [0, 1, 2, 3, 4, 5] rfl
      have hD9 := hD.sub (ws' := [(ru, .inr (2, [.ref rh, .ref tp, va_rf rl, .int (zI pl), .int (zI o1_5)])), (rh, .inr (0, [.int (zI x1_2), .int (zI y1_3), .int (zI l1_4)])), (tp, .inr (4, [.ref ti, .int (zI (ln + 1)), .int (zI h1_10)])), zA cI ti 100 (zu FI ln i), (lv, .inr (1, [.int (zI w), .int (zI h), .ref ka, .ref ta, .int (zI sx), .int (zI sy), .int (zI fx), .int (zI fy), .int (zI lf), .int (zI un)])), zA cI ka 96 K]) [0, 1, 2, 3, 4, 5] (by decide) rfl
      have po : (x1_2 = mvX K w h x y i ∧ y1_3 = mvY K w h x y li i ∧ l1_4 = mvL K w h x y li i ∧ o1_5 = (if mvO K w h fx fy x y li i = 0 ∧ 100 ≤ ln + 1 then 1 else mvO K w h fx fy x y li i) ∧ h1_10 = ncF hf (ln + 1) x1_2 w) := by
        refine ⟨m9.1, m9.2.1, m9.2.2.1, ?_, po_11⟩
        rw [← m9.2.2.2]
        first | rw [if_pos (by omega)] | rw [if_neg (by omega)]
      exact W.vret hx hb hr (fun t ht hW => ⟨⟨(x1_2, y1_3, l1_4, o1_5, h1_10), rfl, po, by rw [ht]; exact hP9, va_K.moved hW.alike hK, hD9⟩, hS.F ht⟩) hS.2.2 dX2_advance_63
    ·
      refine lv_aload_n hx hb dX2_advance_58 rfl (lv_at hl 0 rfl) ?_
      refine lv_iconst (v := zI 1) hx hb dX2_advance_59 (rfl) ?_
      refine va_put (D := (dC, dI)) (ci := 2) (v := .int (zI 1)) (ty := .int) (C := RX2) (T := TX2) (N := 5) hx hb hts i_2 tyX2 tyX2_ok nmX2 hown hK hP hD hS 0 rfl rfl 4 (by decide) f_33 (fun _ h9 => h9) rfl (by decide +kernel) rfl rfl (Nat.le_of_ble_eq_true rfl) dX2_advance_60 (fun H locs hP hD hS => ?_)
      have hP : va_P (dC, dI) vwCl [(ru, .inr (2, [.ref rh, .ref tp, va_rf rl, .int (zI pl), .int (zI 1)])), (rh, .inr (0, [.int (zI x1_2), .int (zI y1_3), .int (zI l1_4)])), (tp, .inr (4, [.ref ti, .int (zI (ln + 1)), .int (zI h1_10)])), zA cI ti 100 (zu FI ln i), (lv, .inr (1, [.int (zI w), .int (zI h), .ref ka, .ref ta, .int (zI sx), .int (zI sy), .int (zI fx), .int (zI fy), .int (zI lf), .int (zI un)])), zA cI ka 96 K] H := hP
      have hD : va_D A [(ru, .inr (2, [.ref rh, .ref tp, va_rf rl, .int (zI pl), .int (zI 1)])), (rh, .inr (0, [.int (zI x1_2), .int (zI y1_3), .int (zI l1_4)])), (tp, .inr (4, [.ref ti, .int (zI (ln + 1)), .int (zI h1_10)])), zA cI ti 100 (zu FI ln i), (lv, .inr (1, [.int (zI w), .int (zI h), .ref ka, .ref ta, .int (zI sx), .int (zI sy), .int (zI fx), .int (zI fy), .int (zI lf), .int (zI un)])), zA cI ka 96 K] := hD
      have hP9 := hP.sub (ws' := [(ru, .inr (2, [.ref rh, .ref tp, va_rf rl, .int (zI pl), .int (zI 1)])), (rh, .inr (0, [.int (zI x1_2), .int (zI y1_3), .int (zI l1_4)])), (tp, .inr (4, [.ref ti, .int (zI (ln + 1)), .int (zI h1_10)])), zA cI ti 100 (zu FI ln i), (lv, .inr (1, [.int (zI w), .int (zI h), .ref ka, .ref ta, .int (zI sx), .int (zI sy), .int (zI fx), .int (zI fy), .int (zI lf), .int (zI un)])), zA cI ka 96 K]) [0, 1, 2, 3, 4, 5] rfl
      have hD9 := hD.sub (ws' := [(ru, .inr (2, [.ref rh, .ref tp, va_rf rl, .int (zI pl), .int (zI 1)])), (rh, .inr (0, [.int (zI x1_2), .int (zI y1_3), .int (zI l1_4)])), (tp, .inr (4, [.ref ti, .int (zI (ln + 1)), .int (zI h1_10)])), zA cI ti 100 (zu FI ln i), (lv, .inr (1, [.int (zI w), .int (zI h), .ref ka, .ref ta, .int (zI sx), .int (zI sy), .int (zI fx), .int (zI fy), .int (zI lf), .int (zI un)])), zA cI ka 96 K]) [0, 1, 2, 3, 4, 5] (by decide) rfl
      have po : (x1_2 = mvX K w h x y i ∧ y1_3 = mvY K w h x y li i ∧ l1_4 = mvL K w h x y li i ∧ (1 : Int) = (if mvO K w h fx fy x y li i = 0 ∧ 100 ≤ ln + 1 then 1 else mvO K w h fx fy x y li i) ∧ h1_10 = ncF hf (ln + 1) x1_2 w) := by
        refine ⟨m9.1, m9.2.1, m9.2.2.1, ?_, po_11⟩
        rw [← m9.2.2.2]
        first | rw [if_pos (by omega)] | rw [if_neg (by omega)]
      exact W.vret hx hb hr (fun t ht hW => ⟨⟨(x1_2, y1_3, l1_4, 1, h1_10), rfl, po, by rw [ht]; exact hP9, va_K.moved hW.alike hK, hD9⟩, hS.F ht⟩) hS.2.2 dX2_advance_63
set_option maxHeartbeats 4000000 in
set_option maxRecDepth 100000 in
/-- Search() -/
theorem c_X3_init (l : Launch) (dC : Nat → ClassId) (dI : Nat → Nat → Nat) (cI cZ cL cT cJ : ClassId) (sz : Nat) (se : Nat)  : Met l yX3_init wsX3_init ({ frames := 2, cells := 4, slots := 1443, locals := 32 }) (zPo (dC, dI) (zT cI cZ cL cT cJ) sz [.ref se] [(se, .inr (3, [.null, .null, .null, .null, .int (zI 0), .int (zI 0), .int (zI 0)]))]) (va_Qv (fun (u9 : Nat × Nat × Nat × Nat) => match u9 with | (de, fi, qu, pr) => (True)) (zB (dC, dI) (zT cI cZ cL cT cJ) (va_A [(se, .inr (3, [.null, .null, .null, .null, .int (zI 0), .int (zI 0), .int (zI 0)]))] sz) (fun (u9 : Nat × Nat × Nat × Nat) => match u9 with | (de, fi, qu, pr) => [(se, .inr (3, [.ref de, .ref fi, .ref qu, .ref pr, .int (zI 0), .int (zI (-1)), .int (zI (-1))])), zA cI de 480 (fun _ => 0), zA cI fi 480 (fun _ => 0), zA cI qu 480 (fun _ => 0), (pr, .inr (0, [.int (zI 0), .int (zI 0), .int (zI 0)]))])) (va_A [(se, .inr (3, [.null, .null, .null, .null, .int (zI 0), .int (zI 0), .int (zI 0)]))] sz)) 4 1443 (va_A [(se, .inr (3, [.null, .null, .null, .null, .int (zI 0), .int (zI 0), .int (zI 0)]))] sz) := by
  refine Met.ofW (cc := cX3_init) (maxL := 1) (ret := none) (by decide) rfl ?_
  intro p e s m args below meth c s₁ B hml hv
  obtain ⟨rfl, hsz, hP, hK, hD0, hAo⟩ := hv
  have hx := B.exec
  have hb := B.bytes
  have hr := B.returns
  have hts := atoms_spec (ws := wsX3_init) B.pre
  have hown : s.vm.findClass RX3 = some m.cls := findClass_of_methodNamed B.named
  have hlocks := B.notSynchronized
  have hin : meth.name = "<init>" := (name_of_methodNamed B.named B.method).1
  subst hsz
  have hD := hD0.self (sz := s.heap.size)
  generalize hAe : va_A [(se, .inr (3, [.null, .null, .null, .null, .int (zI 0), .int (zI 0), .int (zI 0)]))] s.heap.size = A at hD ⊢
  have hA : ∀ q : Nat, s.heap.size ≤ q → A q := fun q h => by rw [← hAe]; exact Or.inr h
  clear hAe hD0
  have hS : va_S A s.heap s.heap [] := va_S.rf
  have hP : va_P (dC, dI) vwCl [(se, .inr (3, [.null, .null, .null, .null, .int (zI 0), .int (zI 0), .int (zI 0)]))] s.heap := hP
  have f_11 := hts (.fieldLink RX3 11 "SpringLevels$Search" "depths" "[I") (by decide +kernel)
  have f_15 := hts (.fieldLink RX3 15 "SpringLevels$Search" "firstInputs" "[I") (by decide +kernel)
  have f_18 := hts (.fieldLink RX3 18 "SpringLevels$Search" "queue" "[I") (by decide +kernel)
  have f_24 := hts (.fieldLink RX3 24 "SpringLevels$Search" "probe" "LSpringLevels$Hero;") (by decide +kernel)
  have f_28 := hts (.fieldLink RX3 28 "SpringLevels$Search" "queued" "I") (by decide +kernel)
  have f_32 := hts (.fieldLink RX3 32 "SpringLevels$Search" "leastFrames" "I") (by decide +kernel)
  have f_35 := hts (.fieldLink RX3 35 "SpringLevels$Search" "firstInput" "I") (by decide +kernel)
  have i_0 : ∀ w ∈ wsX00, w ∈ wsX3_init := by decide +kernel
  have i_3 : ∀ w ∈ wsX30, w ∈ wsX3_init := by decide +kernel
  have hl := lv_entry ([.ref se]) (n := 1) (Nat.le_of_ble_eq_true rfl)
  rw [lg_entry_eq]
  generalize (lg_sl ([.ref se]) ++ List.replicate (1 - (lg_sl ([.ref se])).length) Slot.unset).toArray = ls at hl ⊢
  have hl : lv_has ls 1 [(0, .ref se)] := hl
  refine lv_aload_n hx hb dX3_init_0 rfl (lv_at hl 0 rfl) ?_
  refine W.objInit hx hb hown (hts (.methodLink RX3 3 objectInit) (by decide +kernel)) (hts (.instanceMethod objectInit) (by decide +kernel)) (hts (.code objectInit ⟨#[0xb1]⟩ 1 none) (by decide +kernel)) rfl (by rw [hml]; exact hl.1) rfl dX3_init_1 (Nat.le_of_ble_eq_true rfl) (Nat.le_of_ble_eq_true rfl) ?_
  refine W.eq (g2 := F0 m 4 ls []) rfl ?_
  refine lv_aload_n hx hb dX3_init_4 rfl (lv_at hl 0 rfl) ?_
  refine lv_sipush (v := zI 480) hx hb dX3_init_5 (by decide) ?_
  refine lz_newa (N := 480) hx hb (hts (.arrayClass .int) (by decide +kernel)) hK hP hD hS hA 0 rfl (by decide) (Nat.le_of_ble_eq_true rfl) (Nat.le_of_ble_eq_true rfl) dX3_init_8 (fun q_1 H hP hD hS => ?_)
  have hP : va_P (dC, dI) vwCl [(se, .inr (3, [.null, .null, .null, .null, .int (zI 0), .int (zI 0), .int (zI 0)])), zA cI q_1 480 (fun _ => 0)] H := hP
  have hD : va_D A [(se, .inr (3, [.null, .null, .null, .null, .int (zI 0), .int (zI 0), .int (zI 0)])), zA cI q_1 480 (fun _ => 0)] := hD
  refine va_putF (D := (dC, dI)) (ci := 3) (v := .ref q_1) (ty := .array .int) (C := RX3) (T := TX3) (N := 7) hx hb hts i_3 tyX3 tyX3_ok nmX3 hown hK hP hD hS 0 rfl rfl 0 (by decide) f_11 (fun _ h9 => h9) rfl hin rfl (by decide +kernel) rfl rfl (Nat.le_of_ble_eq_true rfl) dX3_init_10 (fun H locs hP hD hS => ?_)
  have hP : va_P (dC, dI) vwCl [(se, .inr (3, [.ref q_1, .null, .null, .null, .int (zI 0), .int (zI 0), .int (zI 0)])), zA cI q_1 480 (fun _ => 0)] H := hP
  have hD : va_D A [(se, .inr (3, [.ref q_1, .null, .null, .null, .int (zI 0), .int (zI 0), .int (zI 0)])), zA cI q_1 480 (fun _ => 0)] := hD
  refine lv_aload_n hx hb dX3_init_13 rfl (lv_at hl 0 rfl) ?_
  refine lv_sipush (v := zI 480) hx hb dX3_init_14 (by decide) ?_
  refine lz_newa (N := 480) hx hb (hts (.arrayClass .int) (by decide +kernel)) hK hP hD hS hA 0 rfl (by decide) (Nat.le_of_ble_eq_true rfl) (Nat.le_of_ble_eq_true rfl) dX3_init_17 (fun q_2 H hP hD hS => ?_)
  have hP : va_P (dC, dI) vwCl [(se, .inr (3, [.ref q_1, .null, .null, .null, .int (zI 0), .int (zI 0), .int (zI 0)])), zA cI q_1 480 (fun _ => 0), zA cI q_2 480 (fun _ => 0)] H := hP
  have hD : va_D A [(se, .inr (3, [.ref q_1, .null, .null, .null, .int (zI 0), .int (zI 0), .int (zI 0)])), zA cI q_1 480 (fun _ => 0), zA cI q_2 480 (fun _ => 0)] := hD
  refine va_putF (D := (dC, dI)) (ci := 3) (v := .ref q_2) (ty := .array .int) (C := RX3) (T := TX3) (N := 7) hx hb hts i_3 tyX3 tyX3_ok nmX3 hown hK hP hD hS 0 rfl rfl 1 (by decide) f_15 (fun _ h9 => h9) rfl hin rfl (by decide +kernel) rfl rfl (Nat.le_of_ble_eq_true rfl) dX3_init_19 (fun H locs hP hD hS => ?_)
  have hP : va_P (dC, dI) vwCl [(se, .inr (3, [.ref q_1, .ref q_2, .null, .null, .int (zI 0), .int (zI 0), .int (zI 0)])), zA cI q_1 480 (fun _ => 0), zA cI q_2 480 (fun _ => 0)] H := hP
  have hD : va_D A [(se, .inr (3, [.ref q_1, .ref q_2, .null, .null, .int (zI 0), .int (zI 0), .int (zI 0)])), zA cI q_1 480 (fun _ => 0), zA cI q_2 480 (fun _ => 0)] := hD
  refine lv_aload_n hx hb dX3_init_22 rfl (lv_at hl 0 rfl) ?_
  refine lv_sipush (v := zI 480) hx hb dX3_init_23 (by decide) ?_
  refine lz_newa (N := 480) hx hb (hts (.arrayClass .int) (by decide +kernel)) hK hP hD hS hA 0 rfl (by decide) (Nat.le_of_ble_eq_true rfl) (Nat.le_of_ble_eq_true rfl) dX3_init_26 (fun q_3 H hP hD hS => ?_)
  have hP : va_P (dC, dI) vwCl [(se, .inr (3, [.ref q_1, .ref q_2, .null, .null, .int (zI 0), .int (zI 0), .int (zI 0)])), zA cI q_1 480 (fun _ => 0), zA cI q_2 480 (fun _ => 0), zA cI q_3 480 (fun _ => 0)] H := hP
  have hD : va_D A [(se, .inr (3, [.ref q_1, .ref q_2, .null, .null, .int (zI 0), .int (zI 0), .int (zI 0)])), zA cI q_1 480 (fun _ => 0), zA cI q_2 480 (fun _ => 0), zA cI q_3 480 (fun _ => 0)] := hD
  refine va_putF (D := (dC, dI)) (ci := 3) (v := .ref q_3) (ty := .array .int) (C := RX3) (T := TX3) (N := 7) hx hb hts i_3 tyX3 tyX3_ok nmX3 hown hK hP hD hS 0 rfl rfl 2 (by decide) f_18 (fun _ h9 => h9) rfl hin rfl (by decide +kernel) rfl rfl (Nat.le_of_ble_eq_true rfl) dX3_init_28 (fun H locs hP hD hS => ?_)
  have hP : va_P (dC, dI) vwCl [(se, .inr (3, [.ref q_1, .ref q_2, .ref q_3, .null, .int (zI 0), .int (zI 0), .int (zI 0)])), zA cI q_1 480 (fun _ => 0), zA cI q_2 480 (fun _ => 0), zA cI q_3 480 (fun _ => 0)] H := hP
  have hD : va_D A [(se, .inr (3, [.ref q_1, .ref q_2, .ref q_3, .null, .int (zI 0), .int (zI 0), .int (zI 0)])), zA cI q_1 480 (fun _ => 0), zA cI q_2 480 (fun _ => 0), zA cI q_3 480 (fun _ => 0)] := hD
  refine lv_aload_n hx hb dX3_init_31 rfl (lv_at hl 0 rfl) ?_
  refine va_new (ci := 0) (fs := [.int (zI 0), .int (zI 0), .int (zI 0)]) (C := RX0) (T := TX0) (N := 3) hx hb hts i_0 tyX0 tyX0_ok hown (hts (.classLink RX3 21 RX0) (by decide +kernel)) (hts (.instantiable RX0 3) (by decide +kernel)) (hts (.initialized RX0) (by decide +kernel)) hK hP hD hS hA rfl (fun j hj => by rcases (show j = 0 ∨ j = 1 ∨ j = 2 by omega) with rfl | rfl | rfl <;> rfl) (Nat.le_of_ble_eq_true rfl) (Nat.le_of_ble_eq_true rfl) dX3_init_32 (fun q_4 H hP hD hS => ?_)
  have hP : va_P (dC, dI) vwCl [(se, .inr (3, [.ref q_1, .ref q_2, .ref q_3, .null, .int (zI 0), .int (zI 0), .int (zI 0)])), zA cI q_1 480 (fun _ => 0), zA cI q_2 480 (fun _ => 0), zA cI q_3 480 (fun _ => 0), (q_4, .inr (0, [.int (zI 0), .int (zI 0), .int (zI 0)]))] H := hP
  have hD : va_D A [(se, .inr (3, [.ref q_1, .ref q_2, .ref q_3, .null, .int (zI 0), .int (zI 0), .int (zI 0)])), zA cI q_1 480 (fun _ => 0), zA cI q_2 480 (fun _ => 0), zA cI q_3 480 (fun _ => 0), (q_4, .inr (0, [.int (zI 0), .int (zI 0), .int (zI 0)]))] := hD
  refine lv_dup hx hb dX3_init_35 rfl ?_
  have hPc := hP.sub (ws' := [(q_4, .inr (0, [.int (zI 0), .int (zI 0), .int (zI 0)]))]) [4] rfl
  have hDc := hD.sub (ws' := [(q_4, .inr (0, [.int (zI 0), .int (zI 0), .int (zI 0)]))]) [4] (by decide) rfl
  have hFc := va_free (wc := [(q_4, .inr (0, [.int (zI 0), .int (zI 0), .int (zI 0)]))]) hD hS hA [4] rfl
  refine va_callv (va_runIN (As := []) (rest := [.ref q_4, .ref se]) ⟨hx, hb, hml, hown, hts⟩ (c_X0_init l dC dI cI cZ cL cT cJ H.size q_4 0 0 0 ) ⟨va_cnB 0 hts ggX3_init_X0_init rfl rfl rfl hAo.2.2.2.2 (hts (.initialized RX0) (by decide +kernel)) (by decide +kernel) ⟨Nat.le_of_ble_eq_true rfl, Nat.le_of_ble_eq_true rfl⟩, rfl, hts (.instanceMethod yX0_init) (by decide +kernel)⟩ ⟨zP_blind, zP_pre hPc hDc hK⟩ rfl rfl hl.1 rfl (lv_room (Nat.le_of_ble_eq_true rfl)) dX3_init_36 ⟨Nat.le_of_ble_eq_true rfl, Nat.le_of_ble_eq_true rfl⟩) hS (fun q _ h => hFc q h) hFc (fun u_5 t H1 locs ht hvm hw hB hz1 hk1 hS => ?_)
  obtain ⟨hP1, hK1, hD1⟩ := hB
  rw [ht] at hP1
  have hP1 : va_P (dC, dI) vwCl [(q_4, .inr (0, [.int (zI 0), .int (zI 0), .int (zI 0)]))] H1 := hP1
  obtain ⟨hP, hD⟩ := va_join (wr := [(se, .inr (3, [.ref q_1, .ref q_2, .ref q_3, .null, .int (zI 0), .int (zI 0), .int (zI 0)])), zA cI q_1 480 (fun _ => 0), zA cI q_2 480 (fun _ => 0), zA cI q_3 480 (fun _ => 0)]) (w1 := [(q_4, .inr (0, [.int (zI 0), .int (zI 0), .int (zI 0)]))]) hP hD [4] [0, 1, 2, 3] rfl rfl (by decide) (by decide) hk1 hFc hP1 hD1
  clear hP1 hD1 hk1 hFc hPc hDc hz1
  generalize H1 = H at hP hS ⊢
  have hP : va_P (dC, dI) vwCl [(se, .inr (3, [.ref q_1, .ref q_2, .ref q_3, .null, .int (zI 0), .int (zI 0), .int (zI 0)])), zA cI q_1 480 (fun _ => 0), zA cI q_2 480 (fun _ => 0), zA cI q_3 480 (fun _ => 0), (q_4, .inr (0, [.int (zI 0), .int (zI 0), .int (zI 0)]))] H := hP.sub [0, 1, 2, 3, 4] rfl
  have hD : va_D A [(se, .inr (3, [.ref q_1, .ref q_2, .ref q_3, .null, .int (zI 0), .int (zI 0), .int (zI 0)])), zA cI q_1 480 (fun _ => 0), zA cI q_2 480 (fun _ => 0), zA cI q_3 480 (fun _ => 0), (q_4, .inr (0, [.int (zI 0), .int (zI 0), .int (zI 0)]))] := hD.sub [0, 1, 2, 3, 4] (by decide) rfl
  clear hK1 hvm
  refine W.eq (g2 := F0 m 39 ls [.ref q_4, .ref se]) rfl ?_
  refine va_putF (D := (dC, dI)) (ci := 3) (v := .ref q_4) (ty := .object "SpringLevels$Hero") (C := RX3) (T := TX3) (N := 7) hx hb hts i_3 tyX3 tyX3_ok nmX3 hown hK hP hD hS 0 rfl rfl 3 (by decide) f_24 (fun _ h9 => h9) rfl hin rfl (by decide +kernel) rfl rfl (Nat.le_of_ble_eq_true rfl) dX3_init_39 (fun H locs hP hD hS => ?_)
  have hP : va_P (dC, dI) vwCl [(se, .inr (3, [.ref q_1, .ref q_2, .ref q_3, .ref q_4, .int (zI 0), .int (zI 0), .int (zI 0)])), zA cI q_1 480 (fun _ => 0), zA cI q_2 480 (fun _ => 0), zA cI q_3 480 (fun _ => 0), (q_4, .inr (0, [.int (zI 0), .int (zI 0), .int (zI 0)]))] H := hP
  have hD : va_D A [(se, .inr (3, [.ref q_1, .ref q_2, .ref q_3, .ref q_4, .int (zI 0), .int (zI 0), .int (zI 0)])), zA cI q_1 480 (fun _ => 0), zA cI q_2 480 (fun _ => 0), zA cI q_3 480 (fun _ => 0), (q_4, .inr (0, [.int (zI 0), .int (zI 0), .int (zI 0)]))] := hD
  refine lv_aload_n hx hb dX3_init_42 rfl (lv_at hl 0 rfl) ?_
  refine lv_iconst (v := zI 0) hx hb dX3_init_43 (rfl) ?_
  refine va_put (D := (dC, dI)) (ci := 3) (v := .int (zI 0)) (ty := .int) (C := RX3) (T := TX3) (N := 7) hx hb hts i_3 tyX3 tyX3_ok nmX3 hown hK hP hD hS 0 rfl rfl 4 (by decide) f_28 (fun _ h9 => h9) rfl (by decide +kernel) rfl rfl (Nat.le_of_ble_eq_true rfl) dX3_init_44 (fun H locs hP hD hS => ?_)
  have hP : va_P (dC, dI) vwCl [(se, .inr (3, [.ref q_1, .ref q_2, .ref q_3, .ref q_4, .int (zI 0), .int (zI 0), .int (zI 0)])), zA cI q_1 480 (fun _ => 0), zA cI q_2 480 (fun _ => 0), zA cI q_3 480 (fun _ => 0), (q_4, .inr (0, [.int (zI 0), .int (zI 0), .int (zI 0)]))] H := hP
  have hD : va_D A [(se, .inr (3, [.ref q_1, .ref q_2, .ref q_3, .ref q_4, .int (zI 0), .int (zI 0), .int (zI 0)])), zA cI q_1 480 (fun _ => 0), zA cI q_2 480 (fun _ => 0), zA cI q_3 480 (fun _ => 0), (q_4, .inr (0, [.int (zI 0), .int (zI 0), .int (zI 0)]))] := hD
  refine lv_aload_n hx hb dX3_init_47 rfl (lv_at hl 0 rfl) ?_
  refine lv_iconst (v := zI (-1)) hx hb dX3_init_48 (rfl) ?_
  refine va_put (D := (dC, dI)) (ci := 3) (v := .int (zI (-1))) (ty := .int) (C := RX3) (T := TX3) (N := 7) hx hb hts i_3 tyX3 tyX3_ok nmX3 hown hK hP hD hS 0 rfl rfl 5 (by decide) f_32 (fun _ h9 => h9) rfl (by decide +kernel) rfl rfl (Nat.le_of_ble_eq_true rfl) dX3_init_49 (fun H locs hP hD hS => ?_)
  have hP : va_P (dC, dI) vwCl [(se, .inr (3, [.ref q_1, .ref q_2, .ref q_3, .ref q_4, .int (zI 0), .int (zI (-1)), .int (zI 0)])), zA cI q_1 480 (fun _ => 0), zA cI q_2 480 (fun _ => 0), zA cI q_3 480 (fun _ => 0), (q_4, .inr (0, [.int (zI 0), .int (zI 0), .int (zI 0)]))] H := hP
  have hD : va_D A [(se, .inr (3, [.ref q_1, .ref q_2, .ref q_3, .ref q_4, .int (zI 0), .int (zI (-1)), .int (zI 0)])), zA cI q_1 480 (fun _ => 0), zA cI q_2 480 (fun _ => 0), zA cI q_3 480 (fun _ => 0), (q_4, .inr (0, [.int (zI 0), .int (zI 0), .int (zI 0)]))] := hD
  refine lv_aload_n hx hb dX3_init_52 rfl (lv_at hl 0 rfl) ?_
  refine lv_iconst (v := zI (-1)) hx hb dX3_init_53 (rfl) ?_
  refine va_put (D := (dC, dI)) (ci := 3) (v := .int (zI (-1))) (ty := .int) (C := RX3) (T := TX3) (N := 7) hx hb hts i_3 tyX3 tyX3_ok nmX3 hown hK hP hD hS 0 rfl rfl 6 (by decide) f_35 (fun _ h9 => h9) rfl (by decide +kernel) rfl rfl (Nat.le_of_ble_eq_true rfl) dX3_init_54 (fun H locs hP hD hS => ?_)
  have hP : va_P (dC, dI) vwCl [(se, .inr (3, [.ref q_1, .ref q_2, .ref q_3, .ref q_4, .int (zI 0), .int (zI (-1)), .int (zI (-1))])), zA cI q_1 480 (fun _ => 0), zA cI q_2 480 (fun _ => 0), zA cI q_3 480 (fun _ => 0), (q_4, .inr (0, [.int (zI 0), .int (zI 0), .int (zI 0)]))] H := hP
  have hD : va_D A [(se, .inr (3, [.ref q_1, .ref q_2, .ref q_3, .ref q_4, .int (zI 0), .int (zI (-1)), .int (zI (-1))])), zA cI q_1 480 (fun _ => 0), zA cI q_2 480 (fun _ => 0), zA cI q_3 480 (fun _ => 0), (q_4, .inr (0, [.int (zI 0), .int (zI 0), .int (zI 0)]))] := hD
  have hP9 := hP.sub (ws' := [(se, .inr (3, [.ref q_1, .ref q_2, .ref q_3, .ref q_4, .int (zI 0), .int (zI (-1)), .int (zI (-1))])), zA cI q_1 480 (fun _ => 0), zA cI q_2 480 (fun _ => 0), zA cI q_3 480 (fun _ => 0), (q_4, .inr (0, [.int (zI 0), .int (zI 0), .int (zI 0)]))]) [0, 1, 2, 3, 4] rfl
  have hD9 := hD.sub (ws' := [(se, .inr (3, [.ref q_1, .ref q_2, .ref q_3, .ref q_4, .int (zI 0), .int (zI (-1)), .int (zI (-1))])), zA cI q_1 480 (fun _ => 0), zA cI q_2 480 (fun _ => 0), zA cI q_3 480 (fun _ => 0), (q_4, .inr (0, [.int (zI 0), .int (zI 0), .int (zI 0)]))]) [0, 1, 2, 3, 4] (by decide) rfl
  refine W.widen (k := 4) (n := 1443) (Nat.le_of_ble_eq_true rfl) (Nat.le_of_ble_eq_true rfl) ?_
  have po : (True) := by
    trivial
  exact W.vret hx hb hr (fun t ht hW => ⟨⟨(q_1, q_2, q_3, q_4), rfl, po, by rw [ht]; exact hP9, va_K.moved hW.alike hK, hD9⟩, hS.F ht⟩) hS.2.2 dX3_init_57
set_option maxHeartbeats 4000000 in
set_option maxRecDepth 100000 in
/-- Search.findNothing -/
theorem c_X3_findNothing (l : Launch) (dC : Nat → ClassId) (dI : Nat → Nat → Nat) (cI cZ cL cT cJ : ClassId) (sz : Nat) (se : Nat) (de : Nat) (fi : Nat) (qu : Nat) (pr : Nat) (qd : Int) (s1 : Int) (s2 : Int)  : Met l yX3_findNothing wsX3_findNothing ({ frames := 0, cells := 0, slots := 0, locals := 0 }) (zP (dC, dI) (zT cI cZ cL cT cJ) sz [.ref se] [(se, .inr (3, [.ref de, .ref fi, .ref qu, .ref pr, .int (zI qd), .int (zI s1), .int (zI s2)]))]) (va_Qv (fun (u9 : Unit) => match u9 with | _ => (True)) (zB (dC, dI) (zT cI cZ cL cT cJ) (va_A [(se, .inr (3, [.ref de, .ref fi, .ref qu, .ref pr, .int (zI qd), .int (zI s1), .int (zI s2)]))] sz) (fun (u9 : Unit) => match u9 with | _ => [(se, .inr (3, [.ref de, .ref fi, .ref qu, .ref pr, .int (zI qd), .int (zI (-1)), .int (zI (-1))]))])) (va_A [(se, .inr (3, [.ref de, .ref fi, .ref qu, .ref pr, .int (zI qd), .int (zI s1), .int (zI s2)]))] sz)) 0 0 (va_A [(se, .inr (3, [.ref de, .ref fi, .ref qu, .ref pr, .int (zI qd), .int (zI s1), .int (zI s2)]))] sz) := by
  refine Met.ofW (cc := cX3_findNothing) (maxL := 1) (ret := none) (by decide) rfl ?_
  intro p e s m args below meth c s₁ B hml hv
  obtain ⟨rfl, hsz, hP, hK, hD0⟩ := hv
  have hx := B.exec
  have hb := B.bytes
  have hr := B.returns
  have hts := atoms_spec (ws := wsX3_findNothing) B.pre
  have hown : s.vm.findClass RX3 = some m.cls := findClass_of_methodNamed B.named
  have hlocks := B.notSynchronized
  subst hsz
  have hD := hD0.self (sz := s.heap.size)
  generalize hAe : va_A [(se, .inr (3, [.ref de, .ref fi, .ref qu, .ref pr, .int (zI qd), .int (zI s1), .int (zI s2)]))] s.heap.size = A at hD ⊢
  have hA : ∀ q : Nat, s.heap.size ≤ q → A q := fun q h => by rw [← hAe]; exact Or.inr h
  clear hAe hD0
  have hS : va_S A s.heap s.heap [] := va_S.rf
  have hP : va_P (dC, dI) vwCl [(se, .inr (3, [.ref de, .ref fi, .ref qu, .ref pr, .int (zI qd), .int (zI s1), .int (zI s2)]))] s.heap := hP
  have f_32 := hts (.fieldLink RX3 32 "SpringLevels$Search" "leastFrames" "I") (by decide +kernel)
  have f_35 := hts (.fieldLink RX3 35 "SpringLevels$Search" "firstInput" "I") (by decide +kernel)
  have i_3 : ∀ w ∈ wsX30, w ∈ wsX3_findNothing := by decide +kernel
  have hl := lv_entry ([.ref se]) (n := 1) (Nat.le_of_ble_eq_true rfl)
  rw [lg_entry_eq]
  generalize (lg_sl ([.ref se]) ++ List.replicate (1 - (lg_sl ([.ref se])).length) Slot.unset).toArray = ls at hl ⊢
  have hl : lv_has ls 1 [(0, .ref se)] := hl
  refine lv_aload_n hx hb dX3_findNothing_0 rfl (lv_at hl 0 rfl) ?_
  refine lv_iconst (v := zI (-1)) hx hb dX3_findNothing_1 (rfl) ?_
  refine va_put (D := (dC, dI)) (ci := 3) (v := .int (zI (-1))) (ty := .int) (C := RX3) (T := TX3) (N := 7) hx hb hts i_3 tyX3 tyX3_ok nmX3 hown hK hP hD hS 0 rfl rfl 5 (by decide) f_32 (fun _ h9 => h9) rfl (by decide +kernel) rfl rfl (Nat.le_of_ble_eq_true rfl) dX3_findNothing_2 (fun H locs hP hD hS => ?_)
  have hP : va_P (dC, dI) vwCl [(se, .inr (3, [.ref de, .ref fi, .ref qu, .ref pr, .int (zI qd), .int (zI (-1)), .int (zI s2)]))] H := hP
  have hD : va_D A [(se, .inr (3, [.ref de, .ref fi, .ref qu, .ref pr, .int (zI qd), .int (zI (-1)), .int (zI s2)]))] := hD
  refine lv_aload_n hx hb dX3_findNothing_5 rfl (lv_at hl 0 rfl) ?_
  refine lv_iconst (v := zI (-1)) hx hb dX3_findNothing_6 (rfl) ?_
  refine va_put (D := (dC, dI)) (ci := 3) (v := .int (zI (-1))) (ty := .int) (C := RX3) (T := TX3) (N := 7) hx hb hts i_3 tyX3 tyX3_ok nmX3 hown hK hP hD hS 0 rfl rfl 6 (by decide) f_35 (fun _ h9 => h9) rfl (by decide +kernel) rfl rfl (Nat.le_of_ble_eq_true rfl) dX3_findNothing_7 (fun H locs hP hD hS => ?_)
  have hP : va_P (dC, dI) vwCl [(se, .inr (3, [.ref de, .ref fi, .ref qu, .ref pr, .int (zI qd), .int (zI (-1)), .int (zI (-1))]))] H := hP
  have hD : va_D A [(se, .inr (3, [.ref de, .ref fi, .ref qu, .ref pr, .int (zI qd), .int (zI (-1)), .int (zI (-1))]))] := hD
  have hP9 := hP.sub (ws' := [(se, .inr (3, [.ref de, .ref fi, .ref qu, .ref pr, .int (zI qd), .int (zI (-1)), .int (zI (-1))]))]) [0] rfl
  have hD9 := hD.sub (ws' := [(se, .inr (3, [.ref de, .ref fi, .ref qu, .ref pr, .int (zI qd), .int (zI (-1)), .int (zI (-1))]))]) [0] (by decide) rfl
  have po : (True) := by
    trivial
  exact W.vret hx hb hr (fun t ht hW => ⟨⟨(), rfl, po, by rw [ht]; exact hP9, va_K.moved hW.alike hK, hD9⟩, hS.F ht⟩) hS.2.2 dX3_findNothing_10
set_option maxHeartbeats 4000000 in
set_option maxRecDepth 100000 in
/-- Search.forgetPlaces -/
theorem c_X3_forgetPlaces (l : Launch) (dC : Nat → ClassId) (dI : Nat → Nat → Nat) (cI cZ cL cT cJ : ClassId) (sz : Nat) (se : Nat) (de : Nat) (fi : Nat) (qu : Nat) (pr : Nat) (qd : Int) (s1 : Int) (s2 : Int) (DD : Int → Int) (gD : Din DD) : Met l yX3_forgetPlaces wsX3_forgetPlaces ({ frames := 0, cells := 0, slots := 0, locals := 0 }) (zP (dC, dI) (zT cI cZ cL cT cJ) sz [.ref se] [(se, .inr (3, [.ref de, .ref fi, .ref qu, .ref pr, .int (zI qd), .int (zI s1), .int (zI s2)])), zA cI de 480 DD]) (va_Qv (fun (u9 : (Int → Int)) => match u9 with | D1 => (Din D1 ∧ ∀ j, 0 ≤ j → j < 480 → D1 j = -1)) (zB (dC, dI) (zT cI cZ cL cT cJ) (va_A [(se, .inr (3, [.ref de, .ref fi, .ref qu, .ref pr, .int (zI qd), .int (zI s1), .int (zI s2)])), zA cI de 480 DD] sz) (fun (u9 : (Int → Int)) => match u9 with | D1 => [(se, .inr (3, [.ref de, .ref fi, .ref qu, .ref pr, .int (zI 0), .int (zI s1), .int (zI s2)])), zA cI de 480 D1])) (va_A [(se, .inr (3, [.ref de, .ref fi, .ref qu, .ref pr, .int (zI qd), .int (zI s1), .int (zI s2)])), zA cI de 480 DD] sz)) 0 0 (va_A [(se, .inr (3, [.ref de, .ref fi, .ref qu, .ref pr, .int (zI qd), .int (zI s1), .int (zI s2)])), zA cI de 480 DD] sz) := by
  refine Met.ofW (cc := cX3_forgetPlaces) (maxL := 2) (ret := none) (by decide) rfl ?_
  intro p e s m args below meth c s₁ B hml hv
  obtain ⟨rfl, hsz, hP, hK, hD0⟩ := hv
  have hx := B.exec
  have hb := B.bytes
  have hr := B.returns
  have hts := atoms_spec (ws := wsX3_forgetPlaces) B.pre
  have hown : s.vm.findClass RX3 = some m.cls := findClass_of_methodNamed B.named
  have hlocks := B.notSynchronized
  subst hsz
  have hD := hD0.self (sz := s.heap.size)
  generalize hAe : va_A [(se, .inr (3, [.ref de, .ref fi, .ref qu, .ref pr, .int (zI qd), .int (zI s1), .int (zI s2)])), zA cI de 480 DD] s.heap.size = A at hD ⊢
  have hA : ∀ q : Nat, s.heap.size ≤ q → A q := fun q h => by rw [← hAe]; exact Or.inr h
  clear hAe hD0
  have hS : va_S A s.heap s.heap [] := va_S.rf
  have hP : va_P (dC, dI) vwCl [(se, .inr (3, [.ref de, .ref fi, .ref qu, .ref pr, .int (zI qd), .int (zI s1), .int (zI s2)])), zA cI de 480 DD] s.heap := hP
  have f_11 := hts (.fieldLink RX3 11 "SpringLevels$Search" "depths" "[I") (by decide +kernel)
  have f_28 := hts (.fieldLink RX3 28 "SpringLevels$Search" "queued" "I") (by decide +kernel)
  have i_3 : ∀ w ∈ wsX30, w ∈ wsX3_forgetPlaces := by decide +kernel
  have hl := lv_entry ([.ref se]) (n := 2) (Nat.le_of_ble_eq_true rfl)
  rw [lg_entry_eq]
  generalize (lg_sl ([.ref se]) ++ List.replicate (2 - (lg_sl ([.ref se])).length) Slot.unset).toArray = ls at hl ⊢
  have hl : lv_has ls 2 [(0, .ref se)] := hl
  refine lv_aload_n hx hb dX3_forgetPlaces_0 rfl (lv_at hl 0 rfl) ?_
  refine lv_iconst (v := zI 0) hx hb dX3_forgetPlaces_1 (rfl) ?_
  refine va_put (D := (dC, dI)) (ci := 3) (v := .int (zI 0)) (ty := .int) (C := RX3) (T := TX3) (N := 7) hx hb hts i_3 tyX3 tyX3_ok nmX3 hown hK hP hD hS 0 rfl rfl 4 (by decide) f_28 (fun _ h9 => h9) rfl (by decide +kernel) rfl rfl (Nat.le_of_ble_eq_true rfl) dX3_forgetPlaces_2 (fun H locs hP hD hS => ?_)
  have hP : va_P (dC, dI) vwCl [(se, .inr (3, [.ref de, .ref fi, .ref qu, .ref pr, .int (zI 0), .int (zI s1), .int (zI s2)])), zA cI de 480 DD] H := hP
  have hD : va_D A [(se, .inr (3, [.ref de, .ref fi, .ref qu, .ref pr, .int (zI 0), .int (zI s1), .int (zI s2)])), zA cI de 480 DD] := hD
  refine lv_iconst (v := zI 0) hx hb dX3_forgetPlaces_5 (rfl) ?_
  refine lv_istore_n (lv' := [(1, .int (zI 0)), (0, .ref se)]) hx hb dX3_forgetPlaces_6 rfl hl (by decide) rfl (fun ls hl => ?_)
  refine z_loop (μ := fun (x9 : Int × (Int → Int)) => match x9 with | (i, D9) => (480 - i).toNat) (I := fun (x9 : Int × (Int → Int)) (H9 : Heap) (k9 : List Loc) (ls9 : Array Slot) => match x9 with | (i, D9) => (0 ≤ i ∧ i ≤ 480) ∧ (Din D9) ∧ (∀ j, 0 ≤ j → j < i → D9 j = -1) ∧ va_P (dC, dI) vwCl [(se, .inr (3, [.ref de, .ref fi, .ref qu, .ref pr, .int (zI 0), .int (zI s1), .int (zI s2)])), zA cI de 480 D9] H9 ∧ va_D A [(se, .inr (3, [.ref de, .ref fi, .ref qu, .ref pr, .int (zI 0), .int (zI s1), .int (zI s2)])), zA cI de 480 D9] ∧ va_S A s.heap H9 k9 ∧ lv_has ls9 2 [(0, .ref se), (1, .int (zI i))]) (fr := fun (x9 : Int × (Int → Int)) (ls9 : Array Slot) => match x9 with | (i, D9) => F0 m 7 ls9 []) ?_ (0, DD) ⟨(by omega), (by assumption), (by intro j j0 j1; omega), hP, hD, hS, lv_sub hl [1, 0] rfl⟩
  rintro ⟨i, D9⟩ H locs ls ⟨ri, kD, hc, hP, hD, hS, hl⟩ L_1
  refine W.eq (g2 := F0 m 7 ls []) rfl ?_
  refine lv_iload_n hx hb dX3_forgetPlaces_7 rfl (lv_at hl 1 rfl) ?_
  refine lv_sipush (v := zI 480) hx hb dX3_forgetPlaces_8 (by decide) ?_
  refine lz_icmp_ge (tgt := 27) hx hb dX3_forgetPlaces_11 (by decide) (by omega) ⟨by decide, by decide⟩ (fun c_2 => ?_) (fun c_2 => ?_)
  ·
    have hP9 := hP.sub (ws' := [(se, .inr (3, [.ref de, .ref fi, .ref qu, .ref pr, .int (zI 0), .int (zI s1), .int (zI s2)])), zA cI de 480 D9]) [0, 1] rfl
    have hD9 := hD.sub (ws' := [(se, .inr (3, [.ref de, .ref fi, .ref qu, .ref pr, .int (zI 0), .int (zI s1), .int (zI s2)])), zA cI de 480 D9]) [0, 1] (by decide) rfl
    have po : (Din D9 ∧ ∀ j, 0 ≤ j → j < 480 → D9 j = -1) := by
      exact ⟨kD, fun j j0 j1 => hc j j0 (by omega)⟩
    exact W.vret hx hb hr (fun t ht hW => ⟨⟨D9, rfl, po, by rw [ht]; exact hP9, va_K.moved hW.alike hK, hD9⟩, hS.F ht⟩) hS.2.2 dX3_forgetPlaces_27
  ·
    refine lv_aload_n hx hb dX3_forgetPlaces_14 rfl (lv_at hl 0 rfl) ?_
    refine va_get (D := (dC, dI)) (ci := 3) (v := .ref de) (C := RX3) (T := TX3) (N := 7) hx hb hts i_3 hown hK hP 0 rfl rfl 0 (by decide) f_11 (fun _ h9 => h9) rfl dX3_forgetPlaces_15 ?_
    refine lv_iload_n hx hb dX3_forgetPlaces_18 rfl (lv_at hl 1 rfl) ?_
    refine lv_iconst (v := zI (-1)) hx hb dX3_forgetPlaces_19 (rfl) ?_
    refine lz_iast (F := D9) (i := i) (v := -1) hx hb hK hP hD hS 1 0 rfl rfl (by omega) (by omega) (by decide) dX3_forgetPlaces_20 (fun H locs hP hD hS => ?_)
    have hP : va_P (dC, dI) vwCl [(se, .inr (3, [.ref de, .ref fi, .ref qu, .ref pr, .int (zI 0), .int (zI s1), .int (zI s2)])), zA cI de 480 (zu D9 i (-1))] H := hP
    have hD : va_D A [(se, .inr (3, [.ref de, .ref fi, .ref qu, .ref pr, .int (zI 0), .int (zI s1), .int (zI s2)])), zA cI de 480 (zu D9 i (-1))] := hD
    refine lz_iinc (z := i + 1) (lv' := [(1, .int (zI (i + 1))), (0, .ref se)]) hx hb dX3_forgetPlaces_21 hl (k := 1) rfl (by omega) (by decide) rfl (fun ls hl => ?_)
    refine lv_goto (tgt := 7) hx hb dX3_forgetPlaces_24 (by decide) ?_
    exact L_1 (i + 1, zu D9 i (-1)) _ _ _ (by (try dsimp only); omega) ⟨(by omega), (by exact Din_zu kD (by omega)), (by intro j j0 j1; unfold zu; split <;> first | rfl | exact hc j j0 (by omega)), hP, hD, hS, lv_sub hl [1, 0] rfl⟩
set_option maxHeartbeats 4000000 in
set_option maxRecDepth 100000 in
/-- Search.reach -/
theorem c_X3_reach (l : Launch) (dC : Nat → ClassId) (dI : Nat → Nat → Nat) (cI cZ cL cT cJ : ClassId) (sz : Nat) (se : Nat) (de : Nat) (fi : Nat) (qu : Nat) (pr : Nat) (qd : Int) (s1 : Int) (s2 : Int) (he : Nat) (x : Int) (y : Int) (li : Int) (DD : Int → Int) (FF : Int → Int) (QQ : Int → Int) (dp : Int) (b : Int) (w : Int) (h : Int) (gw : 0 < w ∧ w ≤ 12) (gh : 0 < h ∧ h ≤ 8) (gx : 0 ≤ x ∧ x < w) (gy : 0 ≤ y ∧ y < h) (gl : 0 ≤ li ∧ li ≤ 4) (gq : 0 ≤ qd ∧ qd ≤ 480) (gD : Din DD) : Met l yX3_reach wsX3_reach ({ frames := 0, cells := 0, slots := 0, locals := 0 }) (zP (dC, dI) (zT cI cZ cL cT cJ) sz [.ref se, .ref he, .int (zI dp), .int (zI b)] [(se, .inr (3, [.ref de, .ref fi, .ref qu, .ref pr, .int (zI qd), .int (zI s1), .int (zI s2)])), (he, .inr (0, [.int (zI x), .int (zI y), .int (zI li)])), zA cI de 480 DD, zA cI fi 480 FF, zA cI qu 480 QQ]) (va_Qv (fun (u9 : Int × (Int → Int) × (Int → Int) × (Int → Int)) => match u9 with | (n1, D1, F1, Q1) => (n1 = rcN DD qd (plc x y li) ∧ D1 = rcD DD qd (plc x y li) dp ∧ F1 = rcF DD FF qd (plc x y li) b ∧ Q1 = rcQ DD QQ qd (plc x y li))) (zB (dC, dI) (zT cI cZ cL cT cJ) (va_A [(se, .inr (3, [.ref de, .ref fi, .ref qu, .ref pr, .int (zI qd), .int (zI s1), .int (zI s2)])), (he, .inr (0, [.int (zI x), .int (zI y), .int (zI li)])), zA cI de 480 DD, zA cI fi 480 FF, zA cI qu 480 QQ] sz) (fun (u9 : Int × (Int → Int) × (Int → Int) × (Int → Int)) => match u9 with | (n1, D1, F1, Q1) => [(se, .inr (3, [.ref de, .ref fi, .ref qu, .ref pr, .int (zI n1), .int (zI s1), .int (zI s2)])), (he, .inr (0, [.int (zI x), .int (zI y), .int (zI li)])), zA cI de 480 D1, zA cI fi 480 F1, zA cI qu 480 Q1])) (va_A [(se, .inr (3, [.ref de, .ref fi, .ref qu, .ref pr, .int (zI qd), .int (zI s1), .int (zI s2)])), (he, .inr (0, [.int (zI x), .int (zI y), .int (zI li)])), zA cI de 480 DD, zA cI fi 480 FF, zA cI qu 480 QQ] sz)) 0 0 (va_A [(se, .inr (3, [.ref de, .ref fi, .ref qu, .ref pr, .int (zI qd), .int (zI s1), .int (zI s2)])), (he, .inr (0, [.int (zI x), .int (zI y), .int (zI li)])), zA cI de 480 DD, zA cI fi 480 FF, zA cI qu 480 QQ] sz) := by
  refine Met.ofW (cc := cX3_reach) (maxL := 5) (ret := none) (by decide) rfl ?_
  intro p e s m args below meth c s₁ B hml hv
  obtain ⟨rfl, hsz, hP, hK, hD0⟩ := hv
  have hx := B.exec
  have hb := B.bytes
  have hr := B.returns
  have hts := atoms_spec (ws := wsX3_reach) B.pre
  have hown : s.vm.findClass RX3 = some m.cls := findClass_of_methodNamed B.named
  have hlocks := B.notSynchronized
  subst hsz
  have hD := hD0.self (sz := s.heap.size)
  generalize hAe : va_A [(se, .inr (3, [.ref de, .ref fi, .ref qu, .ref pr, .int (zI qd), .int (zI s1), .int (zI s2)])), (he, .inr (0, [.int (zI x), .int (zI y), .int (zI li)])), zA cI de 480 DD, zA cI fi 480 FF, zA cI qu 480 QQ] s.heap.size = A at hD ⊢
  have hA : ∀ q : Nat, s.heap.size ≤ q → A q := fun q h => by rw [← hAe]; exact Or.inr h
  clear hAe hD0
  have hS : va_S A s.heap s.heap [] := va_S.rf
  have hP : va_P (dC, dI) vwCl [(se, .inr (3, [.ref de, .ref fi, .ref qu, .ref pr, .int (zI qd), .int (zI s1), .int (zI s2)])), (he, .inr (0, [.int (zI x), .int (zI y), .int (zI li)])), zA cI de 480 DD, zA cI fi 480 FF, zA cI qu 480 QQ] s.heap := hP
  have f_11 := hts (.fieldLink RX3 11 "SpringLevels$Search" "depths" "[I") (by decide +kernel)
  have f_15 := hts (.fieldLink RX3 15 "SpringLevels$Search" "firstInputs" "[I") (by decide +kernel)
  have f_18 := hts (.fieldLink RX3 18 "SpringLevels$Search" "queue" "[I") (by decide +kernel)
  have f_28 := hts (.fieldLink RX3 28 "SpringLevels$Search" "queued" "I") (by decide +kernel)
  have f_52 := hts (.fieldLink RX3 52 "SpringLevels$Hero" "y" "I") (by decide +kernel)
  have f_55 := hts (.fieldLink RX3 55 "SpringLevels$Hero" "x" "I") (by decide +kernel)
  have f_58 := hts (.fieldLink RX3 58 "SpringLevels$Hero" "lift" "I") (by decide +kernel)
  have i_0 : ∀ w ∈ wsX00, w ∈ wsX3_reach := by decide +kernel
  have i_3 : ∀ w ∈ wsX30, w ∈ wsX3_reach := by decide +kernel
  have hl := lv_entry ([.ref se, .ref he, .int (zI dp), .int (zI b)]) (n := 5) (Nat.le_of_ble_eq_true rfl)
  rw [lg_entry_eq]
  generalize (lg_sl ([.ref se, .ref he, .int (zI dp), .int (zI b)]) ++ List.replicate (5 - (lg_sl ([.ref se, .ref he, .int (zI dp), .int (zI b)])).length) Slot.unset).toArray = ls at hl ⊢
  have hl : lv_has ls 5 [(0, .ref se), (1, .ref he), (2, .int (zI dp)), (3, .int (zI b))] := hl
  refine lv_aload_n hx hb dX3_reach_0 rfl (lv_at hl 1 rfl) ?_
  refine va_get (D := (dC, dI)) (ci := 0) (v := .int (zI y)) (C := RX0) (T := TX0) (N := 3) hx hb hts i_0 hown hK hP 1 rfl rfl 1 (by decide) f_52 (fun _ h9 => h9) rfl dX3_reach_1 ?_
  refine lv_bipush (v := zI 12) hx hb dX3_reach_4 (by decide) ?_
  refine lz_imul (z := y * 12) hx hb dX3_reach_6 (by rfl) ?_
  refine lv_aload_n hx hb dX3_reach_7 rfl (lv_at hl 1 rfl) ?_
  refine va_get (D := (dC, dI)) (ci := 0) (v := .int (zI x)) (C := RX0) (T := TX0) (N := 3) hx hb hts i_0 hown hK hP 1 rfl rfl 0 (by decide) f_55 (fun _ h9 => h9) rfl dX3_reach_8 ?_
  refine lz_iadd (z := (y * 12) + x) hx hb dX3_reach_11 (by rfl) ?_
  refine lv_iconst (v := zI 5) hx hb dX3_reach_12 (rfl) ?_
  refine lz_imul (z := ((y * 12) + x) * 5) hx hb dX3_reach_13 (by rfl) ?_
  refine lv_aload_n hx hb dX3_reach_14 rfl (lv_at hl 1 rfl) ?_
  refine va_get (D := (dC, dI)) (ci := 0) (v := .int (zI li)) (C := RX0) (T := TX0) (N := 3) hx hb hts i_0 hown hK hP 1 rfl rfl 2 (by decide) f_58 (fun _ h9 => h9) rfl dX3_reach_15 ?_
  refine lz_iadd (z := (((y * 12) + x) * 5) + li) hx hb dX3_reach_18 (by rfl) ?_
  refine lv_istore (lv' := [(4, .int (zI ((((y * 12) + x) * 5) + li))), (0, .ref se), (1, .ref he), (2, .int (zI dp)), (3, .int (zI b))]) hx hb dX3_reach_19 hl (by decide) rfl (fun ls hl => ?_)
  refine lv_iload hx hb dX3_reach_21 (lv_at hl 0 rfl) ?_
  refine lz_if_lt (tgt := 55) hx hb dX3_reach_23 (by decide) (by omega) (fun c_1 => ?_) (fun c_1 => ?_)
  ·
    have hP9 := hP.sub (ws' := [(se, .inr (3, [.ref de, .ref fi, .ref qu, .ref pr, .int (zI qd), .int (zI s1), .int (zI s2)])), (he, .inr (0, [.int (zI x), .int (zI y), .int (zI li)])), zA cI de 480 DD, zA cI fi 480 FF, zA cI qu 480 QQ]) [0, 1, 2, 3, 4] rfl
    have hD9 := hD.sub (ws' := [(se, .inr (3, [.ref de, .ref fi, .ref qu, .ref pr, .int (zI qd), .int (zI s1), .int (zI s2)])), (he, .inr (0, [.int (zI x), .int (zI y), .int (zI li)])), zA cI de 480 DD, zA cI fi 480 FF, zA cI qu 480 QQ]) [0, 1, 2, 3, 4] (by decide) rfl
    have po : (qd = rcN DD qd (plc x y li) ∧ DD = rcD DD qd (plc x y li) dp ∧ FF = rcF DD FF qd (plc x y li) b ∧ QQ = rcQ DD QQ qd (plc x y li)) := by
      unfold rcN rcD rcF rcQ plc
      first | (exfalso; omega) | (refine ⟨?_, ?_, ?_, ?_⟩ <;> rw [if_pos (by omega)]) | (refine ⟨?_, ?_, ?_, ?_⟩ <;> rw [if_neg (by omega)])
    exact W.vret hx hb hr (fun t ht hW => ⟨⟨(qd, DD, FF, QQ), rfl, po, by rw [ht]; exact hP9, va_K.moved hW.alike hK, hD9⟩, hS.F ht⟩) hS.2.2 dX3_reach_55
  ·
    refine lv_iload hx hb dX3_reach_26 (lv_at hl 0 rfl) ?_
    refine lv_sipush (v := zI 480) hx hb dX3_reach_28 (by decide) ?_
    refine lz_icmp_ge (tgt := 55) hx hb dX3_reach_31 (by decide) (by omega) ⟨by decide, by decide⟩ (fun c_2 => ?_) (fun c_2 => ?_)
    ·
      have hP9 := hP.sub (ws' := [(se, .inr (3, [.ref de, .ref fi, .ref qu, .ref pr, .int (zI qd), .int (zI s1), .int (zI s2)])), (he, .inr (0, [.int (zI x), .int (zI y), .int (zI li)])), zA cI de 480 DD, zA cI fi 480 FF, zA cI qu 480 QQ]) [0, 1, 2, 3, 4] rfl
      have hD9 := hD.sub (ws' := [(se, .inr (3, [.ref de, .ref fi, .ref qu, .ref pr, .int (zI qd), .int (zI s1), .int (zI s2)])), (he, .inr (0, [.int (zI x), .int (zI y), .int (zI li)])), zA cI de 480 DD, zA cI fi 480 FF, zA cI qu 480 QQ]) [0, 1, 2, 3, 4] (by decide) rfl
      have po : (qd = rcN DD qd (plc x y li) ∧ DD = rcD DD qd (plc x y li) dp ∧ FF = rcF DD FF qd (plc x y li) b ∧ QQ = rcQ DD QQ qd (plc x y li)) := by
        unfold rcN rcD rcF rcQ plc
        first | (exfalso; omega) | (refine ⟨?_, ?_, ?_, ?_⟩ <;> rw [if_pos (by omega)]) | (refine ⟨?_, ?_, ?_, ?_⟩ <;> rw [if_neg (by omega)])
      exact W.vret hx hb hr (fun t ht hW => ⟨⟨(qd, DD, FF, QQ), rfl, po, by rw [ht]; exact hP9, va_K.moved hW.alike hK, hD9⟩, hS.F ht⟩) hS.2.2 dX3_reach_55
    ·
      refine lv_aload_n hx hb dX3_reach_34 rfl (lv_at hl 1 rfl) ?_
      refine va_get (D := (dC, dI)) (ci := 3) (v := .int (zI qd)) (C := RX3) (T := TX3) (N := 7) hx hb hts i_3 hown hK hP 0 rfl rfl 4 (by decide) f_28 (fun _ h9 => h9) rfl dX3_reach_35 ?_
      refine lv_sipush (v := zI 480) hx hb dX3_reach_38 (by decide) ?_
      refine lz_icmp_ge (tgt := 55) hx hb dX3_reach_41 (by decide) (by omega) ⟨by decide, by decide⟩ (fun c_3 => ?_) (fun c_3 => ?_)
      ·
        have hP9 := hP.sub (ws' := [(se, .inr (3, [.ref de, .ref fi, .ref qu, .ref pr, .int (zI qd), .int (zI s1), .int (zI s2)])), (he, .inr (0, [.int (zI x), .int (zI y), .int (zI li)])), zA cI de 480 DD, zA cI fi 480 FF, zA cI qu 480 QQ]) [0, 1, 2, 3, 4] rfl
        have hD9 := hD.sub (ws' := [(se, .inr (3, [.ref de, .ref fi, .ref qu, .ref pr, .int (zI qd), .int (zI s1), .int (zI s2)])), (he, .inr (0, [.int (zI x), .int (zI y), .int (zI li)])), zA cI de 480 DD, zA cI fi 480 FF, zA cI qu 480 QQ]) [0, 1, 2, 3, 4] (by decide) rfl
        have po : (qd = rcN DD qd (plc x y li) ∧ DD = rcD DD qd (plc x y li) dp ∧ FF = rcF DD FF qd (plc x y li) b ∧ QQ = rcQ DD QQ qd (plc x y li)) := by
          unfold rcN rcD rcF rcQ plc
          first | (exfalso; omega) | (refine ⟨?_, ?_, ?_, ?_⟩ <;> rw [if_pos (by omega)]) | (refine ⟨?_, ?_, ?_, ?_⟩ <;> rw [if_neg (by omega)])
        exact W.vret hx hb hr (fun t ht hW => ⟨⟨(qd, DD, FF, QQ), rfl, po, by rw [ht]; exact hP9, va_K.moved hW.alike hK, hD9⟩, hS.F ht⟩) hS.2.2 dX3_reach_55
      ·
        refine lv_aload_n hx hb dX3_reach_44 rfl (lv_at hl 1 rfl) ?_
        refine va_get (D := (dC, dI)) (ci := 3) (v := .ref de) (C := RX3) (T := TX3) (N := 7) hx hb hts i_3 hown hK hP 0 rfl rfl 0 (by decide) f_11 (fun _ h9 => h9) rfl dX3_reach_45 ?_
        refine lv_iload hx hb dX3_reach_48 (lv_at hl 0 rfl) ?_
        refine lz_iald (F := DD) (i := (((y * 12) + x) * 5) + li) hx hb hK hP 2 0 rfl rfl (by omega) (by omega) (by decide) dX3_reach_50 ?_
        have e9 := gD ((((y * 12) + x) * 5) + li)
        refine lv_iconst (v := zI (-1)) hx hb dX3_reach_51 (rfl) ?_
        refine lz_icmp_eq (tgt := 56) hx hb dX3_reach_52 (by decide) (by omega) ⟨by decide, by decide⟩ (fun c_4 => ?_) (fun c_4 => ?_)
        ·
          refine lv_aload_n hx hb dX3_reach_56 rfl (lv_at hl 1 rfl) ?_
          refine va_get (D := (dC, dI)) (ci := 3) (v := .ref de) (C := RX3) (T := TX3) (N := 7) hx hb hts i_3 hown hK hP 0 rfl rfl 0 (by decide) f_11 (fun _ h9 => h9) rfl dX3_reach_57 ?_
          refine lv_iload hx hb dX3_reach_60 (lv_at hl 0 rfl) ?_
          refine lv_iload_n hx hb dX3_reach_62 rfl (lv_at hl 3 rfl) ?_
          refine lz_iast (F := DD) (i := (((y * 12) + x) * 5) + li) (v := dp) hx hb hK hP hD hS 2 0 rfl rfl (by omega) (by omega) (by decide) dX3_reach_63 (fun H locs hP hD hS => ?_)
          have hP : va_P (dC, dI) vwCl [(se, .inr (3, [.ref de, .ref fi, .ref qu, .ref pr, .int (zI qd), .int (zI s1), .int (zI s2)])), (he, .inr (0, [.int (zI x), .int (zI y), .int (zI li)])), zA cI de 480 (zu DD ((((y * 12) + x) * 5) + li) dp), zA cI fi 480 FF, zA cI qu 480 QQ] H := hP
          have hD : va_D A [(se, .inr (3, [.ref de, .ref fi, .ref qu, .ref pr, .int (zI qd), .int (zI s1), .int (zI s2)])), (he, .inr (0, [.int (zI x), .int (zI y), .int (zI li)])), zA cI de 480 (zu DD ((((y * 12) + x) * 5) + li) dp), zA cI fi 480 FF, zA cI qu 480 QQ] := hD
          refine lv_aload_n hx hb dX3_reach_64 rfl (lv_at hl 1 rfl) ?_
          refine va_get (D := (dC, dI)) (ci := 3) (v := .ref fi) (C := RX3) (T := TX3) (N := 7) hx hb hts i_3 hown hK hP 0 rfl rfl 1 (by decide) f_15 (fun _ h9 => h9) rfl dX3_reach_65 ?_
          refine lv_iload hx hb dX3_reach_68 (lv_at hl 0 rfl) ?_
          refine lv_iload_n hx hb dX3_reach_70 rfl (lv_at hl 4 rfl) ?_
          refine lz_iast (F := FF) (i := (((y * 12) + x) * 5) + li) (v := b) hx hb hK hP hD hS 3 0 rfl rfl (by omega) (by omega) (by decide) dX3_reach_71 (fun H locs hP hD hS => ?_)
          have hP : va_P (dC, dI) vwCl [(se, .inr (3, [.ref de, .ref fi, .ref qu, .ref pr, .int (zI qd), .int (zI s1), .int (zI s2)])), (he, .inr (0, [.int (zI x), .int (zI y), .int (zI li)])), zA cI de 480 (zu DD ((((y * 12) + x) * 5) + li) dp), zA cI fi 480 (zu FF ((((y * 12) + x) * 5) + li) b), zA cI qu 480 QQ] H := hP
          have hD : va_D A [(se, .inr (3, [.ref de, .ref fi, .ref qu, .ref pr, .int (zI qd), .int (zI s1), .int (zI s2)])), (he, .inr (0, [.int (zI x), .int (zI y), .int (zI li)])), zA cI de 480 (zu DD ((((y * 12) + x) * 5) + li) dp), zA cI fi 480 (zu FF ((((y * 12) + x) * 5) + li) b), zA cI qu 480 QQ] := hD
          refine lv_aload_n hx hb dX3_reach_72 rfl (lv_at hl 1 rfl) ?_
          refine va_get (D := (dC, dI)) (ci := 3) (v := .ref qu) (C := RX3) (T := TX3) (N := 7) hx hb hts i_3 hown hK hP 0 rfl rfl 2 (by decide) f_18 (fun _ h9 => h9) rfl dX3_reach_73 ?_
          refine lv_aload_n hx hb dX3_reach_76 rfl (lv_at hl 1 rfl) ?_
          refine va_get (D := (dC, dI)) (ci := 3) (v := .int (zI qd)) (C := RX3) (T := TX3) (N := 7) hx hb hts i_3 hown hK hP 0 rfl rfl 4 (by decide) f_28 (fun _ h9 => h9) rfl dX3_reach_77 ?_
          refine lv_iload hx hb dX3_reach_80 (lv_at hl 0 rfl) ?_
          refine lz_iast (F := QQ) (i := qd) (v := (((y * 12) + x) * 5) + li) hx hb hK hP hD hS 4 0 rfl rfl (by omega) (by omega) (by decide) dX3_reach_82 (fun H locs hP hD hS => ?_)
          have hP : va_P (dC, dI) vwCl [(se, .inr (3, [.ref de, .ref fi, .ref qu, .ref pr, .int (zI qd), .int (zI s1), .int (zI s2)])), (he, .inr (0, [.int (zI x), .int (zI y), .int (zI li)])), zA cI de 480 (zu DD ((((y * 12) + x) * 5) + li) dp), zA cI fi 480 (zu FF ((((y * 12) + x) * 5) + li) b), zA cI qu 480 (zu QQ qd ((((y * 12) + x) * 5) + li))] H := hP
          have hD : va_D A [(se, .inr (3, [.ref de, .ref fi, .ref qu, .ref pr, .int (zI qd), .int (zI s1), .int (zI s2)])), (he, .inr (0, [.int (zI x), .int (zI y), .int (zI li)])), zA cI de 480 (zu DD ((((y * 12) + x) * 5) + li) dp), zA cI fi 480 (zu FF ((((y * 12) + x) * 5) + li) b), zA cI qu 480 (zu QQ qd ((((y * 12) + x) * 5) + li))] := hD
          refine lv_aload_n hx hb dX3_reach_83 rfl (lv_at hl 1 rfl) ?_
          refine lv_dup hx hb dX3_reach_84 rfl ?_
          refine va_get (D := (dC, dI)) (ci := 3) (v := .int (zI qd)) (C := RX3) (T := TX3) (N := 7) hx hb hts i_3 hown hK hP 0 rfl rfl 4 (by decide) f_28 (fun _ h9 => h9) rfl dX3_reach_85 ?_
          refine lv_iconst (v := zI 1) hx hb dX3_reach_88 (rfl) ?_
          refine lz_iadd (z := qd + 1) hx hb dX3_reach_89 (by rfl) ?_
          refine va_put (D := (dC, dI)) (ci := 3) (v := .int (zI (qd + 1))) (ty := .int) (C := RX3) (T := TX3) (N := 7) hx hb hts i_3 tyX3 tyX3_ok nmX3 hown hK hP hD hS 0 rfl rfl 4 (by decide) f_28 (fun _ h9 => h9) rfl (by decide +kernel) rfl rfl (Nat.le_of_ble_eq_true rfl) dX3_reach_90 (fun H locs hP hD hS => ?_)
          have hP : va_P (dC, dI) vwCl [(se, .inr (3, [.ref de, .ref fi, .ref qu, .ref pr, .int (zI (qd + 1)), .int (zI s1), .int (zI s2)])), (he, .inr (0, [.int (zI x), .int (zI y), .int (zI li)])), zA cI de 480 (zu DD ((((y * 12) + x) * 5) + li) dp), zA cI fi 480 (zu FF ((((y * 12) + x) * 5) + li) b), zA cI qu 480 (zu QQ qd ((((y * 12) + x) * 5) + li))] H := hP
          have hD : va_D A [(se, .inr (3, [.ref de, .ref fi, .ref qu, .ref pr, .int (zI (qd + 1)), .int (zI s1), .int (zI s2)])), (he, .inr (0, [.int (zI x), .int (zI y), .int (zI li)])), zA cI de 480 (zu DD ((((y * 12) + x) * 5) + li) dp), zA cI fi 480 (zu FF ((((y * 12) + x) * 5) + li) b), zA cI qu 480 (zu QQ qd ((((y * 12) + x) * 5) + li))] := hD
          have hP9 := hP.sub (ws' := [(se, .inr (3, [.ref de, .ref fi, .ref qu, .ref pr, .int (zI (qd + 1)), .int (zI s1), .int (zI s2)])), (he, .inr (0, [.int (zI x), .int (zI y), .int (zI li)])), zA cI de 480 (zu DD ((((y * 12) + x) * 5) + li) dp), zA cI fi 480 (zu FF ((((y * 12) + x) * 5) + li) b), zA cI qu 480 (zu QQ qd ((((y * 12) + x) * 5) + li))]) [0, 1, 2, 3, 4] rfl
          have hD9 := hD.sub (ws' := [(se, .inr (3, [.ref de, .ref fi, .ref qu, .ref pr, .int (zI (qd + 1)), .int (zI s1), .int (zI s2)])), (he, .inr (0, [.int (zI x), .int (zI y), .int (zI li)])), zA cI de 480 (zu DD ((((y * 12) + x) * 5) + li) dp), zA cI fi 480 (zu FF ((((y * 12) + x) * 5) + li) b), zA cI qu 480 (zu QQ qd ((((y * 12) + x) * 5) + li))]) [0, 1, 2, 3, 4] (by decide) rfl
          have po : ((qd + 1) = rcN DD qd (plc x y li) ∧ (zu DD ((((y * 12) + x) * 5) + li) dp) = rcD DD qd (plc x y li) dp ∧ (zu FF ((((y * 12) + x) * 5) + li) b) = rcF DD FF qd (plc x y li) b ∧ (zu QQ qd ((((y * 12) + x) * 5) + li)) = rcQ DD QQ qd (plc x y li)) := by
            unfold rcN rcD rcF rcQ plc
            first | (exfalso; omega) | (refine ⟨?_, ?_, ?_, ?_⟩ <;> rw [if_pos (by omega)]) | (refine ⟨?_, ?_, ?_, ?_⟩ <;> rw [if_neg (by omega)])
          exact W.vret hx hb hr (fun t ht hW => ⟨⟨(qd + 1, zu DD ((((y * 12) + x) * 5) + li) dp, zu FF ((((y * 12) + x) * 5) + li) b, zu QQ qd ((((y * 12) + x) * 5) + li)), rfl, po, by rw [ht]; exact hP9, va_K.moved hW.alike hK, hD9⟩, hS.F ht⟩) hS.2.2 dX3_reach_93
        ·
          have hP9 := hP.sub (ws' := [(se, .inr (3, [.ref de, .ref fi, .ref qu, .ref pr, .int (zI qd), .int (zI s1), .int (zI s2)])), (he, .inr (0, [.int (zI x), .int (zI y), .int (zI li)])), zA cI de 480 DD, zA cI fi 480 FF, zA cI qu 480 QQ]) [0, 1, 2, 3, 4] rfl
          have hD9 := hD.sub (ws' := [(se, .inr (3, [.ref de, .ref fi, .ref qu, .ref pr, .int (zI qd), .int (zI s1), .int (zI s2)])), (he, .inr (0, [.int (zI x), .int (zI y), .int (zI li)])), zA cI de 480 DD, zA cI fi 480 FF, zA cI qu 480 QQ]) [0, 1, 2, 3, 4] (by decide) rfl
          have po : (qd = rcN DD qd (plc x y li) ∧ DD = rcD DD qd (plc x y li) dp ∧ FF = rcF DD FF qd (plc x y li) b ∧ QQ = rcQ DD QQ qd (plc x y li)) := by
            unfold rcN rcD rcF rcQ plc
            first | (exfalso; omega) | (refine ⟨?_, ?_, ?_, ?_⟩ <;> rw [if_pos (by omega)]) | (refine ⟨?_, ?_, ?_, ?_⟩ <;> rw [if_neg (by omega)])
          exact W.vret hx hb hr (fun t ht hW => ⟨⟨(qd, DD, FF, QQ), rfl, po, by rw [ht]; exact hP9, va_K.moved hW.alike hK, hD9⟩, hS.F ht⟩) hS.2.2 dX3_reach_55
set_option maxHeartbeats 4000000 in
set_option maxRecDepth 100000 in
/-- Search.tryInputs -/
theorem c_X3_tryInputs (l : Launch) (dC : Nat → ClassId) (dI : Nat → Nat → Nat) (cI cZ cL cT cJ : ClassId) (sz : Nat) (se : Nat) (de : Nat) (fi : Nat) (qu : Nat) (pr : Nat) (qd : Int) (s1 : Int) (s2 : Int) (DD : Int → Int) (FF : Int → Int) (QQ : Int → Int) (lv : Nat) (w : Int) (h : Int) (ka : Nat) (ta : Nat) (sx : Int) (sy : Int) (fx : Int) (fy : Int) (lf : Int) (un : Int) (K : Int → Int) (qx : Int) (qy : Int) (ql : Int) (pp : Int) (dp : Int) (gw : 0 < w ∧ w ≤ 12) (gh : 0 < h ∧ h ≤ 8) (gK : Kin K) (gf : -2147483648 ≤ fx ∧ fx < 2147483648) (gf2 : -2147483648 ≤ fy ∧ fy < 2147483648) (gp : vld w h pp) (gd : 0 ≤ dp ∧ dp ≤ 100) (gS : SOK w h DD FF QQ qd) : Met l yX3_tryInputs wsX3_tryInputs ({ frames := 3, cells := 0, slots := 0, locals := 69 }) (zP (dC, dI) (zT cI cZ cL cT cJ) sz [.ref se, .ref lv, .int (zI pp), .int (zI dp)] [(se, .inr (3, [.ref de, .ref fi, .ref qu, .ref pr, .int (zI qd), .int (zI s1), .int (zI s2)])), (pr, .inr (0, [.int (zI qx), .int (zI qy), .int (zI ql)])), (lv, .inr (1, [.int (zI w), .int (zI h), .ref ka, .ref ta, .int (zI sx), .int (zI sy), .int (zI fx), .int (zI fy), .int (zI lf), .int (zI un)])), zA cI ka 96 K, zA cI de 480 DD, zA cI fi 480 FF, zA cI qu 480 QQ]) (va_Qv (fun (u9 : Int × Int × Int × (Int → Int) × (Int → Int) × (Int → Int) × Int × Int × Int × Int) => match u9 with | (n1, s11, s21, D1, F1, Q1, qx1, qy1, ql1, ff) => ((D1, F1, Q1, n1, ff) = tiR K w h fx fy (pp / 5 % 12) (pp / 5 / 12) (pp % 5) dp (FF pp) 6 0 DD FF QQ qd ∧ s11 = (if ff = -1 then s1 else dp) ∧ s21 = (if ff = -1 then s2 else ff))) (zB (dC, dI) (zT cI cZ cL cT cJ) (va_A [(se, .inr (3, [.ref de, .ref fi, .ref qu, .ref pr, .int (zI qd), .int (zI s1), .int (zI s2)])), (pr, .inr (0, [.int (zI qx), .int (zI qy), .int (zI ql)])), (lv, .inr (1, [.int (zI w), .int (zI h), .ref ka, .ref ta, .int (zI sx), .int (zI sy), .int (zI fx), .int (zI fy), .int (zI lf), .int (zI un)])), zA cI ka 96 K, zA cI de 480 DD, zA cI fi 480 FF, zA cI qu 480 QQ] sz) (fun (u9 : Int × Int × Int × (Int → Int) × (Int → Int) × (Int → Int) × Int × Int × Int × Int) => match u9 with | (n1, s11, s21, D1, F1, Q1, qx1, qy1, ql1, ff) => [(se, .inr (3, [.ref de, .ref fi, .ref qu, .ref pr, .int (zI n1), .int (zI s11), .int (zI s21)])), (pr, .inr (0, [.int (zI qx1), .int (zI qy1), .int (zI ql1)])), (lv, .inr (1, [.int (zI w), .int (zI h), .ref ka, .ref ta, .int (zI sx), .int (zI sy), .int (zI fx), .int (zI fy), .int (zI lf), .int (zI un)])), zA cI ka 96 K, zA cI de 480 D1, zA cI fi 480 F1, zA cI qu 480 Q1])) (va_A [(se, .inr (3, [.ref de, .ref fi, .ref qu, .ref pr, .int (zI qd), .int (zI s1), .int (zI s2)])), (pr, .inr (0, [.int (zI qx), .int (zI qy), .int (zI ql)])), (lv, .inr (1, [.int (zI w), .int (zI h), .ref ka, .ref ta, .int (zI sx), .int (zI sy), .int (zI fx), .int (zI fy), .int (zI lf), .int (zI un)])), zA cI ka 96 K, zA cI de 480 DD, zA cI fi 480 FF, zA cI qu 480 QQ] sz)) 0 0 (va_A [(se, .inr (3, [.ref de, .ref fi, .ref qu, .ref pr, .int (zI qd), .int (zI s1), .int (zI s2)])), (pr, .inr (0, [.int (zI qx), .int (zI qy), .int (zI ql)])), (lv, .inr (1, [.int (zI w), .int (zI h), .ref ka, .ref ta, .int (zI sx), .int (zI sy), .int (zI fx), .int (zI fy), .int (zI lf), .int (zI un)])), zA cI ka 96 K, zA cI de 480 DD, zA cI fi 480 FF, zA cI qu 480 QQ] sz) := by
  refine Met.ofW (cc := cX3_tryInputs) (maxL := 9) (ret := none) (by decide) rfl ?_
  intro p e s m args below meth c s₁ B hml hv
  obtain ⟨rfl, hsz, hP, hK, hD0⟩ := hv
  have hx := B.exec
  have hb := B.bytes
  have hr := B.returns
  have hts := atoms_spec (ws := wsX3_tryInputs) B.pre
  have hown : s.vm.findClass RX3 = some m.cls := findClass_of_methodNamed B.named
  have hlocks := B.notSynchronized
  subst hsz
  have hD := hD0.self (sz := s.heap.size)
  generalize hAe : va_A [(se, .inr (3, [.ref de, .ref fi, .ref qu, .ref pr, .int (zI qd), .int (zI s1), .int (zI s2)])), (pr, .inr (0, [.int (zI qx), .int (zI qy), .int (zI ql)])), (lv, .inr (1, [.int (zI w), .int (zI h), .ref ka, .ref ta, .int (zI sx), .int (zI sy), .int (zI fx), .int (zI fy), .int (zI lf), .int (zI un)])), zA cI ka 96 K, zA cI de 480 DD, zA cI fi 480 FF, zA cI qu 480 QQ] s.heap.size = A at hD ⊢
  have hA : ∀ q : Nat, s.heap.size ≤ q → A q := fun q h => by rw [← hAe]; exact Or.inr h
  clear hAe hD0
  have hS : va_S A s.heap s.heap [] := va_S.rf
  have hP : va_P (dC, dI) vwCl [(se, .inr (3, [.ref de, .ref fi, .ref qu, .ref pr, .int (zI qd), .int (zI s1), .int (zI s2)])), (pr, .inr (0, [.int (zI qx), .int (zI qy), .int (zI ql)])), (lv, .inr (1, [.int (zI w), .int (zI h), .ref ka, .ref ta, .int (zI sx), .int (zI sy), .int (zI fx), .int (zI fy), .int (zI lf), .int (zI un)])), zA cI ka 96 K, zA cI de 480 DD, zA cI fi 480 FF, zA cI qu 480 QQ] s.heap := hP
  have f_15 := hts (.fieldLink RX3 15 "SpringLevels$Search" "firstInputs" "[I") (by decide +kernel)
  have f_24 := hts (.fieldLink RX3 24 "SpringLevels$Search" "probe" "LSpringLevels$Hero;") (by decide +kernel)
  have f_32 := hts (.fieldLink RX3 32 "SpringLevels$Search" "leastFrames" "I") (by decide +kernel)
  have f_35 := hts (.fieldLink RX3 35 "SpringLevels$Search" "firstInput" "I") (by decide +kernel)
  have i_3 : ∀ w ∈ wsX30, w ∈ wsX3_tryInputs := by decide +kernel
  have hl := lv_entry ([.ref se, .ref lv, .int (zI pp), .int (zI dp)]) (n := 9) (Nat.le_of_ble_eq_true rfl)
  rw [lg_entry_eq]
  generalize (lg_sl ([.ref se, .ref lv, .int (zI pp), .int (zI dp)]) ++ List.replicate (9 - (lg_sl ([.ref se, .ref lv, .int (zI pp), .int (zI dp)])).length) Slot.unset).toArray = ls at hl ⊢
  have hl : lv_has ls 9 [(0, .ref se), (1, .ref lv), (2, .int (zI pp)), (3, .int (zI dp))] := hl
  obtain ⟨gp1, gp2, gp3, gp4⟩ := id gp
  refine lv_iload_n hx hb dX3_tryInputs_0 rfl (lv_at hl 2 rfl) ?_
  refine lz_if_lt (tgt := 11) hx hb dX3_tryInputs_1 (by decide) (by omega) (fun c_1 => ?_) (fun c_1 => ?_)
  · exact absurd c_1 (by omega)
  ·
    refine lv_iload_n hx hb dX3_tryInputs_4 rfl (lv_at hl 2 rfl) ?_
    refine lv_sipush (v := zI 480) hx hb dX3_tryInputs_5 (by decide) ?_
    refine lz_icmp_lt (tgt := 15) hx hb dX3_tryInputs_8 (by decide) (by omega) ⟨by decide, by decide⟩ (fun c_2 => ?_) (fun c_2 => ?_)
    ·
      refine lv_aload_n hx hb dX3_tryInputs_15 rfl (lv_at hl 0 rfl) ?_
      refine va_get (D := (dC, dI)) (ci := 3) (v := .ref fi) (C := RX3) (T := TX3) (N := 7) hx hb hts i_3 hown hK hP 0 rfl rfl 1 (by decide) f_15 (fun _ h9 => h9) rfl dX3_tryInputs_16 ?_
      refine lv_iload_n hx hb dX3_tryInputs_19 rfl (lv_at hl 2 rfl) ?_
      refine lz_iald (F := FF) (i := pp) hx hb hK hP 5 0 rfl rfl (by omega) (by omega) (by decide) dX3_tryInputs_20 ?_
      have fr := gS.2.1 pp
      refine lv_istore (lv' := [(4, .int (zI (FF pp))), (0, .ref se), (1, .ref lv), (2, .int (zI pp)), (3, .int (zI dp))]) hx hb dX3_tryInputs_21 hl (by decide) rfl (fun ls hl => ?_)
      refine lv_iload_n hx hb dX3_tryInputs_23 rfl (lv_at hl 3 rfl) ?_
      refine lv_iconst (v := zI 5) hx hb dX3_tryInputs_24 (rfl) ?_
      refine lz_idiv hx hb dX3_tryInputs_25 (by omega) (by decide) ?_
      refine lv_istore (lv' := [(5, .int (zI (pp / 5))), (4, .int (zI (FF pp))), (0, .ref se), (1, .ref lv), (2, .int (zI pp)), (3, .int (zI dp))]) hx hb dX3_tryInputs_26 hl (by decide) rfl (fun ls hl => ?_)
      refine lv_iconst (v := zI 0) hx hb dX3_tryInputs_28 (rfl) ?_
      refine lv_istore (lv' := [(6, .int (zI 0)), (5, .int (zI (pp / 5))), (4, .int (zI (FF pp))), (0, .ref se), (1, .ref lv), (2, .int (zI pp)), (3, .int (zI dp))]) hx hb dX3_tryInputs_29 hl (by decide) rfl (fun ls hl => ?_)
      refine z_loop (μ := fun (x9 : Int × Int × Int × Int × Int × (Int → Int) × (Int → Int) × (Int → Int)) => match x9 with | (i, qx9, qy9, ql9, n9q, D9, F9, Q9) => (6 - i).toNat) (I := fun (x9 : Int × Int × Int × Int × Int × (Int → Int) × (Int → Int) × (Int → Int)) (H9 : Heap) (k9 : List Loc) (ls9 : Array Slot) => match x9 with | (i, qx9, qy9, ql9, n9q, D9, F9, Q9) => (0 ≤ i ∧ i ≤ 6) ∧ (SOK w h D9 F9 Q9 n9q) ∧ (tiR K w h fx fy (pp / 5 % 12) (pp / 5 / 12) (pp % 5) dp (FF pp) (6 - i).toNat i D9 F9 Q9 n9q = tiR K w h fx fy (pp / 5 % 12) (pp / 5 / 12) (pp % 5) dp (FF pp) 6 0 DD FF QQ qd) ∧ va_P (dC, dI) vwCl [(se, .inr (3, [.ref de, .ref fi, .ref qu, .ref pr, .int (zI n9q), .int (zI s1), .int (zI s2)])), (pr, .inr (0, [.int (zI qx9), .int (zI qy9), .int (zI ql9)])), (lv, .inr (1, [.int (zI w), .int (zI h), .ref ka, .ref ta, .int (zI sx), .int (zI sy), .int (zI fx), .int (zI fy), .int (zI lf), .int (zI un)])), zA cI ka 96 K, zA cI de 480 D9, zA cI fi 480 F9, zA cI qu 480 Q9] H9 ∧ va_D A [(se, .inr (3, [.ref de, .ref fi, .ref qu, .ref pr, .int (zI n9q), .int (zI s1), .int (zI s2)])), (pr, .inr (0, [.int (zI qx9), .int (zI qy9), .int (zI ql9)])), (lv, .inr (1, [.int (zI w), .int (zI h), .ref ka, .ref ta, .int (zI sx), .int (zI sy), .int (zI fx), .int (zI fy), .int (zI lf), .int (zI un)])), zA cI ka 96 K, zA cI de 480 D9, zA cI fi 480 F9, zA cI qu 480 Q9] ∧ va_S A s.heap H9 k9 ∧ lv_has ls9 9 [(0, .ref se), (1, .ref lv), (2, .int (zI pp)), (3, .int (zI dp)), (4, .int (zI (FF pp))), (5, .int (zI (pp / 5))), (6, .int (zI i))]) (fr := fun (x9 : Int × Int × Int × Int × Int × (Int → Int) × (Int → Int) × (Int → Int)) (ls9 : Array Slot) => match x9 with | (i, qx9, qy9, ql9, n9q, D9, F9, Q9) => F0 m 31 ls9 []) ?_ (0, qx, qy, ql, qd, DD, FF, QQ) ⟨(by omega), (by exact gS), (by rfl), hP, hD, hS, lv_sub hl [3, 4, 5, 6, 2, 1, 0] rfl⟩
      rintro ⟨i, qx9, qy9, ql9, n9q, D9, F9, Q9⟩ H locs ls ⟨ri, gS9, rem, hP, hD, hS, hl⟩ L_3
      refine W.eq (g2 := F0 m 31 ls []) rfl ?_
      refine lv_iload hx hb dX3_tryInputs_31 (lv_at hl 6 rfl) ?_
      refine lv_bipush (v := zI 6) hx hb dX3_tryInputs_33 (by decide) ?_
      refine lz_icmp_ge (tgt := 125) hx hb dX3_tryInputs_35 (by decide) (by omega) ⟨by decide, by decide⟩ (fun c_4 => ?_) (fun c_4 => ?_)
      ·
        have hP9 := hP.sub (ws' := [(se, .inr (3, [.ref de, .ref fi, .ref qu, .ref pr, .int (zI n9q), .int (zI s1), .int (zI s2)])), (pr, .inr (0, [.int (zI qx9), .int (zI qy9), .int (zI ql9)])), (lv, .inr (1, [.int (zI w), .int (zI h), .ref ka, .ref ta, .int (zI sx), .int (zI sy), .int (zI fx), .int (zI fy), .int (zI lf), .int (zI un)])), zA cI ka 96 K, zA cI de 480 D9, zA cI fi 480 F9, zA cI qu 480 Q9]) [0, 1, 2, 3, 4, 5, 6] rfl
        have hD9 := hD.sub (ws' := [(se, .inr (3, [.ref de, .ref fi, .ref qu, .ref pr, .int (zI n9q), .int (zI s1), .int (zI s2)])), (pr, .inr (0, [.int (zI qx9), .int (zI qy9), .int (zI ql9)])), (lv, .inr (1, [.int (zI w), .int (zI h), .ref ka, .ref ta, .int (zI sx), .int (zI sy), .int (zI fx), .int (zI fy), .int (zI lf), .int (zI un)])), zA cI ka 96 K, zA cI de 480 D9, zA cI fi 480 F9, zA cI qu 480 Q9]) [0, 1, 2, 3, 4, 5, 6] (by decide) rfl
        have po : ((D9, F9, Q9, n9q, (-1 : Int)) = tiR K w h fx fy (pp / 5 % 12) (pp / 5 / 12) (pp % 5) dp (FF pp) 6 0 DD FF QQ qd ∧ s1 = (if (-1 : Int) = -1 then s1 else dp) ∧ s2 = (if (-1 : Int) = -1 then s2 else (-1 : Int))) := by
          rw [show (6 - i).toNat = 0 by omega, tiR] at rem
          exact ⟨rem, by rw [if_pos rfl], by rw [if_pos rfl]⟩
        exact W.vret hx hb hr (fun t ht hW => ⟨⟨(n9q, s1, s2, D9, F9, Q9, qx9, qy9, ql9, -1), rfl, po, by rw [ht]; exact hP9, va_K.moved hW.alike hK, hD9⟩, hS.F ht⟩) hS.2.2 dX3_tryInputs_125
      ·
        obtain ⟨n9, hn9⟩ : ∃ n, (6 - i).toNat = n + 1 := ⟨(6 - i).toNat - 1, by omega⟩
        have hn8 : (6 - (i + 1)).toNat = n9 := by omega
        rw [hn9, tiR] at rem
        have rn9 := gS9.2.2.1
        refine lv_aload_n hx hb dX3_tryInputs_38 rfl (lv_at hl 0 rfl) ?_
        refine va_get (D := (dC, dI)) (ci := 3) (v := .ref pr) (C := RX3) (T := TX3) (N := 7) hx hb hts i_3 hown hK hP 0 rfl rfl 3 (by decide) f_24 (fun _ h9 => h9) rfl dX3_tryInputs_39 ?_
        refine lv_iload hx hb dX3_tryInputs_42 (lv_at hl 5 rfl) ?_
        refine lv_bipush (v := zI 12) hx hb dX3_tryInputs_44 (by decide) ?_
        refine lz_irem hx hb dX3_tryInputs_46 (by omega) (by decide) ?_
        refine lv_iload hx hb dX3_tryInputs_47 (lv_at hl 5 rfl) ?_
        refine lv_bipush (v := zI 12) hx hb dX3_tryInputs_49 (by decide) ?_
        refine lz_idiv hx hb dX3_tryInputs_51 (by omega) (by decide) ?_
        refine lv_iload_n hx hb dX3_tryInputs_52 rfl (lv_at hl 2 rfl) ?_
        refine lv_iconst (v := zI 5) hx hb dX3_tryInputs_53 (rfl) ?_
        refine lz_irem hx hb dX3_tryInputs_54 (by omega) (by decide) ?_
        have hPc := hP.sub (ws' := [(pr, .inr (0, [.int (zI qx9), .int (zI qy9), .int (zI ql9)]))]) [1] rfl
        have hDc := hD.sub (ws' := [(pr, .inr (0, [.int (zI qx9), .int (zI qy9), .int (zI ql9)]))]) [1] (by decide) rfl
        have hFc := va_free (wc := [(pr, .inr (0, [.int (zI qx9), .int (zI qy9), .int (zI ql9)]))]) hD hS hA [1] rfl
        refine va_callv (va_runV (As := [.int (zI ((pp / 5) % 12)), .int (zI ((pp / 5) / 12)), .int (zI (pp % 5))]) (rest := []) ⟨hx, hb, hml, hown, hts⟩ (c_X0_place l dC dI cI cZ cL cT cJ H.size pr qx9 qy9 ql9 ((pp / 5) % 12) ((pp / 5) / 12) (pp % 5) ) (cwV 3 hts gX3_tryInputs_X0_place rfl rfl rfl (by decide +kernel) ⟨Nat.le_of_ble_eq_true rfl, Nat.le_of_ble_eq_true rfl⟩) ⟨zP_blind, va_recv hK hPc (ci := 0) (q0 := 0) rfl rfl, zP_pre hPc hDc hK⟩ rfl rfl hl.1 rfl (lv_room (Nat.le_of_ble_eq_true rfl)) dX3_tryInputs_55 ⟨Nat.le_of_ble_eq_true rfl, Nat.le_of_ble_eq_true rfl⟩) hS (fun q _ h => hFc q h) hFc (fun u_5 t H1 locs ht hvm hw hB hz1 hk1 hS => ?_)
        obtain ⟨hP1, hK1, hD1⟩ := hB
        rw [ht] at hP1
        have hP1 : va_P (dC, dI) vwCl [(pr, .inr (0, [.int (zI ((pp / 5) % 12)), .int (zI ((pp / 5) / 12)), .int (zI (pp % 5))]))] H1 := hP1
        obtain ⟨hP, hD⟩ := va_join (wr := [(se, .inr (3, [.ref de, .ref fi, .ref qu, .ref pr, .int (zI n9q), .int (zI s1), .int (zI s2)])), (lv, .inr (1, [.int (zI w), .int (zI h), .ref ka, .ref ta, .int (zI sx), .int (zI sy), .int (zI fx), .int (zI fy), .int (zI lf), .int (zI un)])), zA cI ka 96 K, zA cI de 480 D9, zA cI fi 480 F9, zA cI qu 480 Q9]) (w1 := [(pr, .inr (0, [.int (zI ((pp / 5) % 12)), .int (zI ((pp / 5) / 12)), .int (zI (pp % 5))]))]) hP hD [1] [0, 2, 3, 4, 5, 6] rfl rfl (by decide) (by decide) hk1 hFc hP1 hD1
        clear hP1 hD1 hk1 hFc hPc hDc hz1
        generalize H1 = H at hP hS ⊢
        have hP : va_P (dC, dI) vwCl [(se, .inr (3, [.ref de, .ref fi, .ref qu, .ref pr, .int (zI n9q), .int (zI s1), .int (zI s2)])), (pr, .inr (0, [.int (zI ((pp / 5) % 12)), .int (zI ((pp / 5) / 12)), .int (zI (pp % 5))])), (lv, .inr (1, [.int (zI w), .int (zI h), .ref ka, .ref ta, .int (zI sx), .int (zI sy), .int (zI fx), .int (zI fy), .int (zI lf), .int (zI un)])), zA cI ka 96 K, zA cI de 480 D9, zA cI fi 480 F9, zA cI qu 480 Q9] H := hP.sub [0, 6, 1, 2, 3, 4, 5] rfl
        have hD : va_D A [(se, .inr (3, [.ref de, .ref fi, .ref qu, .ref pr, .int (zI n9q), .int (zI s1), .int (zI s2)])), (pr, .inr (0, [.int (zI ((pp / 5) % 12)), .int (zI ((pp / 5) / 12)), .int (zI (pp % 5))])), (lv, .inr (1, [.int (zI w), .int (zI h), .ref ka, .ref ta, .int (zI sx), .int (zI sy), .int (zI fx), .int (zI fy), .int (zI lf), .int (zI un)])), zA cI ka 96 K, zA cI de 480 D9, zA cI fi 480 F9, zA cI qu 480 Q9] := hD.sub [0, 6, 1, 2, 3, 4, 5] (by decide) rfl
        clear hK1 hvm
        refine W.eq (g2 := F0 m 58 ls []) rfl ?_
        refine lv_aload_n hx hb dX3_tryInputs_58 rfl (lv_at hl 0 rfl) ?_
        refine va_get (D := (dC, dI)) (ci := 3) (v := .ref pr) (C := RX3) (T := TX3) (N := 7) hx hb hts i_3 hown hK hP 0 rfl rfl 3 (by decide) f_24 (fun _ h9 => h9) rfl dX3_tryInputs_59 ?_
        refine lv_aload_n hx hb dX3_tryInputs_62 rfl (lv_at hl 1 rfl) ?_
        refine lv_iload hx hb dX3_tryInputs_63 (lv_at hl 6 rfl) ?_
        have hPc := hP.sub (ws' := [(pr, .inr (0, [.int (zI ((pp / 5) % 12)), .int (zI ((pp / 5) / 12)), .int (zI (pp % 5))])), (lv, .inr (1, [.int (zI w), .int (zI h), .ref ka, .ref ta, .int (zI sx), .int (zI sy), .int (zI fx), .int (zI fy), .int (zI lf), .int (zI un)])), zA cI ka 96 K]) [1, 2, 3] rfl
        have hDc := hD.sub (ws' := [(pr, .inr (0, [.int (zI ((pp / 5) % 12)), .int (zI ((pp / 5) / 12)), .int (zI (pp % 5))])), (lv, .inr (1, [.int (zI w), .int (zI h), .ref ka, .ref ta, .int (zI sx), .int (zI sy), .int (zI fx), .int (zI fy), .int (zI lf), .int (zI un)])), zA cI ka 96 K]) [1, 2, 3] (by decide) rfl
        have hFc := va_free (wc := [(pr, .inr (0, [.int (zI ((pp / 5) % 12)), .int (zI ((pp / 5) / 12)), .int (zI (pp % 5))])), (lv, .inr (1, [.int (zI w), .int (zI h), .ref ka, .ref ta, .int (zI sx), .int (zI sy), .int (zI fx), .int (zI fy), .int (zI lf), .int (zI un)])), zA cI ka 96 K]) hD hS hA [1, 2, 3] rfl
        refine va_calli (va_runV (As := [.ref lv, .int (zI i)]) (rest := []) ⟨hx, hb, hml, hown, hts⟩ (c_X0_move l dC dI cI cZ cL cT cJ H.size pr ((pp / 5) % 12) ((pp / 5) / 12) (pp % 5) lv w h ka ta sx sy fx fy lf un K i (by first | assumption | omega) (by first | assumption | omega) (by first | assumption | omega) (by first | assumption | omega) (by first | assumption | omega) (by first | assumption | omega) (by first | assumption | omega) (by first | assumption | omega) (by first | assumption | omega)) (cwV 2 hts gX3_tryInputs_X0_move rfl rfl rfl (by decide +kernel) ⟨Nat.le_of_ble_eq_true rfl, Nat.le_of_ble_eq_true rfl⟩) ⟨zP_blind, va_recv hK hPc (ci := 0) (q0 := 0) rfl rfl, zP_pre hPc hDc hK⟩ rfl rfl hl.1 rfl (lv_room (Nat.le_of_ble_eq_true rfl)) dX3_tryInputs_65 ⟨Nat.le_of_ble_eq_true rfl, Nat.le_of_ble_eq_true rfl⟩) hS (fun q _ h => hFc q h) hFc (fun r_7 u_7 t H1 locs ht hvm hw hB hz1 hk1 hS => ?_)
        obtain ⟨x1_8, y1_9, l1_10, o1_11⟩ := u_7
        obtain ⟨hP1, hK1, hD1⟩ := hB
        rw [ht] at hP1
        have hP1 : va_P (dC, dI) vwCl [(pr, .inr (0, [.int (zI x1_8), .int (zI y1_9), .int (zI l1_10)])), (lv, .inr (1, [.int (zI w), .int (zI h), .ref ka, .ref ta, .int (zI sx), .int (zI sy), .int (zI fx), .int (zI fy), .int (zI lf), .int (zI un)])), zA cI ka 96 K] H1 := hP1
        obtain ⟨hP, hD⟩ := va_join (wr := [(se, .inr (3, [.ref de, .ref fi, .ref qu, .ref pr, .int (zI n9q), .int (zI s1), .int (zI s2)])), zA cI de 480 D9, zA cI fi 480 F9, zA cI qu 480 Q9]) (w1 := [(pr, .inr (0, [.int (zI x1_8), .int (zI y1_9), .int (zI l1_10)])), (lv, .inr (1, [.int (zI w), .int (zI h), .ref ka, .ref ta, .int (zI sx), .int (zI sy), .int (zI fx), .int (zI fy), .int (zI lf), .int (zI un)])), zA cI ka 96 K]) hP hD [1, 2, 3] [0, 4, 5, 6] rfl rfl (by decide) (by decide) hk1 hFc hP1 hD1
        clear hP1 hD1 hk1 hFc hPc hDc hz1
        generalize H1 = H at hP hS ⊢
        have hP : va_P (dC, dI) vwCl [(se, .inr (3, [.ref de, .ref fi, .ref qu, .ref pr, .int (zI n9q), .int (zI s1), .int (zI s2)])), (pr, .inr (0, [.int (zI x1_8), .int (zI y1_9), .int (zI l1_10)])), (lv, .inr (1, [.int (zI w), .int (zI h), .ref ka, .ref ta, .int (zI sx), .int (zI sy), .int (zI fx), .int (zI fy), .int (zI lf), .int (zI un)])), zA cI ka 96 K, zA cI de 480 D9, zA cI fi 480 F9, zA cI qu 480 Q9] H := hP.sub [0, 4, 5, 6, 1, 2, 3] rfl
        have hD : va_D A [(se, .inr (3, [.ref de, .ref fi, .ref qu, .ref pr, .int (zI n9q), .int (zI s1), .int (zI s2)])), (pr, .inr (0, [.int (zI x1_8), .int (zI y1_9), .int (zI l1_10)])), (lv, .inr (1, [.int (zI w), .int (zI h), .ref ka, .ref ta, .int (zI sx), .int (zI sy), .int (zI fx), .int (zI fy), .int (zI lf), .int (zI un)])), zA cI ka 96 K, zA cI de 480 D9, zA cI fi 480 F9, zA cI qu 480 Q9] := hD.sub [0, 4, 5, 6, 1, 2, 3] (by decide) rfl
        clear hK1 hvm
        obtain ⟨rfl, po_12⟩ := hw
        have po_12 : x1_8 = mvX K w h ((pp / 5) % 12) ((pp / 5) / 12) i ∧ y1_9 = mvY K w h ((pp / 5) % 12) ((pp / 5) / 12) (pp % 5) i ∧ l1_10 = mvL K w h ((pp / 5) % 12) ((pp / 5) / 12) (pp % 5) i ∧ o1_11 = mvO K w h fx fy ((pp / 5) % 12) ((pp / 5) / 12) (pp % 5) i := po_12
        refine W.eq (g2 := F0 m 68 ls [.int (zI o1_11)]) rfl ?_
        have e9 := mv_rng (K := K) (w := w) (h := h) (fx := fx) (fy := fy) (x := pp / 5 % 12) (y := pp / 5 / 12) (li := pp % 5) (i := i) (by omega) (by omega) (by omega)
        rw [← po_12.1, ← po_12.2.1, ← po_12.2.2.1, ← po_12.2.2.2] at e9
        have m9 := po_12
        rw [← m9.1, ← m9.2.1, ← m9.2.2.1, ← m9.2.2.2] at rem
        refine lv_istore (lv' := [(7, .int (zI o1_11)), (0, .ref se), (1, .ref lv), (2, .int (zI pp)), (3, .int (zI dp)), (4, .int (zI (FF pp))), (5, .int (zI (pp / 5))), (6, .int (zI i))]) hx hb dX3_tryInputs_68 hl (by decide) rfl (fun ls hl => ?_)
        refine z_cut (I := fun (x9 : Int) (H9 : Heap) (k9 : List Loc) (ls9 : Array Slot) => match x9 with | fs => (fs = if FF pp = -1 then i else FF pp) ∧ (-1 ≤ fs ∧ fs ≤ 5 ∧ ¬ fs = -1) ∧ va_P (dC, dI) vwCl [(se, .inr (3, [.ref de, .ref fi, .ref qu, .ref pr, .int (zI n9q), .int (zI s1), .int (zI s2)])), (pr, .inr (0, [.int (zI x1_8), .int (zI y1_9), .int (zI l1_10)])), (lv, .inr (1, [.int (zI w), .int (zI h), .ref ka, .ref ta, .int (zI sx), .int (zI sy), .int (zI fx), .int (zI fy), .int (zI lf), .int (zI un)])), zA cI ka 96 K, zA cI de 480 D9, zA cI fi 480 F9, zA cI qu 480 Q9] H9 ∧ va_D A [(se, .inr (3, [.ref de, .ref fi, .ref qu, .ref pr, .int (zI n9q), .int (zI s1), .int (zI s2)])), (pr, .inr (0, [.int (zI x1_8), .int (zI y1_9), .int (zI l1_10)])), (lv, .inr (1, [.int (zI w), .int (zI h), .ref ka, .ref ta, .int (zI sx), .int (zI sy), .int (zI fx), .int (zI fy), .int (zI lf), .int (zI un)])), zA cI ka 96 K, zA cI de 480 D9, zA cI fi 480 F9, zA cI qu 480 Q9] ∧ va_S A s.heap H9 k9 ∧ lv_has ls9 9 [(0, .ref se), (1, .ref lv), (2, .int (zI pp)), (3, .int (zI dp)), (4, .int (zI (FF pp))), (5, .int (zI (pp / 5))), (6, .int (zI i)), (7, .int (zI o1_11))]) (fr := fun (x9 : Int) (ls9 : Array Slot) => match x9 with | fs => F0 m 83 ls9 [.int (zI fs)]) ?_ ?_
        · rintro fs H locs ls ⟨hfs, rfs, hP, hD, hS, hl⟩
          refine W.eq (g2 := F0 m 83 ls [.int (zI fs)]) rfl ?_
          refine lv_istore (lv' := [(8, .int (zI fs)), (0, .ref se), (1, .ref lv), (2, .int (zI pp)), (3, .int (zI dp)), (4, .int (zI (FF pp))), (5, .int (zI (pp / 5))), (6, .int (zI i)), (7, .int (zI o1_11))]) hx hb dX3_tryInputs_83 hl (by decide) rfl (fun ls hl => ?_)
          refine lv_iload hx hb dX3_tryInputs_85 (lv_at hl 8 rfl) ?_
          refine lv_iconst (v := zI 2) hx hb dX3_tryInputs_87 (rfl) ?_
          refine lz_icmp_ne (tgt := 103) hx hb dX3_tryInputs_88 (by decide) (by omega) ⟨by decide, by decide⟩ (fun c_13 => ?_) (fun c_13 => ?_)
          ·
            refine lv_iload hx hb dX3_tryInputs_103 (lv_at hl 8 rfl) ?_
            refine lz_if_ne (tgt := 119) hx hb dX3_tryInputs_105 (by decide) (by omega) (fun c_14 => ?_) (fun c_14 => ?_)
            ·
              refine lz_iinc (z := i + 1) (lv' := [(6, .int (zI (i + 1))), (8, .int (zI fs)), (0, .ref se), (1, .ref lv), (2, .int (zI pp)), (3, .int (zI dp)), (4, .int (zI (FF pp))), (5, .int (zI (pp / 5))), (7, .int (zI o1_11))]) hx hb dX3_tryInputs_119 hl (k := 7) rfl (by omega) (by decide) rfl (fun ls hl => ?_)
              refine lv_goto (tgt := 31) hx hb dX3_tryInputs_122 (by decide) ?_
              exact L_3 (i + 1, x1_8, y1_9, l1_10, n9q, D9, F9, Q9) _ _ _ (by (try dsimp only); omega) ⟨(by omega), (by first | exact gS9 | (rw [po_12.1, po_12.2.1, po_12.2.2.1, po_12.2.2.2]; exact SOK_rc gS9 (vld_plc gw gh (by omega) (by omega) (by omega)) (by omega) (by omega))), (by rw [hn8]; rw [if_neg (by omega)] at rem; first | (rw [if_neg (by omega)] at rem; exact rem) | (rw [if_pos (by omega), ← hfs] at rem; rw [po_12.1, po_12.2.1, po_12.2.2.1, po_12.2.2.2]; exact rem)), hP, hD, hS, lv_sub hl [2, 3, 4, 5, 6, 7, 0] rfl⟩
            ·
              refine lv_aload_n hx hb dX3_tryInputs_108 rfl (lv_at hl 1 rfl) ?_
              refine lv_aload_n hx hb dX3_tryInputs_109 rfl (lv_at hl 1 rfl) ?_
              refine va_get (D := (dC, dI)) (ci := 3) (v := .ref pr) (C := RX3) (T := TX3) (N := 7) hx hb hts i_3 hown hK hP 0 rfl rfl 3 (by decide) f_24 (fun _ h9 => h9) rfl dX3_tryInputs_110 ?_
              refine lv_iload_n hx hb dX3_tryInputs_113 rfl (lv_at hl 4 rfl) ?_
              refine lv_iload hx hb dX3_tryInputs_114 (lv_at hl 0 rfl) ?_
              have hPc := hP.sub (ws' := [(se, .inr (3, [.ref de, .ref fi, .ref qu, .ref pr, .int (zI n9q), .int (zI s1), .int (zI s2)])), (pr, .inr (0, [.int (zI x1_8), .int (zI y1_9), .int (zI l1_10)])), zA cI de 480 D9, zA cI fi 480 F9, zA cI qu 480 Q9]) [0, 1, 4, 5, 6] rfl
              have hDc := hD.sub (ws' := [(se, .inr (3, [.ref de, .ref fi, .ref qu, .ref pr, .int (zI n9q), .int (zI s1), .int (zI s2)])), (pr, .inr (0, [.int (zI x1_8), .int (zI y1_9), .int (zI l1_10)])), zA cI de 480 D9, zA cI fi 480 F9, zA cI qu 480 Q9]) [0, 1, 4, 5, 6] (by decide) rfl
              have hFc := va_free (wc := [(se, .inr (3, [.ref de, .ref fi, .ref qu, .ref pr, .int (zI n9q), .int (zI s1), .int (zI s2)])), (pr, .inr (0, [.int (zI x1_8), .int (zI y1_9), .int (zI l1_10)])), zA cI de 480 D9, zA cI fi 480 F9, zA cI qu 480 Q9]) hD hS hA [0, 1, 4, 5, 6] rfl
              refine va_callv (va_runV (As := [.ref pr, .int (zI dp), .int (zI fs)]) (rest := []) ⟨hx, hb, hml, hown, hts⟩ (c_X3_reach l dC dI cI cZ cL cT cJ H.size se de fi qu pr n9q s1 s2 pr x1_8 y1_9 l1_10 D9 F9 Q9 dp fs w h (by first | assumption | omega) (by first | assumption | omega) (by first | assumption | omega) (by first | assumption | omega) (by first | assumption | omega) (by first | assumption | omega) (by exact gS9.1)) (cwV 3 hts gX3_tryInputs_X3_reach rfl rfl rfl (by decide +kernel) ⟨Nat.le_of_ble_eq_true rfl, Nat.le_of_ble_eq_true rfl⟩) ⟨zP_blind, va_recv hK hPc (ci := 3) (q0 := 0) rfl rfl, zP_pre hPc hDc hK⟩ rfl rfl hl.1 rfl (lv_room (Nat.le_of_ble_eq_true rfl)) dX3_tryInputs_116 ⟨Nat.le_of_ble_eq_true rfl, Nat.le_of_ble_eq_true rfl⟩) hS (fun q _ h => hFc q h) hFc (fun u_15 t H1 locs ht hvm hw hB hz1 hk1 hS => ?_)
              obtain ⟨n1_16, D1_17, F1_18, Q1_19⟩ := u_15
              obtain ⟨hP1, hK1, hD1⟩ := hB
              rw [ht] at hP1
              have hP1 : va_P (dC, dI) vwCl [(se, .inr (3, [.ref de, .ref fi, .ref qu, .ref pr, .int (zI n1_16), .int (zI s1), .int (zI s2)])), (pr, .inr (0, [.int (zI x1_8), .int (zI y1_9), .int (zI l1_10)])), zA cI de 480 D1_17, zA cI fi 480 F1_18, zA cI qu 480 Q1_19] H1 := hP1
              obtain ⟨hP, hD⟩ := va_join (wr := [(lv, .inr (1, [.int (zI w), .int (zI h), .ref ka, .ref ta, .int (zI sx), .int (zI sy), .int (zI fx), .int (zI fy), .int (zI lf), .int (zI un)])), zA cI ka 96 K]) (w1 := [(se, .inr (3, [.ref de, .ref fi, .ref qu, .ref pr, .int (zI n1_16), .int (zI s1), .int (zI s2)])), (pr, .inr (0, [.int (zI x1_8), .int (zI y1_9), .int (zI l1_10)])), zA cI de 480 D1_17, zA cI fi 480 F1_18, zA cI qu 480 Q1_19]) hP hD [0, 1, 4, 5, 6] [2, 3] rfl rfl (by decide) (by decide) hk1 hFc hP1 hD1
              clear hP1 hD1 hk1 hFc hPc hDc hz1
              generalize H1 = H at hP hS ⊢
              have hP : va_P (dC, dI) vwCl [(se, .inr (3, [.ref de, .ref fi, .ref qu, .ref pr, .int (zI n1_16), .int (zI s1), .int (zI s2)])), (pr, .inr (0, [.int (zI x1_8), .int (zI y1_9), .int (zI l1_10)])), (lv, .inr (1, [.int (zI w), .int (zI h), .ref ka, .ref ta, .int (zI sx), .int (zI sy), .int (zI fx), .int (zI fy), .int (zI lf), .int (zI un)])), zA cI ka 96 K, zA cI de 480 D1_17, zA cI fi 480 F1_18, zA cI qu 480 Q1_19] H := hP.sub [2, 3, 0, 1, 4, 5, 6] rfl
              have hD : va_D A [(se, .inr (3, [.ref de, .ref fi, .ref qu, .ref pr, .int (zI n1_16), .int (zI s1), .int (zI s2)])), (pr, .inr (0, [.int (zI x1_8), .int (zI y1_9), .int (zI l1_10)])), (lv, .inr (1, [.int (zI w), .int (zI h), .ref ka, .ref ta, .int (zI sx), .int (zI sy), .int (zI fx), .int (zI fy), .int (zI lf), .int (zI un)])), zA cI ka 96 K, zA cI de 480 D1_17, zA cI fi 480 F1_18, zA cI qu 480 Q1_19] := hD.sub [2, 3, 0, 1, 4, 5, 6] (by decide) rfl
              clear hK1 hvm
              have po_20 : n1_16 = rcN D9 n9q (plc x1_8 y1_9 l1_10) ∧ D1_17 = rcD D9 n9q (plc x1_8 y1_9 l1_10) dp ∧ F1_18 = rcF D9 F9 n9q (plc x1_8 y1_9 l1_10) fs ∧ Q1_19 = rcQ D9 Q9 n9q (plc x1_8 y1_9 l1_10) := hw
              refine W.eq (g2 := F0 m 119 ls []) rfl ?_
              refine lz_iinc (z := i + 1) (lv' := [(6, .int (zI (i + 1))), (8, .int (zI fs)), (0, .ref se), (1, .ref lv), (2, .int (zI pp)), (3, .int (zI dp)), (4, .int (zI (FF pp))), (5, .int (zI (pp / 5))), (7, .int (zI o1_11))]) hx hb dX3_tryInputs_119 hl (k := 7) rfl (by omega) (by decide) rfl (fun ls hl => ?_)
              refine lv_goto (tgt := 31) hx hb dX3_tryInputs_122 (by decide) ?_
              exact L_3 (i + 1, x1_8, y1_9, l1_10, n1_16, D1_17, F1_18, Q1_19) _ _ _ (by (try dsimp only); omega) ⟨(by omega), (by first | exact gS9 | (rw [po_20.1, po_20.2.1, po_20.2.2.1, po_20.2.2.2]; exact SOK_rc gS9 (vld_plc gw gh (by omega) (by omega) (by omega)) (by omega) (by omega))), (by rw [hn8]; rw [if_neg (by omega)] at rem; first | (rw [if_neg (by omega)] at rem; exact rem) | (rw [if_pos (by omega), ← hfs] at rem; rw [po_20.1, po_20.2.1, po_20.2.2.1, po_20.2.2.2]; exact rem)), hP, hD, hS, lv_sub hl [2, 3, 4, 5, 6, 7, 0] rfl⟩
          ·
            refine lv_aload_n hx hb dX3_tryInputs_91 rfl (lv_at hl 1 rfl) ?_
            refine lv_iload_n hx hb dX3_tryInputs_92 rfl (lv_at hl 4 rfl) ?_
            refine va_put (D := (dC, dI)) (ci := 3) (v := .int (zI dp)) (ty := .int) (C := RX3) (T := TX3) (N := 7) hx hb hts i_3 tyX3 tyX3_ok nmX3 hown hK hP hD hS 0 rfl rfl 5 (by decide) f_32 (fun _ h9 => h9) rfl (by decide +kernel) rfl rfl (Nat.le_of_ble_eq_true rfl) dX3_tryInputs_93 (fun H locs hP hD hS => ?_)
            have hP : va_P (dC, dI) vwCl [(se, .inr (3, [.ref de, .ref fi, .ref qu, .ref pr, .int (zI n9q), .int (zI dp), .int (zI s2)])), (pr, .inr (0, [.int (zI x1_8), .int (zI y1_9), .int (zI l1_10)])), (lv, .inr (1, [.int (zI w), .int (zI h), .ref ka, .ref ta, .int (zI sx), .int (zI sy), .int (zI fx), .int (zI fy), .int (zI lf), .int (zI un)])), zA cI ka 96 K, zA cI de 480 D9, zA cI fi 480 F9, zA cI qu 480 Q9] H := hP
            have hD : va_D A [(se, .inr (3, [.ref de, .ref fi, .ref qu, .ref pr, .int (zI n9q), .int (zI dp), .int (zI s2)])), (pr, .inr (0, [.int (zI x1_8), .int (zI y1_9), .int (zI l1_10)])), (lv, .inr (1, [.int (zI w), .int (zI h), .ref ka, .ref ta, .int (zI sx), .int (zI sy), .int (zI fx), .int (zI fy), .int (zI lf), .int (zI un)])), zA cI ka 96 K, zA cI de 480 D9, zA cI fi 480 F9, zA cI qu 480 Q9] := hD
            refine lv_aload_n hx hb dX3_tryInputs_96 rfl (lv_at hl 1 rfl) ?_
            refine lv_iload hx hb dX3_tryInputs_97 (lv_at hl 0 rfl) ?_
            refine va_put (D := (dC, dI)) (ci := 3) (v := .int (zI fs)) (ty := .int) (C := RX3) (T := TX3) (N := 7) hx hb hts i_3 tyX3 tyX3_ok nmX3 hown hK hP hD hS 0 rfl rfl 6 (by decide) f_35 (fun _ h9 => h9) rfl (by decide +kernel) rfl rfl (Nat.le_of_ble_eq_true rfl) dX3_tryInputs_99 (fun H locs hP hD hS => ?_)
            have hP : va_P (dC, dI) vwCl [(se, .inr (3, [.ref de, .ref fi, .ref qu, .ref pr, .int (zI n9q), .int (zI dp), .int (zI fs)])), (pr, .inr (0, [.int (zI x1_8), .int (zI y1_9), .int (zI l1_10)])), (lv, .inr (1, [.int (zI w), .int (zI h), .ref ka, .ref ta, .int (zI sx), .int (zI sy), .int (zI fx), .int (zI fy), .int (zI lf), .int (zI un)])), zA cI ka 96 K, zA cI de 480 D9, zA cI fi 480 F9, zA cI qu 480 Q9] H := hP
            have hD : va_D A [(se, .inr (3, [.ref de, .ref fi, .ref qu, .ref pr, .int (zI n9q), .int (zI dp), .int (zI fs)])), (pr, .inr (0, [.int (zI x1_8), .int (zI y1_9), .int (zI l1_10)])), (lv, .inr (1, [.int (zI w), .int (zI h), .ref ka, .ref ta, .int (zI sx), .int (zI sy), .int (zI fx), .int (zI fy), .int (zI lf), .int (zI un)])), zA cI ka 96 K, zA cI de 480 D9, zA cI fi 480 F9, zA cI qu 480 Q9] := hD
            have hP9 := hP.sub (ws' := [(se, .inr (3, [.ref de, .ref fi, .ref qu, .ref pr, .int (zI n9q), .int (zI dp), .int (zI fs)])), (pr, .inr (0, [.int (zI x1_8), .int (zI y1_9), .int (zI l1_10)])), (lv, .inr (1, [.int (zI w), .int (zI h), .ref ka, .ref ta, .int (zI sx), .int (zI sy), .int (zI fx), .int (zI fy), .int (zI lf), .int (zI un)])), zA cI ka 96 K, zA cI de 480 D9, zA cI fi 480 F9, zA cI qu 480 Q9]) [0, 1, 2, 3, 4, 5, 6] rfl
            have hD9 := hD.sub (ws' := [(se, .inr (3, [.ref de, .ref fi, .ref qu, .ref pr, .int (zI n9q), .int (zI dp), .int (zI fs)])), (pr, .inr (0, [.int (zI x1_8), .int (zI y1_9), .int (zI l1_10)])), (lv, .inr (1, [.int (zI w), .int (zI h), .ref ka, .ref ta, .int (zI sx), .int (zI sy), .int (zI fx), .int (zI fy), .int (zI lf), .int (zI un)])), zA cI ka 96 K, zA cI de 480 D9, zA cI fi 480 F9, zA cI qu 480 Q9]) [0, 1, 2, 3, 4, 5, 6] (by decide) rfl
            have po : ((D9, F9, Q9, n9q, fs) = tiR K w h fx fy (pp / 5 % 12) (pp / 5 / 12) (pp % 5) dp (FF pp) 6 0 DD FF QQ qd ∧ dp = (if fs = -1 then s1 else dp) ∧ fs = (if fs = -1 then s2 else fs)) := by
              rw [if_pos (by omega), ← hfs] at rem
              exact ⟨rem, by rw [if_neg (by omega)], by rw [if_neg (by omega)]⟩
            exact W.vret hx hb hr (fun t ht hW => ⟨⟨(n9q, dp, fs, D9, F9, Q9, x1_8, y1_9, l1_10, fs), rfl, po, by rw [ht]; exact hP9, va_K.moved hW.alike hK, hD9⟩, hS.F ht⟩) hS.2.2 dX3_tryInputs_102
        intro J_21
        refine lv_iload hx hb dX3_tryInputs_70 (lv_at hl 5 rfl) ?_
        refine lv_iconst (v := zI (-1)) hx hb dX3_tryInputs_72 (rfl) ?_
        refine lz_icmp_ne (tgt := 81) hx hb dX3_tryInputs_73 (by decide) (by omega) ⟨by decide, by decide⟩ (fun c_22 => ?_) (fun c_22 => ?_)
        ·
          refine lv_iload hx hb dX3_tryInputs_81 (lv_at hl 5 rfl) ?_
          exact J_21 (FF pp) _ _ _ ⟨(by (first | rw [if_pos (by omega)] | rw [if_neg (by omega)])), (by omega), hP, hD, hS, lv_sub hl [1, 2, 3, 4, 5, 6, 7, 0] rfl⟩
        ·
          refine lv_iload hx hb dX3_tryInputs_76 (lv_at hl 7 rfl) ?_
          refine lv_goto (tgt := 83) hx hb dX3_tryInputs_78 (by decide) ?_
          exact J_21 i _ _ _ ⟨(by (first | rw [if_pos (by omega)] | rw [if_neg (by omega)])), (by omega), hP, hD, hS, lv_sub hl [1, 2, 3, 4, 5, 6, 7, 0] rfl⟩
    · exact absurd c_2 (by omega)
set_option maxHeartbeats 4000000 in
set_option maxRecDepth 100000 in
/-- Search.findWin -/
theorem c_X3_findWin (l : Launch) (dC : Nat → ClassId) (dI : Nat → Nat → Nat) (cI cZ cL cT cJ : ClassId) (sz : Nat) (se : Nat) (de : Nat) (fi : Nat) (qu : Nat) (pr : Nat) (qd : Int) (s1 : Int) (s2 : Int) (DD : Int → Int) (FF : Int → Int) (QQ : Int → Int) (lv : Nat) (w : Int) (h : Int) (ka : Nat) (ta : Nat) (sx : Int) (sy : Int) (fx : Int) (fy : Int) (lf : Int) (un : Int) (K : Int → Int) (he : Nat) (x : Int) (y : Int) (li : Int) (qx : Int) (qy : Int) (ql : Int) (lm : Int) (gw : 0 < w ∧ w ≤ 12) (gh : 0 < h ∧ h ≤ 8) (gK : Kin K) (gx : 0 ≤ x ∧ x < w) (gy : 0 ≤ y ∧ y < h) (gl : 0 ≤ li ∧ li ≤ 4) (gf : -2147483648 ≤ fx ∧ fx < 2147483648) (gf2 : -2147483648 ≤ fy ∧ fy < 2147483648) (gD : Din DD) (gFF : Fin6 FF) (glm : 0 ≤ lm ∧ lm ≤ 100) : Met l yX3_findWin wsX3_findWin ({ frames := 4, cells := 0, slots := 0, locals := 97 }) (zP (dC, dI) (zT cI cZ cL cT cJ) sz [.ref se, .ref lv, .ref he, .int (zI lm)] [(se, .inr (3, [.ref de, .ref fi, .ref qu, .ref pr, .int (zI qd), .int (zI s1), .int (zI s2)])), (pr, .inr (0, [.int (zI qx), .int (zI qy), .int (zI ql)])), (lv, .inr (1, [.int (zI w), .int (zI h), .ref ka, .ref ta, .int (zI sx), .int (zI sy), .int (zI fx), .int (zI fy), .int (zI lf), .int (zI un)])), zA cI ka 96 K, zA cI de 480 DD, zA cI fi 480 FF, zA cI qu 480 QQ, (he, .inr (0, [.int (zI x), .int (zI y), .int (zI li)]))]) (va_Qv (fun (u9 : Int × Int × Int × (Int → Int) × (Int → Int) × (Int → Int) × Int × Int × Int) => match u9 with | (n1, s11, s21, D1, F1, Q1, qx1, qy1, ql1) => (Din D1 ∧ Fin6 F1 ∧ ∃ D0 F0 Q0, Din D0 ∧ Fin6 F0 ∧ (∀ j, 0 ≤ j → j < 480 → D0 j = -1) ∧ (s11, s21) = fwT K w h fx fy lm (plc x y li) D0 F0 Q0)) (zB (dC, dI) (zT cI cZ cL cT cJ) (va_A [(se, .inr (3, [.ref de, .ref fi, .ref qu, .ref pr, .int (zI qd), .int (zI s1), .int (zI s2)])), (pr, .inr (0, [.int (zI qx), .int (zI qy), .int (zI ql)])), (lv, .inr (1, [.int (zI w), .int (zI h), .ref ka, .ref ta, .int (zI sx), .int (zI sy), .int (zI fx), .int (zI fy), .int (zI lf), .int (zI un)])), zA cI ka 96 K, zA cI de 480 DD, zA cI fi 480 FF, zA cI qu 480 QQ, (he, .inr (0, [.int (zI x), .int (zI y), .int (zI li)]))] sz) (fun (u9 : Int × Int × Int × (Int → Int) × (Int → Int) × (Int → Int) × Int × Int × Int) => match u9 with | (n1, s11, s21, D1, F1, Q1, qx1, qy1, ql1) => [(se, .inr (3, [.ref de, .ref fi, .ref qu, .ref pr, .int (zI n1), .int (zI s11), .int (zI s21)])), (pr, .inr (0, [.int (zI qx1), .int (zI qy1), .int (zI ql1)])), (lv, .inr (1, [.int (zI w), .int (zI h), .ref ka, .ref ta, .int (zI sx), .int (zI sy), .int (zI fx), .int (zI fy), .int (zI lf), .int (zI un)])), zA cI ka 96 K, zA cI de 480 D1, zA cI fi 480 F1, zA cI qu 480 Q1, (he, .inr (0, [.int (zI x), .int (zI y), .int (zI li)]))])) (va_A [(se, .inr (3, [.ref de, .ref fi, .ref qu, .ref pr, .int (zI qd), .int (zI s1), .int (zI s2)])), (pr, .inr (0, [.int (zI qx), .int (zI qy), .int (zI ql)])), (lv, .inr (1, [.int (zI w), .int (zI h), .ref ka, .ref ta, .int (zI sx), .int (zI sy), .int (zI fx), .int (zI fy), .int (zI lf), .int (zI un)])), zA cI ka 96 K, zA cI de 480 DD, zA cI fi 480 FF, zA cI qu 480 QQ, (he, .inr (0, [.int (zI x), .int (zI y), .int (zI li)]))] sz)) 0 0 (va_A [(se, .inr (3, [.ref de, .ref fi, .ref qu, .ref pr, .int (zI qd), .int (zI s1), .int (zI s2)])), (pr, .inr (0, [.int (zI qx), .int (zI qy), .int (zI ql)])), (lv, .inr (1, [.int (zI w), .int (zI h), .ref ka, .ref ta, .int (zI sx), .int (zI sy), .int (zI fx), .int (zI fy), .int (zI lf), .int (zI un)])), zA cI ka 96 K, zA cI de 480 DD, zA cI fi 480 FF, zA cI qu 480 QQ, (he, .inr (0, [.int (zI x), .int (zI y), .int (zI li)]))] sz) := by
  refine Met.ofW (cc := cX3_findWin) (maxL := 6) (ret := none) (by decide) rfl ?_
  intro p e s m args below meth c s₁ B hml hv
  obtain ⟨rfl, hsz, hP, hK, hD0⟩ := hv
  have hx := B.exec
  have hb := B.bytes
  have hr := B.returns
  have hts := atoms_spec (ws := wsX3_findWin) B.pre
  have hown : s.vm.findClass RX3 = some m.cls := findClass_of_methodNamed B.named
  have hlocks := B.notSynchronized
  subst hsz
  have hD := hD0.self (sz := s.heap.size)
  generalize hAe : va_A [(se, .inr (3, [.ref de, .ref fi, .ref qu, .ref pr, .int (zI qd), .int (zI s1), .int (zI s2)])), (pr, .inr (0, [.int (zI qx), .int (zI qy), .int (zI ql)])), (lv, .inr (1, [.int (zI w), .int (zI h), .ref ka, .ref ta, .int (zI sx), .int (zI sy), .int (zI fx), .int (zI fy), .int (zI lf), .int (zI un)])), zA cI ka 96 K, zA cI de 480 DD, zA cI fi 480 FF, zA cI qu 480 QQ, (he, .inr (0, [.int (zI x), .int (zI y), .int (zI li)]))] s.heap.size = A at hD ⊢
  have hA : ∀ q : Nat, s.heap.size ≤ q → A q := fun q h => by rw [← hAe]; exact Or.inr h
  clear hAe hD0
  have hS : va_S A s.heap s.heap [] := va_S.rf
  have hP : va_P (dC, dI) vwCl [(se, .inr (3, [.ref de, .ref fi, .ref qu, .ref pr, .int (zI qd), .int (zI s1), .int (zI s2)])), (pr, .inr (0, [.int (zI qx), .int (zI qy), .int (zI ql)])), (lv, .inr (1, [.int (zI w), .int (zI h), .ref ka, .ref ta, .int (zI sx), .int (zI sy), .int (zI fx), .int (zI fy), .int (zI lf), .int (zI un)])), zA cI ka 96 K, zA cI de 480 DD, zA cI fi 480 FF, zA cI qu 480 QQ, (he, .inr (0, [.int (zI x), .int (zI y), .int (zI li)]))] s.heap := hP
  have f_11 := hts (.fieldLink RX3 11 "SpringLevels$Search" "depths" "[I") (by decide +kernel)
  have f_18 := hts (.fieldLink RX3 18 "SpringLevels$Search" "queue" "[I") (by decide +kernel)
  have f_28 := hts (.fieldLink RX3 28 "SpringLevels$Search" "queued" "I") (by decide +kernel)
  have f_32 := hts (.fieldLink RX3 32 "SpringLevels$Search" "leastFrames" "I") (by decide +kernel)
  have i_3 : ∀ w ∈ wsX30, w ∈ wsX3_findWin := by decide +kernel
  have hl := lv_entry ([.ref se, .ref lv, .ref he, .int (zI lm)]) (n := 6) (Nat.le_of_ble_eq_true rfl)
  rw [lg_entry_eq]
  generalize (lg_sl ([.ref se, .ref lv, .ref he, .int (zI lm)]) ++ List.replicate (6 - (lg_sl ([.ref se, .ref lv, .ref he, .int (zI lm)])).length) Slot.unset).toArray = ls at hl ⊢
  have hl : lv_has ls 6 [(0, .ref se), (1, .ref lv), (2, .ref he), (3, .int (zI lm))] := hl
  refine lv_aload_n hx hb dX3_findWin_0 rfl (lv_at hl 0 rfl) ?_
  have hPc := hP.sub (ws' := [(se, .inr (3, [.ref de, .ref fi, .ref qu, .ref pr, .int (zI qd), .int (zI s1), .int (zI s2)]))]) [0] rfl
  have hDc := hD.sub (ws' := [(se, .inr (3, [.ref de, .ref fi, .ref qu, .ref pr, .int (zI qd), .int (zI s1), .int (zI s2)]))]) [0] (by decide) rfl
  have hFc := va_free (wc := [(se, .inr (3, [.ref de, .ref fi, .ref qu, .ref pr, .int (zI qd), .int (zI s1), .int (zI s2)]))]) hD hS hA [0] rfl
  refine va_callv (va_runV (As := []) (rest := []) ⟨hx, hb, hml, hown, hts⟩ (c_X3_findNothing l dC dI cI cZ cL cT cJ s.heap.size se de fi qu pr qd s1 s2 ) (cwV 0 hts gX3_findWin_X3_findNothing rfl rfl rfl (by decide +kernel) ⟨Nat.le_of_ble_eq_true rfl, Nat.le_of_ble_eq_true rfl⟩) ⟨zP_blind, va_recv hK hPc (ci := 3) (q0 := 0) rfl rfl, zP_pre hPc hDc hK⟩ rfl rfl hl.1 rfl (lv_room (Nat.le_of_ble_eq_true rfl)) dX3_findWin_1 ⟨Nat.le_of_ble_eq_true rfl, Nat.le_of_ble_eq_true rfl⟩) hS (fun q _ h => hFc q h) hFc (fun u_1 t H1 locs ht hvm hw hB hz1 hk1 hS => ?_)
  obtain ⟨hP1, hK1, hD1⟩ := hB
  rw [ht] at hP1
  have hP1 : va_P (dC, dI) vwCl [(se, .inr (3, [.ref de, .ref fi, .ref qu, .ref pr, .int (zI qd), .int (zI (-1)), .int (zI (-1))]))] H1 := hP1
  obtain ⟨hP, hD⟩ := va_join (wr := [(pr, .inr (0, [.int (zI qx), .int (zI qy), .int (zI ql)])), (lv, .inr (1, [.int (zI w), .int (zI h), .ref ka, .ref ta, .int (zI sx), .int (zI sy), .int (zI fx), .int (zI fy), .int (zI lf), .int (zI un)])), zA cI ka 96 K, zA cI de 480 DD, zA cI fi 480 FF, zA cI qu 480 QQ, (he, .inr (0, [.int (zI x), .int (zI y), .int (zI li)]))]) (w1 := [(se, .inr (3, [.ref de, .ref fi, .ref qu, .ref pr, .int (zI qd), .int (zI (-1)), .int (zI (-1))]))]) hP hD [0] [1, 2, 3, 4, 5, 6, 7] rfl rfl (by decide) (by decide) hk1 hFc hP1 hD1
  clear hP1 hD1 hk1 hFc hPc hDc hz1
  generalize H1 = H at hP hS ⊢
  have hP : va_P (dC, dI) vwCl [(se, .inr (3, [.ref de, .ref fi, .ref qu, .ref pr, .int (zI qd), .int (zI (-1)), .int (zI (-1))])), (pr, .inr (0, [.int (zI qx), .int (zI qy), .int (zI ql)])), (lv, .inr (1, [.int (zI w), .int (zI h), .ref ka, .ref ta, .int (zI sx), .int (zI sy), .int (zI fx), .int (zI fy), .int (zI lf), .int (zI un)])), zA cI ka 96 K, zA cI de 480 DD, zA cI fi 480 FF, zA cI qu 480 QQ, (he, .inr (0, [.int (zI x), .int (zI y), .int (zI li)]))] H := hP.sub [7, 0, 1, 2, 3, 4, 5, 6] rfl
  have hD : va_D A [(se, .inr (3, [.ref de, .ref fi, .ref qu, .ref pr, .int (zI qd), .int (zI (-1)), .int (zI (-1))])), (pr, .inr (0, [.int (zI qx), .int (zI qy), .int (zI ql)])), (lv, .inr (1, [.int (zI w), .int (zI h), .ref ka, .ref ta, .int (zI sx), .int (zI sy), .int (zI fx), .int (zI fy), .int (zI lf), .int (zI un)])), zA cI ka 96 K, zA cI de 480 DD, zA cI fi 480 FF, zA cI qu 480 QQ, (he, .inr (0, [.int (zI x), .int (zI y), .int (zI li)]))] := hD.sub [7, 0, 1, 2, 3, 4, 5, 6] (by decide) rfl
  clear hK1 hvm
  refine W.eq (g2 := F0 m 4 ls []) rfl ?_
  refine lv_aload_n hx hb dX3_findWin_4 rfl (lv_at hl 0 rfl) ?_
  have hPc := hP.sub (ws' := [(se, .inr (3, [.ref de, .ref fi, .ref qu, .ref pr, .int (zI qd), .int (zI (-1)), .int (zI (-1))])), zA cI de 480 DD]) [0, 4] rfl
  have hDc := hD.sub (ws' := [(se, .inr (3, [.ref de, .ref fi, .ref qu, .ref pr, .int (zI qd), .int (zI (-1)), .int (zI (-1))])), zA cI de 480 DD]) [0, 4] (by decide) rfl
  have hFc := va_free (wc := [(se, .inr (3, [.ref de, .ref fi, .ref qu, .ref pr, .int (zI qd), .int (zI (-1)), .int (zI (-1))])), zA cI de 480 DD]) hD hS hA [0, 4] rfl
  refine va_callv (va_runV (As := []) (rest := []) ⟨hx, hb, hml, hown, hts⟩ (c_X3_forgetPlaces l dC dI cI cZ cL cT cJ H.size se de fi qu pr qd (-1) (-1) DD (by first | assumption | omega)) (cwV 0 hts gX3_findWin_X3_forgetPlaces rfl rfl rfl (by decide +kernel) ⟨Nat.le_of_ble_eq_true rfl, Nat.le_of_ble_eq_true rfl⟩) ⟨zP_blind, va_recv hK hPc (ci := 3) (q0 := 0) rfl rfl, zP_pre hPc hDc hK⟩ rfl rfl hl.1 rfl (lv_room (Nat.le_of_ble_eq_true rfl)) dX3_findWin_5 ⟨Nat.le_of_ble_eq_true rfl, Nat.le_of_ble_eq_true rfl⟩) hS (fun q _ h => hFc q h) hFc (fun u_3 t H1 locs ht hvm hw hB hz1 hk1 hS => ?_)
  obtain ⟨D1_4, rfl⟩ : ∃ z, z = u_3 := ⟨_, rfl⟩
  obtain ⟨hP1, hK1, hD1⟩ := hB
  rw [ht] at hP1
  have hP1 : va_P (dC, dI) vwCl [(se, .inr (3, [.ref de, .ref fi, .ref qu, .ref pr, .int (zI 0), .int (zI (-1)), .int (zI (-1))])), zA cI de 480 D1_4] H1 := hP1
  obtain ⟨hP, hD⟩ := va_join (wr := [(pr, .inr (0, [.int (zI qx), .int (zI qy), .int (zI ql)])), (lv, .inr (1, [.int (zI w), .int (zI h), .ref ka, .ref ta, .int (zI sx), .int (zI sy), .int (zI fx), .int (zI fy), .int (zI lf), .int (zI un)])), zA cI ka 96 K, zA cI fi 480 FF, zA cI qu 480 QQ, (he, .inr (0, [.int (zI x), .int (zI y), .int (zI li)]))]) (w1 := [(se, .inr (3, [.ref de, .ref fi, .ref qu, .ref pr, .int (zI 0), .int (zI (-1)), .int (zI (-1))])), zA cI de 480 D1_4]) hP hD [0, 4] [1, 2, 3, 5, 6, 7] rfl rfl (by decide) (by decide) hk1 hFc hP1 hD1
  clear hP1 hD1 hk1 hFc hPc hDc hz1
  generalize H1 = H at hP hS ⊢
  have hP : va_P (dC, dI) vwCl [(se, .inr (3, [.ref de, .ref fi, .ref qu, .ref pr, .int (zI 0), .int (zI (-1)), .int (zI (-1))])), (pr, .inr (0, [.int (zI qx), .int (zI qy), .int (zI ql)])), (lv, .inr (1, [.int (zI w), .int (zI h), .ref ka, .ref ta, .int (zI sx), .int (zI sy), .int (zI fx), .int (zI fy), .int (zI lf), .int (zI un)])), zA cI ka 96 K, zA cI de 480 D1_4, zA cI fi 480 FF, zA cI qu 480 QQ, (he, .inr (0, [.int (zI x), .int (zI y), .int (zI li)]))] H := hP.sub [6, 0, 1, 2, 7, 3, 4, 5] rfl
  have hD : va_D A [(se, .inr (3, [.ref de, .ref fi, .ref qu, .ref pr, .int (zI 0), .int (zI (-1)), .int (zI (-1))])), (pr, .inr (0, [.int (zI qx), .int (zI qy), .int (zI ql)])), (lv, .inr (1, [.int (zI w), .int (zI h), .ref ka, .ref ta, .int (zI sx), .int (zI sy), .int (zI fx), .int (zI fy), .int (zI lf), .int (zI un)])), zA cI ka 96 K, zA cI de 480 D1_4, zA cI fi 480 FF, zA cI qu 480 QQ, (he, .inr (0, [.int (zI x), .int (zI y), .int (zI li)]))] := hD.sub [6, 0, 1, 2, 7, 3, 4, 5] (by decide) rfl
  clear hK1 hvm
  have po_5 : Din D1_4 ∧ ∀ j, 0 ≤ j → j < 480 → D1_4 j = -1 := hw
  refine W.eq (g2 := F0 m 8 ls []) rfl ?_
  have z9 := po_5
  refine lv_aload_n hx hb dX3_findWin_8 rfl (lv_at hl 0 rfl) ?_
  refine lv_aload_n hx hb dX3_findWin_9 rfl (lv_at hl 2 rfl) ?_
  refine lv_iconst (v := zI 0) hx hb dX3_findWin_10 (rfl) ?_
  refine lv_iconst (v := zI (-1)) hx hb dX3_findWin_11 (rfl) ?_
  have hPc := hP.sub (ws' := [(se, .inr (3, [.ref de, .ref fi, .ref qu, .ref pr, .int (zI 0), .int (zI (-1)), .int (zI (-1))])), (he, .inr (0, [.int (zI x), .int (zI y), .int (zI li)])), zA cI de 480 D1_4, zA cI fi 480 FF, zA cI qu 480 QQ]) [0, 7, 4, 5, 6] rfl
  have hDc := hD.sub (ws' := [(se, .inr (3, [.ref de, .ref fi, .ref qu, .ref pr, .int (zI 0), .int (zI (-1)), .int (zI (-1))])), (he, .inr (0, [.int (zI x), .int (zI y), .int (zI li)])), zA cI de 480 D1_4, zA cI fi 480 FF, zA cI qu 480 QQ]) [0, 7, 4, 5, 6] (by decide) rfl
  have hFc := va_free (wc := [(se, .inr (3, [.ref de, .ref fi, .ref qu, .ref pr, .int (zI 0), .int (zI (-1)), .int (zI (-1))])), (he, .inr (0, [.int (zI x), .int (zI y), .int (zI li)])), zA cI de 480 D1_4, zA cI fi 480 FF, zA cI qu 480 QQ]) hD hS hA [0, 7, 4, 5, 6] rfl
  refine va_callv (va_runV (As := [.ref he, .int (zI 0), .int (zI (-1))]) (rest := []) ⟨hx, hb, hml, hown, hts⟩ (c_X3_reach l dC dI cI cZ cL cT cJ H.size se de fi qu pr 0 (-1) (-1) he x y li D1_4 FF QQ 0 (-1) w h (by first | assumption | omega) (by first | assumption | omega) (by first | assumption | omega) (by first | assumption | omega) (by first | assumption | omega) (by first | assumption | omega) (by exact po_5.1)) (cwV 3 hts gX3_findWin_X3_reach rfl rfl rfl (by decide +kernel) ⟨Nat.le_of_ble_eq_true rfl, Nat.le_of_ble_eq_true rfl⟩) ⟨zP_blind, va_recv hK hPc (ci := 3) (q0 := 0) rfl rfl, zP_pre hPc hDc hK⟩ rfl rfl hl.1 rfl (lv_room (Nat.le_of_ble_eq_true rfl)) dX3_findWin_12 ⟨Nat.le_of_ble_eq_true rfl, Nat.le_of_ble_eq_true rfl⟩) hS (fun q _ h => hFc q h) hFc (fun u_6 t H1 locs ht hvm hw hB hz1 hk1 hS => ?_)
  obtain ⟨n1_7, D1_8, F1_9, Q1_10⟩ := u_6
  obtain ⟨hP1, hK1, hD1⟩ := hB
  rw [ht] at hP1
  have hP1 : va_P (dC, dI) vwCl [(se, .inr (3, [.ref de, .ref fi, .ref qu, .ref pr, .int (zI n1_7), .int (zI (-1)), .int (zI (-1))])), (he, .inr (0, [.int (zI x), .int (zI y), .int (zI li)])), zA cI de 480 D1_8, zA cI fi 480 F1_9, zA cI qu 480 Q1_10] H1 := hP1
  obtain ⟨hP, hD⟩ := va_join (wr := [(pr, .inr (0, [.int (zI qx), .int (zI qy), .int (zI ql)])), (lv, .inr (1, [.int (zI w), .int (zI h), .ref ka, .ref ta, .int (zI sx), .int (zI sy), .int (zI fx), .int (zI fy), .int (zI lf), .int (zI un)])), zA cI ka 96 K]) (w1 := [(se, .inr (3, [.ref de, .ref fi, .ref qu, .ref pr, .int (zI n1_7), .int (zI (-1)), .int (zI (-1))])), (he, .inr (0, [.int (zI x), .int (zI y), .int (zI li)])), zA cI de 480 D1_8, zA cI fi 480 F1_9, zA cI qu 480 Q1_10]) hP hD [0, 7, 4, 5, 6] [1, 2, 3] rfl rfl (by decide) (by decide) hk1 hFc hP1 hD1
  clear hP1 hD1 hk1 hFc hPc hDc hz1
  generalize H1 = H at hP hS ⊢
  have hP : va_P (dC, dI) vwCl [(se, .inr (3, [.ref de, .ref fi, .ref qu, .ref pr, .int (zI n1_7), .int (zI (-1)), .int (zI (-1))])), (pr, .inr (0, [.int (zI qx), .int (zI qy), .int (zI ql)])), (lv, .inr (1, [.int (zI w), .int (zI h), .ref ka, .ref ta, .int (zI sx), .int (zI sy), .int (zI fx), .int (zI fy), .int (zI lf), .int (zI un)])), zA cI ka 96 K, zA cI de 480 D1_8, zA cI fi 480 F1_9, zA cI qu 480 Q1_10, (he, .inr (0, [.int (zI x), .int (zI y), .int (zI li)]))] H := hP.sub [3, 0, 1, 2, 5, 6, 7, 4] rfl
  have hD : va_D A [(se, .inr (3, [.ref de, .ref fi, .ref qu, .ref pr, .int (zI n1_7), .int (zI (-1)), .int (zI (-1))])), (pr, .inr (0, [.int (zI qx), .int (zI qy), .int (zI ql)])), (lv, .inr (1, [.int (zI w), .int (zI h), .ref ka, .ref ta, .int (zI sx), .int (zI sy), .int (zI fx), .int (zI fy), .int (zI lf), .int (zI un)])), zA cI ka 96 K, zA cI de 480 D1_8, zA cI fi 480 F1_9, zA cI qu 480 Q1_10, (he, .inr (0, [.int (zI x), .int (zI y), .int (zI li)]))] := hD.sub [3, 0, 1, 2, 5, 6, 7, 4] (by decide) rfl
  clear hK1 hvm
  have po_11 : n1_7 = rcN D1_4 (0 : Int) (plc x y li) ∧ D1_8 = rcD D1_4 (0 : Int) (plc x y li) (0 : Int) ∧ F1_9 = rcF D1_4 FF (0 : Int) (plc x y li) (-1 : Int) ∧ Q1_10 = rcQ D1_4 QQ (0 : Int) (plc x y li) := hw
  refine W.eq (g2 := F0 m 15 ls []) rfl ?_
  have vp := vld_plc (li := li) gw gh gx gy gl
  have zp : D1_4 (plc x y li) = -1 := z9.2 _ vp.1 vp.2.1
  have e1 : n1_7 = 1 := by rw [po_11.1, rcN, if_pos ⟨by omega, zp⟩]; rfl
  have e2 : D1_8 = zu D1_4 (plc x y li) 0 := by rw [po_11.2.1, rcD, if_pos ⟨by omega, zp⟩]
  have e3 : F1_9 = zu FF (plc x y li) (-1) := by rw [po_11.2.2.1, rcF, if_pos ⟨by omega, zp⟩]
  have e4 : Q1_10 = zu QQ 0 (plc x y li) := by rw [po_11.2.2.2, rcQ, if_pos ⟨by omega, zp⟩]
  have tot : fwT K w h fx fy lm (plc x y li) D1_4 FF QQ = fwR K w h fx fy lm 480 0 D1_8 F1_9 Q1_10 n1_7 := by rw [e1, e2, e3, e4]; rfl
  have gS : SOK w h D1_8 F1_9 Q1_10 n1_7 := by
    rw [e1, e2, e3, e4]
    refine ⟨Din_zu z9.1 (by omega), Fin6_zu gFF (by omega), by omega, fun k k0 k1 => ?_⟩
    rw [show k = 0 by omega, zu_same]
    exact vp
  refine lv_iconst (v := zI 0) hx hb dX3_findWin_15 (rfl) ?_
  refine lv_istore (lv' := [(4, .int (zI 0)), (0, .ref se), (1, .ref lv), (2, .ref he), (3, .int (zI lm))]) hx hb dX3_findWin_16 hl (by decide) rfl (fun ls hl => ?_)
  refine z_loop (μ := fun (x9 : Int × Int × Int × Int × (Int → Int) × (Int → Int) × (Int → Int) × Int × Int × Int) => match x9 with | (nx, n9, u1, u2, D9, F9, Q9, qx9, qy9, ql9) => (480 - nx).toNat) (I := fun (x9 : Int × Int × Int × Int × (Int → Int) × (Int → Int) × (Int → Int) × Int × Int × Int) (H9 : Heap) (k9 : List Loc) (ls9 : Array Slot) => match x9 with | (nx, n9, u1, u2, D9, F9, Q9, qx9, qy9, ql9) => (0 ≤ nx ∧ nx ≤ 480) ∧ (SOK w h D9 F9 Q9 n9) ∧ (-1 ≤ u1 ∧ u1 ≤ 101 ∧ (u1 = -1 → u2 = -1)) ∧ ((if u1 = -1 then fwR K w h fx fy lm (480 - nx).toNat nx D9 F9 Q9 n9 else (u1, u2)) = fwT K w h fx fy lm (plc x y li) D1_4 FF QQ) ∧ va_P (dC, dI) vwCl [(se, .inr (3, [.ref de, .ref fi, .ref qu, .ref pr, .int (zI n9), .int (zI u1), .int (zI u2)])), (pr, .inr (0, [.int (zI qx9), .int (zI qy9), .int (zI ql9)])), (lv, .inr (1, [.int (zI w), .int (zI h), .ref ka, .ref ta, .int (zI sx), .int (zI sy), .int (zI fx), .int (zI fy), .int (zI lf), .int (zI un)])), zA cI ka 96 K, zA cI de 480 D9, zA cI fi 480 F9, zA cI qu 480 Q9, (he, .inr (0, [.int (zI x), .int (zI y), .int (zI li)]))] H9 ∧ va_D A [(se, .inr (3, [.ref de, .ref fi, .ref qu, .ref pr, .int (zI n9), .int (zI u1), .int (zI u2)])), (pr, .inr (0, [.int (zI qx9), .int (zI qy9), .int (zI ql9)])), (lv, .inr (1, [.int (zI w), .int (zI h), .ref ka, .ref ta, .int (zI sx), .int (zI sy), .int (zI fx), .int (zI fy), .int (zI lf), .int (zI un)])), zA cI ka 96 K, zA cI de 480 D9, zA cI fi 480 F9, zA cI qu 480 Q9, (he, .inr (0, [.int (zI x), .int (zI y), .int (zI li)]))] ∧ va_S A s.heap H9 k9 ∧ lv_has ls9 6 [(0, .ref se), (1, .ref lv), (2, .ref he), (3, .int (zI lm)), (4, .int (zI nx))]) (fr := fun (x9 : Int × Int × Int × Int × (Int → Int) × (Int → Int) × (Int → Int) × Int × Int × Int) (ls9 : Array Slot) => match x9 with | (nx, n9, u1, u2, D9, F9, Q9, qx9, qy9, ql9) => F0 m 18 ls9 []) ?_ (0, n1_7, -1, -1, D1_8, F1_9, Q1_10, qx, qy, ql) ⟨(by omega), (by exact gS), (by (refine ⟨by omega, by omega, fun _ => rfl⟩)), (by rw [if_pos rfl]; exact tot.symm), hP, hD, hS, lv_sub hl [1, 2, 3, 4, 0] rfl⟩
  rintro ⟨nx, n9, u1, u2, D9, F9, Q9, qx9, qy9, ql9⟩ H locs ls ⟨rnx, gS9, ru, rem, hP, hD, hS, hl⟩ L_12
  refine W.eq (g2 := F0 m 18 ls []) rfl ?_
  refine lv_iload hx hb dX3_findWin_18 (lv_at hl 4 rfl) ?_
  have rn9 := gS9.2.2.1
  refine lv_aload_n hx hb dX3_findWin_20 rfl (lv_at hl 0 rfl) ?_
  refine va_get (D := (dC, dI)) (ci := 3) (v := .int (zI n9)) (C := RX3) (T := TX3) (N := 7) hx hb hts i_3 hown hK hP 0 rfl rfl 4 (by decide) f_28 (fun _ h9 => h9) rfl dX3_findWin_21 ?_
  refine lz_icmp_ge (tgt := 99) hx hb dX3_findWin_24 (by decide) (by omega) (by omega) (fun c_13 => ?_) (fun c_13 => ?_)
  ·
    have hP9 := hP.sub (ws' := [(se, .inr (3, [.ref de, .ref fi, .ref qu, .ref pr, .int (zI n9), .int (zI u1), .int (zI u2)])), (pr, .inr (0, [.int (zI qx9), .int (zI qy9), .int (zI ql9)])), (lv, .inr (1, [.int (zI w), .int (zI h), .ref ka, .ref ta, .int (zI sx), .int (zI sy), .int (zI fx), .int (zI fy), .int (zI lf), .int (zI un)])), zA cI ka 96 K, zA cI de 480 D9, zA cI fi 480 F9, zA cI qu 480 Q9, (he, .inr (0, [.int (zI x), .int (zI y), .int (zI li)]))]) [0, 1, 2, 3, 4, 5, 6, 7] rfl
    have hD9 := hD.sub (ws' := [(se, .inr (3, [.ref de, .ref fi, .ref qu, .ref pr, .int (zI n9), .int (zI u1), .int (zI u2)])), (pr, .inr (0, [.int (zI qx9), .int (zI qy9), .int (zI ql9)])), (lv, .inr (1, [.int (zI w), .int (zI h), .ref ka, .ref ta, .int (zI sx), .int (zI sy), .int (zI fx), .int (zI fy), .int (zI lf), .int (zI un)])), zA cI ka 96 K, zA cI de 480 D9, zA cI fi 480 F9, zA cI qu 480 Q9, (he, .inr (0, [.int (zI x), .int (zI y), .int (zI li)]))]) [0, 1, 2, 3, 4, 5, 6, 7] (by decide) rfl
    have po : (Din D9 ∧ Fin6 F9 ∧ ∃ D0 F0 Q0, Din D0 ∧ Fin6 F0 ∧ (∀ j, 0 ≤ j → j < 480 → D0 j = -1) ∧ (u1, u2) = fwT K w h fx fy lm (plc x y li) D0 F0 Q0) := by
      refine ⟨gS9.1, gS9.2.1, D1_4, FF, QQ, z9.1, gFF, z9.2, ?_⟩
      rw [← rem]
      by_cases h7 : u1 = -1
      · rw [if_pos h7, h7, ru.2.2 h7]
        rcases h8 : (480 - nx).toNat with _ | n7
        · rfl
        · rw [fwR, if_neg (by omega)]
      · rw [if_neg h7]
    exact W.vret hx hb hr (fun t ht hW => ⟨⟨(n9, u1, u2, D9, F9, Q9, qx9, qy9, ql9), rfl, po, by rw [ht]; exact hP9, va_K.moved hW.alike hK, hD9⟩, hS.F ht⟩) hS.2.2 dX3_findWin_99
  ·
    obtain ⟨n8, hn8⟩ : ∃ n, (480 - nx).toNat = n + 1 := ⟨(480 - nx).toNat - 1, by omega⟩
    have hn7 : (480 - (nx + 1)).toNat = n8 := by omega
    refine lv_iload hx hb dX3_findWin_27 (lv_at hl 4 rfl) ?_
    refine lv_sipush (v := zI 480) hx hb dX3_findWin_29 (by decide) ?_
    refine lz_icmp_ge (tgt := 99) hx hb dX3_findWin_32 (by decide) (by omega) ⟨by decide, by decide⟩ (fun c_14 => ?_) (fun c_14 => ?_)
    ·
      have hP9 := hP.sub (ws' := [(se, .inr (3, [.ref de, .ref fi, .ref qu, .ref pr, .int (zI n9), .int (zI u1), .int (zI u2)])), (pr, .inr (0, [.int (zI qx9), .int (zI qy9), .int (zI ql9)])), (lv, .inr (1, [.int (zI w), .int (zI h), .ref ka, .ref ta, .int (zI sx), .int (zI sy), .int (zI fx), .int (zI fy), .int (zI lf), .int (zI un)])), zA cI ka 96 K, zA cI de 480 D9, zA cI fi 480 F9, zA cI qu 480 Q9, (he, .inr (0, [.int (zI x), .int (zI y), .int (zI li)]))]) [0, 1, 2, 3, 4, 5, 6, 7] rfl
      have hD9 := hD.sub (ws' := [(se, .inr (3, [.ref de, .ref fi, .ref qu, .ref pr, .int (zI n9), .int (zI u1), .int (zI u2)])), (pr, .inr (0, [.int (zI qx9), .int (zI qy9), .int (zI ql9)])), (lv, .inr (1, [.int (zI w), .int (zI h), .ref ka, .ref ta, .int (zI sx), .int (zI sy), .int (zI fx), .int (zI fy), .int (zI lf), .int (zI un)])), zA cI ka 96 K, zA cI de 480 D9, zA cI fi 480 F9, zA cI qu 480 Q9, (he, .inr (0, [.int (zI x), .int (zI y), .int (zI li)]))]) [0, 1, 2, 3, 4, 5, 6, 7] (by decide) rfl
      have po : (Din D9 ∧ Fin6 F9 ∧ ∃ D0 F0 Q0, Din D0 ∧ Fin6 F0 ∧ (∀ j, 0 ≤ j → j < 480 → D0 j = -1) ∧ (u1, u2) = fwT K w h fx fy lm (plc x y li) D0 F0 Q0) := by
        refine ⟨gS9.1, gS9.2.1, D1_4, FF, QQ, z9.1, gFF, z9.2, ?_⟩
        rw [← rem]
        by_cases h7 : u1 = -1
        · rw [if_pos h7, h7, ru.2.2 h7]
          rcases h8 : (480 - nx).toNat with _ | n7
          · rfl
          · rw [fwR, if_neg (by omega)]
        · rw [if_neg h7]
      exact W.vret hx hb hr (fun t ht hW => ⟨⟨(n9, u1, u2, D9, F9, Q9, qx9, qy9, ql9), rfl, po, by rw [ht]; exact hP9, va_K.moved hW.alike hK, hD9⟩, hS.F ht⟩) hS.2.2 dX3_findWin_99
    ·
      refine lv_aload_n hx hb dX3_findWin_35 rfl (lv_at hl 0 rfl) ?_
      refine va_get (D := (dC, dI)) (ci := 3) (v := .int (zI u1)) (C := RX3) (T := TX3) (N := 7) hx hb hts i_3 hown hK hP 0 rfl rfl 5 (by decide) f_32 (fun _ h9 => h9) rfl dX3_findWin_36 ?_
      refine lv_iconst (v := zI (-1)) hx hb dX3_findWin_39 (rfl) ?_
      refine lz_icmp_ne (tgt := 99) hx hb dX3_findWin_40 (by decide) (by omega) ⟨by decide, by decide⟩ (fun c_15 => ?_) (fun c_15 => ?_)
      ·
        have hP9 := hP.sub (ws' := [(se, .inr (3, [.ref de, .ref fi, .ref qu, .ref pr, .int (zI n9), .int (zI u1), .int (zI u2)])), (pr, .inr (0, [.int (zI qx9), .int (zI qy9), .int (zI ql9)])), (lv, .inr (1, [.int (zI w), .int (zI h), .ref ka, .ref ta, .int (zI sx), .int (zI sy), .int (zI fx), .int (zI fy), .int (zI lf), .int (zI un)])), zA cI ka 96 K, zA cI de 480 D9, zA cI fi 480 F9, zA cI qu 480 Q9, (he, .inr (0, [.int (zI x), .int (zI y), .int (zI li)]))]) [0, 1, 2, 3, 4, 5, 6, 7] rfl
        have hD9 := hD.sub (ws' := [(se, .inr (3, [.ref de, .ref fi, .ref qu, .ref pr, .int (zI n9), .int (zI u1), .int (zI u2)])), (pr, .inr (0, [.int (zI qx9), .int (zI qy9), .int (zI ql9)])), (lv, .inr (1, [.int (zI w), .int (zI h), .ref ka, .ref ta, .int (zI sx), .int (zI sy), .int (zI fx), .int (zI fy), .int (zI lf), .int (zI un)])), zA cI ka 96 K, zA cI de 480 D9, zA cI fi 480 F9, zA cI qu 480 Q9, (he, .inr (0, [.int (zI x), .int (zI y), .int (zI li)]))]) [0, 1, 2, 3, 4, 5, 6, 7] (by decide) rfl
        have po : (Din D9 ∧ Fin6 F9 ∧ ∃ D0 F0 Q0, Din D0 ∧ Fin6 F0 ∧ (∀ j, 0 ≤ j → j < 480 → D0 j = -1) ∧ (u1, u2) = fwT K w h fx fy lm (plc x y li) D0 F0 Q0) := by
          refine ⟨gS9.1, gS9.2.1, D1_4, FF, QQ, z9.1, gFF, z9.2, ?_⟩
          rw [← rem]
          by_cases h7 : u1 = -1
          · rw [if_pos h7, h7, ru.2.2 h7]
            rcases h8 : (480 - nx).toNat with _ | n7
            · rfl
            · rw [fwR, if_neg (by omega)]
          · rw [if_neg h7]
        exact W.vret hx hb hr (fun t ht hW => ⟨⟨(n9, u1, u2, D9, F9, Q9, qx9, qy9, ql9), rfl, po, by rw [ht]; exact hP9, va_K.moved hW.alike hK, hD9⟩, hS.F ht⟩) hS.2.2 dX3_findWin_99
      ·
        have e7 : u1 = -1 := by omega
        rw [if_pos e7, hn8, fwR, if_pos (by omega)] at rem
        have vq := gS9.2.2.2 nx (by omega) (by omega)
        obtain ⟨vq1, vq2, vq3, vq4⟩ := id vq
        have dq := gS9.1 (Q9 nx)
        have fq := gS9.2.1 (Q9 nx)
        refine lv_aload_n hx hb dX3_findWin_43 rfl (lv_at hl 0 rfl) ?_
        refine va_get (D := (dC, dI)) (ci := 3) (v := .ref qu) (C := RX3) (T := TX3) (N := 7) hx hb hts i_3 hown hK hP 0 rfl rfl 2 (by decide) f_18 (fun _ h9 => h9) rfl dX3_findWin_44 ?_
        refine lv_iload hx hb dX3_findWin_47 (lv_at hl 4 rfl) ?_
        refine lz_iald (F := Q9) (i := nx) hx hb hK hP 6 0 rfl rfl (by omega) (by omega) (by decide) dX3_findWin_49 ?_
        refine lv_istore (lv' := [(5, .int (zI (Q9 nx))), (0, .ref se), (1, .ref lv), (2, .ref he), (3, .int (zI lm)), (4, .int (zI nx))]) hx hb dX3_findWin_50 hl (by decide) rfl (fun ls hl => ?_)
        refine lv_iload hx hb dX3_findWin_52 (lv_at hl 0 rfl) ?_
        refine lz_if_lt (tgt := 76) hx hb dX3_findWin_54 (by decide) (by omega) (fun c_16 => ?_) (fun c_16 => ?_)
        · exact absurd c_16 (by omega)
        ·
          refine lv_iload hx hb dX3_findWin_57 (lv_at hl 0 rfl) ?_
          refine lv_sipush (v := zI 480) hx hb dX3_findWin_59 (by decide) ?_
          refine lz_icmp_ge (tgt := 76) hx hb dX3_findWin_62 (by decide) (by omega) ⟨by decide, by decide⟩ (fun c_17 => ?_) (fun c_17 => ?_)
          · exact absurd c_17 (by omega)
          ·
            refine lv_aload_n hx hb dX3_findWin_65 rfl (lv_at hl 1 rfl) ?_
            refine va_get (D := (dC, dI)) (ci := 3) (v := .ref de) (C := RX3) (T := TX3) (N := 7) hx hb hts i_3 hown hK hP 0 rfl rfl 0 (by decide) f_11 (fun _ h9 => h9) rfl dX3_findWin_66 ?_
            refine lv_iload hx hb dX3_findWin_69 (lv_at hl 0 rfl) ?_
            refine lz_iald (F := D9) (i := Q9 nx) hx hb hK hP 4 0 rfl rfl (by omega) (by omega) (by decide) dX3_findWin_71 ?_
            refine lv_iload_n hx hb dX3_findWin_72 rfl (lv_at hl 4 rfl) ?_
            refine lz_icmp_lt (tgt := 77) hx hb dX3_findWin_73 (by decide) (by omega) (by omega) (fun c_18 => ?_) (fun c_18 => ?_)
            ·
              refine lv_aload_n hx hb dX3_findWin_77 rfl (lv_at hl 1 rfl) ?_
              refine lv_aload_n hx hb dX3_findWin_78 rfl (lv_at hl 2 rfl) ?_
              refine lv_iload hx hb dX3_findWin_79 (lv_at hl 0 rfl) ?_
              refine lv_aload_n hx hb dX3_findWin_81 rfl (lv_at hl 1 rfl) ?_
              refine va_get (D := (dC, dI)) (ci := 3) (v := .ref de) (C := RX3) (T := TX3) (N := 7) hx hb hts i_3 hown hK hP 0 rfl rfl 0 (by decide) f_11 (fun _ h9 => h9) rfl dX3_findWin_82 ?_
              refine lv_iload hx hb dX3_findWin_85 (lv_at hl 0 rfl) ?_
              refine lz_iald (F := D9) (i := Q9 nx) hx hb hK hP 4 0 rfl rfl (by omega) (by omega) (by decide) dX3_findWin_87 ?_
              refine lv_iconst (v := zI 1) hx hb dX3_findWin_88 (rfl) ?_
              refine lz_iadd (z := (D9 (Q9 nx)) + 1) hx hb dX3_findWin_89 (by rfl) ?_
              have hPc := hP.sub (ws' := [(se, .inr (3, [.ref de, .ref fi, .ref qu, .ref pr, .int (zI n9), .int (zI u1), .int (zI u2)])), (pr, .inr (0, [.int (zI qx9), .int (zI qy9), .int (zI ql9)])), (lv, .inr (1, [.int (zI w), .int (zI h), .ref ka, .ref ta, .int (zI sx), .int (zI sy), .int (zI fx), .int (zI fy), .int (zI lf), .int (zI un)])), zA cI ka 96 K, zA cI de 480 D9, zA cI fi 480 F9, zA cI qu 480 Q9]) [0, 1, 2, 3, 4, 5, 6] rfl
              have hDc := hD.sub (ws' := [(se, .inr (3, [.ref de, .ref fi, .ref qu, .ref pr, .int (zI n9), .int (zI u1), .int (zI u2)])), (pr, .inr (0, [.int (zI qx9), .int (zI qy9), .int (zI ql9)])), (lv, .inr (1, [.int (zI w), .int (zI h), .ref ka, .ref ta, .int (zI sx), .int (zI sy), .int (zI fx), .int (zI fy), .int (zI lf), .int (zI un)])), zA cI ka 96 K, zA cI de 480 D9, zA cI fi 480 F9, zA cI qu 480 Q9]) [0, 1, 2, 3, 4, 5, 6] (by decide) rfl
              have hFc := va_free (wc := [(se, .inr (3, [.ref de, .ref fi, .ref qu, .ref pr, .int (zI n9), .int (zI u1), .int (zI u2)])), (pr, .inr (0, [.int (zI qx9), .int (zI qy9), .int (zI ql9)])), (lv, .inr (1, [.int (zI w), .int (zI h), .ref ka, .ref ta, .int (zI sx), .int (zI sy), .int (zI fx), .int (zI fy), .int (zI lf), .int (zI un)])), zA cI ka 96 K, zA cI de 480 D9, zA cI fi 480 F9, zA cI qu 480 Q9]) hD hS hA [0, 1, 2, 3, 4, 5, 6] rfl
              refine va_callv (va_runV (As := [.ref lv, .int (zI (Q9 nx)), .int (zI ((D9 (Q9 nx)) + 1))]) (rest := []) ⟨hx, hb, hml, hown, hts⟩ (c_X3_tryInputs l dC dI cI cZ cL cT cJ H.size se de fi qu pr n9 u1 u2 D9 F9 Q9 lv w h ka ta sx sy fx fy lf un K qx9 qy9 ql9 (Q9 nx) ((D9 (Q9 nx)) + 1) (by first | assumption | omega) (by first | assumption | omega) (by first | assumption | omega) (by first | assumption | omega) (by first | assumption | omega) (by exact vq) (by first | assumption | omega) (by exact gS9)) (cwV 3 hts gX3_findWin_X3_tryInputs rfl rfl rfl (by decide +kernel) ⟨Nat.le_of_ble_eq_true rfl, Nat.le_of_ble_eq_true rfl⟩) ⟨zP_blind, va_recv hK hPc (ci := 3) (q0 := 0) rfl rfl, zP_pre hPc hDc hK⟩ rfl rfl hl.1 rfl (lv_room (Nat.le_of_ble_eq_true rfl)) dX3_findWin_90 ⟨Nat.le_of_ble_eq_true rfl, Nat.le_of_ble_eq_true rfl⟩) hS (fun q _ h => hFc q h) hFc (fun u_19 t H1 locs ht hvm hw hB hz1 hk1 hS => ?_)
              obtain ⟨n1_20, s11_21, s21_22, D1_23, F1_24, Q1_25, qx1_26, qy1_27, ql1_28, ff_29⟩ := u_19
              obtain ⟨hP1, hK1, hD1⟩ := hB
              rw [ht] at hP1
              have hP1 : va_P (dC, dI) vwCl [(se, .inr (3, [.ref de, .ref fi, .ref qu, .ref pr, .int (zI n1_20), .int (zI s11_21), .int (zI s21_22)])), (pr, .inr (0, [.int (zI qx1_26), .int (zI qy1_27), .int (zI ql1_28)])), (lv, .inr (1, [.int (zI w), .int (zI h), .ref ka, .ref ta, .int (zI sx), .int (zI sy), .int (zI fx), .int (zI fy), .int (zI lf), .int (zI un)])), zA cI ka 96 K, zA cI de 480 D1_23, zA cI fi 480 F1_24, zA cI qu 480 Q1_25] H1 := hP1
              obtain ⟨hP, hD⟩ := va_join (wr := [(he, .inr (0, [.int (zI x), .int (zI y), .int (zI li)]))]) (w1 := [(se, .inr (3, [.ref de, .ref fi, .ref qu, .ref pr, .int (zI n1_20), .int (zI s11_21), .int (zI s21_22)])), (pr, .inr (0, [.int (zI qx1_26), .int (zI qy1_27), .int (zI ql1_28)])), (lv, .inr (1, [.int (zI w), .int (zI h), .ref ka, .ref ta, .int (zI sx), .int (zI sy), .int (zI fx), .int (zI fy), .int (zI lf), .int (zI un)])), zA cI ka 96 K, zA cI de 480 D1_23, zA cI fi 480 F1_24, zA cI qu 480 Q1_25]) hP hD [0, 1, 2, 3, 4, 5, 6] [7] rfl rfl (by decide) (by decide) hk1 hFc hP1 hD1
              clear hP1 hD1 hk1 hFc hPc hDc hz1
              generalize H1 = H at hP hS ⊢
              have hP : va_P (dC, dI) vwCl [(se, .inr (3, [.ref de, .ref fi, .ref qu, .ref pr, .int (zI n1_20), .int (zI s11_21), .int (zI s21_22)])), (pr, .inr (0, [.int (zI qx1_26), .int (zI qy1_27), .int (zI ql1_28)])), (lv, .inr (1, [.int (zI w), .int (zI h), .ref ka, .ref ta, .int (zI sx), .int (zI sy), .int (zI fx), .int (zI fy), .int (zI lf), .int (zI un)])), zA cI ka 96 K, zA cI de 480 D1_23, zA cI fi 480 F1_24, zA cI qu 480 Q1_25, (he, .inr (0, [.int (zI x), .int (zI y), .int (zI li)]))] H := hP.sub [1, 2, 3, 4, 5, 6, 7, 0] rfl
              have hD : va_D A [(se, .inr (3, [.ref de, .ref fi, .ref qu, .ref pr, .int (zI n1_20), .int (zI s11_21), .int (zI s21_22)])), (pr, .inr (0, [.int (zI qx1_26), .int (zI qy1_27), .int (zI ql1_28)])), (lv, .inr (1, [.int (zI w), .int (zI h), .ref ka, .ref ta, .int (zI sx), .int (zI sy), .int (zI fx), .int (zI fy), .int (zI lf), .int (zI un)])), zA cI ka 96 K, zA cI de 480 D1_23, zA cI fi 480 F1_24, zA cI qu 480 Q1_25, (he, .inr (0, [.int (zI x), .int (zI y), .int (zI li)]))] := hD.sub [1, 2, 3, 4, 5, 6, 7, 0] (by decide) rfl
              clear hK1 hvm
              have po_30 : (D1_23, F1_24, Q1_25, n1_20, ff_29) = tiR K w h fx fy ((Q9 nx) / 5 % 12) ((Q9 nx) / 5 / 12) ((Q9 nx) % 5) ((D9 (Q9 nx)) + 1) (F9 (Q9 nx)) 6 0 D9 F9 Q9 n9 ∧ s11_21 = (if ff_29 = -1 then u1 else ((D9 (Q9 nx)) + 1)) ∧ s21_22 = (if ff_29 = -1 then u2 else ff_29) := hw
              refine W.eq (g2 := F0 m 93 ls []) rfl ?_
              have o9 := tiR_ok gw gh (by omega) (by omega) (by omega) (by omega) (by omega) 6 0 _ _ _ _ (by omega) (by omega) gS9 _ _ _ _ _ po_30.1
              have p9 := po_30.1
              refine lz_iinc (z := nx + 1) (lv' := [(4, .int (zI (nx + 1))), (5, .int (zI (Q9 nx))), (0, .ref se), (1, .ref lv), (2, .ref he), (3, .int (zI lm))]) hx hb dX3_findWin_93 hl (k := 5) rfl (by omega) (by decide) rfl (fun ls hl => ?_)
              refine lv_goto (tgt := 18) hx hb dX3_findWin_96 (by decide) ?_
              exact L_12 (nx + 1, n1_20, s11_21, s21_22, D1_23, F1_24, Q1_25, qx1_26, qy1_27, ql1_28) _ _ _ (by (try dsimp only); omega) ⟨(by omega), (by exact o9.1), (by (have q1 := po_30.2.1; have q2 := po_30.2.2; refine ⟨?_, ?_, ?_⟩ <;> (split at q1 <;> split at q2 <;> omega))), (by 
          rw [if_neg (by omega)] at rem
          rw [← p9] at rem
          have q1 := po_30.2.1
          have q2 := po_30.2.2
          by_cases hf9 : ff_29 = -1
          · rw [if_pos hf9] at rem q1 q2
            rw [if_pos (by omega), hn7]
            exact rem
          · rw [if_neg hf9] at rem q1 q2
            rw [if_neg (by omega), q1, q2]
            exact rem), hP, hD, hS, lv_sub hl [2, 3, 4, 5, 0] rfl⟩
            ·
              have hP9 := hP.sub (ws' := [(se, .inr (3, [.ref de, .ref fi, .ref qu, .ref pr, .int (zI n9), .int (zI u1), .int (zI u2)])), (pr, .inr (0, [.int (zI qx9), .int (zI qy9), .int (zI ql9)])), (lv, .inr (1, [.int (zI w), .int (zI h), .ref ka, .ref ta, .int (zI sx), .int (zI sy), .int (zI fx), .int (zI fy), .int (zI lf), .int (zI un)])), zA cI ka 96 K, zA cI de 480 D9, zA cI fi 480 F9, zA cI qu 480 Q9, (he, .inr (0, [.int (zI x), .int (zI y), .int (zI li)]))]) [0, 1, 2, 3, 4, 5, 6, 7] rfl
              have hD9 := hD.sub (ws' := [(se, .inr (3, [.ref de, .ref fi, .ref qu, .ref pr, .int (zI n9), .int (zI u1), .int (zI u2)])), (pr, .inr (0, [.int (zI qx9), .int (zI qy9), .int (zI ql9)])), (lv, .inr (1, [.int (zI w), .int (zI h), .ref ka, .ref ta, .int (zI sx), .int (zI sy), .int (zI fx), .int (zI fy), .int (zI lf), .int (zI un)])), zA cI ka 96 K, zA cI de 480 D9, zA cI fi 480 F9, zA cI qu 480 Q9, (he, .inr (0, [.int (zI x), .int (zI y), .int (zI li)]))]) [0, 1, 2, 3, 4, 5, 6, 7] (by decide) rfl
              have po : (Din D9 ∧ Fin6 F9 ∧ ∃ D0 F0 Q0, Din D0 ∧ Fin6 F0 ∧ (∀ j, 0 ≤ j → j < 480 → D0 j = -1) ∧ (u1, u2) = fwT K w h fx fy lm (plc x y li) D0 F0 Q0) := by
                refine ⟨gS9.1, gS9.2.1, D1_4, FF, QQ, z9.1, gFF, z9.2, ?_⟩
                rw [if_pos (by omega)] at rem
                rw [← rem]
                rw [show u1 = -1 by omega, ru.2.2 (by omega)]
              exact W.vret hx hb hr (fun t ht hW => ⟨⟨(n9, u1, u2, D9, F9, Q9, qx9, qy9, ql9), rfl, po, by rw [ht]; exact hP9, va_K.moved hW.alike hK, hD9⟩, hS.F ht⟩) hS.2.2 dX3_findWin_76
