set_option maxHeartbeats 4000000 in
set_option maxRecDepth 100000 in
theorem c_X6_in (l : Launch) (dC : Nat → ClassId) (dI : Nat → Nat → Nat) (cI cZ cL cT cJ : ClassId) (sz : Nat) (v : Int) (a : Int) (b : Int) (r9v : -2147483648 ≤ v ∧ v < 2147483648) (r9a : -2147483648 ≤ a ∧ a < 2147483648) (r9b : -2147483648 ≤ b ∧ b < 2147483648) : Met l yX6_in wsX6_in ({ frames := 0, cells := 0, slots := 0, locals := 0 }) (zP (dC, dI) (zT cI cZ cL cT cJ) sz [.int (zI v), .int (zI a), .int (zI b)] []) (va_Qi (fun (r9 : Int32) (u9 : Int) => match u9 with | r => r9 = zI r ∧ ((r = 1 ∧ a ≤ v ∧ v ≤ b) ∨ (r = 0 ∧ ¬ (a ≤ v ∧ v ≤ b)))) (zB (dC, dI) (zT cI cZ cL cT cJ) (va_A [] sz) (fun (u9 : Int) => match u9 with | r => [])) (va_A [] sz)) 0 0 (va_A [] sz) := by
  refine Met.ofW (cc := cX6_in) (maxL := 3) (ret := (some .boolean)) (by decide) rfl ?_
  intro p e s m args below meth c s₁ B hml hv
  obtain ⟨rfl, hsz, hP, hK, hD0⟩ := hv
  have hx := B.exec
  have hb := B.bytes
  have hr := B.returns
  have hts := atoms_spec (ws := wsX6_in) B.pre
  have hown : s.vm.findClass RX6 = some m.cls := findClass_of_methodNamed B.named
  have hlocks := B.notSynchronized
  subst hsz
  have hD := hD0.self (sz := s.heap.size)
  generalize hAe : va_A [] s.heap.size = A at hD ⊢
  have hA : ∀ q : Nat, s.heap.size ≤ q → A q := fun q h => by rw [← hAe]; exact Or.inr h
  clear hAe hD0
  have hS : va_S A s.heap s.heap [] := va_S.rf
  have hP : va_P (dC, dI) vwCl [] s.heap := hP
  have hl := lv_entry ([.int (zI v), .int (zI a), .int (zI b)]) (n := 3) (Nat.le_of_ble_eq_true rfl)
  rw [lg_entry_eq]
  generalize (lg_sl ([.int (zI v), .int (zI a), .int (zI b)]) ++ List.replicate (3 - (lg_sl ([.int (zI v), .int (zI a), .int (zI b)])).length) Slot.unset).toArray = ls at hl ⊢
  have hl : lv_has ls 3 [(0, .int (zI v)), (1, .int (zI a)), (2, .int (zI b))] := hl
  refine lv_iload_n hx hb dX6_in_0 rfl (lv_at hl 0 rfl) ?_
  refine lv_iload_n hx hb dX6_in_1 rfl (lv_at hl 1 rfl) ?_
  refine lz_icmp_lt (tgt := 14) hx hb dX6_in_2 (by decide) (by omega) (by omega) (fun c_1 => ?_) (fun c_1 => ?_)
  ·
    refine lv_iconst (v := zI 0) hx hb dX6_in_14 (rfl) ?_
    have hP9 := hP.sub (ws' := []) [] rfl
    have hD9 := hD.sub (ws' := []) [] (by decide) rfl
    have po : zI 0 = zI (0 : Int) ∧ (((0 : Int) = 1 ∧ a ≤ v ∧ v ≤ b) ∨ ((0 : Int) = 0 ∧ ¬ (a ≤ v ∧ v ≤ b))) := by
      refine ⟨by first | rfl | (congr 1; omega) | (congr 1; simp [*]), ?_⟩
      omega
    exact W.zret (v := zI 0) hx hb hr (by first | rfl | decide | exact zI_nz (by omega)) (fun t ht hW => ⟨⟨zI 0, 0, rfl, po, by rw [ht]; exact hP9, va_K.moved hW.alike hK, hD9⟩, hS.F ht⟩) hS.2.2 dX6_in_15
  ·
    refine lv_iload_n hx hb dX6_in_5 rfl (lv_at hl 0 rfl) ?_
    refine lv_iload_n hx hb dX6_in_6 rfl (lv_at hl 2 rfl) ?_
    refine lz_icmp_gt (tgt := 14) hx hb dX6_in_7 (by decide) (by omega) (by omega) (fun c_2 => ?_) (fun c_2 => ?_)
    ·
      refine lv_iconst (v := zI 0) hx hb dX6_in_14 (rfl) ?_
      have hP9 := hP.sub (ws' := []) [] rfl
      have hD9 := hD.sub (ws' := []) [] (by decide) rfl
      have po : zI 0 = zI (0 : Int) ∧ (((0 : Int) = 1 ∧ a ≤ v ∧ v ≤ b) ∨ ((0 : Int) = 0 ∧ ¬ (a ≤ v ∧ v ≤ b))) := by
        refine ⟨by first | rfl | (congr 1; omega) | (congr 1; simp [*]), ?_⟩
        omega
      exact W.zret (v := zI 0) hx hb hr (by first | rfl | decide | exact zI_nz (by omega)) (fun t ht hW => ⟨⟨zI 0, 0, rfl, po, by rw [ht]; exact hP9, va_K.moved hW.alike hK, hD9⟩, hS.F ht⟩) hS.2.2 dX6_in_15
    ·
      refine lv_iconst (v := zI 1) hx hb dX6_in_10 (rfl) ?_
      refine lv_goto (tgt := 15) hx hb dX6_in_11 (by decide) ?_
      have hP9 := hP.sub (ws' := []) [] rfl
      have hD9 := hD.sub (ws' := []) [] (by decide) rfl
      have po : zI 1 = zI (1 : Int) ∧ (((1 : Int) = 1 ∧ a ≤ v ∧ v ≤ b) ∨ ((1 : Int) = 0 ∧ ¬ (a ≤ v ∧ v ≤ b))) := by
        refine ⟨by first | rfl | (congr 1; omega) | (congr 1; simp [*]), ?_⟩
        omega
      exact W.zret (v := zI 1) hx hb hr (by first | rfl | decide | exact zI_nz (by omega)) (fun t ht hW => ⟨⟨zI 1, 1, rfl, po, by rw [ht]; exact hP9, va_K.moved hW.alike hK, hD9⟩, hS.F ht⟩) hS.2.2 dX6_in_15
set_option maxHeartbeats 4000000 in
set_option maxRecDepth 100000 in
theorem c_X6_thrown (l : Launch) (dC : Nat → ClassId) (dI : Nat → Nat → Nat) (cI cZ cL cT cJ : ClassId) (sz : Nat) (mo : Nat) (ad : Nat → Nat) (mn : Int) (mp : Int) (mon : Int) (mrx : Int) (mry : Int) (mrl : Int) (mrs : Int) (mrf : Int) (mx : Int) (my : Int) (ml : Int) (mst : Int) (mla : Int)  : Met l yX6_thrown wsX6_thrown ({ frames := 0, cells := 0, slots := 0, locals := 0 }) (zP (dC, dI) (zT cI cZ cL cT cJ) sz [.ref mo] [(mo, .inr (6, [.ref (ad 0), .ref (ad 1), .ref (ad 2), .ref (ad 3), .ref (ad 4), .ref (ad 5), .ref (ad 6), .ref (ad 7), .ref (ad 8), .int (zI mn), .ref (ad 10), .ref (ad 11), .int (zI mp), .int (zI mon), .int (zI mrx), .int (zI mry), .int (zI mrl), .int (zI mrs), .int (zI mrf), .ref (ad 19), .int (zI mx), .int (zI my), .int (zI ml), .int (zI mst), .ref (ad 24), .ref (ad 25), .ref (ad 26), .int (zI mla)]))]) (va_Qi (fun (r9 : Int32) (u9 : Unit) => match u9 with | _ => r9 = zI mla ∧ (True)) (zB (dC, dI) (zT cI cZ cL cT cJ) (va_A [(mo, .inr (6, [.ref (ad 0), .ref (ad 1), .ref (ad 2), .ref (ad 3), .ref (ad 4), .ref (ad 5), .ref (ad 6), .ref (ad 7), .ref (ad 8), .int (zI mn), .ref (ad 10), .ref (ad 11), .int (zI mp), .int (zI mon), .int (zI mrx), .int (zI mry), .int (zI mrl), .int (zI mrs), .int (zI mrf), .ref (ad 19), .int (zI mx), .int (zI my), .int (zI ml), .int (zI mst), .ref (ad 24), .ref (ad 25), .ref (ad 26), .int (zI mla)]))] sz) (fun (u9 : Unit) => match u9 with | _ => [(mo, .inr (6, [.ref (ad 0), .ref (ad 1), .ref (ad 2), .ref (ad 3), .ref (ad 4), .ref (ad 5), .ref (ad 6), .ref (ad 7), .ref (ad 8), .int (zI mn), .ref (ad 10), .ref (ad 11), .int (zI mp), .int (zI mon), .int (zI mrx), .int (zI mry), .int (zI mrl), .int (zI mrs), .int (zI mrf), .ref (ad 19), .int (zI mx), .int (zI my), .int (zI ml), .int (zI mst), .ref (ad 24), .ref (ad 25), .ref (ad 26), .int (zI mla)]))])) (va_A [(mo, .inr (6, [.ref (ad 0), .ref (ad 1), .ref (ad 2), .ref (ad 3), .ref (ad 4), .ref (ad 5), .ref (ad 6), .ref (ad 7), .ref (ad 8), .int (zI mn), .ref (ad 10), .ref (ad 11), .int (zI mp), .int (zI mon), .int (zI mrx), .int (zI mry), .int (zI mrl), .int (zI mrs), .int (zI mrf), .ref (ad 19), .int (zI mx), .int (zI my), .int (zI ml), .int (zI mst), .ref (ad 24), .ref (ad 25), .ref (ad 26), .int (zI mla)]))] sz)) 0 0 (va_A [(mo, .inr (6, [.ref (ad 0), .ref (ad 1), .ref (ad 2), .ref (ad 3), .ref (ad 4), .ref (ad 5), .ref (ad 6), .ref (ad 7), .ref (ad 8), .int (zI mn), .ref (ad 10), .ref (ad 11), .int (zI mp), .int (zI mon), .int (zI mrx), .int (zI mry), .int (zI mrl), .int (zI mrs), .int (zI mrf), .ref (ad 19), .int (zI mx), .int (zI my), .int (zI ml), .int (zI mst), .ref (ad 24), .ref (ad 25), .ref (ad 26), .int (zI mla)]))] sz) := by
  refine Met.ofW (cc := cX6_thrown) (maxL := 1) (ret := (some .int)) (by decide) rfl ?_
  intro p e s m args below meth c s₁ B hml hv
  obtain ⟨rfl, hsz, hP, hK, hD0⟩ := hv
  have hx := B.exec
  have hb := B.bytes
  have hr := B.returns
  have hts := atoms_spec (ws := wsX6_thrown) B.pre
  have hown : s.vm.findClass RX6 = some m.cls := findClass_of_methodNamed B.named
  have hlocks := B.notSynchronized
  subst hsz
  have hD := hD0.self (sz := s.heap.size)
  generalize hAe : va_A [(mo, .inr (6, [.ref (ad 0), .ref (ad 1), .ref (ad 2), .ref (ad 3), .ref (ad 4), .ref (ad 5), .ref (ad 6), .ref (ad 7), .ref (ad 8), .int (zI mn), .ref (ad 10), .ref (ad 11), .int (zI mp), .int (zI mon), .int (zI mrx), .int (zI mry), .int (zI mrl), .int (zI mrs), .int (zI mrf), .ref (ad 19), .int (zI mx), .int (zI my), .int (zI ml), .int (zI mst), .ref (ad 24), .ref (ad 25), .ref (ad 26), .int (zI mla)]))] s.heap.size = A at hD ⊢
  have hA : ∀ q : Nat, s.heap.size ≤ q → A q := fun q h => by rw [← hAe]; exact Or.inr h
  clear hAe hD0
  have hS : va_S A s.heap s.heap [] := va_S.rf
  have hP : va_P (dC, dI) vwCl [(mo, .inr (6, [.ref (ad 0), .ref (ad 1), .ref (ad 2), .ref (ad 3), .ref (ad 4), .ref (ad 5), .ref (ad 6), .ref (ad 7), .ref (ad 8), .int (zI mn), .ref (ad 10), .ref (ad 11), .int (zI mp), .int (zI mon), .int (zI mrx), .int (zI mry), .int (zI mrl), .int (zI mrs), .int (zI mrf), .ref (ad 19), .int (zI mx), .int (zI my), .int (zI ml), .int (zI mst), .ref (ad 24), .ref (ad 25), .ref (ad 26), .int (zI mla)]))] s.heap := hP
  have f_60 := hts (.fieldLink RX6 60 "SpringLevelsModel" "last" "I") (by decide +kernel)
  have i_6 : ∀ w ∈ wsX60, w ∈ wsX6_thrown := by decide +kernel
  have hl := lv_entry ([.ref mo]) (n := 1) (Nat.le_of_ble_eq_true rfl)
  rw [lg_entry_eq]
  generalize (lg_sl ([.ref mo]) ++ List.replicate (1 - (lg_sl ([.ref mo])).length) Slot.unset).toArray = ls at hl ⊢
  have hl : lv_has ls 1 [(0, .ref mo)] := hl
  refine lv_aload_n hx hb dX6_thrown_0 rfl (lv_at hl 0 rfl) ?_
  refine va_get (D := (dC, dI)) (ci := 6) (v := .int (zI mla)) (C := RX6) (T := TX6) (N := 28) hx hb hts i_6 hown hK hP 0 rfl rfl 27 (by decide) f_60 (fun _ h9 => h9) rfl dX6_thrown_1 ?_
  have hP9 := hP.sub (ws' := [(mo, .inr (6, [.ref (ad 0), .ref (ad 1), .ref (ad 2), .ref (ad 3), .ref (ad 4), .ref (ad 5), .ref (ad 6), .ref (ad 7), .ref (ad 8), .int (zI mn), .ref (ad 10), .ref (ad 11), .int (zI mp), .int (zI mon), .int (zI mrx), .int (zI mry), .int (zI mrl), .int (zI mrs), .int (zI mrf), .ref (ad 19), .int (zI mx), .int (zI my), .int (zI ml), .int (zI mst), .ref (ad 24), .ref (ad 25), .ref (ad 26), .int (zI mla)]))]) [0] rfl
  have hD9 := hD.sub (ws' := [(mo, .inr (6, [.ref (ad 0), .ref (ad 1), .ref (ad 2), .ref (ad 3), .ref (ad 4), .ref (ad 5), .ref (ad 6), .ref (ad 7), .ref (ad 8), .int (zI mn), .ref (ad 10), .ref (ad 11), .int (zI mp), .int (zI mon), .int (zI mrx), .int (zI mry), .int (zI mrl), .int (zI mrs), .int (zI mrf), .ref (ad 19), .int (zI mx), .int (zI my), .int (zI ml), .int (zI mst), .ref (ad 24), .ref (ad 25), .ref (ad 26), .int (zI mla)]))]) [0] (by decide) rfl
  have po : zI mla = zI mla ∧ (True) := by
    refine ⟨by first | rfl | (congr 1; omega) | (congr 1; simp [*]), ?_⟩
    trivial
  exact W.iret (v := zI mla) hx hb hr (fun t ht hW => ⟨⟨zI mla, (), rfl, po, by rw [ht]; exact hP9, va_K.moved hW.alike hK, hD9⟩, hS.F ht⟩) hS.2.2 dX6_thrown_4
set_option maxHeartbeats 4000000 in
set_option maxRecDepth 100000 in
theorem c_X6_goes (l : Launch) (dC : Nat → ClassId) (dI : Nat → Nat → Nat) (cI cZ cL cT cJ : ClassId) (sz : Nat) (mo : Nat) (ad : Nat → Nat) (mn : Int) (mp : Int) (mon : Int) (mrx : Int) (mry : Int) (mrl : Int) (mrs : Int) (mrf : Int) (mx : Int) (my : Int) (ml : Int) (mst : Int) (mla : Int) (f : Int) (g : Int) (t : Int) (b1 : f = 0 ∨ f = 1) (b2 : g = 0 ∨ g = 1) (b3 : t = 0 ∨ t = 1) : Met l yX6_goes wsX6_goes ({ frames := 0, cells := 0, slots := 0, locals := 0 }) (zP (dC, dI) (zT cI cZ cL cT cJ) sz [.ref mo, .int (zI f), .int (zI g), .int (zI t)] [(mo, .inr (6, [.ref (ad 0), .ref (ad 1), .ref (ad 2), .ref (ad 3), .ref (ad 4), .ref (ad 5), .ref (ad 6), .ref (ad 7), .ref (ad 8), .int (zI mn), .ref (ad 10), .ref (ad 11), .int (zI mp), .int (zI mon), .int (zI mrx), .int (zI mry), .int (zI mrl), .int (zI mrs), .int (zI mrf), .ref (ad 19), .int (zI mx), .int (zI my), .int (zI ml), .int (zI mst), .ref (ad 24), .ref (ad 25), .ref (ad 26), .int (zI mla)]))]) (va_Qi (fun (r9 : Int32) (u9 : Int × Int) => match u9 with | (r, la) => r9 = zI r ∧ ((f = 0 ∧ la = 1 ∧ r = 0) ∨ (f = 1 ∧ g = 0 ∧ la = 2 ∧ r = 0) ∨ (f = 1 ∧ g = 1 ∧ t = 0 ∧ la = 3 ∧ r = 0) ∨ (f = 1 ∧ g = 1 ∧ t = 1 ∧ la = 0 ∧ r = 1))) (zB (dC, dI) (zT cI cZ cL cT cJ) (va_A [(mo, .inr (6, [.ref (ad 0), .ref (ad 1), .ref (ad 2), .ref (ad 3), .ref (ad 4), .ref (ad 5), .ref (ad 6), .ref (ad 7), .ref (ad 8), .int (zI mn), .ref (ad 10), .ref (ad 11), .int (zI mp), .int (zI mon), .int (zI mrx), .int (zI mry), .int (zI mrl), .int (zI mrs), .int (zI mrf), .ref (ad 19), .int (zI mx), .int (zI my), .int (zI ml), .int (zI mst), .ref (ad 24), .ref (ad 25), .ref (ad 26), .int (zI mla)]))] sz) (fun (u9 : Int × Int) => match u9 with | (r, la) => [(mo, .inr (6, [.ref (ad 0), .ref (ad 1), .ref (ad 2), .ref (ad 3), .ref (ad 4), .ref (ad 5), .ref (ad 6), .ref (ad 7), .ref (ad 8), .int (zI mn), .ref (ad 10), .ref (ad 11), .int (zI mp), .int (zI mon), .int (zI mrx), .int (zI mry), .int (zI mrl), .int (zI mrs), .int (zI mrf), .ref (ad 19), .int (zI mx), .int (zI my), .int (zI ml), .int (zI mst), .ref (ad 24), .ref (ad 25), .ref (ad 26), .int (zI la)]))])) (va_A [(mo, .inr (6, [.ref (ad 0), .ref (ad 1), .ref (ad 2), .ref (ad 3), .ref (ad 4), .ref (ad 5), .ref (ad 6), .ref (ad 7), .ref (ad 8), .int (zI mn), .ref (ad 10), .ref (ad 11), .int (zI mp), .int (zI mon), .int (zI mrx), .int (zI mry), .int (zI mrl), .int (zI mrs), .int (zI mrf), .ref (ad 19), .int (zI mx), .int (zI my), .int (zI ml), .int (zI mst), .ref (ad 24), .ref (ad 25), .ref (ad 26), .int (zI mla)]))] sz)) 0 0 (va_A [(mo, .inr (6, [.ref (ad 0), .ref (ad 1), .ref (ad 2), .ref (ad 3), .ref (ad 4), .ref (ad 5), .ref (ad 6), .ref (ad 7), .ref (ad 8), .int (zI mn), .ref (ad 10), .ref (ad 11), .int (zI mp), .int (zI mon), .int (zI mrx), .int (zI mry), .int (zI mrl), .int (zI mrs), .int (zI mrf), .ref (ad 19), .int (zI mx), .int (zI my), .int (zI ml), .int (zI mst), .ref (ad 24), .ref (ad 25), .ref (ad 26), .int (zI mla)]))] sz) := by
  refine Met.ofW (cc := cX6_goes) (maxL := 4) (ret := (some .boolean)) (by decide) rfl ?_
  intro p e s m args below meth c s₁ B hml hv
  obtain ⟨rfl, hsz, hP, hK, hD0⟩ := hv
  have hx := B.exec
  have hb := B.bytes
  have hr := B.returns
  have hts := atoms_spec (ws := wsX6_goes) B.pre
  have hown : s.vm.findClass RX6 = some m.cls := findClass_of_methodNamed B.named
  have hlocks := B.notSynchronized
  subst hsz
  have hD := hD0.self (sz := s.heap.size)
  generalize hAe : va_A [(mo, .inr (6, [.ref (ad 0), .ref (ad 1), .ref (ad 2), .ref (ad 3), .ref (ad 4), .ref (ad 5), .ref (ad 6), .ref (ad 7), .ref (ad 8), .int (zI mn), .ref (ad 10), .ref (ad 11), .int (zI mp), .int (zI mon), .int (zI mrx), .int (zI mry), .int (zI mrl), .int (zI mrs), .int (zI mrf), .ref (ad 19), .int (zI mx), .int (zI my), .int (zI ml), .int (zI mst), .ref (ad 24), .ref (ad 25), .ref (ad 26), .int (zI mla)]))] s.heap.size = A at hD ⊢
  have hA : ∀ q : Nat, s.heap.size ≤ q → A q := fun q h => by rw [← hAe]; exact Or.inr h
  clear hAe hD0
  have hS : va_S A s.heap s.heap [] := va_S.rf
  have hP : va_P (dC, dI) vwCl [(mo, .inr (6, [.ref (ad 0), .ref (ad 1), .ref (ad 2), .ref (ad 3), .ref (ad 4), .ref (ad 5), .ref (ad 6), .ref (ad 7), .ref (ad 8), .int (zI mn), .ref (ad 10), .ref (ad 11), .int (zI mp), .int (zI mon), .int (zI mrx), .int (zI mry), .int (zI mrl), .int (zI mrs), .int (zI mrf), .ref (ad 19), .int (zI mx), .int (zI my), .int (zI ml), .int (zI mst), .ref (ad 24), .ref (ad 25), .ref (ad 26), .int (zI mla)]))] s.heap := hP
  have f_60 := hts (.fieldLink RX6 60 "SpringLevelsModel" "last" "I") (by decide +kernel)
  have i_6 : ∀ w ∈ wsX60, w ∈ wsX6_goes := by decide +kernel
  have hl := lv_entry ([.ref mo, .int (zI f), .int (zI g), .int (zI t)]) (n := 4) (Nat.le_of_ble_eq_true rfl)
  rw [lg_entry_eq]
  generalize (lg_sl ([.ref mo, .int (zI f), .int (zI g), .int (zI t)]) ++ List.replicate (4 - (lg_sl ([.ref mo, .int (zI f), .int (zI g), .int (zI t)])).length) Slot.unset).toArray = ls at hl ⊢
  have hl : lv_has ls 4 [(0, .ref mo), (1, .int (zI f)), (2, .int (zI g)), (3, .int (zI t))] := hl
  refine lv_aload_n hx hb dX6_goes_0 rfl (lv_at hl 0 rfl) ?_
  refine lv_iload_n hx hb dX6_goes_1 rfl (lv_at hl 1 rfl) ?_
  refine lz_if_ne (tgt := 9) hx hb dX6_goes_2 (by decide) (by omega) (fun c_1 => ?_) (fun c_1 => ?_)
  ·
    refine lv_iload_n hx hb dX6_goes_9 rfl (lv_at hl 2 rfl) ?_
    refine lz_if_ne (tgt := 17) hx hb dX6_goes_10 (by decide) (by omega) (fun c_2 => ?_) (fun c_2 => ?_)
    ·
      refine lv_iload_n hx hb dX6_goes_17 rfl (lv_at hl 3 rfl) ?_
      refine lz_if_eq (tgt := 25) hx hb dX6_goes_18 (by decide) (by omega) (fun c_3 => ?_) (fun c_3 => ?_)
      ·
        refine lv_iconst (v := zI 3) hx hb dX6_goes_25 (rfl) ?_
        refine va_put (D := (dC, dI)) (ci := 6) (v := .int (zI 3)) (ty := .int) (C := RX6) (T := TX6) (N := 28) hx hb hts i_6 tyX6 tyX6_ok nmX6 hown hK hP hD hS 0 rfl rfl 27 (by decide) f_60 (fun _ h9 => h9) rfl (by decide +kernel) rfl rfl (Nat.le_of_ble_eq_true rfl) dX6_goes_26 (fun H locs hP hD hS => ?_)
        have hP : va_P (dC, dI) vwCl [(mo, .inr (6, [.ref (ad 0), .ref (ad 1), .ref (ad 2), .ref (ad 3), .ref (ad 4), .ref (ad 5), .ref (ad 6), .ref (ad 7), .ref (ad 8), .int (zI mn), .ref (ad 10), .ref (ad 11), .int (zI mp), .int (zI mon), .int (zI mrx), .int (zI mry), .int (zI mrl), .int (zI mrs), .int (zI mrf), .ref (ad 19), .int (zI mx), .int (zI my), .int (zI ml), .int (zI mst), .ref (ad 24), .ref (ad 25), .ref (ad 26), .int (zI 3)]))] H := hP
        have hD : va_D A [(mo, .inr (6, [.ref (ad 0), .ref (ad 1), .ref (ad 2), .ref (ad 3), .ref (ad 4), .ref (ad 5), .ref (ad 6), .ref (ad 7), .ref (ad 8), .int (zI mn), .ref (ad 10), .ref (ad 11), .int (zI mp), .int (zI mon), .int (zI mrx), .int (zI mry), .int (zI mrl), .int (zI mrs), .int (zI mrf), .ref (ad 19), .int (zI mx), .int (zI my), .int (zI ml), .int (zI mst), .ref (ad 24), .ref (ad 25), .ref (ad 26), .int (zI 3)]))] := hD
        refine lv_aload_n hx hb dX6_goes_29 rfl (lv_at hl 0 rfl) ?_
        refine va_get (D := (dC, dI)) (ci := 6) (v := .int (zI 3)) (C := RX6) (T := TX6) (N := 28) hx hb hts i_6 hown hK hP 0 rfl rfl 27 (by decide) f_60 (fun _ h9 => h9) rfl dX6_goes_30 ?_
        refine lz_if_ne (tgt := 40) hx hb dX6_goes_33 (by decide) ⟨by decide, by decide⟩ (fun c_4 => ?_) (fun c_4 => ?_)
        ·
          refine lv_iconst (v := zI 0) hx hb dX6_goes_40 (rfl) ?_
          have hP9 := hP.sub (ws' := [(mo, .inr (6, [.ref (ad 0), .ref (ad 1), .ref (ad 2), .ref (ad 3), .ref (ad 4), .ref (ad 5), .ref (ad 6), .ref (ad 7), .ref (ad 8), .int (zI mn), .ref (ad 10), .ref (ad 11), .int (zI mp), .int (zI mon), .int (zI mrx), .int (zI mry), .int (zI mrl), .int (zI mrs), .int (zI mrf), .ref (ad 19), .int (zI mx), .int (zI my), .int (zI ml), .int (zI mst), .ref (ad 24), .ref (ad 25), .ref (ad 26), .int (zI 3)]))]) [0] rfl
          have hD9 := hD.sub (ws' := [(mo, .inr (6, [.ref (ad 0), .ref (ad 1), .ref (ad 2), .ref (ad 3), .ref (ad 4), .ref (ad 5), .ref (ad 6), .ref (ad 7), .ref (ad 8), .int (zI mn), .ref (ad 10), .ref (ad 11), .int (zI mp), .int (zI mon), .int (zI mrx), .int (zI mry), .int (zI mrl), .int (zI mrs), .int (zI mrf), .ref (ad 19), .int (zI mx), .int (zI my), .int (zI ml), .int (zI mst), .ref (ad 24), .ref (ad 25), .ref (ad 26), .int (zI 3)]))]) [0] (by decide) rfl
          have po : zI 0 = zI (0 : Int) ∧ ((f = 0 ∧ (3 : Int) = 1 ∧ (0 : Int) = 0) ∨ (f = 1 ∧ g = 0 ∧ (3 : Int) = 2 ∧ (0 : Int) = 0) ∨ (f = 1 ∧ g = 1 ∧ t = 0 ∧ (3 : Int) = 3 ∧ (0 : Int) = 0) ∨ (f = 1 ∧ g = 1 ∧ t = 1 ∧ (3 : Int) = 0 ∧ (0 : Int) = 1)) := by
            refine ⟨by first | rfl | (congr 1; omega) | (congr 1; simp [*]), ?_⟩
            omega
          exact W.zret (v := zI 0) hx hb hr (by first | rfl | decide | exact zI_nz (by omega)) (fun t ht hW => ⟨⟨zI 0, (0, 3), rfl, po, by rw [ht]; exact hP9, va_K.moved hW.alike hK, hD9⟩, hS.F ht⟩) hS.2.2 dX6_goes_41
        · exact absurd c_4 (by decide)
      ·
        refine lv_iconst (v := zI 0) hx hb dX6_goes_21 (rfl) ?_
        refine lv_goto (tgt := 26) hx hb dX6_goes_22 (by decide) ?_
        refine va_put (D := (dC, dI)) (ci := 6) (v := .int (zI 0)) (ty := .int) (C := RX6) (T := TX6) (N := 28) hx hb hts i_6 tyX6 tyX6_ok nmX6 hown hK hP hD hS 0 rfl rfl 27 (by decide) f_60 (fun _ h9 => h9) rfl (by decide +kernel) rfl rfl (Nat.le_of_ble_eq_true rfl) dX6_goes_26 (fun H locs hP hD hS => ?_)
        have hP : va_P (dC, dI) vwCl [(mo, .inr (6, [.ref (ad 0), .ref (ad 1), .ref (ad 2), .ref (ad 3), .ref (ad 4), .ref (ad 5), .ref (ad 6), .ref (ad 7), .ref (ad 8), .int (zI mn), .ref (ad 10), .ref (ad 11), .int (zI mp), .int (zI mon), .int (zI mrx), .int (zI mry), .int (zI mrl), .int (zI mrs), .int (zI mrf), .ref (ad 19), .int (zI mx), .int (zI my), .int (zI ml), .int (zI mst), .ref (ad 24), .ref (ad 25), .ref (ad 26), .int (zI 0)]))] H := hP
        have hD : va_D A [(mo, .inr (6, [.ref (ad 0), .ref (ad 1), .ref (ad 2), .ref (ad 3), .ref (ad 4), .ref (ad 5), .ref (ad 6), .ref (ad 7), .ref (ad 8), .int (zI mn), .ref (ad 10), .ref (ad 11), .int (zI mp), .int (zI mon), .int (zI mrx), .int (zI mry), .int (zI mrl), .int (zI mrs), .int (zI mrf), .ref (ad 19), .int (zI mx), .int (zI my), .int (zI ml), .int (zI mst), .ref (ad 24), .ref (ad 25), .ref (ad 26), .int (zI 0)]))] := hD
        refine lv_aload_n hx hb dX6_goes_29 rfl (lv_at hl 0 rfl) ?_
        refine va_get (D := (dC, dI)) (ci := 6) (v := .int (zI 0)) (C := RX6) (T := TX6) (N := 28) hx hb hts i_6 hown hK hP 0 rfl rfl 27 (by decide) f_60 (fun _ h9 => h9) rfl dX6_goes_30 ?_
        refine lz_if_ne (tgt := 40) hx hb dX6_goes_33 (by decide) ⟨by decide, by decide⟩ (fun c_5 => ?_) (fun c_5 => ?_)
        · exact absurd c_5 (by decide)
        ·
          refine lv_iconst (v := zI 1) hx hb dX6_goes_36 (rfl) ?_
          refine lv_goto (tgt := 41) hx hb dX6_goes_37 (by decide) ?_
          have hP9 := hP.sub (ws' := [(mo, .inr (6, [.ref (ad 0), .ref (ad 1), .ref (ad 2), .ref (ad 3), .ref (ad 4), .ref (ad 5), .ref (ad 6), .ref (ad 7), .ref (ad 8), .int (zI mn), .ref (ad 10), .ref (ad 11), .int (zI mp), .int (zI mon), .int (zI mrx), .int (zI mry), .int (zI mrl), .int (zI mrs), .int (zI mrf), .ref (ad 19), .int (zI mx), .int (zI my), .int (zI ml), .int (zI mst), .ref (ad 24), .ref (ad 25), .ref (ad 26), .int (zI 0)]))]) [0] rfl
          have hD9 := hD.sub (ws' := [(mo, .inr (6, [.ref (ad 0), .ref (ad 1), .ref (ad 2), .ref (ad 3), .ref (ad 4), .ref (ad 5), .ref (ad 6), .ref (ad 7), .ref (ad 8), .int (zI mn), .ref (ad 10), .ref (ad 11), .int (zI mp), .int (zI mon), .int (zI mrx), .int (zI mry), .int (zI mrl), .int (zI mrs), .int (zI mrf), .ref (ad 19), .int (zI mx), .int (zI my), .int (zI ml), .int (zI mst), .ref (ad 24), .ref (ad 25), .ref (ad 26), .int (zI 0)]))]) [0] (by decide) rfl
          have po : zI 1 = zI (1 : Int) ∧ ((f = 0 ∧ (0 : Int) = 1 ∧ (1 : Int) = 0) ∨ (f = 1 ∧ g = 0 ∧ (0 : Int) = 2 ∧ (1 : Int) = 0) ∨ (f = 1 ∧ g = 1 ∧ t = 0 ∧ (0 : Int) = 3 ∧ (1 : Int) = 0) ∨ (f = 1 ∧ g = 1 ∧ t = 1 ∧ (0 : Int) = 0 ∧ (1 : Int) = 1)) := by
            refine ⟨by first | rfl | (congr 1; omega) | (congr 1; simp [*]), ?_⟩
            omega
          exact W.zret (v := zI 1) hx hb hr (by first | rfl | decide | exact zI_nz (by omega)) (fun t ht hW => ⟨⟨zI 1, (1, 0), rfl, po, by rw [ht]; exact hP9, va_K.moved hW.alike hK, hD9⟩, hS.F ht⟩) hS.2.2 dX6_goes_41
    ·
      refine lv_iconst (v := zI 2) hx hb dX6_goes_13 (rfl) ?_
      refine lv_goto (tgt := 26) hx hb dX6_goes_14 (by decide) ?_
      refine va_put (D := (dC, dI)) (ci := 6) (v := .int (zI 2)) (ty := .int) (C := RX6) (T := TX6) (N := 28) hx hb hts i_6 tyX6 tyX6_ok nmX6 hown hK hP hD hS 0 rfl rfl 27 (by decide) f_60 (fun _ h9 => h9) rfl (by decide +kernel) rfl rfl (Nat.le_of_ble_eq_true rfl) dX6_goes_26 (fun H locs hP hD hS => ?_)
      have hP : va_P (dC, dI) vwCl [(mo, .inr (6, [.ref (ad 0), .ref (ad 1), .ref (ad 2), .ref (ad 3), .ref (ad 4), .ref (ad 5), .ref (ad 6), .ref (ad 7), .ref (ad 8), .int (zI mn), .ref (ad 10), .ref (ad 11), .int (zI mp), .int (zI mon), .int (zI mrx), .int (zI mry), .int (zI mrl), .int (zI mrs), .int (zI mrf), .ref (ad 19), .int (zI mx), .int (zI my), .int (zI ml), .int (zI mst), .ref (ad 24), .ref (ad 25), .ref (ad 26), .int (zI 2)]))] H := hP
      have hD : va_D A [(mo, .inr (6, [.ref (ad 0), .ref (ad 1), .ref (ad 2), .ref (ad 3), .ref (ad 4), .ref (ad 5), .ref (ad 6), .ref (ad 7), .ref (ad 8), .int (zI mn), .ref (ad 10), .ref (ad 11), .int (zI mp), .int (zI mon), .int (zI mrx), .int (zI mry), .int (zI mrl), .int (zI mrs), .int (zI mrf), .ref (ad 19), .int (zI mx), .int (zI my), .int (zI ml), .int (zI mst), .ref (ad 24), .ref (ad 25), .ref (ad 26), .int (zI 2)]))] := hD
      refine lv_aload_n hx hb dX6_goes_29 rfl (lv_at hl 0 rfl) ?_
      refine va_get (D := (dC, dI)) (ci := 6) (v := .int (zI 2)) (C := RX6) (T := TX6) (N := 28) hx hb hts i_6 hown hK hP 0 rfl rfl 27 (by decide) f_60 (fun _ h9 => h9) rfl dX6_goes_30 ?_
      refine lz_if_ne (tgt := 40) hx hb dX6_goes_33 (by decide) ⟨by decide, by decide⟩ (fun c_6 => ?_) (fun c_6 => ?_)
      ·
        refine lv_iconst (v := zI 0) hx hb dX6_goes_40 (rfl) ?_
        have hP9 := hP.sub (ws' := [(mo, .inr (6, [.ref (ad 0), .ref (ad 1), .ref (ad 2), .ref (ad 3), .ref (ad 4), .ref (ad 5), .ref (ad 6), .ref (ad 7), .ref (ad 8), .int (zI mn), .ref (ad 10), .ref (ad 11), .int (zI mp), .int (zI mon), .int (zI mrx), .int (zI mry), .int (zI mrl), .int (zI mrs), .int (zI mrf), .ref (ad 19), .int (zI mx), .int (zI my), .int (zI ml), .int (zI mst), .ref (ad 24), .ref (ad 25), .ref (ad 26), .int (zI 2)]))]) [0] rfl
        have hD9 := hD.sub (ws' := [(mo, .inr (6, [.ref (ad 0), .ref (ad 1), .ref (ad 2), .ref (ad 3), .ref (ad 4), .ref (ad 5), .ref (ad 6), .ref (ad 7), .ref (ad 8), .int (zI mn), .ref (ad 10), .ref (ad 11), .int (zI mp), .int (zI mon), .int (zI mrx), .int (zI mry), .int (zI mrl), .int (zI mrs), .int (zI mrf), .ref (ad 19), .int (zI mx), .int (zI my), .int (zI ml), .int (zI mst), .ref (ad 24), .ref (ad 25), .ref (ad 26), .int (zI 2)]))]) [0] (by decide) rfl
        have po : zI 0 = zI (0 : Int) ∧ ((f = 0 ∧ (2 : Int) = 1 ∧ (0 : Int) = 0) ∨ (f = 1 ∧ g = 0 ∧ (2 : Int) = 2 ∧ (0 : Int) = 0) ∨ (f = 1 ∧ g = 1 ∧ t = 0 ∧ (2 : Int) = 3 ∧ (0 : Int) = 0) ∨ (f = 1 ∧ g = 1 ∧ t = 1 ∧ (2 : Int) = 0 ∧ (0 : Int) = 1)) := by
          refine ⟨by first | rfl | (congr 1; omega) | (congr 1; simp [*]), ?_⟩
          omega
        exact W.zret (v := zI 0) hx hb hr (by first | rfl | decide | exact zI_nz (by omega)) (fun t ht hW => ⟨⟨zI 0, (0, 2), rfl, po, by rw [ht]; exact hP9, va_K.moved hW.alike hK, hD9⟩, hS.F ht⟩) hS.2.2 dX6_goes_41
      · exact absurd c_6 (by decide)
  ·
    refine lv_iconst (v := zI 1) hx hb dX6_goes_5 (rfl) ?_
    refine lv_goto (tgt := 26) hx hb dX6_goes_6 (by decide) ?_
    refine va_put (D := (dC, dI)) (ci := 6) (v := .int (zI 1)) (ty := .int) (C := RX6) (T := TX6) (N := 28) hx hb hts i_6 tyX6 tyX6_ok nmX6 hown hK hP hD hS 0 rfl rfl 27 (by decide) f_60 (fun _ h9 => h9) rfl (by decide +kernel) rfl rfl (Nat.le_of_ble_eq_true rfl) dX6_goes_26 (fun H locs hP hD hS => ?_)
    have hP : va_P (dC, dI) vwCl [(mo, .inr (6, [.ref (ad 0), .ref (ad 1), .ref (ad 2), .ref (ad 3), .ref (ad 4), .ref (ad 5), .ref (ad 6), .ref (ad 7), .ref (ad 8), .int (zI mn), .ref (ad 10), .ref (ad 11), .int (zI mp), .int (zI mon), .int (zI mrx), .int (zI mry), .int (zI mrl), .int (zI mrs), .int (zI mrf), .ref (ad 19), .int (zI mx), .int (zI my), .int (zI ml), .int (zI mst), .ref (ad 24), .ref (ad 25), .ref (ad 26), .int (zI 1)]))] H := hP
    have hD : va_D A [(mo, .inr (6, [.ref (ad 0), .ref (ad 1), .ref (ad 2), .ref (ad 3), .ref (ad 4), .ref (ad 5), .ref (ad 6), .ref (ad 7), .ref (ad 8), .int (zI mn), .ref (ad 10), .ref (ad 11), .int (zI mp), .int (zI mon), .int (zI mrx), .int (zI mry), .int (zI mrl), .int (zI mrs), .int (zI mrf), .ref (ad 19), .int (zI mx), .int (zI my), .int (zI ml), .int (zI mst), .ref (ad 24), .ref (ad 25), .ref (ad 26), .int (zI 1)]))] := hD
    refine lv_aload_n hx hb dX6_goes_29 rfl (lv_at hl 0 rfl) ?_
    refine va_get (D := (dC, dI)) (ci := 6) (v := .int (zI 1)) (C := RX6) (T := TX6) (N := 28) hx hb hts i_6 hown hK hP 0 rfl rfl 27 (by decide) f_60 (fun _ h9 => h9) rfl dX6_goes_30 ?_
    refine lz_if_ne (tgt := 40) hx hb dX6_goes_33 (by decide) ⟨by decide, by decide⟩ (fun c_7 => ?_) (fun c_7 => ?_)
    ·
      refine lv_iconst (v := zI 0) hx hb dX6_goes_40 (rfl) ?_
      have hP9 := hP.sub (ws' := [(mo, .inr (6, [.ref (ad 0), .ref (ad 1), .ref (ad 2), .ref (ad 3), .ref (ad 4), .ref (ad 5), .ref (ad 6), .ref (ad 7), .ref (ad 8), .int (zI mn), .ref (ad 10), .ref (ad 11), .int (zI mp), .int (zI mon), .int (zI mrx), .int (zI mry), .int (zI mrl), .int (zI mrs), .int (zI mrf), .ref (ad 19), .int (zI mx), .int (zI my), .int (zI ml), .int (zI mst), .ref (ad 24), .ref (ad 25), .ref (ad 26), .int (zI 1)]))]) [0] rfl
      have hD9 := hD.sub (ws' := [(mo, .inr (6, [.ref (ad 0), .ref (ad 1), .ref (ad 2), .ref (ad 3), .ref (ad 4), .ref (ad 5), .ref (ad 6), .ref (ad 7), .ref (ad 8), .int (zI mn), .ref (ad 10), .ref (ad 11), .int (zI mp), .int (zI mon), .int (zI mrx), .int (zI mry), .int (zI mrl), .int (zI mrs), .int (zI mrf), .ref (ad 19), .int (zI mx), .int (zI my), .int (zI ml), .int (zI mst), .ref (ad 24), .ref (ad 25), .ref (ad 26), .int (zI 1)]))]) [0] (by decide) rfl
      have po : zI 0 = zI (0 : Int) ∧ ((f = 0 ∧ (1 : Int) = 1 ∧ (0 : Int) = 0) ∨ (f = 1 ∧ g = 0 ∧ (1 : Int) = 2 ∧ (0 : Int) = 0) ∨ (f = 1 ∧ g = 1 ∧ t = 0 ∧ (1 : Int) = 3 ∧ (0 : Int) = 0) ∨ (f = 1 ∧ g = 1 ∧ t = 1 ∧ (1 : Int) = 0 ∧ (0 : Int) = 1)) := by
        refine ⟨by first | rfl | (congr 1; omega) | (congr 1; simp [*]), ?_⟩
        omega
      exact W.zret (v := zI 0) hx hb hr (by first | rfl | decide | exact zI_nz (by omega)) (fun t ht hW => ⟨⟨zI 0, (0, 1), rfl, po, by rw [ht]; exact hP9, va_K.moved hW.alike hK, hD9⟩, hS.F ht⟩) hS.2.2 dX6_goes_41
    · exact absurd c_7 (by decide)
set_option maxHeartbeats 4000000 in
set_option maxRecDepth 100000 in
theorem c_X6_isLevel (l : Launch) (dC : Nat → ClassId) (dI : Nat → Nat → Nat) (cI cZ cL cT cJ : ClassId) (sz : Nat) (mo : Nat) (ad : Nat → Nat) (mn : Int) (mp : Int) (mon : Int) (mrx : Int) (mry : Int) (mrl : Int) (mrs : Int) (mrf : Int) (mx : Int) (my : Int) (ml : Int) (mst : Int) (mla : Int) (L : Int) (gn : 0 ≤ mn ∧ mn ≤ 6) (r9L : -2147483648 ≤ L ∧ L < 2147483648) : Met l yX6_isLevel wsX6_isLevel ({ frames := 1, cells := 0, slots := 0, locals := 22 }) (zP (dC, dI) (zT cI cZ cL cT cJ) sz [.ref mo, .int (zI L)] [(mo, .inr (6, [.ref (ad 0), .ref (ad 1), .ref (ad 2), .ref (ad 3), .ref (ad 4), .ref (ad 5), .ref (ad 6), .ref (ad 7), .ref (ad 8), .int (zI mn), .ref (ad 10), .ref (ad 11), .int (zI mp), .int (zI mon), .int (zI mrx), .int (zI mry), .int (zI mrl), .int (zI mrs), .int (zI mrf), .ref (ad 19), .int (zI mx), .int (zI my), .int (zI ml), .int (zI mst), .ref (ad 24), .ref (ad 25), .ref (ad 26), .int (zI mla)]))]) (va_Qi (fun (r9 : Int32) (u9 : Int) => match u9 with | r => r9 = zI r ∧ ((r = 1 ∧ 0 ≤ L ∧ L < mn) ∨ (r = 0 ∧ ¬ (0 ≤ L ∧ L < mn)))) (zB (dC, dI) (zT cI cZ cL cT cJ) (va_A [(mo, .inr (6, [.ref (ad 0), .ref (ad 1), .ref (ad 2), .ref (ad 3), .ref (ad 4), .ref (ad 5), .ref (ad 6), .ref (ad 7), .ref (ad 8), .int (zI mn), .ref (ad 10), .ref (ad 11), .int (zI mp), .int (zI mon), .int (zI mrx), .int (zI mry), .int (zI mrl), .int (zI mrs), .int (zI mrf), .ref (ad 19), .int (zI mx), .int (zI my), .int (zI ml), .int (zI mst), .ref (ad 24), .ref (ad 25), .ref (ad 26), .int (zI mla)]))] sz) (fun (u9 : Int) => match u9 with | r => [(mo, .inr (6, [.ref (ad 0), .ref (ad 1), .ref (ad 2), .ref (ad 3), .ref (ad 4), .ref (ad 5), .ref (ad 6), .ref (ad 7), .ref (ad 8), .int (zI mn), .ref (ad 10), .ref (ad 11), .int (zI mp), .int (zI mon), .int (zI mrx), .int (zI mry), .int (zI mrl), .int (zI mrs), .int (zI mrf), .ref (ad 19), .int (zI mx), .int (zI my), .int (zI ml), .int (zI mst), .ref (ad 24), .ref (ad 25), .ref (ad 26), .int (zI mla)]))])) (va_A [(mo, .inr (6, [.ref (ad 0), .ref (ad 1), .ref (ad 2), .ref (ad 3), .ref (ad 4), .ref (ad 5), .ref (ad 6), .ref (ad 7), .ref (ad 8), .int (zI mn), .ref (ad 10), .ref (ad 11), .int (zI mp), .int (zI mon), .int (zI mrx), .int (zI mry), .int (zI mrl), .int (zI mrs), .int (zI mrf), .ref (ad 19), .int (zI mx), .int (zI my), .int (zI ml), .int (zI mst), .ref (ad 24), .ref (ad 25), .ref (ad 26), .int (zI mla)]))] sz)) 0 0 (va_A [(mo, .inr (6, [.ref (ad 0), .ref (ad 1), .ref (ad 2), .ref (ad 3), .ref (ad 4), .ref (ad 5), .ref (ad 6), .ref (ad 7), .ref (ad 8), .int (zI mn), .ref (ad 10), .ref (ad 11), .int (zI mp), .int (zI mon), .int (zI mrx), .int (zI mry), .int (zI mrl), .int (zI mrs), .int (zI mrf), .ref (ad 19), .int (zI mx), .int (zI my), .int (zI ml), .int (zI mst), .ref (ad 24), .ref (ad 25), .ref (ad 26), .int (zI mla)]))] sz) := by
  refine Met.ofW (cc := cX6_isLevel) (maxL := 2) (ret := (some .boolean)) (by decide) rfl ?_
  intro p e s m args below meth c s₁ B hml hv
  obtain ⟨rfl, hsz, hP, hK, hD0⟩ := hv
  have hx := B.exec
  have hb := B.bytes
  have hr := B.returns
  have hts := atoms_spec (ws := wsX6_isLevel) B.pre
  have hown : s.vm.findClass RX6 = some m.cls := findClass_of_methodNamed B.named
  have hlocks := B.notSynchronized
  subst hsz
  have hD := hD0.self (sz := s.heap.size)
  generalize hAe : va_A [(mo, .inr (6, [.ref (ad 0), .ref (ad 1), .ref (ad 2), .ref (ad 3), .ref (ad 4), .ref (ad 5), .ref (ad 6), .ref (ad 7), .ref (ad 8), .int (zI mn), .ref (ad 10), .ref (ad 11), .int (zI mp), .int (zI mon), .int (zI mrx), .int (zI mry), .int (zI mrl), .int (zI mrs), .int (zI mrf), .ref (ad 19), .int (zI mx), .int (zI my), .int (zI ml), .int (zI mst), .ref (ad 24), .ref (ad 25), .ref (ad 26), .int (zI mla)]))] s.heap.size = A at hD ⊢
  have hA : ∀ q : Nat, s.heap.size ≤ q → A q := fun q h => by rw [← hAe]; exact Or.inr h
  clear hAe hD0
  have hS : va_S A s.heap s.heap [] := va_S.rf
  have hP : va_P (dC, dI) vwCl [(mo, .inr (6, [.ref (ad 0), .ref (ad 1), .ref (ad 2), .ref (ad 3), .ref (ad 4), .ref (ad 5), .ref (ad 6), .ref (ad 7), .ref (ad 8), .int (zI mn), .ref (ad 10), .ref (ad 11), .int (zI mp), .int (zI mon), .int (zI mrx), .int (zI mry), .int (zI mrl), .int (zI mrs), .int (zI mrf), .ref (ad 19), .int (zI mx), .int (zI my), .int (zI ml), .int (zI mst), .ref (ad 24), .ref (ad 25), .ref (ad 26), .int (zI mla)]))] s.heap := hP
  have f_63 := hts (.fieldLink RX6 63 "SpringLevelsModel" "levels" "I") (by decide +kernel)
  have i_6 : ∀ w ∈ wsX60, w ∈ wsX6_isLevel := by decide +kernel
  have hl := lv_entry ([.ref mo, .int (zI L)]) (n := 2) (Nat.le_of_ble_eq_true rfl)
  rw [lg_entry_eq]
  generalize (lg_sl ([.ref mo, .int (zI L)]) ++ List.replicate (2 - (lg_sl ([.ref mo, .int (zI L)])).length) Slot.unset).toArray = ls at hl ⊢
  have hl : lv_has ls 2 [(0, .ref mo), (1, .int (zI L))] := hl
  refine lv_iload_n hx hb dX6_isLevel_0 rfl (lv_at hl 1 rfl) ?_
  refine lv_iconst (v := zI 0) hx hb dX6_isLevel_1 (rfl) ?_
  refine lv_aload_n hx hb dX6_isLevel_2 rfl (lv_at hl 0 rfl) ?_
  refine va_get (D := (dC, dI)) (ci := 6) (v := .int (zI mn)) (C := RX6) (T := TX6) (N := 28) hx hb hts i_6 hown hK hP 0 rfl rfl 9 (by decide) f_63 (fun _ h9 => h9) rfl dX6_isLevel_3 ?_
  refine lv_iconst (v := zI 1) hx hb dX6_isLevel_6 (rfl) ?_
  refine lz_isub (z := mn - 1) hx hb dX6_isLevel_7 (by rfl) ?_
  have hPc := hP.sub (ws' := []) [] rfl
  have hDc := hD.sub (ws' := []) [] (by decide) rfl
  have hFc := va_free (wc := []) hD hS hA [] rfl
  refine va_calli (va_runS (As := [.int (zI L), .int (zI 0), .int (zI (mn - 1))]) (rest := []) ⟨hx, hb, hml, hown, hts⟩ (c_X6_in l dC dI cI cZ cL cT cJ s.heap.size L 0 (mn - 1) (by first | assumption | omega) (by first | assumption | omega) (by first | assumption | omega)) (cwS 3 hts gX6_isLevel_X6_in rfl rfl rfl (by decide +kernel) ⟨Nat.le_of_ble_eq_true rfl, Nat.le_of_ble_eq_true rfl⟩) ⟨zP_blind, zP_pre hPc hDc hK⟩ rfl rfl hl.1 rfl (lv_room (Nat.le_of_ble_eq_true rfl)) dX6_isLevel_8 ⟨Nat.le_of_ble_eq_true rfl, Nat.le_of_ble_eq_true rfl⟩) hS (fun q _ h => hFc q h) hFc (fun r_1 u_1 t H1 locs ht hvm hw hB hz1 hk1 hS => ?_)
  obtain ⟨r_2, rfl⟩ : ∃ z, z = u_1 := ⟨_, rfl⟩
  obtain ⟨hP1, hK1, hD1⟩ := hB
  rw [ht] at hP1
  have hP1 : va_P (dC, dI) vwCl [] H1 := hP1
  obtain ⟨hP, hD⟩ := va_join (wr := [(mo, .inr (6, [.ref (ad 0), .ref (ad 1), .ref (ad 2), .ref (ad 3), .ref (ad 4), .ref (ad 5), .ref (ad 6), .ref (ad 7), .ref (ad 8), .int (zI mn), .ref (ad 10), .ref (ad 11), .int (zI mp), .int (zI mon), .int (zI mrx), .int (zI mry), .int (zI mrl), .int (zI mrs), .int (zI mrf), .ref (ad 19), .int (zI mx), .int (zI my), .int (zI ml), .int (zI mst), .ref (ad 24), .ref (ad 25), .ref (ad 26), .int (zI mla)]))]) (w1 := []) hP hD [] [0] rfl rfl (by decide) (by decide) hk1 hFc hP1 hD1
  clear hP1 hD1 hk1 hFc hPc hDc hz1
  generalize H1 = H at hP hS ⊢
  have hP : va_P (dC, dI) vwCl [(mo, .inr (6, [.ref (ad 0), .ref (ad 1), .ref (ad 2), .ref (ad 3), .ref (ad 4), .ref (ad 5), .ref (ad 6), .ref (ad 7), .ref (ad 8), .int (zI mn), .ref (ad 10), .ref (ad 11), .int (zI mp), .int (zI mon), .int (zI mrx), .int (zI mry), .int (zI mrl), .int (zI mrs), .int (zI mrf), .ref (ad 19), .int (zI mx), .int (zI my), .int (zI ml), .int (zI mst), .ref (ad 24), .ref (ad 25), .ref (ad 26), .int (zI mla)]))] H := hP.sub [0] rfl
  have hD : va_D A [(mo, .inr (6, [.ref (ad 0), .ref (ad 1), .ref (ad 2), .ref (ad 3), .ref (ad 4), .ref (ad 5), .ref (ad 6), .ref (ad 7), .ref (ad 8), .int (zI mn), .ref (ad 10), .ref (ad 11), .int (zI mp), .int (zI mon), .int (zI mrx), .int (zI mry), .int (zI mrl), .int (zI mrs), .int (zI mrf), .ref (ad 19), .int (zI mx), .int (zI my), .int (zI ml), .int (zI mst), .ref (ad 24), .ref (ad 25), .ref (ad 26), .int (zI mla)]))] := hD.sub [0] (by decide) rfl
  clear hK1 hvm
  obtain ⟨rfl, po_3⟩ := hw
  have po_3 : (r_2 = 1 ∧ (0 : Int) ≤ L ∧ L ≤ (mn - 1)) ∨ (r_2 = 0 ∧ ¬ ((0 : Int) ≤ L ∧ L ≤ (mn - 1))) := po_3
  refine W.eq (g2 := F0 m 11 ls [.int (zI r_2)]) rfl ?_
  have hP9 := hP.sub (ws' := [(mo, .inr (6, [.ref (ad 0), .ref (ad 1), .ref (ad 2), .ref (ad 3), .ref (ad 4), .ref (ad 5), .ref (ad 6), .ref (ad 7), .ref (ad 8), .int (zI mn), .ref (ad 10), .ref (ad 11), .int (zI mp), .int (zI mon), .int (zI mrx), .int (zI mry), .int (zI mrl), .int (zI mrs), .int (zI mrf), .ref (ad 19), .int (zI mx), .int (zI my), .int (zI ml), .int (zI mst), .ref (ad 24), .ref (ad 25), .ref (ad 26), .int (zI mla)]))]) [0] rfl
  have hD9 := hD.sub (ws' := [(mo, .inr (6, [.ref (ad 0), .ref (ad 1), .ref (ad 2), .ref (ad 3), .ref (ad 4), .ref (ad 5), .ref (ad 6), .ref (ad 7), .ref (ad 8), .int (zI mn), .ref (ad 10), .ref (ad 11), .int (zI mp), .int (zI mon), .int (zI mrx), .int (zI mry), .int (zI mrl), .int (zI mrs), .int (zI mrf), .ref (ad 19), .int (zI mx), .int (zI my), .int (zI ml), .int (zI mst), .ref (ad 24), .ref (ad 25), .ref (ad 26), .int (zI mla)]))]) [0] (by decide) rfl
  have po : zI r_2 = zI r_2 ∧ ((r_2 = 1 ∧ 0 ≤ L ∧ L < mn) ∨ (r_2 = 0 ∧ ¬ (0 ≤ L ∧ L < mn))) := by
    refine ⟨by first | rfl | (congr 1; omega) | (congr 1; simp [*]), ?_⟩
    omega
  exact W.zret (v := zI r_2) hx hb hr (by first | rfl | decide | exact zI_nz (by omega)) (fun t ht hW => ⟨⟨zI r_2, r_2, rfl, po, by rw [ht]; exact hP9, va_K.moved hW.alike hK, hD9⟩, hS.F ht⟩) hS.2.2 dX6_isLevel_11
set_option maxHeartbeats 4000000 in
set_option maxRecDepth 100000 in
theorem c_X6_isPlayer (l : Launch) (dC : Nat → ClassId) (dI : Nat → Nat → Nat) (cI cZ cL cT cJ : ClassId) (sz : Nat) (q : Int) (r9q : -2147483648 ≤ q ∧ q < 2147483648) : Met l yX6_isPlayer wsX6_isPlayer ({ frames := 1, cells := 0, slots := 0, locals := 22 }) (zP (dC, dI) (zT cI cZ cL cT cJ) sz [.int (zI q)] []) (va_Qi (fun (r9 : Int32) (u9 : Int) => match u9 with | r => r9 = zI r ∧ ((r = 1 ∧ 0 ≤ q ∧ q ≤ 3) ∨ (r = 0 ∧ ¬ (0 ≤ q ∧ q ≤ 3)))) (zB (dC, dI) (zT cI cZ cL cT cJ) (va_A [] sz) (fun (u9 : Int) => match u9 with | r => [])) (va_A [] sz)) 0 0 (va_A [] sz) := by
  refine Met.ofW (cc := cX6_isPlayer) (maxL := 1) (ret := (some .boolean)) (by decide) rfl ?_
  intro p e s m args below meth c s₁ B hml hv
  obtain ⟨rfl, hsz, hP, hK, hD0⟩ := hv
  have hx := B.exec
  have hb := B.bytes
  have hr := B.returns
  have hts := atoms_spec (ws := wsX6_isPlayer) B.pre
  have hown : s.vm.findClass RX6 = some m.cls := findClass_of_methodNamed B.named
  have hlocks := B.notSynchronized
  subst hsz
  have hD := hD0.self (sz := s.heap.size)
  generalize hAe : va_A [] s.heap.size = A at hD ⊢
  have hA : ∀ q : Nat, s.heap.size ≤ q → A q := fun q h => by rw [← hAe]; exact Or.inr h
  clear hAe hD0
  have hS : va_S A s.heap s.heap [] := va_S.rf
  have hP : va_P (dC, dI) vwCl [] s.heap := hP
  have hl := lv_entry ([.int (zI q)]) (n := 1) (Nat.le_of_ble_eq_true rfl)
  rw [lg_entry_eq]
  generalize (lg_sl ([.int (zI q)]) ++ List.replicate (1 - (lg_sl ([.int (zI q)])).length) Slot.unset).toArray = ls at hl ⊢
  have hl : lv_has ls 1 [(0, .int (zI q))] := hl
  refine lv_iload_n hx hb dX6_isPlayer_0 rfl (lv_at hl 0 rfl) ?_
  refine lv_iconst (v := zI 0) hx hb dX6_isPlayer_1 (rfl) ?_
  refine lv_iconst (v := zI 3) hx hb dX6_isPlayer_2 (rfl) ?_
  have hPc := hP.sub (ws' := []) [] rfl
  have hDc := hD.sub (ws' := []) [] (by decide) rfl
  have hFc := va_free (wc := []) hD hS hA [] rfl
  refine va_calli (va_runS (As := [.int (zI q), .int (zI 0), .int (zI 3)]) (rest := []) ⟨hx, hb, hml, hown, hts⟩ (c_X6_in l dC dI cI cZ cL cT cJ s.heap.size q 0 3 (by first | assumption | omega) (by first | assumption | omega) (by first | assumption | omega)) (cwS 3 hts gX6_isPlayer_X6_in rfl rfl rfl (by decide +kernel) ⟨Nat.le_of_ble_eq_true rfl, Nat.le_of_ble_eq_true rfl⟩) ⟨zP_blind, zP_pre hPc hDc hK⟩ rfl rfl hl.1 rfl (lv_room (Nat.le_of_ble_eq_true rfl)) dX6_isPlayer_3 ⟨Nat.le_of_ble_eq_true rfl, Nat.le_of_ble_eq_true rfl⟩) hS (fun q _ h => hFc q h) hFc (fun r_1 u_1 t H1 locs ht hvm hw hB hz1 hk1 hS => ?_)
  obtain ⟨r_2, rfl⟩ : ∃ z, z = u_1 := ⟨_, rfl⟩
  obtain ⟨hP1, hK1, hD1⟩ := hB
  rw [ht] at hP1
  have hP1 : va_P (dC, dI) vwCl [] H1 := hP1
  obtain ⟨hP, hD⟩ := va_join (wr := []) (w1 := []) hP hD [] [] rfl rfl (by decide) (by decide) hk1 hFc hP1 hD1
  clear hP1 hD1 hk1 hFc hPc hDc hz1
  generalize H1 = H at hP hS ⊢
  have hP : va_P (dC, dI) vwCl [] H := hP.sub [] rfl
  have hD : va_D A [] := hD.sub [] (by decide) rfl
  clear hK1 hvm
  obtain ⟨rfl, po_3⟩ := hw
  have po_3 : (r_2 = 1 ∧ (0 : Int) ≤ q ∧ q ≤ (3 : Int)) ∨ (r_2 = 0 ∧ ¬ ((0 : Int) ≤ q ∧ q ≤ (3 : Int))) := po_3
  refine W.eq (g2 := F0 m 6 ls [.int (zI r_2)]) rfl ?_
  have hP9 := hP.sub (ws' := []) [] rfl
  have hD9 := hD.sub (ws' := []) [] (by decide) rfl
  have po : zI r_2 = zI r_2 ∧ ((r_2 = 1 ∧ 0 ≤ q ∧ q ≤ 3) ∨ (r_2 = 0 ∧ ¬ (0 ≤ q ∧ q ≤ 3))) := by
    refine ⟨by first | rfl | (congr 1; omega) | (congr 1; simp [*]), ?_⟩
    omega
  exact W.zret (v := zI r_2) hx hb hr (by first | rfl | decide | exact zI_nz (by omega)) (fun t ht hW => ⟨⟨zI r_2, r_2, rfl, po, by rw [ht]; exact hP9, va_K.moved hW.alike hK, hD9⟩, hS.F ht⟩) hS.2.2 dX6_isPlayer_6
set_option maxHeartbeats 4000000 in
set_option maxRecDepth 100000 in
theorem c_X6_isCell (l : Launch) (dC : Nat → ClassId) (dI : Nat → Nat → Nat) (cI cZ cL cT cJ : ClassId) (sz : Nat) (mo : Nat) (ad : Nat → Nat) (mn : Int) (mp : Int) (mon : Int) (mrx : Int) (mry : Int) (mrl : Int) (mrs : Int) (mrf : Int) (mx : Int) (my : Int) (ml : Int) (mst : Int) (mla : Int) (mW : Int → Int) (mH : Int → Int) (L : Int) (cx : Int) (cy : Int) (gn : 0 ≤ mn ∧ mn ≤ 6) (gW : ∀ i, 0 ≤ i → i < mn → 2 ≤ mW i ∧ mW i ≤ 12) (gH : ∀ i, 0 ≤ i → i < mn → 2 ≤ mH i ∧ mH i ≤ 8) (r9L : -2147483648 ≤ L ∧ L < 2147483648) (r9cx : -2147483648 ≤ cx ∧ cx < 2147483648) (r9cy : -2147483648 ≤ cy ∧ cy < 2147483648) : Met l yX6_isCell wsX6_isCell ({ frames := 2, cells := 0, slots := 0, locals := 43 }) (zP (dC, dI) (zT cI cZ cL cT cJ) sz [.ref mo, .int (zI L), .int (zI cx), .int (zI cy)] [(mo, .inr (6, [.ref (ad 0), .ref (ad 1), .ref (ad 2), .ref (ad 3), .ref (ad 4), .ref (ad 5), .ref (ad 6), .ref (ad 7), .ref (ad 8), .int (zI mn), .ref (ad 10), .ref (ad 11), .int (zI mp), .int (zI mon), .int (zI mrx), .int (zI mry), .int (zI mrl), .int (zI mrs), .int (zI mrf), .ref (ad 19), .int (zI mx), .int (zI my), .int (zI ml), .int (zI mst), .ref (ad 24), .ref (ad 25), .ref (ad 26), .int (zI mla)])), zA cI (ad 0) 6 mW, zA cI (ad 1) 6 mH]) (va_Qi (fun (r9 : Int32) (u9 : Int) => match u9 with | r => r9 = zI r ∧ ((r = 1 ∧ (0 ≤ L ∧ L < mn ∧ 0 ≤ cx ∧ cx < mW L ∧ 0 ≤ cy ∧ cy < mH L)) ∨ (r = 0 ∧ ¬ (0 ≤ L ∧ L < mn ∧ 0 ≤ cx ∧ cx < mW L ∧ 0 ≤ cy ∧ cy < mH L)))) (zB (dC, dI) (zT cI cZ cL cT cJ) (va_A [(mo, .inr (6, [.ref (ad 0), .ref (ad 1), .ref (ad 2), .ref (ad 3), .ref (ad 4), .ref (ad 5), .ref (ad 6), .ref (ad 7), .ref (ad 8), .int (zI mn), .ref (ad 10), .ref (ad 11), .int (zI mp), .int (zI mon), .int (zI mrx), .int (zI mry), .int (zI mrl), .int (zI mrs), .int (zI mrf), .ref (ad 19), .int (zI mx), .int (zI my), .int (zI ml), .int (zI mst), .ref (ad 24), .ref (ad 25), .ref (ad 26), .int (zI mla)])), zA cI (ad 0) 6 mW, zA cI (ad 1) 6 mH] sz) (fun (u9 : Int) => match u9 with | r => [(mo, .inr (6, [.ref (ad 0), .ref (ad 1), .ref (ad 2), .ref (ad 3), .ref (ad 4), .ref (ad 5), .ref (ad 6), .ref (ad 7), .ref (ad 8), .int (zI mn), .ref (ad 10), .ref (ad 11), .int (zI mp), .int (zI mon), .int (zI mrx), .int (zI mry), .int (zI mrl), .int (zI mrs), .int (zI mrf), .ref (ad 19), .int (zI mx), .int (zI my), .int (zI ml), .int (zI mst), .ref (ad 24), .ref (ad 25), .ref (ad 26), .int (zI mla)])), zA cI (ad 0) 6 mW, zA cI (ad 1) 6 mH])) (va_A [(mo, .inr (6, [.ref (ad 0), .ref (ad 1), .ref (ad 2), .ref (ad 3), .ref (ad 4), .ref (ad 5), .ref (ad 6), .ref (ad 7), .ref (ad 8), .int (zI mn), .ref (ad 10), .ref (ad 11), .int (zI mp), .int (zI mon), .int (zI mrx), .int (zI mry), .int (zI mrl), .int (zI mrs), .int (zI mrf), .ref (ad 19), .int (zI mx), .int (zI my), .int (zI ml), .int (zI mst), .ref (ad 24), .ref (ad 25), .ref (ad 26), .int (zI mla)])), zA cI (ad 0) 6 mW, zA cI (ad 1) 6 mH] sz)) 0 0 (va_A [(mo, .inr (6, [.ref (ad 0), .ref (ad 1), .ref (ad 2), .ref (ad 3), .ref (ad 4), .ref (ad 5), .ref (ad 6), .ref (ad 7), .ref (ad 8), .int (zI mn), .ref (ad 10), .ref (ad 11), .int (zI mp), .int (zI mon), .int (zI mrx), .int (zI mry), .int (zI mrl), .int (zI mrs), .int (zI mrf), .ref (ad 19), .int (zI mx), .int (zI my), .int (zI ml), .int (zI mst), .ref (ad 24), .ref (ad 25), .ref (ad 26), .int (zI mla)])), zA cI (ad 0) 6 mW, zA cI (ad 1) 6 mH] sz) := by
  refine Met.ofW (cc := cX6_isCell) (maxL := 4) (ret := (some .boolean)) (by decide) rfl ?_
  intro p e s m args below meth c s₁ B hml hv
  obtain ⟨rfl, hsz, hP, hK, hD0⟩ := hv
  have hx := B.exec
  have hb := B.bytes
  have hr := B.returns
  have hts := atoms_spec (ws := wsX6_isCell) B.pre
  have hown : s.vm.findClass RX6 = some m.cls := findClass_of_methodNamed B.named
  have hlocks := B.notSynchronized
  subst hsz
  have hD := hD0.self (sz := s.heap.size)
  generalize hAe : va_A [(mo, .inr (6, [.ref (ad 0), .ref (ad 1), .ref (ad 2), .ref (ad 3), .ref (ad 4), .ref (ad 5), .ref (ad 6), .ref (ad 7), .ref (ad 8), .int (zI mn), .ref (ad 10), .ref (ad 11), .int (zI mp), .int (zI mon), .int (zI mrx), .int (zI mry), .int (zI mrl), .int (zI mrs), .int (zI mrf), .ref (ad 19), .int (zI mx), .int (zI my), .int (zI ml), .int (zI mst), .ref (ad 24), .ref (ad 25), .ref (ad 26), .int (zI mla)])), zA cI (ad 0) 6 mW, zA cI (ad 1) 6 mH] s.heap.size = A at hD ⊢
  have hA : ∀ q : Nat, s.heap.size ≤ q → A q := fun q h => by rw [← hAe]; exact Or.inr h
  clear hAe hD0
  have hS : va_S A s.heap s.heap [] := va_S.rf
  have hP : va_P (dC, dI) vwCl [(mo, .inr (6, [.ref (ad 0), .ref (ad 1), .ref (ad 2), .ref (ad 3), .ref (ad 4), .ref (ad 5), .ref (ad 6), .ref (ad 7), .ref (ad 8), .int (zI mn), .ref (ad 10), .ref (ad 11), .int (zI mp), .int (zI mon), .int (zI mrx), .int (zI mry), .int (zI mrl), .int (zI mrs), .int (zI mrf), .ref (ad 19), .int (zI mx), .int (zI my), .int (zI ml), .int (zI mst), .ref (ad 24), .ref (ad 25), .ref (ad 26), .int (zI mla)])), zA cI (ad 0) 6 mW, zA cI (ad 1) 6 mH] s.heap := hP
  have f_7 := hts (.fieldLink RX6 7 "SpringLevelsModel" "widths" "[I") (by decide +kernel)
  have f_13 := hts (.fieldLink RX6 13 "SpringLevelsModel" "heights" "[I") (by decide +kernel)
  have i_6 : ∀ w ∈ wsX60, w ∈ wsX6_isCell := by decide +kernel
  have hl := lv_entry ([.ref mo, .int (zI L), .int (zI cx), .int (zI cy)]) (n := 4) (Nat.le_of_ble_eq_true rfl)
  rw [lg_entry_eq]
  generalize (lg_sl ([.ref mo, .int (zI L), .int (zI cx), .int (zI cy)]) ++ List.replicate (4 - (lg_sl ([.ref mo, .int (zI L), .int (zI cx), .int (zI cy)])).length) Slot.unset).toArray = ls at hl ⊢
  have hl : lv_has ls 4 [(0, .ref mo), (1, .int (zI L)), (2, .int (zI cx)), (3, .int (zI cy))] := hl
  refine lv_aload_n hx hb dX6_isCell_0 rfl (lv_at hl 0 rfl) ?_
  refine lv_iload_n hx hb dX6_isCell_1 rfl (lv_at hl 1 rfl) ?_
  have hPc := hP.sub (ws' := [(mo, .inr (6, [.ref (ad 0), .ref (ad 1), .ref (ad 2), .ref (ad 3), .ref (ad 4), .ref (ad 5), .ref (ad 6), .ref (ad 7), .ref (ad 8), .int (zI mn), .ref (ad 10), .ref (ad 11), .int (zI mp), .int (zI mon), .int (zI mrx), .int (zI mry), .int (zI mrl), .int (zI mrs), .int (zI mrf), .ref (ad 19), .int (zI mx), .int (zI my), .int (zI ml), .int (zI mst), .ref (ad 24), .ref (ad 25), .ref (ad 26), .int (zI mla)]))]) [0] rfl
  have hDc := hD.sub (ws' := [(mo, .inr (6, [.ref (ad 0), .ref (ad 1), .ref (ad 2), .ref (ad 3), .ref (ad 4), .ref (ad 5), .ref (ad 6), .ref (ad 7), .ref (ad 8), .int (zI mn), .ref (ad 10), .ref (ad 11), .int (zI mp), .int (zI mon), .int (zI mrx), .int (zI mry), .int (zI mrl), .int (zI mrs), .int (zI mrf), .ref (ad 19), .int (zI mx), .int (zI my), .int (zI ml), .int (zI mst), .ref (ad 24), .ref (ad 25), .ref (ad 26), .int (zI mla)]))]) [0] (by decide) rfl
  have hFc := va_free (wc := [(mo, .inr (6, [.ref (ad 0), .ref (ad 1), .ref (ad 2), .ref (ad 3), .ref (ad 4), .ref (ad 5), .ref (ad 6), .ref (ad 7), .ref (ad 8), .int (zI mn), .ref (ad 10), .ref (ad 11), .int (zI mp), .int (zI mon), .int (zI mrx), .int (zI mry), .int (zI mrl), .int (zI mrs), .int (zI mrf), .ref (ad 19), .int (zI mx), .int (zI my), .int (zI ml), .int (zI mst), .ref (ad 24), .ref (ad 25), .ref (ad 26), .int (zI mla)]))]) hD hS hA [0] rfl
  refine va_calli (va_runV (As := [.int (zI L)]) (rest := []) ⟨hx, hb, hml, hown, hts⟩ (c_X6_isLevel l dC dI cI cZ cL cT cJ s.heap.size mo ad mn mp mon mrx mry mrl mrs mrf mx my ml mst mla L (by first | assumption | omega) (by first | assumption | omega)) (cwV 1 hts gX6_isCell_X6_isLevel rfl rfl rfl (by decide +kernel) ⟨Nat.le_of_ble_eq_true rfl, Nat.le_of_ble_eq_true rfl⟩) ⟨zP_blind, va_recv hK hPc (ci := 6) (q0 := 0) rfl rfl, zP_pre hPc hDc hK⟩ rfl rfl hl.1 rfl (lv_room (Nat.le_of_ble_eq_true rfl)) dX6_isCell_2 ⟨Nat.le_of_ble_eq_true rfl, Nat.le_of_ble_eq_true rfl⟩) hS (fun q _ h => hFc q h) hFc (fun r_1 u_1 t H1 locs ht hvm hw hB hz1 hk1 hS => ?_)
  obtain ⟨r_2, rfl⟩ : ∃ z, z = u_1 := ⟨_, rfl⟩
  obtain ⟨hP1, hK1, hD1⟩ := hB
  rw [ht] at hP1
  have hP1 : va_P (dC, dI) vwCl [(mo, .inr (6, [.ref (ad 0), .ref (ad 1), .ref (ad 2), .ref (ad 3), .ref (ad 4), .ref (ad 5), .ref (ad 6), .ref (ad 7), .ref (ad 8), .int (zI mn), .ref (ad 10), .ref (ad 11), .int (zI mp), .int (zI mon), .int (zI mrx), .int (zI mry), .int (zI mrl), .int (zI mrs), .int (zI mrf), .ref (ad 19), .int (zI mx), .int (zI my), .int (zI ml), .int (zI mst), .ref (ad 24), .ref (ad 25), .ref (ad 26), .int (zI mla)]))] H1 := hP1
  obtain ⟨hP, hD⟩ := va_join (wr := [zA cI (ad 0) 6 mW, zA cI (ad 1) 6 mH]) (w1 := [(mo, .inr (6, [.ref (ad 0), .ref (ad 1), .ref (ad 2), .ref (ad 3), .ref (ad 4), .ref (ad 5), .ref (ad 6), .ref (ad 7), .ref (ad 8), .int (zI mn), .ref (ad 10), .ref (ad 11), .int (zI mp), .int (zI mon), .int (zI mrx), .int (zI mry), .int (zI mrl), .int (zI mrs), .int (zI mrf), .ref (ad 19), .int (zI mx), .int (zI my), .int (zI ml), .int (zI mst), .ref (ad 24), .ref (ad 25), .ref (ad 26), .int (zI mla)]))]) hP hD [0] [1, 2] rfl rfl (by decide) (by decide) hk1 hFc hP1 hD1
  clear hP1 hD1 hk1 hFc hPc hDc hz1
  generalize H1 = H at hP hS ⊢
  have hP : va_P (dC, dI) vwCl [(mo, .inr (6, [.ref (ad 0), .ref (ad 1), .ref (ad 2), .ref (ad 3), .ref (ad 4), .ref (ad 5), .ref (ad 6), .ref (ad 7), .ref (ad 8), .int (zI mn), .ref (ad 10), .ref (ad 11), .int (zI mp), .int (zI mon), .int (zI mrx), .int (zI mry), .int (zI mrl), .int (zI mrs), .int (zI mrf), .ref (ad 19), .int (zI mx), .int (zI my), .int (zI ml), .int (zI mst), .ref (ad 24), .ref (ad 25), .ref (ad 26), .int (zI mla)])), zA cI (ad 0) 6 mW, zA cI (ad 1) 6 mH] H := hP.sub [2, 0, 1] rfl
  have hD : va_D A [(mo, .inr (6, [.ref (ad 0), .ref (ad 1), .ref (ad 2), .ref (ad 3), .ref (ad 4), .ref (ad 5), .ref (ad 6), .ref (ad 7), .ref (ad 8), .int (zI mn), .ref (ad 10), .ref (ad 11), .int (zI mp), .int (zI mon), .int (zI mrx), .int (zI mry), .int (zI mrl), .int (zI mrs), .int (zI mrf), .ref (ad 19), .int (zI mx), .int (zI my), .int (zI ml), .int (zI mst), .ref (ad 24), .ref (ad 25), .ref (ad 26), .int (zI mla)])), zA cI (ad 0) 6 mW, zA cI (ad 1) 6 mH] := hD.sub [2, 0, 1] (by decide) rfl
  clear hK1 hvm
  obtain ⟨rfl, po_3⟩ := hw
  have po_3 : (r_2 = 1 ∧ 0 ≤ L ∧ L < mn) ∨ (r_2 = 0 ∧ ¬ (0 ≤ L ∧ L < mn)) := po_3
  refine W.eq (g2 := F0 m 5 ls [.int (zI r_2)]) rfl ?_
  refine lz_if_eq (tgt := 44) hx hb dX6_isCell_5 (by decide) (by omega) (fun c_4 => ?_) (fun c_4 => ?_)
  ·
    refine lv_iconst (v := zI 0) hx hb dX6_isCell_44 (rfl) ?_
    have hP9 := hP.sub (ws' := [(mo, .inr (6, [.ref (ad 0), .ref (ad 1), .ref (ad 2), .ref (ad 3), .ref (ad 4), .ref (ad 5), .ref (ad 6), .ref (ad 7), .ref (ad 8), .int (zI mn), .ref (ad 10), .ref (ad 11), .int (zI mp), .int (zI mon), .int (zI mrx), .int (zI mry), .int (zI mrl), .int (zI mrs), .int (zI mrf), .ref (ad 19), .int (zI mx), .int (zI my), .int (zI ml), .int (zI mst), .ref (ad 24), .ref (ad 25), .ref (ad 26), .int (zI mla)])), zA cI (ad 0) 6 mW, zA cI (ad 1) 6 mH]) [0, 1, 2] rfl
    have hD9 := hD.sub (ws' := [(mo, .inr (6, [.ref (ad 0), .ref (ad 1), .ref (ad 2), .ref (ad 3), .ref (ad 4), .ref (ad 5), .ref (ad 6), .ref (ad 7), .ref (ad 8), .int (zI mn), .ref (ad 10), .ref (ad 11), .int (zI mp), .int (zI mon), .int (zI mrx), .int (zI mry), .int (zI mrl), .int (zI mrs), .int (zI mrf), .ref (ad 19), .int (zI mx), .int (zI my), .int (zI ml), .int (zI mst), .ref (ad 24), .ref (ad 25), .ref (ad 26), .int (zI mla)])), zA cI (ad 0) 6 mW, zA cI (ad 1) 6 mH]) [0, 1, 2] (by decide) rfl
    have po : zI 0 = zI (0 : Int) ∧ (((0 : Int) = 1 ∧ (0 ≤ L ∧ L < mn ∧ 0 ≤ cx ∧ cx < mW L ∧ 0 ≤ cy ∧ cy < mH L)) ∨ ((0 : Int) = 0 ∧ ¬ (0 ≤ L ∧ L < mn ∧ 0 ≤ cx ∧ cx < mW L ∧ 0 ≤ cy ∧ cy < mH L))) := by
      refine ⟨by first | rfl | (congr 1; omega) | (congr 1; simp [*]), ?_⟩
      omega
    exact W.zret (v := zI 0) hx hb hr (by first | rfl | decide | exact zI_nz (by omega)) (fun t ht hW => ⟨⟨zI 0, 0, rfl, po, by rw [ht]; exact hP9, va_K.moved hW.alike hK, hD9⟩, hS.F ht⟩) hS.2.2 dX6_isCell_45
  ·
    refine lv_iload_n hx hb dX6_isCell_8 rfl (lv_at hl 2 rfl) ?_
    refine lv_iconst (v := zI 0) hx hb dX6_isCell_9 (rfl) ?_
    refine lv_aload_n hx hb dX6_isCell_10 rfl (lv_at hl 0 rfl) ?_
    refine va_get (D := (dC, dI)) (ci := 6) (v := .ref (ad 0)) (C := RX6) (T := TX6) (N := 28) hx hb hts i_6 hown hK hP 0 rfl rfl 0 (by decide) f_7 (fun _ h9 => h9) rfl dX6_isCell_11 ?_
    refine lv_iload_n hx hb dX6_isCell_14 rfl (lv_at hl 1 rfl) ?_
    refine lz_iald (F := mW) (i := L) hx hb hK hP 1 0 rfl rfl (by omega) (by omega) (by decide) dX6_isCell_15 ?_
    have e1 := gW L (by omega) (by omega)
    refine lv_iconst (v := zI 1) hx hb dX6_isCell_16 (rfl) ?_
    refine lz_isub (z := (mW L) - 1) hx hb dX6_isCell_17 (by rfl) ?_
    have hPc := hP.sub (ws' := []) [] rfl
    have hDc := hD.sub (ws' := []) [] (by decide) rfl
    have hFc := va_free (wc := []) hD hS hA [] rfl
    refine va_calli (va_runS (As := [.int (zI cx), .int (zI 0), .int (zI ((mW L) - 1))]) (rest := []) ⟨hx, hb, hml, hown, hts⟩ (c_X6_in l dC dI cI cZ cL cT cJ H.size cx 0 ((mW L) - 1) (by first | assumption | omega) (by first | assumption | omega) (by first | assumption | omega)) (cwS 3 hts gX6_isCell_X6_in rfl rfl rfl (by decide +kernel) ⟨Nat.le_of_ble_eq_true rfl, Nat.le_of_ble_eq_true rfl⟩) ⟨zP_blind, zP_pre hPc hDc hK⟩ rfl rfl hl.1 rfl (lv_room (Nat.le_of_ble_eq_true rfl)) dX6_isCell_18 ⟨Nat.le_of_ble_eq_true rfl, Nat.le_of_ble_eq_true rfl⟩) hS (fun q _ h => hFc q h) hFc (fun r_5 u_5 t H1 locs ht hvm hw hB hz1 hk1 hS => ?_)
    obtain ⟨r_6, rfl⟩ : ∃ z, z = u_5 := ⟨_, rfl⟩
    obtain ⟨hP1, hK1, hD1⟩ := hB
    rw [ht] at hP1
    have hP1 : va_P (dC, dI) vwCl [] H1 := hP1
    obtain ⟨hP, hD⟩ := va_join (wr := [(mo, .inr (6, [.ref (ad 0), .ref (ad 1), .ref (ad 2), .ref (ad 3), .ref (ad 4), .ref (ad 5), .ref (ad 6), .ref (ad 7), .ref (ad 8), .int (zI mn), .ref (ad 10), .ref (ad 11), .int (zI mp), .int (zI mon), .int (zI mrx), .int (zI mry), .int (zI mrl), .int (zI mrs), .int (zI mrf), .ref (ad 19), .int (zI mx), .int (zI my), .int (zI ml), .int (zI mst), .ref (ad 24), .ref (ad 25), .ref (ad 26), .int (zI mla)])), zA cI (ad 0) 6 mW, zA cI (ad 1) 6 mH]) (w1 := []) hP hD [] [0, 1, 2] rfl rfl (by decide) (by decide) hk1 hFc hP1 hD1
    clear hP1 hD1 hk1 hFc hPc hDc hz1
    generalize H1 = H at hP hS ⊢
    have hP : va_P (dC, dI) vwCl [(mo, .inr (6, [.ref (ad 0), .ref (ad 1), .ref (ad 2), .ref (ad 3), .ref (ad 4), .ref (ad 5), .ref (ad 6), .ref (ad 7), .ref (ad 8), .int (zI mn), .ref (ad 10), .ref (ad 11), .int (zI mp), .int (zI mon), .int (zI mrx), .int (zI mry), .int (zI mrl), .int (zI mrs), .int (zI mrf), .ref (ad 19), .int (zI mx), .int (zI my), .int (zI ml), .int (zI mst), .ref (ad 24), .ref (ad 25), .ref (ad 26), .int (zI mla)])), zA cI (ad 0) 6 mW, zA cI (ad 1) 6 mH] H := hP.sub [0, 1, 2] rfl
    have hD : va_D A [(mo, .inr (6, [.ref (ad 0), .ref (ad 1), .ref (ad 2), .ref (ad 3), .ref (ad 4), .ref (ad 5), .ref (ad 6), .ref (ad 7), .ref (ad 8), .int (zI mn), .ref (ad 10), .ref (ad 11), .int (zI mp), .int (zI mon), .int (zI mrx), .int (zI mry), .int (zI mrl), .int (zI mrs), .int (zI mrf), .ref (ad 19), .int (zI mx), .int (zI my), .int (zI ml), .int (zI mst), .ref (ad 24), .ref (ad 25), .ref (ad 26), .int (zI mla)])), zA cI (ad 0) 6 mW, zA cI (ad 1) 6 mH] := hD.sub [0, 1, 2] (by decide) rfl
    clear hK1 hvm
    obtain ⟨rfl, po_7⟩ := hw
    have po_7 : (r_6 = 1 ∧ (0 : Int) ≤ cx ∧ cx ≤ ((mW L) - 1)) ∨ (r_6 = 0 ∧ ¬ ((0 : Int) ≤ cx ∧ cx ≤ ((mW L) - 1))) := po_7
    refine W.eq (g2 := F0 m 21 ls [.int (zI r_6)]) rfl ?_
    refine lz_if_eq (tgt := 44) hx hb dX6_isCell_21 (by decide) (by omega) (fun c_8 => ?_) (fun c_8 => ?_)
    ·
      refine lv_iconst (v := zI 0) hx hb dX6_isCell_44 (rfl) ?_
      have hP9 := hP.sub (ws' := [(mo, .inr (6, [.ref (ad 0), .ref (ad 1), .ref (ad 2), .ref (ad 3), .ref (ad 4), .ref (ad 5), .ref (ad 6), .ref (ad 7), .ref (ad 8), .int (zI mn), .ref (ad 10), .ref (ad 11), .int (zI mp), .int (zI mon), .int (zI mrx), .int (zI mry), .int (zI mrl), .int (zI mrs), .int (zI mrf), .ref (ad 19), .int (zI mx), .int (zI my), .int (zI ml), .int (zI mst), .ref (ad 24), .ref (ad 25), .ref (ad 26), .int (zI mla)])), zA cI (ad 0) 6 mW, zA cI (ad 1) 6 mH]) [0, 1, 2] rfl
      have hD9 := hD.sub (ws' := [(mo, .inr (6, [.ref (ad 0), .ref (ad 1), .ref (ad 2), .ref (ad 3), .ref (ad 4), .ref (ad 5), .ref (ad 6), .ref (ad 7), .ref (ad 8), .int (zI mn), .ref (ad 10), .ref (ad 11), .int (zI mp), .int (zI mon), .int (zI mrx), .int (zI mry), .int (zI mrl), .int (zI mrs), .int (zI mrf), .ref (ad 19), .int (zI mx), .int (zI my), .int (zI ml), .int (zI mst), .ref (ad 24), .ref (ad 25), .ref (ad 26), .int (zI mla)])), zA cI (ad 0) 6 mW, zA cI (ad 1) 6 mH]) [0, 1, 2] (by decide) rfl
      have po : zI 0 = zI (0 : Int) ∧ (((0 : Int) = 1 ∧ (0 ≤ L ∧ L < mn ∧ 0 ≤ cx ∧ cx < mW L ∧ 0 ≤ cy ∧ cy < mH L)) ∨ ((0 : Int) = 0 ∧ ¬ (0 ≤ L ∧ L < mn ∧ 0 ≤ cx ∧ cx < mW L ∧ 0 ≤ cy ∧ cy < mH L))) := by
        refine ⟨by first | rfl | (congr 1; omega) | (congr 1; simp [*]), ?_⟩
        omega
      exact W.zret (v := zI 0) hx hb hr (by first | rfl | decide | exact zI_nz (by omega)) (fun t ht hW => ⟨⟨zI 0, 0, rfl, po, by rw [ht]; exact hP9, va_K.moved hW.alike hK, hD9⟩, hS.F ht⟩) hS.2.2 dX6_isCell_45
    ·
      refine lv_iload_n hx hb dX6_isCell_24 rfl (lv_at hl 3 rfl) ?_
      refine lv_iconst (v := zI 0) hx hb dX6_isCell_25 (rfl) ?_
      refine lv_aload_n hx hb dX6_isCell_26 rfl (lv_at hl 0 rfl) ?_
      refine va_get (D := (dC, dI)) (ci := 6) (v := .ref (ad 1)) (C := RX6) (T := TX6) (N := 28) hx hb hts i_6 hown hK hP 0 rfl rfl 1 (by decide) f_13 (fun _ h9 => h9) rfl dX6_isCell_27 ?_
      refine lv_iload_n hx hb dX6_isCell_30 rfl (lv_at hl 1 rfl) ?_
      refine lz_iald (F := mH) (i := L) hx hb hK hP 2 0 rfl rfl (by omega) (by omega) (by decide) dX6_isCell_31 ?_
      have e2 := gH L (by omega) (by omega)
      refine lv_iconst (v := zI 1) hx hb dX6_isCell_32 (rfl) ?_
      refine lz_isub (z := (mH L) - 1) hx hb dX6_isCell_33 (by rfl) ?_
      have hPc := hP.sub (ws' := []) [] rfl
      have hDc := hD.sub (ws' := []) [] (by decide) rfl
      have hFc := va_free (wc := []) hD hS hA [] rfl
      refine va_calli (va_runS (As := [.int (zI cy), .int (zI 0), .int (zI ((mH L) - 1))]) (rest := []) ⟨hx, hb, hml, hown, hts⟩ (c_X6_in l dC dI cI cZ cL cT cJ H.size cy 0 ((mH L) - 1) (by first | assumption | omega) (by first | assumption | omega) (by first | assumption | omega)) (cwS 3 hts gX6_isCell_X6_in rfl rfl rfl (by decide +kernel) ⟨Nat.le_of_ble_eq_true rfl, Nat.le_of_ble_eq_true rfl⟩) ⟨zP_blind, zP_pre hPc hDc hK⟩ rfl rfl hl.1 rfl (lv_room (Nat.le_of_ble_eq_true rfl)) dX6_isCell_34 ⟨Nat.le_of_ble_eq_true rfl, Nat.le_of_ble_eq_true rfl⟩) hS (fun q _ h => hFc q h) hFc (fun r_9 u_9 t H1 locs ht hvm hw hB hz1 hk1 hS => ?_)
      obtain ⟨r_10, rfl⟩ : ∃ z, z = u_9 := ⟨_, rfl⟩
      obtain ⟨hP1, hK1, hD1⟩ := hB
      rw [ht] at hP1
      have hP1 : va_P (dC, dI) vwCl [] H1 := hP1
      obtain ⟨hP, hD⟩ := va_join (wr := [(mo, .inr (6, [.ref (ad 0), .ref (ad 1), .ref (ad 2), .ref (ad 3), .ref (ad 4), .ref (ad 5), .ref (ad 6), .ref (ad 7), .ref (ad 8), .int (zI mn), .ref (ad 10), .ref (ad 11), .int (zI mp), .int (zI mon), .int (zI mrx), .int (zI mry), .int (zI mrl), .int (zI mrs), .int (zI mrf), .ref (ad 19), .int (zI mx), .int (zI my), .int (zI ml), .int (zI mst), .ref (ad 24), .ref (ad 25), .ref (ad 26), .int (zI mla)])), zA cI (ad 0) 6 mW, zA cI (ad 1) 6 mH]) (w1 := []) hP hD [] [0, 1, 2] rfl rfl (by decide) (by decide) hk1 hFc hP1 hD1
      clear hP1 hD1 hk1 hFc hPc hDc hz1
      generalize H1 = H at hP hS ⊢
      have hP : va_P (dC, dI) vwCl [(mo, .inr (6, [.ref (ad 0), .ref (ad 1), .ref (ad 2), .ref (ad 3), .ref (ad 4), .ref (ad 5), .ref (ad 6), .ref (ad 7), .ref (ad 8), .int (zI mn), .ref (ad 10), .ref (ad 11), .int (zI mp), .int (zI mon), .int (zI mrx), .int (zI mry), .int (zI mrl), .int (zI mrs), .int (zI mrf), .ref (ad 19), .int (zI mx), .int (zI my), .int (zI ml), .int (zI mst), .ref (ad 24), .ref (ad 25), .ref (ad 26), .int (zI mla)])), zA cI (ad 0) 6 mW, zA cI (ad 1) 6 mH] H := hP.sub [0, 1, 2] rfl
      have hD : va_D A [(mo, .inr (6, [.ref (ad 0), .ref (ad 1), .ref (ad 2), .ref (ad 3), .ref (ad 4), .ref (ad 5), .ref (ad 6), .ref (ad 7), .ref (ad 8), .int (zI mn), .ref (ad 10), .ref (ad 11), .int (zI mp), .int (zI mon), .int (zI mrx), .int (zI mry), .int (zI mrl), .int (zI mrs), .int (zI mrf), .ref (ad 19), .int (zI mx), .int (zI my), .int (zI ml), .int (zI mst), .ref (ad 24), .ref (ad 25), .ref (ad 26), .int (zI mla)])), zA cI (ad 0) 6 mW, zA cI (ad 1) 6 mH] := hD.sub [0, 1, 2] (by decide) rfl
      clear hK1 hvm
      obtain ⟨rfl, po_11⟩ := hw
      have po_11 : (r_10 = 1 ∧ (0 : Int) ≤ cy ∧ cy ≤ ((mH L) - 1)) ∨ (r_10 = 0 ∧ ¬ ((0 : Int) ≤ cy ∧ cy ≤ ((mH L) - 1))) := po_11
      refine W.eq (g2 := F0 m 37 ls [.int (zI r_10)]) rfl ?_
      refine lz_if_eq (tgt := 44) hx hb dX6_isCell_37 (by decide) (by omega) (fun c_12 => ?_) (fun c_12 => ?_)
      ·
        refine lv_iconst (v := zI 0) hx hb dX6_isCell_44 (rfl) ?_
        have hP9 := hP.sub (ws' := [(mo, .inr (6, [.ref (ad 0), .ref (ad 1), .ref (ad 2), .ref (ad 3), .ref (ad 4), .ref (ad 5), .ref (ad 6), .ref (ad 7), .ref (ad 8), .int (zI mn), .ref (ad 10), .ref (ad 11), .int (zI mp), .int (zI mon), .int (zI mrx), .int (zI mry), .int (zI mrl), .int (zI mrs), .int (zI mrf), .ref (ad 19), .int (zI mx), .int (zI my), .int (zI ml), .int (zI mst), .ref (ad 24), .ref (ad 25), .ref (ad 26), .int (zI mla)])), zA cI (ad 0) 6 mW, zA cI (ad 1) 6 mH]) [0, 1, 2] rfl
        have hD9 := hD.sub (ws' := [(mo, .inr (6, [.ref (ad 0), .ref (ad 1), .ref (ad 2), .ref (ad 3), .ref (ad 4), .ref (ad 5), .ref (ad 6), .ref (ad 7), .ref (ad 8), .int (zI mn), .ref (ad 10), .ref (ad 11), .int (zI mp), .int (zI mon), .int (zI mrx), .int (zI mry), .int (zI mrl), .int (zI mrs), .int (zI mrf), .ref (ad 19), .int (zI mx), .int (zI my), .int (zI ml), .int (zI mst), .ref (ad 24), .ref (ad 25), .ref (ad 26), .int (zI mla)])), zA cI (ad 0) 6 mW, zA cI (ad 1) 6 mH]) [0, 1, 2] (by decide) rfl
        have po : zI 0 = zI (0 : Int) ∧ (((0 : Int) = 1 ∧ (0 ≤ L ∧ L < mn ∧ 0 ≤ cx ∧ cx < mW L ∧ 0 ≤ cy ∧ cy < mH L)) ∨ ((0 : Int) = 0 ∧ ¬ (0 ≤ L ∧ L < mn ∧ 0 ≤ cx ∧ cx < mW L ∧ 0 ≤ cy ∧ cy < mH L))) := by
          refine ⟨by first | rfl | (congr 1; omega) | (congr 1; simp [*]), ?_⟩
          omega
        exact W.zret (v := zI 0) hx hb hr (by first | rfl | decide | exact zI_nz (by omega)) (fun t ht hW => ⟨⟨zI 0, 0, rfl, po, by rw [ht]; exact hP9, va_K.moved hW.alike hK, hD9⟩, hS.F ht⟩) hS.2.2 dX6_isCell_45
      ·
        refine lv_iconst (v := zI 1) hx hb dX6_isCell_40 (rfl) ?_
        refine lv_goto (tgt := 45) hx hb dX6_isCell_41 (by decide) ?_
        have hP9 := hP.sub (ws' := [(mo, .inr (6, [.ref (ad 0), .ref (ad 1), .ref (ad 2), .ref (ad 3), .ref (ad 4), .ref (ad 5), .ref (ad 6), .ref (ad 7), .ref (ad 8), .int (zI mn), .ref (ad 10), .ref (ad 11), .int (zI mp), .int (zI mon), .int (zI mrx), .int (zI mry), .int (zI mrl), .int (zI mrs), .int (zI mrf), .ref (ad 19), .int (zI mx), .int (zI my), .int (zI ml), .int (zI mst), .ref (ad 24), .ref (ad 25), .ref (ad 26), .int (zI mla)])), zA cI (ad 0) 6 mW, zA cI (ad 1) 6 mH]) [0, 1, 2] rfl
        have hD9 := hD.sub (ws' := [(mo, .inr (6, [.ref (ad 0), .ref (ad 1), .ref (ad 2), .ref (ad 3), .ref (ad 4), .ref (ad 5), .ref (ad 6), .ref (ad 7), .ref (ad 8), .int (zI mn), .ref (ad 10), .ref (ad 11), .int (zI mp), .int (zI mon), .int (zI mrx), .int (zI mry), .int (zI mrl), .int (zI mrs), .int (zI mrf), .ref (ad 19), .int (zI mx), .int (zI my), .int (zI ml), .int (zI mst), .ref (ad 24), .ref (ad 25), .ref (ad 26), .int (zI mla)])), zA cI (ad 0) 6 mW, zA cI (ad 1) 6 mH]) [0, 1, 2] (by decide) rfl
        have po : zI 1 = zI (1 : Int) ∧ (((1 : Int) = 1 ∧ (0 ≤ L ∧ L < mn ∧ 0 ≤ cx ∧ cx < mW L ∧ 0 ≤ cy ∧ cy < mH L)) ∨ ((1 : Int) = 0 ∧ ¬ (0 ≤ L ∧ L < mn ∧ 0 ≤ cx ∧ cx < mW L ∧ 0 ≤ cy ∧ cy < mH L))) := by
          refine ⟨by first | rfl | (congr 1; omega) | (congr 1; simp [*]), ?_⟩
          omega
        exact W.zret (v := zI 1) hx hb hr (by first | rfl | decide | exact zI_nz (by omega)) (fun t ht hW => ⟨⟨zI 1, 1, rfl, po, by rw [ht]; exact hP9, va_K.moved hW.alike hK, hD9⟩, hS.F ht⟩) hS.2.2 dX6_isCell_45
set_option maxHeartbeats 4000000 in
set_option maxRecDepth 100000 in
theorem c_X6_at (l : Launch) (dC : Nat → ClassId) (dI : Nat → Nat → Nat) (cI cZ cL cT cJ : ClassId) (sz : Nat) (L : Int) (cx : Int) (cy : Int)  : Met l yX6_at wsX6_at ({ frames := 0, cells := 0, slots := 0, locals := 0 }) (zP (dC, dI) (zT cI cZ cL cT cJ) sz [.int (zI L), .int (zI cx), .int (zI cy)] []) (va_Qi (fun (r9 : Int32) (u9 : Unit) => match u9 with | _ => r9 = zI (96 * L + 12 * cy + cx) ∧ (True)) (zB (dC, dI) (zT cI cZ cL cT cJ) (va_A [] sz) (fun (u9 : Unit) => match u9 with | _ => [])) (va_A [] sz)) 0 0 (va_A [] sz) := by
  refine Met.ofW (cc := cX6_at) (maxL := 3) (ret := (some .int)) (by decide) rfl ?_
  intro p e s m args below meth c s₁ B hml hv
  obtain ⟨rfl, hsz, hP, hK, hD0⟩ := hv
  have hx := B.exec
  have hb := B.bytes
  have hr := B.returns
  have hts := atoms_spec (ws := wsX6_at) B.pre
  have hown : s.vm.findClass RX6 = some m.cls := findClass_of_methodNamed B.named
  have hlocks := B.notSynchronized
  subst hsz
  have hD := hD0.self (sz := s.heap.size)
  generalize hAe : va_A [] s.heap.size = A at hD ⊢
  have hA : ∀ q : Nat, s.heap.size ≤ q → A q := fun q h => by rw [← hAe]; exact Or.inr h
  clear hAe hD0
  have hS : va_S A s.heap s.heap [] := va_S.rf
  have hP : va_P (dC, dI) vwCl [] s.heap := hP
  have hl := lv_entry ([.int (zI L), .int (zI cx), .int (zI cy)]) (n := 3) (Nat.le_of_ble_eq_true rfl)
  rw [lg_entry_eq]
  generalize (lg_sl ([.int (zI L), .int (zI cx), .int (zI cy)]) ++ List.replicate (3 - (lg_sl ([.int (zI L), .int (zI cx), .int (zI cy)])).length) Slot.unset).toArray = ls at hl ⊢
  have hl : lv_has ls 3 [(0, .int (zI L)), (1, .int (zI cx)), (2, .int (zI cy))] := hl
  refine lv_bipush (v := zI 96) hx hb dX6_at_0 (by decide) ?_
  refine lv_iload_n hx hb dX6_at_2 rfl (lv_at hl 0 rfl) ?_
  refine lz_imul (z := 96 * L) hx hb dX6_at_3 (by rfl) ?_
  refine lv_bipush (v := zI 12) hx hb dX6_at_4 (by decide) ?_
  refine lv_iload_n hx hb dX6_at_6 rfl (lv_at hl 2 rfl) ?_
  refine lz_imul (z := 12 * cy) hx hb dX6_at_7 (by rfl) ?_
  refine lz_iadd (z := (96 * L) + (12 * cy)) hx hb dX6_at_8 (by rfl) ?_
  refine lv_iload_n hx hb dX6_at_9 rfl (lv_at hl 1 rfl) ?_
  refine lz_iadd (z := ((96 * L) + (12 * cy)) + cx) hx hb dX6_at_10 (by rfl) ?_
  have hP9 := hP.sub (ws' := []) [] rfl
  have hD9 := hD.sub (ws' := []) [] (by decide) rfl
  have po : zI (((96 * L) + (12 * cy)) + cx) = zI (96 * L + 12 * cy + cx) ∧ (True) := by
    refine ⟨by first | rfl | (congr 1; omega) | (congr 1; simp [*]), ?_⟩
    trivial
  exact W.iret (v := zI (((96 * L) + (12 * cy)) + cx)) hx hb hr (fun t ht hW => ⟨⟨zI (((96 * L) + (12 * cy)) + cx), (), rfl, po, by rw [ht]; exact hP9, va_K.moved hW.alike hK, hD9⟩, hS.F ht⟩) hS.2.2 dX6_at_11
set_option maxHeartbeats 4000000 in
set_option maxRecDepth 100000 in
theorem c_X6_isBlock (l : Launch) (dC : Nat → ClassId) (dI : Nat → Nat → Nat) (cI cZ cL cT cJ : ClassId) (sz : Nat) (mo : Nat) (ad : Nat → Nat) (mn : Int) (mp : Int) (mon : Int) (mrx : Int) (mry : Int) (mrl : Int) (mrs : Int) (mrf : Int) (mx : Int) (my : Int) (ml : Int) (mst : Int) (mla : Int) (mW : Int → Int) (mH : Int → Int) (mC : Int → Int) (L : Int) (cx : Int) (cy : Int) (gn : 0 ≤ mn ∧ mn ≤ 6) (gW : ∀ i, 0 ≤ i → i < mn → 2 ≤ mW i ∧ mW i ≤ 12) (gH : ∀ i, 0 ≤ i → i < mn → 2 ≤ mH i ∧ mH i ≤ 8) (gC : Kin mC) (gv : 0 ≤ L ∧ L < mn) (r9L : -2147483648 ≤ L ∧ L < 2147483648) (r9cx : -2147483648 ≤ cx ∧ cx < 2147483648) (r9cy : -2147483648 ≤ cy ∧ cy < 2147483648) : Met l yX6_isBlock wsX6_isBlock ({ frames := 3, cells := 0, slots := 0, locals := 66 }) (zP (dC, dI) (zT cI cZ cL cT cJ) sz [.ref mo, .int (zI L), .int (zI cx), .int (zI cy)] [(mo, .inr (6, [.ref (ad 0), .ref (ad 1), .ref (ad 2), .ref (ad 3), .ref (ad 4), .ref (ad 5), .ref (ad 6), .ref (ad 7), .ref (ad 8), .int (zI mn), .ref (ad 10), .ref (ad 11), .int (zI mp), .int (zI mon), .int (zI mrx), .int (zI mry), .int (zI mrl), .int (zI mrs), .int (zI mrf), .ref (ad 19), .int (zI mx), .int (zI my), .int (zI ml), .int (zI mst), .ref (ad 24), .ref (ad 25), .ref (ad 26), .int (zI mla)])), zA cI (ad 0) 6 mW, zA cI (ad 1) 6 mH, zA cI (ad 2) 576 mC]) (va_Qi (fun (r9 : Int32) (u9 : Int) => match u9 with | r => r9 = zI r ∧ ((r = 1 ∧ kd (Kof mC L) (mW L) (mH L) cx cy = 1) ∨ (r = 0 ∧ ¬ kd (Kof mC L) (mW L) (mH L) cx cy = 1))) (zB (dC, dI) (zT cI cZ cL cT cJ) (va_A [(mo, .inr (6, [.ref (ad 0), .ref (ad 1), .ref (ad 2), .ref (ad 3), .ref (ad 4), .ref (ad 5), .ref (ad 6), .ref (ad 7), .ref (ad 8), .int (zI mn), .ref (ad 10), .ref (ad 11), .int (zI mp), .int (zI mon), .int (zI mrx), .int (zI mry), .int (zI mrl), .int (zI mrs), .int (zI mrf), .ref (ad 19), .int (zI mx), .int (zI my), .int (zI ml), .int (zI mst), .ref (ad 24), .ref (ad 25), .ref (ad 26), .int (zI mla)])), zA cI (ad 0) 6 mW, zA cI (ad 1) 6 mH, zA cI (ad 2) 576 mC] sz) (fun (u9 : Int) => match u9 with | r => [(mo, .inr (6, [.ref (ad 0), .ref (ad 1), .ref (ad 2), .ref (ad 3), .ref (ad 4), .ref (ad 5), .ref (ad 6), .ref (ad 7), .ref (ad 8), .int (zI mn), .ref (ad 10), .ref (ad 11), .int (zI mp), .int (zI mon), .int (zI mrx), .int (zI mry), .int (zI mrl), .int (zI mrs), .int (zI mrf), .ref (ad 19), .int (zI mx), .int (zI my), .int (zI ml), .int (zI mst), .ref (ad 24), .ref (ad 25), .ref (ad 26), .int (zI mla)])), zA cI (ad 0) 6 mW, zA cI (ad 1) 6 mH, zA cI (ad 2) 576 mC])) (va_A [(mo, .inr (6, [.ref (ad 0), .ref (ad 1), .ref (ad 2), .ref (ad 3), .ref (ad 4), .ref (ad 5), .ref (ad 6), .ref (ad 7), .ref (ad 8), .int (zI mn), .ref (ad 10), .ref (ad 11), .int (zI mp), .int (zI mon), .int (zI mrx), .int (zI mry), .int (zI mrl), .int (zI mrs), .int (zI mrf), .ref (ad 19), .int (zI mx), .int (zI my), .int (zI ml), .int (zI mst), .ref (ad 24), .ref (ad 25), .ref (ad 26), .int (zI mla)])), zA cI (ad 0) 6 mW, zA cI (ad 1) 6 mH, zA cI (ad 2) 576 mC] sz)) 0 0 (va_A [(mo, .inr (6, [.ref (ad 0), .ref (ad 1), .ref (ad 2), .ref (ad 3), .ref (ad 4), .ref (ad 5), .ref (ad 6), .ref (ad 7), .ref (ad 8), .int (zI mn), .ref (ad 10), .ref (ad 11), .int (zI mp), .int (zI mon), .int (zI mrx), .int (zI mry), .int (zI mrl), .int (zI mrs), .int (zI mrf), .ref (ad 19), .int (zI mx), .int (zI my), .int (zI ml), .int (zI mst), .ref (ad 24), .ref (ad 25), .ref (ad 26), .int (zI mla)])), zA cI (ad 0) 6 mW, zA cI (ad 1) 6 mH, zA cI (ad 2) 576 mC] sz) := by
  refine Met.ofW (cc := cX6_isBlock) (maxL := 4) (ret := (some .boolean)) (by decide) rfl ?_
  intro p e s m args below meth c s₁ B hml hv
  obtain ⟨rfl, hsz, hP, hK, hD0⟩ := hv
  have hx := B.exec
  have hb := B.bytes
  have hr := B.returns
  have hts := atoms_spec (ws := wsX6_isBlock) B.pre
  have hown : s.vm.findClass RX6 = some m.cls := findClass_of_methodNamed B.named
  have hlocks := B.notSynchronized
  subst hsz
  have hD := hD0.self (sz := s.heap.size)
  generalize hAe : va_A [(mo, .inr (6, [.ref (ad 0), .ref (ad 1), .ref (ad 2), .ref (ad 3), .ref (ad 4), .ref (ad 5), .ref (ad 6), .ref (ad 7), .ref (ad 8), .int (zI mn), .ref (ad 10), .ref (ad 11), .int (zI mp), .int (zI mon), .int (zI mrx), .int (zI mry), .int (zI mrl), .int (zI mrs), .int (zI mrf), .ref (ad 19), .int (zI mx), .int (zI my), .int (zI ml), .int (zI mst), .ref (ad 24), .ref (ad 25), .ref (ad 26), .int (zI mla)])), zA cI (ad 0) 6 mW, zA cI (ad 1) 6 mH, zA cI (ad 2) 576 mC] s.heap.size = A at hD ⊢
  have hA : ∀ q : Nat, s.heap.size ≤ q → A q := fun q h => by rw [← hAe]; exact Or.inr h
  clear hAe hD0
  have hS : va_S A s.heap s.heap [] := va_S.rf
  have hP : va_P (dC, dI) vwCl [(mo, .inr (6, [.ref (ad 0), .ref (ad 1), .ref (ad 2), .ref (ad 3), .ref (ad 4), .ref (ad 5), .ref (ad 6), .ref (ad 7), .ref (ad 8), .int (zI mn), .ref (ad 10), .ref (ad 11), .int (zI mp), .int (zI mon), .int (zI mrx), .int (zI mry), .int (zI mrl), .int (zI mrs), .int (zI mrf), .ref (ad 19), .int (zI mx), .int (zI my), .int (zI ml), .int (zI mst), .ref (ad 24), .ref (ad 25), .ref (ad 26), .int (zI mla)])), zA cI (ad 0) 6 mW, zA cI (ad 1) 6 mH, zA cI (ad 2) 576 mC] s.heap := hP
  have f_16 := hts (.fieldLink RX6 16 "SpringLevelsModel" "cells" "[I") (by decide +kernel)
  have i_6 : ∀ w ∈ wsX60, w ∈ wsX6_isBlock := by decide +kernel
  have hl := lv_entry ([.ref mo, .int (zI L), .int (zI cx), .int (zI cy)]) (n := 4) (Nat.le_of_ble_eq_true rfl)
  rw [lg_entry_eq]
  generalize (lg_sl ([.ref mo, .int (zI L), .int (zI cx), .int (zI cy)]) ++ List.replicate (4 - (lg_sl ([.ref mo, .int (zI L), .int (zI cx), .int (zI cy)])).length) Slot.unset).toArray = ls at hl ⊢
  have hl : lv_has ls 4 [(0, .ref mo), (1, .int (zI L)), (2, .int (zI cx)), (3, .int (zI cy))] := hl
  have gw := gW L gv.1 gv.2
  have gh := gH L gv.1 gv.2
  refine lv_aload_n hx hb dX6_isBlock_0 rfl (lv_at hl 0 rfl) ?_
  refine lv_iload_n hx hb dX6_isBlock_1 rfl (lv_at hl 1 rfl) ?_
  refine lv_iload_n hx hb dX6_isBlock_2 rfl (lv_at hl 2 rfl) ?_
  refine lv_iload_n hx hb dX6_isBlock_3 rfl (lv_at hl 3 rfl) ?_
  have hPc := hP.sub (ws' := [(mo, .inr (6, [.ref (ad 0), .ref (ad 1), .ref (ad 2), .ref (ad 3), .ref (ad 4), .ref (ad 5), .ref (ad 6), .ref (ad 7), .ref (ad 8), .int (zI mn), .ref (ad 10), .ref (ad 11), .int (zI mp), .int (zI mon), .int (zI mrx), .int (zI mry), .int (zI mrl), .int (zI mrs), .int (zI mrf), .ref (ad 19), .int (zI mx), .int (zI my), .int (zI ml), .int (zI mst), .ref (ad 24), .ref (ad 25), .ref (ad 26), .int (zI mla)])), zA cI (ad 0) 6 mW, zA cI (ad 1) 6 mH]) [0, 1, 2] rfl
  have hDc := hD.sub (ws' := [(mo, .inr (6, [.ref (ad 0), .ref (ad 1), .ref (ad 2), .ref (ad 3), .ref (ad 4), .ref (ad 5), .ref (ad 6), .ref (ad 7), .ref (ad 8), .int (zI mn), .ref (ad 10), .ref (ad 11), .int (zI mp), .int (zI mon), .int (zI mrx), .int (zI mry), .int (zI mrl), .int (zI mrs), .int (zI mrf), .ref (ad 19), .int (zI mx), .int (zI my), .int (zI ml), .int (zI mst), .ref (ad 24), .ref (ad 25), .ref (ad 26), .int (zI mla)])), zA cI (ad 0) 6 mW, zA cI (ad 1) 6 mH]) [0, 1, 2] (by decide) rfl
  have hFc := va_free (wc := [(mo, .inr (6, [.ref (ad 0), .ref (ad 1), .ref (ad 2), .ref (ad 3), .ref (ad 4), .ref (ad 5), .ref (ad 6), .ref (ad 7), .ref (ad 8), .int (zI mn), .ref (ad 10), .ref (ad 11), .int (zI mp), .int (zI mon), .int (zI mrx), .int (zI mry), .int (zI mrl), .int (zI mrs), .int (zI mrf), .ref (ad 19), .int (zI mx), .int (zI my), .int (zI ml), .int (zI mst), .ref (ad 24), .ref (ad 25), .ref (ad 26), .int (zI mla)])), zA cI (ad 0) 6 mW, zA cI (ad 1) 6 mH]) hD hS hA [0, 1, 2] rfl
  refine va_calli (va_runV (As := [.int (zI L), .int (zI cx), .int (zI cy)]) (rest := []) ⟨hx, hb, hml, hown, hts⟩ (c_X6_isCell l dC dI cI cZ cL cT cJ s.heap.size mo ad mn mp mon mrx mry mrl mrs mrf mx my ml mst mla mW mH L cx cy (by first | assumption | omega) (by first | assumption | omega) (by first | assumption | omega) (by first | assumption | omega) (by first | assumption | omega) (by first | assumption | omega)) (cwV 3 hts gX6_isBlock_X6_isCell rfl rfl rfl (by decide +kernel) ⟨Nat.le_of_ble_eq_true rfl, Nat.le_of_ble_eq_true rfl⟩) ⟨zP_blind, va_recv hK hPc (ci := 6) (q0 := 0) rfl rfl, zP_pre hPc hDc hK⟩ rfl rfl hl.1 rfl (lv_room (Nat.le_of_ble_eq_true rfl)) dX6_isBlock_4 ⟨Nat.le_of_ble_eq_true rfl, Nat.le_of_ble_eq_true rfl⟩) hS (fun q _ h => hFc q h) hFc (fun r_1 u_1 t H1 locs ht hvm hw hB hz1 hk1 hS => ?_)
  obtain ⟨r_2, rfl⟩ : ∃ z, z = u_1 := ⟨_, rfl⟩
  obtain ⟨hP1, hK1, hD1⟩ := hB
  rw [ht] at hP1
  have hP1 : va_P (dC, dI) vwCl [(mo, .inr (6, [.ref (ad 0), .ref (ad 1), .ref (ad 2), .ref (ad 3), .ref (ad 4), .ref (ad 5), .ref (ad 6), .ref (ad 7), .ref (ad 8), .int (zI mn), .ref (ad 10), .ref (ad 11), .int (zI mp), .int (zI mon), .int (zI mrx), .int (zI mry), .int (zI mrl), .int (zI mrs), .int (zI mrf), .ref (ad 19), .int (zI mx), .int (zI my), .int (zI ml), .int (zI mst), .ref (ad 24), .ref (ad 25), .ref (ad 26), .int (zI mla)])), zA cI (ad 0) 6 mW, zA cI (ad 1) 6 mH] H1 := hP1
  obtain ⟨hP, hD⟩ := va_join (wr := [zA cI (ad 2) 576 mC]) (w1 := [(mo, .inr (6, [.ref (ad 0), .ref (ad 1), .ref (ad 2), .ref (ad 3), .ref (ad 4), .ref (ad 5), .ref (ad 6), .ref (ad 7), .ref (ad 8), .int (zI mn), .ref (ad 10), .ref (ad 11), .int (zI mp), .int (zI mon), .int (zI mrx), .int (zI mry), .int (zI mrl), .int (zI mrs), .int (zI mrf), .ref (ad 19), .int (zI mx), .int (zI my), .int (zI ml), .int (zI mst), .ref (ad 24), .ref (ad 25), .ref (ad 26), .int (zI mla)])), zA cI (ad 0) 6 mW, zA cI (ad 1) 6 mH]) hP hD [0, 1, 2] [3] rfl rfl (by decide) (by decide) hk1 hFc hP1 hD1
  clear hP1 hD1 hk1 hFc hPc hDc hz1
  generalize H1 = H at hP hS ⊢
  have hP : va_P (dC, dI) vwCl [(mo, .inr (6, [.ref (ad 0), .ref (ad 1), .ref (ad 2), .ref (ad 3), .ref (ad 4), .ref (ad 5), .ref (ad 6), .ref (ad 7), .ref (ad 8), .int (zI mn), .ref (ad 10), .ref (ad 11), .int (zI mp), .int (zI mon), .int (zI mrx), .int (zI mry), .int (zI mrl), .int (zI mrs), .int (zI mrf), .ref (ad 19), .int (zI mx), .int (zI my), .int (zI ml), .int (zI mst), .ref (ad 24), .ref (ad 25), .ref (ad 26), .int (zI mla)])), zA cI (ad 0) 6 mW, zA cI (ad 1) 6 mH, zA cI (ad 2) 576 mC] H := hP.sub [1, 2, 3, 0] rfl
  have hD : va_D A [(mo, .inr (6, [.ref (ad 0), .ref (ad 1), .ref (ad 2), .ref (ad 3), .ref (ad 4), .ref (ad 5), .ref (ad 6), .ref (ad 7), .ref (ad 8), .int (zI mn), .ref (ad 10), .ref (ad 11), .int (zI mp), .int (zI mon), .int (zI mrx), .int (zI mry), .int (zI mrl), .int (zI mrs), .int (zI mrf), .ref (ad 19), .int (zI mx), .int (zI my), .int (zI ml), .int (zI mst), .ref (ad 24), .ref (ad 25), .ref (ad 26), .int (zI mla)])), zA cI (ad 0) 6 mW, zA cI (ad 1) 6 mH, zA cI (ad 2) 576 mC] := hD.sub [1, 2, 3, 0] (by decide) rfl
  clear hK1 hvm
  obtain ⟨rfl, po_3⟩ := hw
  have po_3 : (r_2 = 1 ∧ (0 ≤ L ∧ L < mn ∧ 0 ≤ cx ∧ cx < mW L ∧ 0 ≤ cy ∧ cy < mH L)) ∨ (r_2 = 0 ∧ ¬ (0 ≤ L ∧ L < mn ∧ 0 ≤ cx ∧ cx < mW L ∧ 0 ≤ cy ∧ cy < mH L)) := po_3
  refine W.eq (g2 := F0 m 7 ls [.int (zI r_2)]) rfl ?_
  refine lz_if_eq (tgt := 29) hx hb dX6_isBlock_7 (by decide) (by omega) (fun c_4 => ?_) (fun c_4 => ?_)
  ·
    refine lv_iconst (v := zI 0) hx hb dX6_isBlock_29 (rfl) ?_
    have hP9 := hP.sub (ws' := [(mo, .inr (6, [.ref (ad 0), .ref (ad 1), .ref (ad 2), .ref (ad 3), .ref (ad 4), .ref (ad 5), .ref (ad 6), .ref (ad 7), .ref (ad 8), .int (zI mn), .ref (ad 10), .ref (ad 11), .int (zI mp), .int (zI mon), .int (zI mrx), .int (zI mry), .int (zI mrl), .int (zI mrs), .int (zI mrf), .ref (ad 19), .int (zI mx), .int (zI my), .int (zI ml), .int (zI mst), .ref (ad 24), .ref (ad 25), .ref (ad 26), .int (zI mla)])), zA cI (ad 0) 6 mW, zA cI (ad 1) 6 mH, zA cI (ad 2) 576 mC]) [0, 1, 2, 3] rfl
    have hD9 := hD.sub (ws' := [(mo, .inr (6, [.ref (ad 0), .ref (ad 1), .ref (ad 2), .ref (ad 3), .ref (ad 4), .ref (ad 5), .ref (ad 6), .ref (ad 7), .ref (ad 8), .int (zI mn), .ref (ad 10), .ref (ad 11), .int (zI mp), .int (zI mon), .int (zI mrx), .int (zI mry), .int (zI mrl), .int (zI mrs), .int (zI mrf), .ref (ad 19), .int (zI mx), .int (zI my), .int (zI ml), .int (zI mst), .ref (ad 24), .ref (ad 25), .ref (ad 26), .int (zI mla)])), zA cI (ad 0) 6 mW, zA cI (ad 1) 6 mH, zA cI (ad 2) 576 mC]) [0, 1, 2, 3] (by decide) rfl
    have po : zI 0 = zI (0 : Int) ∧ (((0 : Int) = 1 ∧ kd (Kof mC L) (mW L) (mH L) cx cy = 1) ∨ ((0 : Int) = 0 ∧ ¬ kd (Kof mC L) (mW L) (mH L) cx cy = 1)) := by
      refine ⟨by first | rfl | (congr 1; omega) | (congr 1; simp [*]), ?_⟩
      have e9 := kd_rng (Kin_of gC L) (mW L) (mH L) cx cy
      first | (have e8 := kd_M (C := mC) (L := L) (w := mW L) (h := mH L) (c := cx) (r := cy) (by omega) (by omega); omega) | (have e8 := kd_no (K := Kof mC L) (w := mW L) (h := mH L) (c := cx) (r := cy) (by omega); omega)
    exact W.zret (v := zI 0) hx hb hr (by first | rfl | decide | exact zI_nz (by omega)) (fun t ht hW => ⟨⟨zI 0, 0, rfl, po, by rw [ht]; exact hP9, va_K.moved hW.alike hK, hD9⟩, hS.F ht⟩) hS.2.2 dX6_isBlock_30
  ·
    refine lv_aload_n hx hb dX6_isBlock_10 rfl (lv_at hl 0 rfl) ?_
    refine va_get (D := (dC, dI)) (ci := 6) (v := .ref (ad 2)) (C := RX6) (T := TX6) (N := 28) hx hb hts i_6 hown hK hP 0 rfl rfl 2 (by decide) f_16 (fun _ h9 => h9) rfl dX6_isBlock_11 ?_
    refine lv_iload_n hx hb dX6_isBlock_14 rfl (lv_at hl 1 rfl) ?_
    refine lv_iload_n hx hb dX6_isBlock_15 rfl (lv_at hl 2 rfl) ?_
    refine lv_iload_n hx hb dX6_isBlock_16 rfl (lv_at hl 3 rfl) ?_
    have hPc := hP.sub (ws' := []) [] rfl
    have hDc := hD.sub (ws' := []) [] (by decide) rfl
    have hFc := va_free (wc := []) hD hS hA [] rfl
    refine va_calli (va_runS (As := [.int (zI L), .int (zI cx), .int (zI cy)]) (rest := [.ref (ad 2)]) ⟨hx, hb, hml, hown, hts⟩ (c_X6_at l dC dI cI cZ cL cT cJ H.size L cx cy ) (cwS 3 hts gX6_isBlock_X6_at rfl rfl rfl (by decide +kernel) ⟨Nat.le_of_ble_eq_true rfl, Nat.le_of_ble_eq_true rfl⟩) ⟨zP_blind, zP_pre hPc hDc hK⟩ rfl rfl hl.1 rfl (lv_room (Nat.le_of_ble_eq_true rfl)) dX6_isBlock_17 ⟨Nat.le_of_ble_eq_true rfl, Nat.le_of_ble_eq_true rfl⟩) hS (fun q _ h => hFc q h) hFc (fun r_5 u_5 t H1 locs ht hvm hw hB hz1 hk1 hS => ?_)
    obtain ⟨hP1, hK1, hD1⟩ := hB
    rw [ht] at hP1
    have hP1 : va_P (dC, dI) vwCl [] H1 := hP1
    obtain ⟨hP, hD⟩ := va_join (wr := [(mo, .inr (6, [.ref (ad 0), .ref (ad 1), .ref (ad 2), .ref (ad 3), .ref (ad 4), .ref (ad 5), .ref (ad 6), .ref (ad 7), .ref (ad 8), .int (zI mn), .ref (ad 10), .ref (ad 11), .int (zI mp), .int (zI mon), .int (zI mrx), .int (zI mry), .int (zI mrl), .int (zI mrs), .int (zI mrf), .ref (ad 19), .int (zI mx), .int (zI my), .int (zI ml), .int (zI mst), .ref (ad 24), .ref (ad 25), .ref (ad 26), .int (zI mla)])), zA cI (ad 0) 6 mW, zA cI (ad 1) 6 mH, zA cI (ad 2) 576 mC]) (w1 := []) hP hD [] [0, 1, 2, 3] rfl rfl (by decide) (by decide) hk1 hFc hP1 hD1
    clear hP1 hD1 hk1 hFc hPc hDc hz1
    generalize H1 = H at hP hS ⊢
    have hP : va_P (dC, dI) vwCl [(mo, .inr (6, [.ref (ad 0), .ref (ad 1), .ref (ad 2), .ref (ad 3), .ref (ad 4), .ref (ad 5), .ref (ad 6), .ref (ad 7), .ref (ad 8), .int (zI mn), .ref (ad 10), .ref (ad 11), .int (zI mp), .int (zI mon), .int (zI mrx), .int (zI mry), .int (zI mrl), .int (zI mrs), .int (zI mrf), .ref (ad 19), .int (zI mx), .int (zI my), .int (zI ml), .int (zI mst), .ref (ad 24), .ref (ad 25), .ref (ad 26), .int (zI mla)])), zA cI (ad 0) 6 mW, zA cI (ad 1) 6 mH, zA cI (ad 2) 576 mC] H := hP.sub [0, 1, 2, 3] rfl
    have hD : va_D A [(mo, .inr (6, [.ref (ad 0), .ref (ad 1), .ref (ad 2), .ref (ad 3), .ref (ad 4), .ref (ad 5), .ref (ad 6), .ref (ad 7), .ref (ad 8), .int (zI mn), .ref (ad 10), .ref (ad 11), .int (zI mp), .int (zI mon), .int (zI mrx), .int (zI mry), .int (zI mrl), .int (zI mrs), .int (zI mrf), .ref (ad 19), .int (zI mx), .int (zI my), .int (zI ml), .int (zI mst), .ref (ad 24), .ref (ad 25), .ref (ad 26), .int (zI mla)])), zA cI (ad 0) 6 mW, zA cI (ad 1) 6 mH, zA cI (ad 2) 576 mC] := hD.sub [0, 1, 2, 3] (by decide) rfl
    clear hK1 hvm
    obtain ⟨rfl, po_6⟩ := hw
    refine W.eq (g2 := F0 m 20 ls [.int (zI (96 * L + 12 * cy + cx)), .ref (ad 2)]) rfl ?_
    refine lz_iald (F := mC) (i := 96 * L + 12 * cy + cx) hx hb hK hP 3 0 rfl rfl (by omega) (by omega) (by decide) dX6_isBlock_20 ?_
    have ec := gC ((96 * L + 12 * cy + cx))
    refine lv_iconst (v := zI 1) hx hb dX6_isBlock_21 (rfl) ?_
    refine lz_icmp_ne (tgt := 29) hx hb dX6_isBlock_22 (by decide) (by omega) ⟨by decide, by decide⟩ (fun c_7 => ?_) (fun c_7 => ?_)
    ·
      refine lv_iconst (v := zI 0) hx hb dX6_isBlock_29 (rfl) ?_
      have hP9 := hP.sub (ws' := [(mo, .inr (6, [.ref (ad 0), .ref (ad 1), .ref (ad 2), .ref (ad 3), .ref (ad 4), .ref (ad 5), .ref (ad 6), .ref (ad 7), .ref (ad 8), .int (zI mn), .ref (ad 10), .ref (ad 11), .int (zI mp), .int (zI mon), .int (zI mrx), .int (zI mry), .int (zI mrl), .int (zI mrs), .int (zI mrf), .ref (ad 19), .int (zI mx), .int (zI my), .int (zI ml), .int (zI mst), .ref (ad 24), .ref (ad 25), .ref (ad 26), .int (zI mla)])), zA cI (ad 0) 6 mW, zA cI (ad 1) 6 mH, zA cI (ad 2) 576 mC]) [0, 1, 2, 3] rfl
      have hD9 := hD.sub (ws' := [(mo, .inr (6, [.ref (ad 0), .ref (ad 1), .ref (ad 2), .ref (ad 3), .ref (ad 4), .ref (ad 5), .ref (ad 6), .ref (ad 7), .ref (ad 8), .int (zI mn), .ref (ad 10), .ref (ad 11), .int (zI mp), .int (zI mon), .int (zI mrx), .int (zI mry), .int (zI mrl), .int (zI mrs), .int (zI mrf), .ref (ad 19), .int (zI mx), .int (zI my), .int (zI ml), .int (zI mst), .ref (ad 24), .ref (ad 25), .ref (ad 26), .int (zI mla)])), zA cI (ad 0) 6 mW, zA cI (ad 1) 6 mH, zA cI (ad 2) 576 mC]) [0, 1, 2, 3] (by decide) rfl
      have po : zI 0 = zI (0 : Int) ∧ (((0 : Int) = 1 ∧ kd (Kof mC L) (mW L) (mH L) cx cy = 1) ∨ ((0 : Int) = 0 ∧ ¬ kd (Kof mC L) (mW L) (mH L) cx cy = 1)) := by
        refine ⟨by first | rfl | (congr 1; omega) | (congr 1; simp [*]), ?_⟩
        have e9 := kd_rng (Kin_of gC L) (mW L) (mH L) cx cy
        first | (have e8 := kd_M (C := mC) (L := L) (w := mW L) (h := mH L) (c := cx) (r := cy) (by omega) (by omega); omega) | (have e8 := kd_no (K := Kof mC L) (w := mW L) (h := mH L) (c := cx) (r := cy) (by omega); omega)
      exact W.zret (v := zI 0) hx hb hr (by first | rfl | decide | exact zI_nz (by omega)) (fun t ht hW => ⟨⟨zI 0, 0, rfl, po, by rw [ht]; exact hP9, va_K.moved hW.alike hK, hD9⟩, hS.F ht⟩) hS.2.2 dX6_isBlock_30
    ·
      refine lv_iconst (v := zI 1) hx hb dX6_isBlock_25 (rfl) ?_
      refine lv_goto (tgt := 30) hx hb dX6_isBlock_26 (by decide) ?_
      have hP9 := hP.sub (ws' := [(mo, .inr (6, [.ref (ad 0), .ref (ad 1), .ref (ad 2), .ref (ad 3), .ref (ad 4), .ref (ad 5), .ref (ad 6), .ref (ad 7), .ref (ad 8), .int (zI mn), .ref (ad 10), .ref (ad 11), .int (zI mp), .int (zI mon), .int (zI mrx), .int (zI mry), .int (zI mrl), .int (zI mrs), .int (zI mrf), .ref (ad 19), .int (zI mx), .int (zI my), .int (zI ml), .int (zI mst), .ref (ad 24), .ref (ad 25), .ref (ad 26), .int (zI mla)])), zA cI (ad 0) 6 mW, zA cI (ad 1) 6 mH, zA cI (ad 2) 576 mC]) [0, 1, 2, 3] rfl
      have hD9 := hD.sub (ws' := [(mo, .inr (6, [.ref (ad 0), .ref (ad 1), .ref (ad 2), .ref (ad 3), .ref (ad 4), .ref (ad 5), .ref (ad 6), .ref (ad 7), .ref (ad 8), .int (zI mn), .ref (ad 10), .ref (ad 11), .int (zI mp), .int (zI mon), .int (zI mrx), .int (zI mry), .int (zI mrl), .int (zI mrs), .int (zI mrf), .ref (ad 19), .int (zI mx), .int (zI my), .int (zI ml), .int (zI mst), .ref (ad 24), .ref (ad 25), .ref (ad 26), .int (zI mla)])), zA cI (ad 0) 6 mW, zA cI (ad 1) 6 mH, zA cI (ad 2) 576 mC]) [0, 1, 2, 3] (by decide) rfl
      have po : zI 1 = zI (1 : Int) ∧ (((1 : Int) = 1 ∧ kd (Kof mC L) (mW L) (mH L) cx cy = 1) ∨ ((1 : Int) = 0 ∧ ¬ kd (Kof mC L) (mW L) (mH L) cx cy = 1)) := by
        refine ⟨by first | rfl | (congr 1; omega) | (congr 1; simp [*]), ?_⟩
        have e9 := kd_rng (Kin_of gC L) (mW L) (mH L) cx cy
        first | (have e8 := kd_M (C := mC) (L := L) (w := mW L) (h := mH L) (c := cx) (r := cy) (by omega) (by omega); omega) | (have e8 := kd_no (K := Kof mC L) (w := mW L) (h := mH L) (c := cx) (r := cy) (by omega); omega)
      exact W.zret (v := zI 1) hx hb hr (by first | rfl | decide | exact zI_nz (by omega)) (fun t ht hW => ⟨⟨zI 1, 1, rfl, po, by rw [ht]; exact hP9, va_K.moved hW.alike hK, hD9⟩, hS.F ht⟩) hS.2.2 dX6_isBlock_30
set_option maxHeartbeats 4000000 in
set_option maxRecDepth 100000 in
theorem c_X6_isFree (l : Launch) (dC : Nat → ClassId) (dI : Nat → Nat → Nat) (cI cZ cL cT cJ : ClassId) (sz : Nat) (mo : Nat) (ad : Nat → Nat) (mn : Int) (mp : Int) (mon : Int) (mrx : Int) (mry : Int) (mrl : Int) (mrs : Int) (mrf : Int) (mx : Int) (my : Int) (ml : Int) (mst : Int) (mla : Int) (mW : Int → Int) (mH : Int → Int) (mC : Int → Int) (L : Int) (cx : Int) (cy : Int) (gn : 0 ≤ mn ∧ mn ≤ 6) (gW : ∀ i, 0 ≤ i → i < mn → 2 ≤ mW i ∧ mW i ≤ 12) (gH : ∀ i, 0 ≤ i → i < mn → 2 ≤ mH i ∧ mH i ≤ 8) (gC : Kin mC) (gv : 0 ≤ L ∧ L < mn) (r9L : -2147483648 ≤ L ∧ L < 2147483648) (r9cx : -2147483648 ≤ cx ∧ cx < 2147483648) (r9cy : -2147483648 ≤ cy ∧ cy < 2147483648) : Met l yX6_isFree wsX6_isFree ({ frames := 3, cells := 0, slots := 0, locals := 66 }) (zP (dC, dI) (zT cI cZ cL cT cJ) sz [.ref mo, .int (zI L), .int (zI cx), .int (zI cy)] [(mo, .inr (6, [.ref (ad 0), .ref (ad 1), .ref (ad 2), .ref (ad 3), .ref (ad 4), .ref (ad 5), .ref (ad 6), .ref (ad 7), .ref (ad 8), .int (zI mn), .ref (ad 10), .ref (ad 11), .int (zI mp), .int (zI mon), .int (zI mrx), .int (zI mry), .int (zI mrl), .int (zI mrs), .int (zI mrf), .ref (ad 19), .int (zI mx), .int (zI my), .int (zI ml), .int (zI mst), .ref (ad 24), .ref (ad 25), .ref (ad 26), .int (zI mla)])), zA cI (ad 0) 6 mW, zA cI (ad 1) 6 mH, zA cI (ad 2) 576 mC]) (va_Qi (fun (r9 : Int32) (u9 : Int) => match u9 with | r => r9 = zI r ∧ ((r = 1 ∧ ¬ kd (Kof mC L) (mW L) (mH L) cx cy = -1 ∧ ¬ kd (Kof mC L) (mW L) (mH L) cx cy = 1) ∨ (r = 0 ∧ (kd (Kof mC L) (mW L) (mH L) cx cy = -1 ∨ kd (Kof mC L) (mW L) (mH L) cx cy = 1)))) (zB (dC, dI) (zT cI cZ cL cT cJ) (va_A [(mo, .inr (6, [.ref (ad 0), .ref (ad 1), .ref (ad 2), .ref (ad 3), .ref (ad 4), .ref (ad 5), .ref (ad 6), .ref (ad 7), .ref (ad 8), .int (zI mn), .ref (ad 10), .ref (ad 11), .int (zI mp), .int (zI mon), .int (zI mrx), .int (zI mry), .int (zI mrl), .int (zI mrs), .int (zI mrf), .ref (ad 19), .int (zI mx), .int (zI my), .int (zI ml), .int (zI mst), .ref (ad 24), .ref (ad 25), .ref (ad 26), .int (zI mla)])), zA cI (ad 0) 6 mW, zA cI (ad 1) 6 mH, zA cI (ad 2) 576 mC] sz) (fun (u9 : Int) => match u9 with | r => [(mo, .inr (6, [.ref (ad 0), .ref (ad 1), .ref (ad 2), .ref (ad 3), .ref (ad 4), .ref (ad 5), .ref (ad 6), .ref (ad 7), .ref (ad 8), .int (zI mn), .ref (ad 10), .ref (ad 11), .int (zI mp), .int (zI mon), .int (zI mrx), .int (zI mry), .int (zI mrl), .int (zI mrs), .int (zI mrf), .ref (ad 19), .int (zI mx), .int (zI my), .int (zI ml), .int (zI mst), .ref (ad 24), .ref (ad 25), .ref (ad 26), .int (zI mla)])), zA cI (ad 0) 6 mW, zA cI (ad 1) 6 mH, zA cI (ad 2) 576 mC])) (va_A [(mo, .inr (6, [.ref (ad 0), .ref (ad 1), .ref (ad 2), .ref (ad 3), .ref (ad 4), .ref (ad 5), .ref (ad 6), .ref (ad 7), .ref (ad 8), .int (zI mn), .ref (ad 10), .ref (ad 11), .int (zI mp), .int (zI mon), .int (zI mrx), .int (zI mry), .int (zI mrl), .int (zI mrs), .int (zI mrf), .ref (ad 19), .int (zI mx), .int (zI my), .int (zI ml), .int (zI mst), .ref (ad 24), .ref (ad 25), .ref (ad 26), .int (zI mla)])), zA cI (ad 0) 6 mW, zA cI (ad 1) 6 mH, zA cI (ad 2) 576 mC] sz)) 0 0 (va_A [(mo, .inr (6, [.ref (ad 0), .ref (ad 1), .ref (ad 2), .ref (ad 3), .ref (ad 4), .ref (ad 5), .ref (ad 6), .ref (ad 7), .ref (ad 8), .int (zI mn), .ref (ad 10), .ref (ad 11), .int (zI mp), .int (zI mon), .int (zI mrx), .int (zI mry), .int (zI mrl), .int (zI mrs), .int (zI mrf), .ref (ad 19), .int (zI mx), .int (zI my), .int (zI ml), .int (zI mst), .ref (ad 24), .ref (ad 25), .ref (ad 26), .int (zI mla)])), zA cI (ad 0) 6 mW, zA cI (ad 1) 6 mH, zA cI (ad 2) 576 mC] sz) := by
  refine Met.ofW (cc := cX6_isFree) (maxL := 4) (ret := (some .boolean)) (by decide) rfl ?_
  intro p e s m args below meth c s₁ B hml hv
  obtain ⟨rfl, hsz, hP, hK, hD0⟩ := hv
  have hx := B.exec
  have hb := B.bytes
  have hr := B.returns
  have hts := atoms_spec (ws := wsX6_isFree) B.pre
  have hown : s.vm.findClass RX6 = some m.cls := findClass_of_methodNamed B.named
  have hlocks := B.notSynchronized
  subst hsz
  have hD := hD0.self (sz := s.heap.size)
  generalize hAe : va_A [(mo, .inr (6, [.ref (ad 0), .ref (ad 1), .ref (ad 2), .ref (ad 3), .ref (ad 4), .ref (ad 5), .ref (ad 6), .ref (ad 7), .ref (ad 8), .int (zI mn), .ref (ad 10), .ref (ad 11), .int (zI mp), .int (zI mon), .int (zI mrx), .int (zI mry), .int (zI mrl), .int (zI mrs), .int (zI mrf), .ref (ad 19), .int (zI mx), .int (zI my), .int (zI ml), .int (zI mst), .ref (ad 24), .ref (ad 25), .ref (ad 26), .int (zI mla)])), zA cI (ad 0) 6 mW, zA cI (ad 1) 6 mH, zA cI (ad 2) 576 mC] s.heap.size = A at hD ⊢
  have hA : ∀ q : Nat, s.heap.size ≤ q → A q := fun q h => by rw [← hAe]; exact Or.inr h
  clear hAe hD0
  have hS : va_S A s.heap s.heap [] := va_S.rf
  have hP : va_P (dC, dI) vwCl [(mo, .inr (6, [.ref (ad 0), .ref (ad 1), .ref (ad 2), .ref (ad 3), .ref (ad 4), .ref (ad 5), .ref (ad 6), .ref (ad 7), .ref (ad 8), .int (zI mn), .ref (ad 10), .ref (ad 11), .int (zI mp), .int (zI mon), .int (zI mrx), .int (zI mry), .int (zI mrl), .int (zI mrs), .int (zI mrf), .ref (ad 19), .int (zI mx), .int (zI my), .int (zI ml), .int (zI mst), .ref (ad 24), .ref (ad 25), .ref (ad 26), .int (zI mla)])), zA cI (ad 0) 6 mW, zA cI (ad 1) 6 mH, zA cI (ad 2) 576 mC] s.heap := hP
  have f_16 := hts (.fieldLink RX6 16 "SpringLevelsModel" "cells" "[I") (by decide +kernel)
  have i_6 : ∀ w ∈ wsX60, w ∈ wsX6_isFree := by decide +kernel
  have hl := lv_entry ([.ref mo, .int (zI L), .int (zI cx), .int (zI cy)]) (n := 4) (Nat.le_of_ble_eq_true rfl)
  rw [lg_entry_eq]
  generalize (lg_sl ([.ref mo, .int (zI L), .int (zI cx), .int (zI cy)]) ++ List.replicate (4 - (lg_sl ([.ref mo, .int (zI L), .int (zI cx), .int (zI cy)])).length) Slot.unset).toArray = ls at hl ⊢
  have hl : lv_has ls 4 [(0, .ref mo), (1, .int (zI L)), (2, .int (zI cx)), (3, .int (zI cy))] := hl
  have gw := gW L gv.1 gv.2
  have gh := gH L gv.1 gv.2
  refine lv_aload_n hx hb dX6_isFree_0 rfl (lv_at hl 0 rfl) ?_
  refine lv_iload_n hx hb dX6_isFree_1 rfl (lv_at hl 1 rfl) ?_
  refine lv_iload_n hx hb dX6_isFree_2 rfl (lv_at hl 2 rfl) ?_
  refine lv_iload_n hx hb dX6_isFree_3 rfl (lv_at hl 3 rfl) ?_
  have hPc := hP.sub (ws' := [(mo, .inr (6, [.ref (ad 0), .ref (ad 1), .ref (ad 2), .ref (ad 3), .ref (ad 4), .ref (ad 5), .ref (ad 6), .ref (ad 7), .ref (ad 8), .int (zI mn), .ref (ad 10), .ref (ad 11), .int (zI mp), .int (zI mon), .int (zI mrx), .int (zI mry), .int (zI mrl), .int (zI mrs), .int (zI mrf), .ref (ad 19), .int (zI mx), .int (zI my), .int (zI ml), .int (zI mst), .ref (ad 24), .ref (ad 25), .ref (ad 26), .int (zI mla)])), zA cI (ad 0) 6 mW, zA cI (ad 1) 6 mH]) [0, 1, 2] rfl
  have hDc := hD.sub (ws' := [(mo, .inr (6, [.ref (ad 0), .ref (ad 1), .ref (ad 2), .ref (ad 3), .ref (ad 4), .ref (ad 5), .ref (ad 6), .ref (ad 7), .ref (ad 8), .int (zI mn), .ref (ad 10), .ref (ad 11), .int (zI mp), .int (zI mon), .int (zI mrx), .int (zI mry), .int (zI mrl), .int (zI mrs), .int (zI mrf), .ref (ad 19), .int (zI mx), .int (zI my), .int (zI ml), .int (zI mst), .ref (ad 24), .ref (ad 25), .ref (ad 26), .int (zI mla)])), zA cI (ad 0) 6 mW, zA cI (ad 1) 6 mH]) [0, 1, 2] (by decide) rfl
  have hFc := va_free (wc := [(mo, .inr (6, [.ref (ad 0), .ref (ad 1), .ref (ad 2), .ref (ad 3), .ref (ad 4), .ref (ad 5), .ref (ad 6), .ref (ad 7), .ref (ad 8), .int (zI mn), .ref (ad 10), .ref (ad 11), .int (zI mp), .int (zI mon), .int (zI mrx), .int (zI mry), .int (zI mrl), .int (zI mrs), .int (zI mrf), .ref (ad 19), .int (zI mx), .int (zI my), .int (zI ml), .int (zI mst), .ref (ad 24), .ref (ad 25), .ref (ad 26), .int (zI mla)])), zA cI (ad 0) 6 mW, zA cI (ad 1) 6 mH]) hD hS hA [0, 1, 2] rfl
  refine va_calli (va_runV (As := [.int (zI L), .int (zI cx), .int (zI cy)]) (rest := []) ⟨hx, hb, hml, hown, hts⟩ (c_X6_isCell l dC dI cI cZ cL cT cJ s.heap.size mo ad mn mp mon mrx mry mrl mrs mrf mx my ml mst mla mW mH L cx cy (by first | assumption | omega) (by first | assumption | omega) (by first | assumption | omega) (by first | assumption | omega) (by first | assumption | omega) (by first | assumption | omega)) (cwV 3 hts gX6_isFree_X6_isCell rfl rfl rfl (by decide +kernel) ⟨Nat.le_of_ble_eq_true rfl, Nat.le_of_ble_eq_true rfl⟩) ⟨zP_blind, va_recv hK hPc (ci := 6) (q0 := 0) rfl rfl, zP_pre hPc hDc hK⟩ rfl rfl hl.1 rfl (lv_room (Nat.le_of_ble_eq_true rfl)) dX6_isFree_4 ⟨Nat.le_of_ble_eq_true rfl, Nat.le_of_ble_eq_true rfl⟩) hS (fun q _ h => hFc q h) hFc (fun r_1 u_1 t H1 locs ht hvm hw hB hz1 hk1 hS => ?_)
  obtain ⟨r_2, rfl⟩ : ∃ z, z = u_1 := ⟨_, rfl⟩
  obtain ⟨hP1, hK1, hD1⟩ := hB
  rw [ht] at hP1
  have hP1 : va_P (dC, dI) vwCl [(mo, .inr (6, [.ref (ad 0), .ref (ad 1), .ref (ad 2), .ref (ad 3), .ref (ad 4), .ref (ad 5), .ref (ad 6), .ref (ad 7), .ref (ad 8), .int (zI mn), .ref (ad 10), .ref (ad 11), .int (zI mp), .int (zI mon), .int (zI mrx), .int (zI mry), .int (zI mrl), .int (zI mrs), .int (zI mrf), .ref (ad 19), .int (zI mx), .int (zI my), .int (zI ml), .int (zI mst), .ref (ad 24), .ref (ad 25), .ref (ad 26), .int (zI mla)])), zA cI (ad 0) 6 mW, zA cI (ad 1) 6 mH] H1 := hP1
  obtain ⟨hP, hD⟩ := va_join (wr := [zA cI (ad 2) 576 mC]) (w1 := [(mo, .inr (6, [.ref (ad 0), .ref (ad 1), .ref (ad 2), .ref (ad 3), .ref (ad 4), .ref (ad 5), .ref (ad 6), .ref (ad 7), .ref (ad 8), .int (zI mn), .ref (ad 10), .ref (ad 11), .int (zI mp), .int (zI mon), .int (zI mrx), .int (zI mry), .int (zI mrl), .int (zI mrs), .int (zI mrf), .ref (ad 19), .int (zI mx), .int (zI my), .int (zI ml), .int (zI mst), .ref (ad 24), .ref (ad 25), .ref (ad 26), .int (zI mla)])), zA cI (ad 0) 6 mW, zA cI (ad 1) 6 mH]) hP hD [0, 1, 2] [3] rfl rfl (by decide) (by decide) hk1 hFc hP1 hD1
  clear hP1 hD1 hk1 hFc hPc hDc hz1
  generalize H1 = H at hP hS ⊢
  have hP : va_P (dC, dI) vwCl [(mo, .inr (6, [.ref (ad 0), .ref (ad 1), .ref (ad 2), .ref (ad 3), .ref (ad 4), .ref (ad 5), .ref (ad 6), .ref (ad 7), .ref (ad 8), .int (zI mn), .ref (ad 10), .ref (ad 11), .int (zI mp), .int (zI mon), .int (zI mrx), .int (zI mry), .int (zI mrl), .int (zI mrs), .int (zI mrf), .ref (ad 19), .int (zI mx), .int (zI my), .int (zI ml), .int (zI mst), .ref (ad 24), .ref (ad 25), .ref (ad 26), .int (zI mla)])), zA cI (ad 0) 6 mW, zA cI (ad 1) 6 mH, zA cI (ad 2) 576 mC] H := hP.sub [1, 2, 3, 0] rfl
  have hD : va_D A [(mo, .inr (6, [.ref (ad 0), .ref (ad 1), .ref (ad 2), .ref (ad 3), .ref (ad 4), .ref (ad 5), .ref (ad 6), .ref (ad 7), .ref (ad 8), .int (zI mn), .ref (ad 10), .ref (ad 11), .int (zI mp), .int (zI mon), .int (zI mrx), .int (zI mry), .int (zI mrl), .int (zI mrs), .int (zI mrf), .ref (ad 19), .int (zI mx), .int (zI my), .int (zI ml), .int (zI mst), .ref (ad 24), .ref (ad 25), .ref (ad 26), .int (zI mla)])), zA cI (ad 0) 6 mW, zA cI (ad 1) 6 mH, zA cI (ad 2) 576 mC] := hD.sub [1, 2, 3, 0] (by decide) rfl
  clear hK1 hvm
  obtain ⟨rfl, po_3⟩ := hw
  have po_3 : (r_2 = 1 ∧ (0 ≤ L ∧ L < mn ∧ 0 ≤ cx ∧ cx < mW L ∧ 0 ≤ cy ∧ cy < mH L)) ∨ (r_2 = 0 ∧ ¬ (0 ≤ L ∧ L < mn ∧ 0 ≤ cx ∧ cx < mW L ∧ 0 ≤ cy ∧ cy < mH L)) := po_3
  refine W.eq (g2 := F0 m 7 ls [.int (zI r_2)]) rfl ?_
  refine lz_if_eq (tgt := 29) hx hb dX6_isFree_7 (by decide) (by omega) (fun c_4 => ?_) (fun c_4 => ?_)
  ·
    refine lv_iconst (v := zI 0) hx hb dX6_isFree_29 (rfl) ?_
    have hP9 := hP.sub (ws' := [(mo, .inr (6, [.ref (ad 0), .ref (ad 1), .ref (ad 2), .ref (ad 3), .ref (ad 4), .ref (ad 5), .ref (ad 6), .ref (ad 7), .ref (ad 8), .int (zI mn), .ref (ad 10), .ref (ad 11), .int (zI mp), .int (zI mon), .int (zI mrx), .int (zI mry), .int (zI mrl), .int (zI mrs), .int (zI mrf), .ref (ad 19), .int (zI mx), .int (zI my), .int (zI ml), .int (zI mst), .ref (ad 24), .ref (ad 25), .ref (ad 26), .int (zI mla)])), zA cI (ad 0) 6 mW, zA cI (ad 1) 6 mH, zA cI (ad 2) 576 mC]) [0, 1, 2, 3] rfl
    have hD9 := hD.sub (ws' := [(mo, .inr (6, [.ref (ad 0), .ref (ad 1), .ref (ad 2), .ref (ad 3), .ref (ad 4), .ref (ad 5), .ref (ad 6), .ref (ad 7), .ref (ad 8), .int (zI mn), .ref (ad 10), .ref (ad 11), .int (zI mp), .int (zI mon), .int (zI mrx), .int (zI mry), .int (zI mrl), .int (zI mrs), .int (zI mrf), .ref (ad 19), .int (zI mx), .int (zI my), .int (zI ml), .int (zI mst), .ref (ad 24), .ref (ad 25), .ref (ad 26), .int (zI mla)])), zA cI (ad 0) 6 mW, zA cI (ad 1) 6 mH, zA cI (ad 2) 576 mC]) [0, 1, 2, 3] (by decide) rfl
    have po : zI 0 = zI (0 : Int) ∧ (((0 : Int) = 1 ∧ ¬ kd (Kof mC L) (mW L) (mH L) cx cy = -1 ∧ ¬ kd (Kof mC L) (mW L) (mH L) cx cy = 1) ∨ ((0 : Int) = 0 ∧ (kd (Kof mC L) (mW L) (mH L) cx cy = -1 ∨ kd (Kof mC L) (mW L) (mH L) cx cy = 1))) := by
      refine ⟨by first | rfl | (congr 1; omega) | (congr 1; simp [*]), ?_⟩
      have e9 := kd_rng (Kin_of gC L) (mW L) (mH L) cx cy
      first | (have e8 := kd_M (C := mC) (L := L) (w := mW L) (h := mH L) (c := cx) (r := cy) (by omega) (by omega); omega) | (have e8 := kd_no (K := Kof mC L) (w := mW L) (h := mH L) (c := cx) (r := cy) (by omega); omega)
    exact W.zret (v := zI 0) hx hb hr (by first | rfl | decide | exact zI_nz (by omega)) (fun t ht hW => ⟨⟨zI 0, 0, rfl, po, by rw [ht]; exact hP9, va_K.moved hW.alike hK, hD9⟩, hS.F ht⟩) hS.2.2 dX6_isFree_30
  ·
    refine lv_aload_n hx hb dX6_isFree_10 rfl (lv_at hl 0 rfl) ?_
    refine va_get (D := (dC, dI)) (ci := 6) (v := .ref (ad 2)) (C := RX6) (T := TX6) (N := 28) hx hb hts i_6 hown hK hP 0 rfl rfl 2 (by decide) f_16 (fun _ h9 => h9) rfl dX6_isFree_11 ?_
    refine lv_iload_n hx hb dX6_isFree_14 rfl (lv_at hl 1 rfl) ?_
    refine lv_iload_n hx hb dX6_isFree_15 rfl (lv_at hl 2 rfl) ?_
    refine lv_iload_n hx hb dX6_isFree_16 rfl (lv_at hl 3 rfl) ?_
    have hPc := hP.sub (ws' := []) [] rfl
    have hDc := hD.sub (ws' := []) [] (by decide) rfl
    have hFc := va_free (wc := []) hD hS hA [] rfl
    refine va_calli (va_runS (As := [.int (zI L), .int (zI cx), .int (zI cy)]) (rest := [.ref (ad 2)]) ⟨hx, hb, hml, hown, hts⟩ (c_X6_at l dC dI cI cZ cL cT cJ H.size L cx cy ) (cwS 3 hts gX6_isFree_X6_at rfl rfl rfl (by decide +kernel) ⟨Nat.le_of_ble_eq_true rfl, Nat.le_of_ble_eq_true rfl⟩) ⟨zP_blind, zP_pre hPc hDc hK⟩ rfl rfl hl.1 rfl (lv_room (Nat.le_of_ble_eq_true rfl)) dX6_isFree_17 ⟨Nat.le_of_ble_eq_true rfl, Nat.le_of_ble_eq_true rfl⟩) hS (fun q _ h => hFc q h) hFc (fun r_5 u_5 t H1 locs ht hvm hw hB hz1 hk1 hS => ?_)
    obtain ⟨hP1, hK1, hD1⟩ := hB
    rw [ht] at hP1
    have hP1 : va_P (dC, dI) vwCl [] H1 := hP1
    obtain ⟨hP, hD⟩ := va_join (wr := [(mo, .inr (6, [.ref (ad 0), .ref (ad 1), .ref (ad 2), .ref (ad 3), .ref (ad 4), .ref (ad 5), .ref (ad 6), .ref (ad 7), .ref (ad 8), .int (zI mn), .ref (ad 10), .ref (ad 11), .int (zI mp), .int (zI mon), .int (zI mrx), .int (zI mry), .int (zI mrl), .int (zI mrs), .int (zI mrf), .ref (ad 19), .int (zI mx), .int (zI my), .int (zI ml), .int (zI mst), .ref (ad 24), .ref (ad 25), .ref (ad 26), .int (zI mla)])), zA cI (ad 0) 6 mW, zA cI (ad 1) 6 mH, zA cI (ad 2) 576 mC]) (w1 := []) hP hD [] [0, 1, 2, 3] rfl rfl (by decide) (by decide) hk1 hFc hP1 hD1
    clear hP1 hD1 hk1 hFc hPc hDc hz1
    generalize H1 = H at hP hS ⊢
    have hP : va_P (dC, dI) vwCl [(mo, .inr (6, [.ref (ad 0), .ref (ad 1), .ref (ad 2), .ref (ad 3), .ref (ad 4), .ref (ad 5), .ref (ad 6), .ref (ad 7), .ref (ad 8), .int (zI mn), .ref (ad 10), .ref (ad 11), .int (zI mp), .int (zI mon), .int (zI mrx), .int (zI mry), .int (zI mrl), .int (zI mrs), .int (zI mrf), .ref (ad 19), .int (zI mx), .int (zI my), .int (zI ml), .int (zI mst), .ref (ad 24), .ref (ad 25), .ref (ad 26), .int (zI mla)])), zA cI (ad 0) 6 mW, zA cI (ad 1) 6 mH, zA cI (ad 2) 576 mC] H := hP.sub [0, 1, 2, 3] rfl
    have hD : va_D A [(mo, .inr (6, [.ref (ad 0), .ref (ad 1), .ref (ad 2), .ref (ad 3), .ref (ad 4), .ref (ad 5), .ref (ad 6), .ref (ad 7), .ref (ad 8), .int (zI mn), .ref (ad 10), .ref (ad 11), .int (zI mp), .int (zI mon), .int (zI mrx), .int (zI mry), .int (zI mrl), .int (zI mrs), .int (zI mrf), .ref (ad 19), .int (zI mx), .int (zI my), .int (zI ml), .int (zI mst), .ref (ad 24), .ref (ad 25), .ref (ad 26), .int (zI mla)])), zA cI (ad 0) 6 mW, zA cI (ad 1) 6 mH, zA cI (ad 2) 576 mC] := hD.sub [0, 1, 2, 3] (by decide) rfl
    clear hK1 hvm
    obtain ⟨rfl, po_6⟩ := hw
    refine W.eq (g2 := F0 m 20 ls [.int (zI (96 * L + 12 * cy + cx)), .ref (ad 2)]) rfl ?_
    refine lz_iald (F := mC) (i := 96 * L + 12 * cy + cx) hx hb hK hP 3 0 rfl rfl (by omega) (by omega) (by decide) dX6_isFree_20 ?_
    have ec := gC ((96 * L + 12 * cy + cx))
    refine lv_iconst (v := zI 1) hx hb dX6_isFree_21 (rfl) ?_
    refine lz_icmp_eq (tgt := 29) hx hb dX6_isFree_22 (by decide) (by omega) ⟨by decide, by decide⟩ (fun c_7 => ?_) (fun c_7 => ?_)
    ·
      refine lv_iconst (v := zI 0) hx hb dX6_isFree_29 (rfl) ?_
      have hP9 := hP.sub (ws' := [(mo, .inr (6, [.ref (ad 0), .ref (ad 1), .ref (ad 2), .ref (ad 3), .ref (ad 4), .ref (ad 5), .ref (ad 6), .ref (ad 7), .ref (ad 8), .int (zI mn), .ref (ad 10), .ref (ad 11), .int (zI mp), .int (zI mon), .int (zI mrx), .int (zI mry), .int (zI mrl), .int (zI mrs), .int (zI mrf), .ref (ad 19), .int (zI mx), .int (zI my), .int (zI ml), .int (zI mst), .ref (ad 24), .ref (ad 25), .ref (ad 26), .int (zI mla)])), zA cI (ad 0) 6 mW, zA cI (ad 1) 6 mH, zA cI (ad 2) 576 mC]) [0, 1, 2, 3] rfl
      have hD9 := hD.sub (ws' := [(mo, .inr (6, [.ref (ad 0), .ref (ad 1), .ref (ad 2), .ref (ad 3), .ref (ad 4), .ref (ad 5), .ref (ad 6), .ref (ad 7), .ref (ad 8), .int (zI mn), .ref (ad 10), .ref (ad 11), .int (zI mp), .int (zI mon), .int (zI mrx), .int (zI mry), .int (zI mrl), .int (zI mrs), .int (zI mrf), .ref (ad 19), .int (zI mx), .int (zI my), .int (zI ml), .int (zI mst), .ref (ad 24), .ref (ad 25), .ref (ad 26), .int (zI mla)])), zA cI (ad 0) 6 mW, zA cI (ad 1) 6 mH, zA cI (ad 2) 576 mC]) [0, 1, 2, 3] (by decide) rfl
      have po : zI 0 = zI (0 : Int) ∧ (((0 : Int) = 1 ∧ ¬ kd (Kof mC L) (mW L) (mH L) cx cy = -1 ∧ ¬ kd (Kof mC L) (mW L) (mH L) cx cy = 1) ∨ ((0 : Int) = 0 ∧ (kd (Kof mC L) (mW L) (mH L) cx cy = -1 ∨ kd (Kof mC L) (mW L) (mH L) cx cy = 1))) := by
        refine ⟨by first | rfl | (congr 1; omega) | (congr 1; simp [*]), ?_⟩
        have e9 := kd_rng (Kin_of gC L) (mW L) (mH L) cx cy
        first | (have e8 := kd_M (C := mC) (L := L) (w := mW L) (h := mH L) (c := cx) (r := cy) (by omega) (by omega); omega) | (have e8 := kd_no (K := Kof mC L) (w := mW L) (h := mH L) (c := cx) (r := cy) (by omega); omega)
      exact W.zret (v := zI 0) hx hb hr (by first | rfl | decide | exact zI_nz (by omega)) (fun t ht hW => ⟨⟨zI 0, 0, rfl, po, by rw [ht]; exact hP9, va_K.moved hW.alike hK, hD9⟩, hS.F ht⟩) hS.2.2 dX6_isFree_30
    ·
      refine lv_iconst (v := zI 1) hx hb dX6_isFree_25 (rfl) ?_
      refine lv_goto (tgt := 30) hx hb dX6_isFree_26 (by decide) ?_
      have hP9 := hP.sub (ws' := [(mo, .inr (6, [.ref (ad 0), .ref (ad 1), .ref (ad 2), .ref (ad 3), .ref (ad 4), .ref (ad 5), .ref (ad 6), .ref (ad 7), .ref (ad 8), .int (zI mn), .ref (ad 10), .ref (ad 11), .int (zI mp), .int (zI mon), .int (zI mrx), .int (zI mry), .int (zI mrl), .int (zI mrs), .int (zI mrf), .ref (ad 19), .int (zI mx), .int (zI my), .int (zI ml), .int (zI mst), .ref (ad 24), .ref (ad 25), .ref (ad 26), .int (zI mla)])), zA cI (ad 0) 6 mW, zA cI (ad 1) 6 mH, zA cI (ad 2) 576 mC]) [0, 1, 2, 3] rfl
      have hD9 := hD.sub (ws' := [(mo, .inr (6, [.ref (ad 0), .ref (ad 1), .ref (ad 2), .ref (ad 3), .ref (ad 4), .ref (ad 5), .ref (ad 6), .ref (ad 7), .ref (ad 8), .int (zI mn), .ref (ad 10), .ref (ad 11), .int (zI mp), .int (zI mon), .int (zI mrx), .int (zI mry), .int (zI mrl), .int (zI mrs), .int (zI mrf), .ref (ad 19), .int (zI mx), .int (zI my), .int (zI ml), .int (zI mst), .ref (ad 24), .ref (ad 25), .ref (ad 26), .int (zI mla)])), zA cI (ad 0) 6 mW, zA cI (ad 1) 6 mH, zA cI (ad 2) 576 mC]) [0, 1, 2, 3] (by decide) rfl
      have po : zI 1 = zI (1 : Int) ∧ (((1 : Int) = 1 ∧ ¬ kd (Kof mC L) (mW L) (mH L) cx cy = -1 ∧ ¬ kd (Kof mC L) (mW L) (mH L) cx cy = 1) ∨ ((1 : Int) = 0 ∧ (kd (Kof mC L) (mW L) (mH L) cx cy = -1 ∨ kd (Kof mC L) (mW L) (mH L) cx cy = 1))) := by
        refine ⟨by first | rfl | (congr 1; omega) | (congr 1; simp [*]), ?_⟩
        have e9 := kd_rng (Kin_of gC L) (mW L) (mH L) cx cy
        first | (have e8 := kd_M (C := mC) (L := L) (w := mW L) (h := mH L) (c := cx) (r := cy) (by omega) (by omega); omega) | (have e8 := kd_no (K := Kof mC L) (w := mW L) (h := mH L) (c := cx) (r := cy) (by omega); omega)
      exact W.zret (v := zI 1) hx hb hr (by first | rfl | decide | exact zI_nz (by omega)) (fun t ht hW => ⟨⟨zI 1, 1, rfl, po, by rw [ht]; exact hP9, va_K.moved hW.alike hK, hD9⟩, hS.F ht⟩) hS.2.2 dX6_isFree_30
set_option maxHeartbeats 4000000 in
set_option maxRecDepth 100000 in
theorem c_X6_isAt (l : Launch) (dC : Nat → ClassId) (dI : Nat → Nat → Nat) (cI cZ cL cT cJ : ClassId) (sz : Nat) (mo : Nat) (ad : Nat → Nat) (mn : Int) (mp : Int) (mon : Int) (mrx : Int) (mry : Int) (mrl : Int) (mrs : Int) (mrf : Int) (mx : Int) (my : Int) (ml : Int) (mst : Int) (mla : Int) (cx : Int) (cy : Int) (li : Int)  : Met l yX6_isAt wsX6_isAt ({ frames := 0, cells := 0, slots := 0, locals := 0 }) (zP (dC, dI) (zT cI cZ cL cT cJ) sz [.ref mo, .int (zI cx), .int (zI cy), .int (zI li)] [(mo, .inr (6, [.ref (ad 0), .ref (ad 1), .ref (ad 2), .ref (ad 3), .ref (ad 4), .ref (ad 5), .ref (ad 6), .ref (ad 7), .ref (ad 8), .int (zI mn), .ref (ad 10), .ref (ad 11), .int (zI mp), .int (zI mon), .int (zI mrx), .int (zI mry), .int (zI mrl), .int (zI mrs), .int (zI mrf), .ref (ad 19), .int (zI mx), .int (zI my), .int (zI ml), .int (zI mst), .ref (ad 24), .ref (ad 25), .ref (ad 26), .int (zI mla)]))]) (va_Qv (fun (u9 : Unit) => match u9 with | _ => (True)) (zB (dC, dI) (zT cI cZ cL cT cJ) (va_A [(mo, .inr (6, [.ref (ad 0), .ref (ad 1), .ref (ad 2), .ref (ad 3), .ref (ad 4), .ref (ad 5), .ref (ad 6), .ref (ad 7), .ref (ad 8), .int (zI mn), .ref (ad 10), .ref (ad 11), .int (zI mp), .int (zI mon), .int (zI mrx), .int (zI mry), .int (zI mrl), .int (zI mrs), .int (zI mrf), .ref (ad 19), .int (zI mx), .int (zI my), .int (zI ml), .int (zI mst), .ref (ad 24), .ref (ad 25), .ref (ad 26), .int (zI mla)]))] sz) (fun (u9 : Unit) => match u9 with | _ => [(mo, .inr (6, [.ref (ad 0), .ref (ad 1), .ref (ad 2), .ref (ad 3), .ref (ad 4), .ref (ad 5), .ref (ad 6), .ref (ad 7), .ref (ad 8), .int (zI mn), .ref (ad 10), .ref (ad 11), .int (zI mp), .int (zI mon), .int (zI mrx), .int (zI mry), .int (zI mrl), .int (zI mrs), .int (zI mrf), .ref (ad 19), .int (zI cx), .int (zI cy), .int (zI li), .int (zI 0), .ref (ad 24), .ref (ad 25), .ref (ad 26), .int (zI mla)]))])) (va_A [(mo, .inr (6, [.ref (ad 0), .ref (ad 1), .ref (ad 2), .ref (ad 3), .ref (ad 4), .ref (ad 5), .ref (ad 6), .ref (ad 7), .ref (ad 8), .int (zI mn), .ref (ad 10), .ref (ad 11), .int (zI mp), .int (zI mon), .int (zI mrx), .int (zI mry), .int (zI mrl), .int (zI mrs), .int (zI mrf), .ref (ad 19), .int (zI mx), .int (zI my), .int (zI ml), .int (zI mst), .ref (ad 24), .ref (ad 25), .ref (ad 26), .int (zI mla)]))] sz)) 0 0 (va_A [(mo, .inr (6, [.ref (ad 0), .ref (ad 1), .ref (ad 2), .ref (ad 3), .ref (ad 4), .ref (ad 5), .ref (ad 6), .ref (ad 7), .ref (ad 8), .int (zI mn), .ref (ad 10), .ref (ad 11), .int (zI mp), .int (zI mon), .int (zI mrx), .int (zI mry), .int (zI mrl), .int (zI mrs), .int (zI mrf), .ref (ad 19), .int (zI mx), .int (zI my), .int (zI ml), .int (zI mst), .ref (ad 24), .ref (ad 25), .ref (ad 26), .int (zI mla)]))] sz) := by
  refine Met.ofW (cc := cX6_isAt) (maxL := 4) (ret := none) (by decide) rfl ?_
  intro p e s m args below meth c s₁ B hml hv
  obtain ⟨rfl, hsz, hP, hK, hD0⟩ := hv
  have hx := B.exec
  have hb := B.bytes
  have hr := B.returns
  have hts := atoms_spec (ws := wsX6_isAt) B.pre
  have hown : s.vm.findClass RX6 = some m.cls := findClass_of_methodNamed B.named
  have hlocks := B.notSynchronized
  subst hsz
  have hD := hD0.self (sz := s.heap.size)
  generalize hAe : va_A [(mo, .inr (6, [.ref (ad 0), .ref (ad 1), .ref (ad 2), .ref (ad 3), .ref (ad 4), .ref (ad 5), .ref (ad 6), .ref (ad 7), .ref (ad 8), .int (zI mn), .ref (ad 10), .ref (ad 11), .int (zI mp), .int (zI mon), .int (zI mrx), .int (zI mry), .int (zI mrl), .int (zI mrs), .int (zI mrf), .ref (ad 19), .int (zI mx), .int (zI my), .int (zI ml), .int (zI mst), .ref (ad 24), .ref (ad 25), .ref (ad 26), .int (zI mla)]))] s.heap.size = A at hD ⊢
  have hA : ∀ q : Nat, s.heap.size ≤ q → A q := fun q h => by rw [← hAe]; exact Or.inr h
  clear hAe hD0
  have hS : va_S A s.heap s.heap [] := va_S.rf
  have hP : va_P (dC, dI) vwCl [(mo, .inr (6, [.ref (ad 0), .ref (ad 1), .ref (ad 2), .ref (ad 3), .ref (ad 4), .ref (ad 5), .ref (ad 6), .ref (ad 7), .ref (ad 8), .int (zI mn), .ref (ad 10), .ref (ad 11), .int (zI mp), .int (zI mon), .int (zI mrx), .int (zI mry), .int (zI mrl), .int (zI mrs), .int (zI mrf), .ref (ad 19), .int (zI mx), .int (zI my), .int (zI ml), .int (zI mst), .ref (ad 24), .ref (ad 25), .ref (ad 26), .int (zI mla)]))] s.heap := hP
  have f_81 := hts (.fieldLink RX6 81 "SpringLevelsModel" "x" "I") (by decide +kernel)
  have f_84 := hts (.fieldLink RX6 84 "SpringLevelsModel" "y" "I") (by decide +kernel)
  have f_87 := hts (.fieldLink RX6 87 "SpringLevelsModel" "lift" "I") (by decide +kernel)
  have f_90 := hts (.fieldLink RX6 90 "SpringLevelsModel" "state" "I") (by decide +kernel)
  have i_6 : ∀ w ∈ wsX60, w ∈ wsX6_isAt := by decide +kernel
  have hl := lv_entry ([.ref mo, .int (zI cx), .int (zI cy), .int (zI li)]) (n := 4) (Nat.le_of_ble_eq_true rfl)
  rw [lg_entry_eq]
  generalize (lg_sl ([.ref mo, .int (zI cx), .int (zI cy), .int (zI li)]) ++ List.replicate (4 - (lg_sl ([.ref mo, .int (zI cx), .int (zI cy), .int (zI li)])).length) Slot.unset).toArray = ls at hl ⊢
  have hl : lv_has ls 4 [(0, .ref mo), (1, .int (zI cx)), (2, .int (zI cy)), (3, .int (zI li))] := hl
  refine lv_aload_n hx hb dX6_isAt_0 rfl (lv_at hl 0 rfl) ?_
  refine lv_iload_n hx hb dX6_isAt_1 rfl (lv_at hl 1 rfl) ?_
  refine va_put (D := (dC, dI)) (ci := 6) (v := .int (zI cx)) (ty := .int) (C := RX6) (T := TX6) (N := 28) hx hb hts i_6 tyX6 tyX6_ok nmX6 hown hK hP hD hS 0 rfl rfl 20 (by decide) f_81 (fun _ h9 => h9) rfl (by decide +kernel) rfl rfl (Nat.le_of_ble_eq_true rfl) dX6_isAt_2 (fun H locs hP hD hS => ?_)
  have hP : va_P (dC, dI) vwCl [(mo, .inr (6, [.ref (ad 0), .ref (ad 1), .ref (ad 2), .ref (ad 3), .ref (ad 4), .ref (ad 5), .ref (ad 6), .ref (ad 7), .ref (ad 8), .int (zI mn), .ref (ad 10), .ref (ad 11), .int (zI mp), .int (zI mon), .int (zI mrx), .int (zI mry), .int (zI mrl), .int (zI mrs), .int (zI mrf), .ref (ad 19), .int (zI cx), .int (zI my), .int (zI ml), .int (zI mst), .ref (ad 24), .ref (ad 25), .ref (ad 26), .int (zI mla)]))] H := hP
  have hD : va_D A [(mo, .inr (6, [.ref (ad 0), .ref (ad 1), .ref (ad 2), .ref (ad 3), .ref (ad 4), .ref (ad 5), .ref (ad 6), .ref (ad 7), .ref (ad 8), .int (zI mn), .ref (ad 10), .ref (ad 11), .int (zI mp), .int (zI mon), .int (zI mrx), .int (zI mry), .int (zI mrl), .int (zI mrs), .int (zI mrf), .ref (ad 19), .int (zI cx), .int (zI my), .int (zI ml), .int (zI mst), .ref (ad 24), .ref (ad 25), .ref (ad 26), .int (zI mla)]))] := hD
  refine lv_aload_n hx hb dX6_isAt_5 rfl (lv_at hl 0 rfl) ?_
  refine lv_iload_n hx hb dX6_isAt_6 rfl (lv_at hl 2 rfl) ?_
  refine va_put (D := (dC, dI)) (ci := 6) (v := .int (zI cy)) (ty := .int) (C := RX6) (T := TX6) (N := 28) hx hb hts i_6 tyX6 tyX6_ok nmX6 hown hK hP hD hS 0 rfl rfl 21 (by decide) f_84 (fun _ h9 => h9) rfl (by decide +kernel) rfl rfl (Nat.le_of_ble_eq_true rfl) dX6_isAt_7 (fun H locs hP hD hS => ?_)
  have hP : va_P (dC, dI) vwCl [(mo, .inr (6, [.ref (ad 0), .ref (ad 1), .ref (ad 2), .ref (ad 3), .ref (ad 4), .ref (ad 5), .ref (ad 6), .ref (ad 7), .ref (ad 8), .int (zI mn), .ref (ad 10), .ref (ad 11), .int (zI mp), .int (zI mon), .int (zI mrx), .int (zI mry), .int (zI mrl), .int (zI mrs), .int (zI mrf), .ref (ad 19), .int (zI cx), .int (zI cy), .int (zI ml), .int (zI mst), .ref (ad 24), .ref (ad 25), .ref (ad 26), .int (zI mla)]))] H := hP
  have hD : va_D A [(mo, .inr (6, [.ref (ad 0), .ref (ad 1), .ref (ad 2), .ref (ad 3), .ref (ad 4), .ref (ad 5), .ref (ad 6), .ref (ad 7), .ref (ad 8), .int (zI mn), .ref (ad 10), .ref (ad 11), .int (zI mp), .int (zI mon), .int (zI mrx), .int (zI mry), .int (zI mrl), .int (zI mrs), .int (zI mrf), .ref (ad 19), .int (zI cx), .int (zI cy), .int (zI ml), .int (zI mst), .ref (ad 24), .ref (ad 25), .ref (ad 26), .int (zI mla)]))] := hD
  refine lv_aload_n hx hb dX6_isAt_10 rfl (lv_at hl 0 rfl) ?_
  refine lv_iload_n hx hb dX6_isAt_11 rfl (lv_at hl 3 rfl) ?_
  refine va_put (D := (dC, dI)) (ci := 6) (v := .int (zI li)) (ty := .int) (C := RX6) (T := TX6) (N := 28) hx hb hts i_6 tyX6 tyX6_ok nmX6 hown hK hP hD hS 0 rfl rfl 22 (by decide) f_87 (fun _ h9 => h9) rfl (by decide +kernel) rfl rfl (Nat.le_of_ble_eq_true rfl) dX6_isAt_12 (fun H locs hP hD hS => ?_)
  have hP : va_P (dC, dI) vwCl [(mo, .inr (6, [.ref (ad 0), .ref (ad 1), .ref (ad 2), .ref (ad 3), .ref (ad 4), .ref (ad 5), .ref (ad 6), .ref (ad 7), .ref (ad 8), .int (zI mn), .ref (ad 10), .ref (ad 11), .int (zI mp), .int (zI mon), .int (zI mrx), .int (zI mry), .int (zI mrl), .int (zI mrs), .int (zI mrf), .ref (ad 19), .int (zI cx), .int (zI cy), .int (zI li), .int (zI mst), .ref (ad 24), .ref (ad 25), .ref (ad 26), .int (zI mla)]))] H := hP
  have hD : va_D A [(mo, .inr (6, [.ref (ad 0), .ref (ad 1), .ref (ad 2), .ref (ad 3), .ref (ad 4), .ref (ad 5), .ref (ad 6), .ref (ad 7), .ref (ad 8), .int (zI mn), .ref (ad 10), .ref (ad 11), .int (zI mp), .int (zI mon), .int (zI mrx), .int (zI mry), .int (zI mrl), .int (zI mrs), .int (zI mrf), .ref (ad 19), .int (zI cx), .int (zI cy), .int (zI li), .int (zI mst), .ref (ad 24), .ref (ad 25), .ref (ad 26), .int (zI mla)]))] := hD
  refine lv_aload_n hx hb dX6_isAt_15 rfl (lv_at hl 0 rfl) ?_
  refine lv_iconst (v := zI 0) hx hb dX6_isAt_16 (rfl) ?_
  refine va_put (D := (dC, dI)) (ci := 6) (v := .int (zI 0)) (ty := .int) (C := RX6) (T := TX6) (N := 28) hx hb hts i_6 tyX6 tyX6_ok nmX6 hown hK hP hD hS 0 rfl rfl 23 (by decide) f_90 (fun _ h9 => h9) rfl (by decide +kernel) rfl rfl (Nat.le_of_ble_eq_true rfl) dX6_isAt_17 (fun H locs hP hD hS => ?_)
  have hP : va_P (dC, dI) vwCl [(mo, .inr (6, [.ref (ad 0), .ref (ad 1), .ref (ad 2), .ref (ad 3), .ref (ad 4), .ref (ad 5), .ref (ad 6), .ref (ad 7), .ref (ad 8), .int (zI mn), .ref (ad 10), .ref (ad 11), .int (zI mp), .int (zI mon), .int (zI mrx), .int (zI mry), .int (zI mrl), .int (zI mrs), .int (zI mrf), .ref (ad 19), .int (zI cx), .int (zI cy), .int (zI li), .int (zI 0), .ref (ad 24), .ref (ad 25), .ref (ad 26), .int (zI mla)]))] H := hP
  have hD : va_D A [(mo, .inr (6, [.ref (ad 0), .ref (ad 1), .ref (ad 2), .ref (ad 3), .ref (ad 4), .ref (ad 5), .ref (ad 6), .ref (ad 7), .ref (ad 8), .int (zI mn), .ref (ad 10), .ref (ad 11), .int (zI mp), .int (zI mon), .int (zI mrx), .int (zI mry), .int (zI mrl), .int (zI mrs), .int (zI mrf), .ref (ad 19), .int (zI cx), .int (zI cy), .int (zI li), .int (zI 0), .ref (ad 24), .ref (ad 25), .ref (ad 26), .int (zI mla)]))] := hD
  have hP9 := hP.sub (ws' := [(mo, .inr (6, [.ref (ad 0), .ref (ad 1), .ref (ad 2), .ref (ad 3), .ref (ad 4), .ref (ad 5), .ref (ad 6), .ref (ad 7), .ref (ad 8), .int (zI mn), .ref (ad 10), .ref (ad 11), .int (zI mp), .int (zI mon), .int (zI mrx), .int (zI mry), .int (zI mrl), .int (zI mrs), .int (zI mrf), .ref (ad 19), .int (zI cx), .int (zI cy), .int (zI li), .int (zI 0), .ref (ad 24), .ref (ad 25), .ref (ad 26), .int (zI mla)]))]) [0] rfl
  have hD9 := hD.sub (ws' := [(mo, .inr (6, [.ref (ad 0), .ref (ad 1), .ref (ad 2), .ref (ad 3), .ref (ad 4), .ref (ad 5), .ref (ad 6), .ref (ad 7), .ref (ad 8), .int (zI mn), .ref (ad 10), .ref (ad 11), .int (zI mp), .int (zI mon), .int (zI mrx), .int (zI mry), .int (zI mrl), .int (zI mrs), .int (zI mrf), .ref (ad 19), .int (zI cx), .int (zI cy), .int (zI li), .int (zI 0), .ref (ad 24), .ref (ad 25), .ref (ad 26), .int (zI mla)]))]) [0] (by decide) rfl
  have po : (True) := by
    trivial
  exact W.vret hx hb hr (fun t ht hW => ⟨⟨(), rfl, po, by rw [ht]; exact hP9, va_K.moved hW.alike hK, hD9⟩, hS.F ht⟩) hS.2.2 dX6_isAt_20
set_option maxHeartbeats 4000000 in
set_option maxRecDepth 100000 in
theorem c_X6_frame (l : Launch) (dC : Nat → ClassId) (dI : Nat → Nat → Nat) (cI cZ cL cT cJ : ClassId) (sz : Nat) (mo : Nat) (ad : Nat → Nat) (mn : Int) (mp : Int) (mon : Int) (mrx : Int) (mry : Int) (mrl : Int) (mrs : Int) (mrf : Int) (mx : Int) (my : Int) (ml : Int) (mst : Int) (mla : Int) (mW : Int → Int) (mH : Int → Int) (mC : Int → Int) (mFX : Int → Int) (mFY : Int → Int) (L : Int) (i : Int) (gn : 0 ≤ mn ∧ mn ≤ 6) (gW : ∀ i, 0 ≤ i → i < mn → 2 ≤ mW i ∧ mW i ≤ 12) (gH : ∀ i, 0 ≤ i → i < mn → 2 ≤ mH i ∧ mH i ≤ 8) (gC : Kin mC) (gv : 0 ≤ L ∧ L < mn) (gx : 0 ≤ mx ∧ mx < mW L) (gy : 0 ≤ my ∧ my < mH L) (gl : 0 ≤ ml ∧ ml ≤ 4) (gfx : Z32 mFX) (gfy : Z32 mFY) (gi : 0 ≤ i ∧ i ≤ 5) (r9L : -2147483648 ≤ L ∧ L < 2147483648) : Met l yX6_frame wsX6_frame ({ frames := 4, cells := 0, slots := 0, locals := 89 }) (zP (dC, dI) (zT cI cZ cL cT cJ) sz [.ref mo, .int (zI L), .int (zI i)] [(mo, .inr (6, [.ref (ad 0), .ref (ad 1), .ref (ad 2), .ref (ad 3), .ref (ad 4), .ref (ad 5), .ref (ad 6), .ref (ad 7), .ref (ad 8), .int (zI mn), .ref (ad 10), .ref (ad 11), .int (zI mp), .int (zI mon), .int (zI mrx), .int (zI mry), .int (zI mrl), .int (zI mrs), .int (zI mrf), .ref (ad 19), .int (zI mx), .int (zI my), .int (zI ml), .int (zI mst), .ref (ad 24), .ref (ad 25), .ref (ad 26), .int (zI mla)])), zA cI (ad 0) 6 mW, zA cI (ad 1) 6 mH, zA cI (ad 2) 576 mC, zA cI (ad 5) 6 mFX, zA cI (ad 6) 6 mFY]) (va_Qv (fun (u9 : Int × Int × Int × Int) => match u9 with | (x1, y1, l1, o1) => (x1 = mvX (Kof mC L) (mW L) (mH L) mx my i ∧ y1 = mvY (Kof mC L) (mW L) (mH L) mx my ml i ∧ l1 = mvL (Kof mC L) (mW L) (mH L) mx my ml i ∧ o1 = mvO (Kof mC L) (mW L) (mH L) (mFX L) (mFY L) mx my ml i)) (zB (dC, dI) (zT cI cZ cL cT cJ) (va_A [(mo, .inr (6, [.ref (ad 0), .ref (ad 1), .ref (ad 2), .ref (ad 3), .ref (ad 4), .ref (ad 5), .ref (ad 6), .ref (ad 7), .ref (ad 8), .int (zI mn), .ref (ad 10), .ref (ad 11), .int (zI mp), .int (zI mon), .int (zI mrx), .int (zI mry), .int (zI mrl), .int (zI mrs), .int (zI mrf), .ref (ad 19), .int (zI mx), .int (zI my), .int (zI ml), .int (zI mst), .ref (ad 24), .ref (ad 25), .ref (ad 26), .int (zI mla)])), zA cI (ad 0) 6 mW, zA cI (ad 1) 6 mH, zA cI (ad 2) 576 mC, zA cI (ad 5) 6 mFX, zA cI (ad 6) 6 mFY] sz) (fun (u9 : Int × Int × Int × Int) => match u9 with | (x1, y1, l1, o1) => [(mo, .inr (6, [.ref (ad 0), .ref (ad 1), .ref (ad 2), .ref (ad 3), .ref (ad 4), .ref (ad 5), .ref (ad 6), .ref (ad 7), .ref (ad 8), .int (zI mn), .ref (ad 10), .ref (ad 11), .int (zI mp), .int (zI mon), .int (zI mrx), .int (zI mry), .int (zI mrl), .int (zI mrs), .int (zI mrf), .ref (ad 19), .int (zI x1), .int (zI y1), .int (zI l1), .int (zI o1), .ref (ad 24), .ref (ad 25), .ref (ad 26), .int (zI mla)])), zA cI (ad 0) 6 mW, zA cI (ad 1) 6 mH, zA cI (ad 2) 576 mC, zA cI (ad 5) 6 mFX, zA cI (ad 6) 6 mFY])) (va_A [(mo, .inr (6, [.ref (ad 0), .ref (ad 1), .ref (ad 2), .ref (ad 3), .ref (ad 4), .ref (ad 5), .ref (ad 6), .ref (ad 7), .ref (ad 8), .int (zI mn), .ref (ad 10), .ref (ad 11), .int (zI mp), .int (zI mon), .int (zI mrx), .int (zI mry), .int (zI mrl), .int (zI mrs), .int (zI mrf), .ref (ad 19), .int (zI mx), .int (zI my), .int (zI ml), .int (zI mst), .ref (ad 24), .ref (ad 25), .ref (ad 26), .int (zI mla)])), zA cI (ad 0) 6 mW, zA cI (ad 1) 6 mH, zA cI (ad 2) 576 mC, zA cI (ad 5) 6 mFX, zA cI (ad 6) 6 mFY] sz)) 0 0 (va_A [(mo, .inr (6, [.ref (ad 0), .ref (ad 1), .ref (ad 2), .ref (ad 3), .ref (ad 4), .ref (ad 5), .ref (ad 6), .ref (ad 7), .ref (ad 8), .int (zI mn), .ref (ad 10), .ref (ad 11), .int (zI mp), .int (zI mon), .int (zI mrx), .int (zI mry), .int (zI mrl), .int (zI mrs), .int (zI mrf), .ref (ad 19), .int (zI mx), .int (zI my), .int (zI ml), .int (zI mst), .ref (ad 24), .ref (ad 25), .ref (ad 26), .int (zI mla)])), zA cI (ad 0) 6 mW, zA cI (ad 1) 6 mH, zA cI (ad 2) 576 mC, zA cI (ad 5) 6 mFX, zA cI (ad 6) 6 mFY] sz) := by
  refine Met.ofW (cc := cX6_frame) (maxL := 5) (ret := none) (by decide) rfl ?_
  intro p e s m args below meth c s₁ B hml hv
  obtain ⟨rfl, hsz, hP, hK, hD0⟩ := hv
  have hx := B.exec
  have hb := B.bytes
  have hr := B.returns
  have hts := atoms_spec (ws := wsX6_frame) B.pre
  have hown : s.vm.findClass RX6 = some m.cls := findClass_of_methodNamed B.named
  have hlocks := B.notSynchronized
  subst hsz
  have hD := hD0.self (sz := s.heap.size)
  generalize hAe : va_A [(mo, .inr (6, [.ref (ad 0), .ref (ad 1), .ref (ad 2), .ref (ad 3), .ref (ad 4), .ref (ad 5), .ref (ad 6), .ref (ad 7), .ref (ad 8), .int (zI mn), .ref (ad 10), .ref (ad 11), .int (zI mp), .int (zI mon), .int (zI mrx), .int (zI mry), .int (zI mrl), .int (zI mrs), .int (zI mrf), .ref (ad 19), .int (zI mx), .int (zI my), .int (zI ml), .int (zI mst), .ref (ad 24), .ref (ad 25), .ref (ad 26), .int (zI mla)])), zA cI (ad 0) 6 mW, zA cI (ad 1) 6 mH, zA cI (ad 2) 576 mC, zA cI (ad 5) 6 mFX, zA cI (ad 6) 6 mFY] s.heap.size = A at hD ⊢
  have hA : ∀ q : Nat, s.heap.size ≤ q → A q := fun q h => by rw [← hAe]; exact Or.inr h
  clear hAe hD0
  have hS : va_S A s.heap s.heap [] := va_S.rf
  have hP : va_P (dC, dI) vwCl [(mo, .inr (6, [.ref (ad 0), .ref (ad 1), .ref (ad 2), .ref (ad 3), .ref (ad 4), .ref (ad 5), .ref (ad 6), .ref (ad 7), .ref (ad 8), .int (zI mn), .ref (ad 10), .ref (ad 11), .int (zI mp), .int (zI mon), .int (zI mrx), .int (zI mry), .int (zI mrl), .int (zI mrs), .int (zI mrf), .ref (ad 19), .int (zI mx), .int (zI my), .int (zI ml), .int (zI mst), .ref (ad 24), .ref (ad 25), .ref (ad 26), .int (zI mla)])), zA cI (ad 0) 6 mW, zA cI (ad 1) 6 mH, zA cI (ad 2) 576 mC, zA cI (ad 5) 6 mFX, zA cI (ad 6) 6 mFY] s.heap := hP
  have f_16 := hts (.fieldLink RX6 16 "SpringLevelsModel" "cells" "[I") (by decide +kernel)
  have f_25 := hts (.fieldLink RX6 25 "SpringLevelsModel" "flagX" "[I") (by decide +kernel)
  have f_28 := hts (.fieldLink RX6 28 "SpringLevelsModel" "flagY" "[I") (by decide +kernel)
  have f_81 := hts (.fieldLink RX6 81 "SpringLevelsModel" "x" "I") (by decide +kernel)
  have f_84 := hts (.fieldLink RX6 84 "SpringLevelsModel" "y" "I") (by decide +kernel)
  have f_87 := hts (.fieldLink RX6 87 "SpringLevelsModel" "lift" "I") (by decide +kernel)
  have f_90 := hts (.fieldLink RX6 90 "SpringLevelsModel" "state" "I") (by decide +kernel)
  have i_6 : ∀ w ∈ wsX60, w ∈ wsX6_frame := by decide +kernel
  have hl := lv_entry ([.ref mo, .int (zI L), .int (zI i)]) (n := 5) (Nat.le_of_ble_eq_true rfl)
  rw [lg_entry_eq]
  generalize (lg_sl ([.ref mo, .int (zI L), .int (zI i)]) ++ List.replicate (5 - (lg_sl ([.ref mo, .int (zI L), .int (zI i)])).length) Slot.unset).toArray = ls at hl ⊢
  have hl : lv_has ls 5 [(0, .ref mo), (1, .int (zI L)), (2, .int (zI i))] := hl
  have gw := gW L gv.1 gv.2
  have gh := gH L gv.1 gv.2
  have KN := Kin_of gC L
  have e5 := gfx L
  have e6 := gfy L
  refine z_cut (I := fun (x9 : Int) (H9 : Heap) (k9 : List Loc) (ls9 : Array Slot) => match x9 with | l2 => (l2 = juL (Kof mC L) (mW L) (mH L) mx my ml i) ∧ (0 ≤ l2 ∧ l2 ≤ 4) ∧ va_P (dC, dI) vwCl [(mo, .inr (6, [.ref (ad 0), .ref (ad 1), .ref (ad 2), .ref (ad 3), .ref (ad 4), .ref (ad 5), .ref (ad 6), .ref (ad 7), .ref (ad 8), .int (zI mn), .ref (ad 10), .ref (ad 11), .int (zI mp), .int (zI mon), .int (zI mrx), .int (zI mry), .int (zI mrl), .int (zI mrs), .int (zI mrf), .ref (ad 19), .int (zI mx), .int (zI my), .int (zI l2), .int (zI mst), .ref (ad 24), .ref (ad 25), .ref (ad 26), .int (zI mla)])), zA cI (ad 0) 6 mW, zA cI (ad 1) 6 mH, zA cI (ad 2) 576 mC, zA cI (ad 5) 6 mFX, zA cI (ad 6) 6 mFY] H9 ∧ va_D A [(mo, .inr (6, [.ref (ad 0), .ref (ad 1), .ref (ad 2), .ref (ad 3), .ref (ad 4), .ref (ad 5), .ref (ad 6), .ref (ad 7), .ref (ad 8), .int (zI mn), .ref (ad 10), .ref (ad 11), .int (zI mp), .int (zI mon), .int (zI mrx), .int (zI mry), .int (zI mrl), .int (zI mrs), .int (zI mrf), .ref (ad 19), .int (zI mx), .int (zI my), .int (zI l2), .int (zI mst), .ref (ad 24), .ref (ad 25), .ref (ad 26), .int (zI mla)])), zA cI (ad 0) 6 mW, zA cI (ad 1) 6 mH, zA cI (ad 2) 576 mC, zA cI (ad 5) 6 mFX, zA cI (ad 6) 6 mFY] ∧ va_S A s.heap H9 k9 ∧ lv_has ls9 5 [(0, .ref mo), (1, .int (zI L)), (2, .int (zI i))]) (fr := fun (x9 : Int) (ls9 : Array Slot) => match x9 with | l2 => F0 m 28 ls9 []) ?_ ?_
  · rintro l2 H locs ls ⟨hn, rl2, hP, hD, hS, hl⟩
    refine W.eq (g2 := F0 m 28 ls []) rfl ?_
    refine lv_iload_n hx hb dX6_frame_28 rfl (lv_at hl 2 rfl) ?_
    refine z_cut (I := fun (x9 : Int) (H9 : Heap) (k9 : List Loc) (ls9 : Array Slot) => match x9 with | by9 => (by9 = byF i) ∧ (-1 ≤ by9 ∧ by9 ≤ 1) ∧ va_P (dC, dI) vwCl [(mo, .inr (6, [.ref (ad 0), .ref (ad 1), .ref (ad 2), .ref (ad 3), .ref (ad 4), .ref (ad 5), .ref (ad 6), .ref (ad 7), .ref (ad 8), .int (zI mn), .ref (ad 10), .ref (ad 11), .int (zI mp), .int (zI mon), .int (zI mrx), .int (zI mry), .int (zI mrl), .int (zI mrs), .int (zI mrf), .ref (ad 19), .int (zI mx), .int (zI my), .int (zI l2), .int (zI mst), .ref (ad 24), .ref (ad 25), .ref (ad 26), .int (zI mla)])), zA cI (ad 0) 6 mW, zA cI (ad 1) 6 mH, zA cI (ad 2) 576 mC, zA cI (ad 5) 6 mFX, zA cI (ad 6) 6 mFY] H9 ∧ va_D A [(mo, .inr (6, [.ref (ad 0), .ref (ad 1), .ref (ad 2), .ref (ad 3), .ref (ad 4), .ref (ad 5), .ref (ad 6), .ref (ad 7), .ref (ad 8), .int (zI mn), .ref (ad 10), .ref (ad 11), .int (zI mp), .int (zI mon), .int (zI mrx), .int (zI mry), .int (zI mrl), .int (zI mrs), .int (zI mrf), .ref (ad 19), .int (zI mx), .int (zI my), .int (zI l2), .int (zI mst), .ref (ad 24), .ref (ad 25), .ref (ad 26), .int (zI mla)])), zA cI (ad 0) 6 mW, zA cI (ad 1) 6 mH, zA cI (ad 2) 576 mC, zA cI (ad 5) 6 mFX, zA cI (ad 6) 6 mFY] ∧ va_S A s.heap H9 k9 ∧ lv_has ls9 5 [(0, .ref mo), (1, .int (zI L)), (2, .int (zI i))]) (fr := fun (x9 : Int) (ls9 : Array Slot) => match x9 with | by9 => F0 m 57 ls9 [.int (zI by9)]) ?_ ?_
    · rintro by9 H locs ls ⟨hby, rby, hP, hD, hS, hl⟩
      refine W.eq (g2 := F0 m 57 ls [.int (zI by9)]) rfl ?_
      refine lv_istore_n (lv' := [(3, .int (zI by9)), (0, .ref mo), (1, .int (zI L)), (2, .int (zI i))]) hx hb dX6_frame_57 rfl hl (by decide) rfl (fun ls hl => ?_)
      refine lv_aload_n hx hb dX6_frame_58 rfl (lv_at hl 1 rfl) ?_
      refine lv_dup hx hb dX6_frame_59 rfl ?_
      refine va_get (D := (dC, dI)) (ci := 6) (v := .int (zI mx)) (C := RX6) (T := TX6) (N := 28) hx hb hts i_6 hown hK hP 0 rfl rfl 20 (by decide) f_81 (fun _ h9 => h9) rfl dX6_frame_60 ?_
      refine z_cut (I := fun (x9 : Int) (H9 : Heap) (k9 : List Loc) (ls9 : Array Slot) => match x9 with | d => (mx + d = wk (Kof mC L) (mW L) (mH L) mx my i) ∧ (0 ≤ mx + d ∧ mx + d < mW L) ∧ va_P (dC, dI) vwCl [(mo, .inr (6, [.ref (ad 0), .ref (ad 1), .ref (ad 2), .ref (ad 3), .ref (ad 4), .ref (ad 5), .ref (ad 6), .ref (ad 7), .ref (ad 8), .int (zI mn), .ref (ad 10), .ref (ad 11), .int (zI mp), .int (zI mon), .int (zI mrx), .int (zI mry), .int (zI mrl), .int (zI mrs), .int (zI mrf), .ref (ad 19), .int (zI mx), .int (zI my), .int (zI l2), .int (zI mst), .ref (ad 24), .ref (ad 25), .ref (ad 26), .int (zI mla)])), zA cI (ad 0) 6 mW, zA cI (ad 1) 6 mH, zA cI (ad 2) 576 mC, zA cI (ad 5) 6 mFX, zA cI (ad 6) 6 mFY] H9 ∧ va_D A [(mo, .inr (6, [.ref (ad 0), .ref (ad 1), .ref (ad 2), .ref (ad 3), .ref (ad 4), .ref (ad 5), .ref (ad 6), .ref (ad 7), .ref (ad 8), .int (zI mn), .ref (ad 10), .ref (ad 11), .int (zI mp), .int (zI mon), .int (zI mrx), .int (zI mry), .int (zI mrl), .int (zI mrs), .int (zI mrf), .ref (ad 19), .int (zI mx), .int (zI my), .int (zI l2), .int (zI mst), .ref (ad 24), .ref (ad 25), .ref (ad 26), .int (zI mla)])), zA cI (ad 0) 6 mW, zA cI (ad 1) 6 mH, zA cI (ad 2) 576 mC, zA cI (ad 5) 6 mFX, zA cI (ad 6) 6 mFY] ∧ va_S A s.heap H9 k9 ∧ lv_has ls9 5 [(0, .ref mo), (1, .int (zI L)), (2, .int (zI i)), (3, .int (zI by9))]) (fr := fun (x9 : Int) (ls9 : Array Slot) => match x9 with | d => F0 m 90 ls9 [.int (zI d), .int (zI mx), .ref mo]) ?_ ?_
      · rintro d H locs ls ⟨hd, rd, hP, hD, hS, hl⟩
        refine W.eq (g2 := F0 m 90 ls [.int (zI d), .int (zI mx), .ref mo]) rfl ?_
        refine lz_iadd (z := mx + d) hx hb dX6_frame_90 (by rfl) ?_
        refine va_put (D := (dC, dI)) (ci := 6) (v := .int (zI (mx + d))) (ty := .int) (C := RX6) (T := TX6) (N := 28) hx hb hts i_6 tyX6 tyX6_ok nmX6 hown hK hP hD hS 0 rfl rfl 20 (by decide) f_81 (fun _ h9 => h9) rfl (by decide +kernel) rfl rfl (Nat.le_of_ble_eq_true rfl) dX6_frame_91 (fun H locs hP hD hS => ?_)
        have hP : va_P (dC, dI) vwCl [(mo, .inr (6, [.ref (ad 0), .ref (ad 1), .ref (ad 2), .ref (ad 3), .ref (ad 4), .ref (ad 5), .ref (ad 6), .ref (ad 7), .ref (ad 8), .int (zI mn), .ref (ad 10), .ref (ad 11), .int (zI mp), .int (zI mon), .int (zI mrx), .int (zI mry), .int (zI mrl), .int (zI mrs), .int (zI mrf), .ref (ad 19), .int (zI (mx + d)), .int (zI my), .int (zI l2), .int (zI mst), .ref (ad 24), .ref (ad 25), .ref (ad 26), .int (zI mla)])), zA cI (ad 0) 6 mW, zA cI (ad 1) 6 mH, zA cI (ad 2) 576 mC, zA cI (ad 5) 6 mFX, zA cI (ad 6) 6 mFY] H := hP
        have hD : va_D A [(mo, .inr (6, [.ref (ad 0), .ref (ad 1), .ref (ad 2), .ref (ad 3), .ref (ad 4), .ref (ad 5), .ref (ad 6), .ref (ad 7), .ref (ad 8), .int (zI mn), .ref (ad 10), .ref (ad 11), .int (zI mp), .int (zI mon), .int (zI mrx), .int (zI mry), .int (zI mrl), .int (zI mrs), .int (zI mrf), .ref (ad 19), .int (zI (mx + d)), .int (zI my), .int (zI l2), .int (zI mst), .ref (ad 24), .ref (ad 25), .ref (ad 26), .int (zI mla)])), zA cI (ad 0) 6 mW, zA cI (ad 1) 6 mH, zA cI (ad 2) 576 mC, zA cI (ad 5) 6 mFX, zA cI (ad 6) 6 mFY] := hD
        have m1 : mx + d = mvX (Kof mC L) (mW L) (mH L) mx my i := hd
        refine z_cut (I := fun (x9 : Int × Int) (H9 : Heap) (k9 : List Loc) (ls9 : Array Slot) => match x9 with | (y3, l3) => (y3 = upY (Kof mC L) (mW L) (mH L) (mx + d) my l2) ∧ (l3 = upL (Kof mC L) (mW L) (mH L) (mx + d) my l2) ∧ (0 ≤ y3 ∧ y3 ≤ mH L) ∧ (0 ≤ l3 ∧ l3 ≤ 4) ∧ va_P (dC, dI) vwCl [(mo, .inr (6, [.ref (ad 0), .ref (ad 1), .ref (ad 2), .ref (ad 3), .ref (ad 4), .ref (ad 5), .ref (ad 6), .ref (ad 7), .ref (ad 8), .int (zI mn), .ref (ad 10), .ref (ad 11), .int (zI mp), .int (zI mon), .int (zI mrx), .int (zI mry), .int (zI mrl), .int (zI mrs), .int (zI mrf), .ref (ad 19), .int (zI (mx + d)), .int (zI y3), .int (zI l3), .int (zI mst), .ref (ad 24), .ref (ad 25), .ref (ad 26), .int (zI mla)])), zA cI (ad 0) 6 mW, zA cI (ad 1) 6 mH, zA cI (ad 2) 576 mC, zA cI (ad 5) 6 mFX, zA cI (ad 6) 6 mFY] H9 ∧ va_D A [(mo, .inr (6, [.ref (ad 0), .ref (ad 1), .ref (ad 2), .ref (ad 3), .ref (ad 4), .ref (ad 5), .ref (ad 6), .ref (ad 7), .ref (ad 8), .int (zI mn), .ref (ad 10), .ref (ad 11), .int (zI mp), .int (zI mon), .int (zI mrx), .int (zI mry), .int (zI mrl), .int (zI mrs), .int (zI mrf), .ref (ad 19), .int (zI (mx + d)), .int (zI y3), .int (zI l3), .int (zI mst), .ref (ad 24), .ref (ad 25), .ref (ad 26), .int (zI mla)])), zA cI (ad 0) 6 mW, zA cI (ad 1) 6 mH, zA cI (ad 2) 576 mC, zA cI (ad 5) 6 mFX, zA cI (ad 6) 6 mFY] ∧ va_S A s.heap H9 k9 ∧ lv_has ls9 5 [(0, .ref mo), (1, .int (zI L)), (2, .int (zI i)), (3, .int (zI by9))]) (fr := fun (x9 : Int × Int) (ls9 : Array Slot) => match x9 with | (y3, l3) => F0 m 187 ls9 []) ?_ ?_
        · rintro ⟨y3, l3⟩ H locs ls ⟨hy3, hl3, ry3, rl3, hP, hD, hS, hl⟩
          refine W.eq (g2 := F0 m 187 ls []) rfl ?_
          refine lv_aload_n hx hb dX6_frame_187 rfl (lv_at hl 0 rfl) ?_
          refine lv_iload_n hx hb dX6_frame_188 rfl (lv_at hl 1 rfl) ?_
          refine lv_aload_n hx hb dX6_frame_189 rfl (lv_at hl 0 rfl) ?_
          refine va_get (D := (dC, dI)) (ci := 6) (v := .int (zI (mx + d))) (C := RX6) (T := TX6) (N := 28) hx hb hts i_6 hown hK hP 0 rfl rfl 20 (by decide) f_81 (fun _ h9 => h9) rfl dX6_frame_190 ?_
          refine lv_aload_n hx hb dX6_frame_193 rfl (lv_at hl 0 rfl) ?_
          refine va_get (D := (dC, dI)) (ci := 6) (v := .int (zI y3)) (C := RX6) (T := TX6) (N := 28) hx hb hts i_6 hown hK hP 0 rfl rfl 21 (by decide) f_84 (fun _ h9 => h9) rfl dX6_frame_194 ?_
          have hPc := hP.sub (ws' := [(mo, .inr (6, [.ref (ad 0), .ref (ad 1), .ref (ad 2), .ref (ad 3), .ref (ad 4), .ref (ad 5), .ref (ad 6), .ref (ad 7), .ref (ad 8), .int (zI mn), .ref (ad 10), .ref (ad 11), .int (zI mp), .int (zI mon), .int (zI mrx), .int (zI mry), .int (zI mrl), .int (zI mrs), .int (zI mrf), .ref (ad 19), .int (zI (mx + d)), .int (zI y3), .int (zI l3), .int (zI mst), .ref (ad 24), .ref (ad 25), .ref (ad 26), .int (zI mla)])), zA cI (ad 0) 6 mW, zA cI (ad 1) 6 mH]) [0, 1, 2] rfl
          have hDc := hD.sub (ws' := [(mo, .inr (6, [.ref (ad 0), .ref (ad 1), .ref (ad 2), .ref (ad 3), .ref (ad 4), .ref (ad 5), .ref (ad 6), .ref (ad 7), .ref (ad 8), .int (zI mn), .ref (ad 10), .ref (ad 11), .int (zI mp), .int (zI mon), .int (zI mrx), .int (zI mry), .int (zI mrl), .int (zI mrs), .int (zI mrf), .ref (ad 19), .int (zI (mx + d)), .int (zI y3), .int (zI l3), .int (zI mst), .ref (ad 24), .ref (ad 25), .ref (ad 26), .int (zI mla)])), zA cI (ad 0) 6 mW, zA cI (ad 1) 6 mH]) [0, 1, 2] (by decide) rfl
          have hFc := va_free (wc := [(mo, .inr (6, [.ref (ad 0), .ref (ad 1), .ref (ad 2), .ref (ad 3), .ref (ad 4), .ref (ad 5), .ref (ad 6), .ref (ad 7), .ref (ad 8), .int (zI mn), .ref (ad 10), .ref (ad 11), .int (zI mp), .int (zI mon), .int (zI mrx), .int (zI mry), .int (zI mrl), .int (zI mrs), .int (zI mrf), .ref (ad 19), .int (zI (mx + d)), .int (zI y3), .int (zI l3), .int (zI mst), .ref (ad 24), .ref (ad 25), .ref (ad 26), .int (zI mla)])), zA cI (ad 0) 6 mW, zA cI (ad 1) 6 mH]) hD hS hA [0, 1, 2] rfl
          refine va_calli (va_runV (As := [.int (zI L), .int (zI (mx + d)), .int (zI y3)]) (rest := []) ⟨hx, hb, hml, hown, hts⟩ (c_X6_isCell l dC dI cI cZ cL cT cJ H.size mo ad mn mp mon mrx mry mrl mrs mrf (mx + d) y3 l3 mst mla mW mH L (mx + d) y3 (by first | assumption | omega) (by first | assumption | omega) (by first | assumption | omega) (by first | assumption | omega) (by first | assumption | omega) (by first | assumption | omega)) (cwV 3 hts gX6_frame_X6_isCell rfl rfl rfl (by decide +kernel) ⟨Nat.le_of_ble_eq_true rfl, Nat.le_of_ble_eq_true rfl⟩) ⟨zP_blind, va_recv hK hPc (ci := 6) (q0 := 0) rfl rfl, zP_pre hPc hDc hK⟩ rfl rfl hl.1 rfl (lv_room (Nat.le_of_ble_eq_true rfl)) dX6_frame_197 ⟨Nat.le_of_ble_eq_true rfl, Nat.le_of_ble_eq_true rfl⟩) hS (fun q _ h => hFc q h) hFc (fun r_1 u_1 t H1 locs ht hvm hw hB hz1 hk1 hS => ?_)
          obtain ⟨r_2, rfl⟩ : ∃ z, z = u_1 := ⟨_, rfl⟩
          obtain ⟨hP1, hK1, hD1⟩ := hB
          rw [ht] at hP1
          have hP1 : va_P (dC, dI) vwCl [(mo, .inr (6, [.ref (ad 0), .ref (ad 1), .ref (ad 2), .ref (ad 3), .ref (ad 4), .ref (ad 5), .ref (ad 6), .ref (ad 7), .ref (ad 8), .int (zI mn), .ref (ad 10), .ref (ad 11), .int (zI mp), .int (zI mon), .int (zI mrx), .int (zI mry), .int (zI mrl), .int (zI mrs), .int (zI mrf), .ref (ad 19), .int (zI (mx + d)), .int (zI y3), .int (zI l3), .int (zI mst), .ref (ad 24), .ref (ad 25), .ref (ad 26), .int (zI mla)])), zA cI (ad 0) 6 mW, zA cI (ad 1) 6 mH] H1 := hP1
          obtain ⟨hP, hD⟩ := va_join (wr := [zA cI (ad 2) 576 mC, zA cI (ad 5) 6 mFX, zA cI (ad 6) 6 mFY]) (w1 := [(mo, .inr (6, [.ref (ad 0), .ref (ad 1), .ref (ad 2), .ref (ad 3), .ref (ad 4), .ref (ad 5), .ref (ad 6), .ref (ad 7), .ref (ad 8), .int (zI mn), .ref (ad 10), .ref (ad 11), .int (zI mp), .int (zI mon), .int (zI mrx), .int (zI mry), .int (zI mrl), .int (zI mrs), .int (zI mrf), .ref (ad 19), .int (zI (mx + d)), .int (zI y3), .int (zI l3), .int (zI mst), .ref (ad 24), .ref (ad 25), .ref (ad 26), .int (zI mla)])), zA cI (ad 0) 6 mW, zA cI (ad 1) 6 mH]) hP hD [0, 1, 2] [3, 4, 5] rfl rfl (by decide) (by decide) hk1 hFc hP1 hD1
          clear hP1 hD1 hk1 hFc hPc hDc hz1
          generalize H1 = H at hP hS ⊢
          have hP : va_P (dC, dI) vwCl [(mo, .inr (6, [.ref (ad 0), .ref (ad 1), .ref (ad 2), .ref (ad 3), .ref (ad 4), .ref (ad 5), .ref (ad 6), .ref (ad 7), .ref (ad 8), .int (zI mn), .ref (ad 10), .ref (ad 11), .int (zI mp), .int (zI mon), .int (zI mrx), .int (zI mry), .int (zI mrl), .int (zI mrs), .int (zI mrf), .ref (ad 19), .int (zI (mx + d)), .int (zI y3), .int (zI l3), .int (zI mst), .ref (ad 24), .ref (ad 25), .ref (ad 26), .int (zI mla)])), zA cI (ad 0) 6 mW, zA cI (ad 1) 6 mH, zA cI (ad 2) 576 mC, zA cI (ad 5) 6 mFX, zA cI (ad 6) 6 mFY] H := hP.sub [3, 4, 5, 0, 1, 2] rfl
          have hD : va_D A [(mo, .inr (6, [.ref (ad 0), .ref (ad 1), .ref (ad 2), .ref (ad 3), .ref (ad 4), .ref (ad 5), .ref (ad 6), .ref (ad 7), .ref (ad 8), .int (zI mn), .ref (ad 10), .ref (ad 11), .int (zI mp), .int (zI mon), .int (zI mrx), .int (zI mry), .int (zI mrl), .int (zI mrs), .int (zI mrf), .ref (ad 19), .int (zI (mx + d)), .int (zI y3), .int (zI l3), .int (zI mst), .ref (ad 24), .ref (ad 25), .ref (ad 26), .int (zI mla)])), zA cI (ad 0) 6 mW, zA cI (ad 1) 6 mH, zA cI (ad 2) 576 mC, zA cI (ad 5) 6 mFX, zA cI (ad 6) 6 mFY] := hD.sub [3, 4, 5, 0, 1, 2] (by decide) rfl
          clear hK1 hvm
          obtain ⟨rfl, po_3⟩ := hw
          have po_3 : (r_2 = 1 ∧ (0 ≤ L ∧ L < mn ∧ 0 ≤ (mx + d) ∧ (mx + d) < mW L ∧ 0 ≤ y3 ∧ y3 < mH L)) ∨ (r_2 = 0 ∧ ¬ (0 ≤ L ∧ L < mn ∧ 0 ≤ (mx + d) ∧ (mx + d) < mW L ∧ 0 ≤ y3 ∧ y3 < mH L)) := po_3
          refine W.eq (g2 := F0 m 200 ls [.int (zI r_2)]) rfl ?_
          refine lz_if_eq (tgt := 224) hx hb dX6_frame_200 (by decide) (by omega) (fun c_4 => ?_) (fun c_4 => ?_)
          ·
            refine lv_aload_n hx hb dX6_frame_224 rfl (lv_at hl 0 rfl) ?_
            refine lv_iconst (v := zI 1) hx hb dX6_frame_225 (rfl) ?_
            refine va_put (D := (dC, dI)) (ci := 6) (v := .int (zI 1)) (ty := .int) (C := RX6) (T := TX6) (N := 28) hx hb hts i_6 tyX6 tyX6_ok nmX6 hown hK hP hD hS 0 rfl rfl 23 (by decide) f_90 (fun _ h9 => h9) rfl (by decide +kernel) rfl rfl (Nat.le_of_ble_eq_true rfl) dX6_frame_226 (fun H locs hP hD hS => ?_)
            have hP : va_P (dC, dI) vwCl [(mo, .inr (6, [.ref (ad 0), .ref (ad 1), .ref (ad 2), .ref (ad 3), .ref (ad 4), .ref (ad 5), .ref (ad 6), .ref (ad 7), .ref (ad 8), .int (zI mn), .ref (ad 10), .ref (ad 11), .int (zI mp), .int (zI mon), .int (zI mrx), .int (zI mry), .int (zI mrl), .int (zI mrs), .int (zI mrf), .ref (ad 19), .int (zI (mx + d)), .int (zI y3), .int (zI l3), .int (zI 1), .ref (ad 24), .ref (ad 25), .ref (ad 26), .int (zI mla)])), zA cI (ad 0) 6 mW, zA cI (ad 1) 6 mH, zA cI (ad 2) 576 mC, zA cI (ad 5) 6 mFX, zA cI (ad 6) 6 mFY] H := hP
            have hD : va_D A [(mo, .inr (6, [.ref (ad 0), .ref (ad 1), .ref (ad 2), .ref (ad 3), .ref (ad 4), .ref (ad 5), .ref (ad 6), .ref (ad 7), .ref (ad 8), .int (zI mn), .ref (ad 10), .ref (ad 11), .int (zI mp), .int (zI mon), .int (zI mrx), .int (zI mry), .int (zI mrl), .int (zI mrs), .int (zI mrf), .ref (ad 19), .int (zI (mx + d)), .int (zI y3), .int (zI l3), .int (zI 1), .ref (ad 24), .ref (ad 25), .ref (ad 26), .int (zI mla)])), zA cI (ad 0) 6 mW, zA cI (ad 1) 6 mH, zA cI (ad 2) 576 mC, zA cI (ad 5) 6 mFX, zA cI (ad 6) 6 mFY] := hD
            have hP9 := hP.sub (ws' := [(mo, .inr (6, [.ref (ad 0), .ref (ad 1), .ref (ad 2), .ref (ad 3), .ref (ad 4), .ref (ad 5), .ref (ad 6), .ref (ad 7), .ref (ad 8), .int (zI mn), .ref (ad 10), .ref (ad 11), .int (zI mp), .int (zI mon), .int (zI mrx), .int (zI mry), .int (zI mrl), .int (zI mrs), .int (zI mrf), .ref (ad 19), .int (zI (mx + d)), .int (zI y3), .int (zI l3), .int (zI 1), .ref (ad 24), .ref (ad 25), .ref (ad 26), .int (zI mla)])), zA cI (ad 0) 6 mW, zA cI (ad 1) 6 mH, zA cI (ad 2) 576 mC, zA cI (ad 5) 6 mFX, zA cI (ad 6) 6 mFY]) [0, 1, 2, 3, 4, 5] rfl
            have hD9 := hD.sub (ws' := [(mo, .inr (6, [.ref (ad 0), .ref (ad 1), .ref (ad 2), .ref (ad 3), .ref (ad 4), .ref (ad 5), .ref (ad 6), .ref (ad 7), .ref (ad 8), .int (zI mn), .ref (ad 10), .ref (ad 11), .int (zI mp), .int (zI mon), .int (zI mrx), .int (zI mry), .int (zI mrl), .int (zI mrs), .int (zI mrf), .ref (ad 19), .int (zI (mx + d)), .int (zI y3), .int (zI l3), .int (zI 1), .ref (ad 24), .ref (ad 25), .ref (ad 26), .int (zI mla)])), zA cI (ad 0) 6 mW, zA cI (ad 1) 6 mH, zA cI (ad 2) 576 mC, zA cI (ad 5) 6 mFX, zA cI (ad 6) 6 mFY]) [0, 1, 2, 3, 4, 5] (by decide) rfl
            have po : ((mx + d) = mvX (Kof mC L) (mW L) (mH L) mx my i ∧ y3 = mvY (Kof mC L) (mW L) (mH L) mx my ml i ∧ l3 = mvL (Kof mC L) (mW L) (mH L) mx my ml i ∧ (1 : Int) = mvO (Kof mC L) (mW L) (mH L) (mFX L) (mFY L) mx my ml i) := by
              have m2 : y3 = mvY (Kof mC L) (mW L) (mH L) mx my ml i := by rw [mvY, ← m1, ← hn]; exact hy3
              have m0 : upL (Kof mC L) (mW L) (mH L) (mvX (Kof mC L) (mW L) (mH L) mx my i) my (juL (Kof mC L) (mW L) (mH L) mx my ml i) = l3 := by rw [← m1, ← hn]; exact hl3.symm
              have e8 : kd (Kof mC L) (mW L) (mH L) (mx + d) y3 = -1 ∨ kd (Kof mC L) (mW L) (mH L) (mx + d) y3 = 2 := by
                first | exact Or.inl (kd_no (by omega)) | (have e7 := kd_M (C := mC) (L := L) (w := mW L) (h := mH L) (c := mx + d) (r := y3) (by omega) (by omega); omega)
              refine ⟨m1, m2, ?_, ?_⟩
              · rw [mvL, m0, ← m1, ← m2, lkL, if_pos e8]
              · rw [mvO, ← m1, ← m2, lkO, if_pos e8]
            exact W.vret hx hb hr (fun t ht hW => ⟨⟨(mx + d, y3, l3, 1), rfl, po, by rw [ht]; exact hP9, va_K.moved hW.alike hK, hD9⟩, hS.F ht⟩) hS.2.2 dX6_frame_229
          ·
            refine lv_aload_n hx hb dX6_frame_203 rfl (lv_at hl 0 rfl) ?_
            refine va_get (D := (dC, dI)) (ci := 6) (v := .ref (ad 2)) (C := RX6) (T := TX6) (N := 28) hx hb hts i_6 hown hK hP 0 rfl rfl 2 (by decide) f_16 (fun _ h9 => h9) rfl dX6_frame_204 ?_
            refine lv_iload_n hx hb dX6_frame_207 rfl (lv_at hl 1 rfl) ?_
            refine lv_aload_n hx hb dX6_frame_208 rfl (lv_at hl 0 rfl) ?_
            refine va_get (D := (dC, dI)) (ci := 6) (v := .int (zI (mx + d))) (C := RX6) (T := TX6) (N := 28) hx hb hts i_6 hown hK hP 0 rfl rfl 20 (by decide) f_81 (fun _ h9 => h9) rfl dX6_frame_209 ?_
            refine lv_aload_n hx hb dX6_frame_212 rfl (lv_at hl 0 rfl) ?_
            refine va_get (D := (dC, dI)) (ci := 6) (v := .int (zI y3)) (C := RX6) (T := TX6) (N := 28) hx hb hts i_6 hown hK hP 0 rfl rfl 21 (by decide) f_84 (fun _ h9 => h9) rfl dX6_frame_213 ?_
            have hPc := hP.sub (ws' := []) [] rfl
            have hDc := hD.sub (ws' := []) [] (by decide) rfl
            have hFc := va_free (wc := []) hD hS hA [] rfl
            refine va_calli (va_runS (As := [.int (zI L), .int (zI (mx + d)), .int (zI y3)]) (rest := [.ref (ad 2)]) ⟨hx, hb, hml, hown, hts⟩ (c_X6_at l dC dI cI cZ cL cT cJ H.size L (mx + d) y3 ) (cwS 3 hts gX6_frame_X6_at rfl rfl rfl (by decide +kernel) ⟨Nat.le_of_ble_eq_true rfl, Nat.le_of_ble_eq_true rfl⟩) ⟨zP_blind, zP_pre hPc hDc hK⟩ rfl rfl hl.1 rfl (lv_room (Nat.le_of_ble_eq_true rfl)) dX6_frame_216 ⟨Nat.le_of_ble_eq_true rfl, Nat.le_of_ble_eq_true rfl⟩) hS (fun q _ h => hFc q h) hFc (fun r_5 u_5 t H1 locs ht hvm hw hB hz1 hk1 hS => ?_)
            obtain ⟨hP1, hK1, hD1⟩ := hB
            rw [ht] at hP1
            have hP1 : va_P (dC, dI) vwCl [] H1 := hP1
            obtain ⟨hP, hD⟩ := va_join (wr := [(mo, .inr (6, [.ref (ad 0), .ref (ad 1), .ref (ad 2), .ref (ad 3), .ref (ad 4), .ref (ad 5), .ref (ad 6), .ref (ad 7), .ref (ad 8), .int (zI mn), .ref (ad 10), .ref (ad 11), .int (zI mp), .int (zI mon), .int (zI mrx), .int (zI mry), .int (zI mrl), .int (zI mrs), .int (zI mrf), .ref (ad 19), .int (zI (mx + d)), .int (zI y3), .int (zI l3), .int (zI mst), .ref (ad 24), .ref (ad 25), .ref (ad 26), .int (zI mla)])), zA cI (ad 0) 6 mW, zA cI (ad 1) 6 mH, zA cI (ad 2) 576 mC, zA cI (ad 5) 6 mFX, zA cI (ad 6) 6 mFY]) (w1 := []) hP hD [] [0, 1, 2, 3, 4, 5] rfl rfl (by decide) (by decide) hk1 hFc hP1 hD1
            clear hP1 hD1 hk1 hFc hPc hDc hz1
            generalize H1 = H at hP hS ⊢
            have hP : va_P (dC, dI) vwCl [(mo, .inr (6, [.ref (ad 0), .ref (ad 1), .ref (ad 2), .ref (ad 3), .ref (ad 4), .ref (ad 5), .ref (ad 6), .ref (ad 7), .ref (ad 8), .int (zI mn), .ref (ad 10), .ref (ad 11), .int (zI mp), .int (zI mon), .int (zI mrx), .int (zI mry), .int (zI mrl), .int (zI mrs), .int (zI mrf), .ref (ad 19), .int (zI (mx + d)), .int (zI y3), .int (zI l3), .int (zI mst), .ref (ad 24), .ref (ad 25), .ref (ad 26), .int (zI mla)])), zA cI (ad 0) 6 mW, zA cI (ad 1) 6 mH, zA cI (ad 2) 576 mC, zA cI (ad 5) 6 mFX, zA cI (ad 6) 6 mFY] H := hP.sub [0, 1, 2, 3, 4, 5] rfl
            have hD : va_D A [(mo, .inr (6, [.ref (ad 0), .ref (ad 1), .ref (ad 2), .ref (ad 3), .ref (ad 4), .ref (ad 5), .ref (ad 6), .ref (ad 7), .ref (ad 8), .int (zI mn), .ref (ad 10), .ref (ad 11), .int (zI mp), .int (zI mon), .int (zI mrx), .int (zI mry), .int (zI mrl), .int (zI mrs), .int (zI mrf), .ref (ad 19), .int (zI (mx + d)), .int (zI y3), .int (zI l3), .int (zI mst), .ref (ad 24), .ref (ad 25), .ref (ad 26), .int (zI mla)])), zA cI (ad 0) 6 mW, zA cI (ad 1) 6 mH, zA cI (ad 2) 576 mC, zA cI (ad 5) 6 mFX, zA cI (ad 6) 6 mFY] := hD.sub [0, 1, 2, 3, 4, 5] (by decide) rfl
            clear hK1 hvm
            obtain ⟨rfl, po_6⟩ := hw
            refine W.eq (g2 := F0 m 219 ls [.int (zI (96 * L + 12 * y3 + (mx + d))), .ref (ad 2)]) rfl ?_
            refine lz_iald (F := mC) (i := 96 * L + 12 * y3 + (mx + d)) hx hb hK hP 3 0 rfl rfl (by omega) (by omega) (by decide) dX6_frame_219 ?_
            have ec := gC ((96 * L + 12 * y3 + (mx + d)))
            refine lv_iconst (v := zI 2) hx hb dX6_frame_220 (rfl) ?_
            refine lz_icmp_ne (tgt := 230) hx hb dX6_frame_221 (by decide) (by omega) ⟨by decide, by decide⟩ (fun c_7 => ?_) (fun c_7 => ?_)
            ·
              refine z_cut (I := fun (x9 : Int) (H9 : Heap) (k9 : List Loc) (ls9 : Array Slot) => match x9 with | l4 => (l4 = lkL (Kof mC L) (mW L) (mH L) (mx + d) y3 l3) ∧ va_P (dC, dI) vwCl [(mo, .inr (6, [.ref (ad 0), .ref (ad 1), .ref (ad 2), .ref (ad 3), .ref (ad 4), .ref (ad 5), .ref (ad 6), .ref (ad 7), .ref (ad 8), .int (zI mn), .ref (ad 10), .ref (ad 11), .int (zI mp), .int (zI mon), .int (zI mrx), .int (zI mry), .int (zI mrl), .int (zI mrs), .int (zI mrf), .ref (ad 19), .int (zI (mx + d)), .int (zI y3), .int (zI l3), .int (zI mst), .ref (ad 24), .ref (ad 25), .ref (ad 26), .int (zI mla)])), zA cI (ad 0) 6 mW, zA cI (ad 1) 6 mH, zA cI (ad 2) 576 mC, zA cI (ad 5) 6 mFX, zA cI (ad 6) 6 mFY] H9 ∧ va_D A [(mo, .inr (6, [.ref (ad 0), .ref (ad 1), .ref (ad 2), .ref (ad 3), .ref (ad 4), .ref (ad 5), .ref (ad 6), .ref (ad 7), .ref (ad 8), .int (zI mn), .ref (ad 10), .ref (ad 11), .int (zI mp), .int (zI mon), .int (zI mrx), .int (zI mry), .int (zI mrl), .int (zI mrs), .int (zI mrf), .ref (ad 19), .int (zI (mx + d)), .int (zI y3), .int (zI l3), .int (zI mst), .ref (ad 24), .ref (ad 25), .ref (ad 26), .int (zI mla)])), zA cI (ad 0) 6 mW, zA cI (ad 1) 6 mH, zA cI (ad 2) 576 mC, zA cI (ad 5) 6 mFX, zA cI (ad 6) 6 mFY] ∧ va_S A s.heap H9 k9 ∧ lv_has ls9 5 [(0, .ref mo), (1, .int (zI L)), (2, .int (zI i)), (3, .int (zI by9))]) (fr := fun (x9 : Int) (ls9 : Array Slot) => match x9 with | l4 => F0 m 260 ls9 [.int (zI l4), .ref mo]) ?_ ?_
              · rintro l4 H locs ls ⟨hl4, hP, hD, hS, hl⟩
                refine W.eq (g2 := F0 m 260 ls [.int (zI l4), .ref mo]) rfl ?_
                refine va_put (D := (dC, dI)) (ci := 6) (v := .int (zI l4)) (ty := .int) (C := RX6) (T := TX6) (N := 28) hx hb hts i_6 tyX6 tyX6_ok nmX6 hown hK hP hD hS 0 rfl rfl 22 (by decide) f_87 (fun _ h9 => h9) rfl (by decide +kernel) rfl rfl (Nat.le_of_ble_eq_true rfl) dX6_frame_260 (fun H locs hP hD hS => ?_)
                have hP : va_P (dC, dI) vwCl [(mo, .inr (6, [.ref (ad 0), .ref (ad 1), .ref (ad 2), .ref (ad 3), .ref (ad 4), .ref (ad 5), .ref (ad 6), .ref (ad 7), .ref (ad 8), .int (zI mn), .ref (ad 10), .ref (ad 11), .int (zI mp), .int (zI mon), .int (zI mrx), .int (zI mry), .int (zI mrl), .int (zI mrs), .int (zI mrf), .ref (ad 19), .int (zI (mx + d)), .int (zI y3), .int (zI l4), .int (zI mst), .ref (ad 24), .ref (ad 25), .ref (ad 26), .int (zI mla)])), zA cI (ad 0) 6 mW, zA cI (ad 1) 6 mH, zA cI (ad 2) 576 mC, zA cI (ad 5) 6 mFX, zA cI (ad 6) 6 mFY] H := hP
                have hD : va_D A [(mo, .inr (6, [.ref (ad 0), .ref (ad 1), .ref (ad 2), .ref (ad 3), .ref (ad 4), .ref (ad 5), .ref (ad 6), .ref (ad 7), .ref (ad 8), .int (zI mn), .ref (ad 10), .ref (ad 11), .int (zI mp), .int (zI mon), .int (zI mrx), .int (zI mry), .int (zI mrl), .int (zI mrs), .int (zI mrf), .ref (ad 19), .int (zI (mx + d)), .int (zI y3), .int (zI l4), .int (zI mst), .ref (ad 24), .ref (ad 25), .ref (ad 26), .int (zI mla)])), zA cI (ad 0) 6 mW, zA cI (ad 1) 6 mH, zA cI (ad 2) 576 mC, zA cI (ad 5) 6 mFX, zA cI (ad 6) 6 mFY] := hD
                refine lv_aload_n hx hb dX6_frame_263 rfl (lv_at hl 0 rfl) ?_
                refine lv_aload_n hx hb dX6_frame_264 rfl (lv_at hl 0 rfl) ?_
                refine va_get (D := (dC, dI)) (ci := 6) (v := .int (zI (mx + d))) (C := RX6) (T := TX6) (N := 28) hx hb hts i_6 hown hK hP 0 rfl rfl 20 (by decide) f_81 (fun _ h9 => h9) rfl dX6_frame_265 ?_
                refine lv_aload_n hx hb dX6_frame_268 rfl (lv_at hl 0 rfl) ?_
                refine va_get (D := (dC, dI)) (ci := 6) (v := .ref (ad 5)) (C := RX6) (T := TX6) (N := 28) hx hb hts i_6 hown hK hP 0 rfl rfl 5 (by decide) f_25 (fun _ h9 => h9) rfl dX6_frame_269 ?_
                refine lv_iload_n hx hb dX6_frame_272 rfl (lv_at hl 1 rfl) ?_
                refine lz_iald (F := mFX) (i := L) hx hb hK hP 4 0 rfl rfl (by omega) (by omega) (by decide) dX6_frame_273 ?_
                refine lz_icmp_ne (tgt := 294) hx hb dX6_frame_274 (by decide) (by omega) (by omega) (fun c_8 => ?_) (fun c_8 => ?_)
                ·
                  refine lv_iconst (v := zI 0) hx hb dX6_frame_294 (rfl) ?_
                  refine va_put (D := (dC, dI)) (ci := 6) (v := .int (zI 0)) (ty := .int) (C := RX6) (T := TX6) (N := 28) hx hb hts i_6 tyX6 tyX6_ok nmX6 hown hK hP hD hS 0 rfl rfl 23 (by decide) f_90 (fun _ h9 => h9) rfl (by decide +kernel) rfl rfl (Nat.le_of_ble_eq_true rfl) dX6_frame_295 (fun H locs hP hD hS => ?_)
                  have hP : va_P (dC, dI) vwCl [(mo, .inr (6, [.ref (ad 0), .ref (ad 1), .ref (ad 2), .ref (ad 3), .ref (ad 4), .ref (ad 5), .ref (ad 6), .ref (ad 7), .ref (ad 8), .int (zI mn), .ref (ad 10), .ref (ad 11), .int (zI mp), .int (zI mon), .int (zI mrx), .int (zI mry), .int (zI mrl), .int (zI mrs), .int (zI mrf), .ref (ad 19), .int (zI (mx + d)), .int (zI y3), .int (zI l4), .int (zI 0), .ref (ad 24), .ref (ad 25), .ref (ad 26), .int (zI mla)])), zA cI (ad 0) 6 mW, zA cI (ad 1) 6 mH, zA cI (ad 2) 576 mC, zA cI (ad 5) 6 mFX, zA cI (ad 6) 6 mFY] H := hP
                  have hD : va_D A [(mo, .inr (6, [.ref (ad 0), .ref (ad 1), .ref (ad 2), .ref (ad 3), .ref (ad 4), .ref (ad 5), .ref (ad 6), .ref (ad 7), .ref (ad 8), .int (zI mn), .ref (ad 10), .ref (ad 11), .int (zI mp), .int (zI mon), .int (zI mrx), .int (zI mry), .int (zI mrl), .int (zI mrs), .int (zI mrf), .ref (ad 19), .int (zI (mx + d)), .int (zI y3), .int (zI l4), .int (zI 0), .ref (ad 24), .ref (ad 25), .ref (ad 26), .int (zI mla)])), zA cI (ad 0) 6 mW, zA cI (ad 1) 6 mH, zA cI (ad 2) 576 mC, zA cI (ad 5) 6 mFX, zA cI (ad 6) 6 mFY] := hD
                  have hP9 := hP.sub (ws' := [(mo, .inr (6, [.ref (ad 0), .ref (ad 1), .ref (ad 2), .ref (ad 3), .ref (ad 4), .ref (ad 5), .ref (ad 6), .ref (ad 7), .ref (ad 8), .int (zI mn), .ref (ad 10), .ref (ad 11), .int (zI mp), .int (zI mon), .int (zI mrx), .int (zI mry), .int (zI mrl), .int (zI mrs), .int (zI mrf), .ref (ad 19), .int (zI (mx + d)), .int (zI y3), .int (zI l4), .int (zI 0), .ref (ad 24), .ref (ad 25), .ref (ad 26), .int (zI mla)])), zA cI (ad 0) 6 mW, zA cI (ad 1) 6 mH, zA cI (ad 2) 576 mC, zA cI (ad 5) 6 mFX, zA cI (ad 6) 6 mFY]) [0, 1, 2, 3, 4, 5] rfl
                  have hD9 := hD.sub (ws' := [(mo, .inr (6, [.ref (ad 0), .ref (ad 1), .ref (ad 2), .ref (ad 3), .ref (ad 4), .ref (ad 5), .ref (ad 6), .ref (ad 7), .ref (ad 8), .int (zI mn), .ref (ad 10), .ref (ad 11), .int (zI mp), .int (zI mon), .int (zI mrx), .int (zI mry), .int (zI mrl), .int (zI mrs), .int (zI mrf), .ref (ad 19), .int (zI (mx + d)), .int (zI y3), .int (zI l4), .int (zI 0), .ref (ad 24), .ref (ad 25), .ref (ad 26), .int (zI mla)])), zA cI (ad 0) 6 mW, zA cI (ad 1) 6 mH, zA cI (ad 2) 576 mC, zA cI (ad 5) 6 mFX, zA cI (ad 6) 6 mFY]) [0, 1, 2, 3, 4, 5] (by decide) rfl
                  have po : ((mx + d) = mvX (Kof mC L) (mW L) (mH L) mx my i ∧ y3 = mvY (Kof mC L) (mW L) (mH L) mx my ml i ∧ l4 = mvL (Kof mC L) (mW L) (mH L) mx my ml i ∧ (0 : Int) = mvO (Kof mC L) (mW L) (mH L) (mFX L) (mFY L) mx my ml i) := by
                    have m2 : y3 = mvY (Kof mC L) (mW L) (mH L) mx my ml i := by rw [mvY, ← m1, ← hn]; exact hy3
                    have m0 : upL (Kof mC L) (mW L) (mH L) (mvX (Kof mC L) (mW L) (mH L) mx my i) my (juL (Kof mC L) (mW L) (mH L) mx my ml i) = l3 := by rw [← m1, ← hn]; exact hl3.symm
                    have e7 := kd_M (C := mC) (L := L) (w := mW L) (h := mH L) (c := mx + d) (r := y3) (by omega) (by omega)
                    refine ⟨m1, m2, ?_, ?_⟩
                    · rw [mvL, m0, ← m1, ← m2]; exact hl4
                    · rw [mvO, ← m1, ← m2, lkO, if_neg (by omega)]
                      first | rw [if_pos (by omega)] | rw [if_neg (by omega)]
                  exact W.vret hx hb hr (fun t ht hW => ⟨⟨(mx + d, y3, l4, 0), rfl, po, by rw [ht]; exact hP9, va_K.moved hW.alike hK, hD9⟩, hS.F ht⟩) hS.2.2 dX6_frame_298
                ·
                  refine lv_aload_n hx hb dX6_frame_277 rfl (lv_at hl 0 rfl) ?_
                  refine va_get (D := (dC, dI)) (ci := 6) (v := .int (zI y3)) (C := RX6) (T := TX6) (N := 28) hx hb hts i_6 hown hK hP 0 rfl rfl 21 (by decide) f_84 (fun _ h9 => h9) rfl dX6_frame_278 ?_
                  refine lv_aload_n hx hb dX6_frame_281 rfl (lv_at hl 0 rfl) ?_
                  refine va_get (D := (dC, dI)) (ci := 6) (v := .ref (ad 6)) (C := RX6) (T := TX6) (N := 28) hx hb hts i_6 hown hK hP 0 rfl rfl 6 (by decide) f_28 (fun _ h9 => h9) rfl dX6_frame_282 ?_
                  refine lv_iload_n hx hb dX6_frame_285 rfl (lv_at hl 1 rfl) ?_
                  refine lz_iald (F := mFY) (i := L) hx hb hK hP 5 0 rfl rfl (by omega) (by omega) (by decide) dX6_frame_286 ?_
                  refine lz_icmp_ne (tgt := 294) hx hb dX6_frame_287 (by decide) (by omega) (by omega) (fun c_9 => ?_) (fun c_9 => ?_)
                  ·
                    refine lv_iconst (v := zI 0) hx hb dX6_frame_294 (rfl) ?_
                    refine va_put (D := (dC, dI)) (ci := 6) (v := .int (zI 0)) (ty := .int) (C := RX6) (T := TX6) (N := 28) hx hb hts i_6 tyX6 tyX6_ok nmX6 hown hK hP hD hS 0 rfl rfl 23 (by decide) f_90 (fun _ h9 => h9) rfl (by decide +kernel) rfl rfl (Nat.le_of_ble_eq_true rfl) dX6_frame_295 (fun H locs hP hD hS => ?_)
                    have hP : va_P (dC, dI) vwCl [(mo, .inr (6, [.ref (ad 0), .ref (ad 1), .ref (ad 2), .ref (ad 3), .ref (ad 4), .ref (ad 5), .ref (ad 6), .ref (ad 7), .ref (ad 8), .int (zI mn), .ref (ad 10), .ref (ad 11), .int (zI mp), .int (zI mon), .int (zI mrx), .int (zI mry), .int (zI mrl), .int (zI mrs), .int (zI mrf), .ref (ad 19), .int (zI (mx + d)), .int (zI y3), .int (zI l4), .int (zI 0), .ref (ad 24), .ref (ad 25), .ref (ad 26), .int (zI mla)])), zA cI (ad 0) 6 mW, zA cI (ad 1) 6 mH, zA cI (ad 2) 576 mC, zA cI (ad 5) 6 mFX, zA cI (ad 6) 6 mFY] H := hP
                    have hD : va_D A [(mo, .inr (6, [.ref (ad 0), .ref (ad 1), .ref (ad 2), .ref (ad 3), .ref (ad 4), .ref (ad 5), .ref (ad 6), .ref (ad 7), .ref (ad 8), .int (zI mn), .ref (ad 10), .ref (ad 11), .int (zI mp), .int (zI mon), .int (zI mrx), .int (zI mry), .int (zI mrl), .int (zI mrs), .int (zI mrf), .ref (ad 19), .int (zI (mx + d)), .int (zI y3), .int (zI l4), .int (zI 0), .ref (ad 24), .ref (ad 25), .ref (ad 26), .int (zI mla)])), zA cI (ad 0) 6 mW, zA cI (ad 1) 6 mH, zA cI (ad 2) 576 mC, zA cI (ad 5) 6 mFX, zA cI (ad 6) 6 mFY] := hD
                    have hP9 := hP.sub (ws' := [(mo, .inr (6, [.ref (ad 0), .ref (ad 1), .ref (ad 2), .ref (ad 3), .ref (ad 4), .ref (ad 5), .ref (ad 6), .ref (ad 7), .ref (ad 8), .int (zI mn), .ref (ad 10), .ref (ad 11), .int (zI mp), .int (zI mon), .int (zI mrx), .int (zI mry), .int (zI mrl), .int (zI mrs), .int (zI mrf), .ref (ad 19), .int (zI (mx + d)), .int (zI y3), .int (zI l4), .int (zI 0), .ref (ad 24), .ref (ad 25), .ref (ad 26), .int (zI mla)])), zA cI (ad 0) 6 mW, zA cI (ad 1) 6 mH, zA cI (ad 2) 576 mC, zA cI (ad 5) 6 mFX, zA cI (ad 6) 6 mFY]) [0, 1, 2, 3, 4, 5] rfl
                    have hD9 := hD.sub (ws' := [(mo, .inr (6, [.ref (ad 0), .ref (ad 1), .ref (ad 2), .ref (ad 3), .ref (ad 4), .ref (ad 5), .ref (ad 6), .ref (ad 7), .ref (ad 8), .int (zI mn), .ref (ad 10), .ref (ad 11), .int (zI mp), .int (zI mon), .int (zI mrx), .int (zI mry), .int (zI mrl), .int (zI mrs), .int (zI mrf), .ref (ad 19), .int (zI (mx + d)), .int (zI y3), .int (zI l4), .int (zI 0), .ref (ad 24), .ref (ad 25), .ref (ad 26), .int (zI mla)])), zA cI (ad 0) 6 mW, zA cI (ad 1) 6 mH, zA cI (ad 2) 576 mC, zA cI (ad 5) 6 mFX, zA cI (ad 6) 6 mFY]) [0, 1, 2, 3, 4, 5] (by decide) rfl
                    have po : ((mx + d) = mvX (Kof mC L) (mW L) (mH L) mx my i ∧ y3 = mvY (Kof mC L) (mW L) (mH L) mx my ml i ∧ l4 = mvL (Kof mC L) (mW L) (mH L) mx my ml i ∧ (0 : Int) = mvO (Kof mC L) (mW L) (mH L) (mFX L) (mFY L) mx my ml i) := by
                      have m2 : y3 = mvY (Kof mC L) (mW L) (mH L) mx my ml i := by rw [mvY, ← m1, ← hn]; exact hy3
                      have m0 : upL (Kof mC L) (mW L) (mH L) (mvX (Kof mC L) (mW L) (mH L) mx my i) my (juL (Kof mC L) (mW L) (mH L) mx my ml i) = l3 := by rw [← m1, ← hn]; exact hl3.symm
                      have e7 := kd_M (C := mC) (L := L) (w := mW L) (h := mH L) (c := mx + d) (r := y3) (by omega) (by omega)
                      refine ⟨m1, m2, ?_, ?_⟩
                      · rw [mvL, m0, ← m1, ← m2]; exact hl4
                      · rw [mvO, ← m1, ← m2, lkO, if_neg (by omega)]
                        first | rw [if_pos (by omega)] | rw [if_neg (by omega)]
                    exact W.vret hx hb hr (fun t ht hW => ⟨⟨(mx + d, y3, l4, 0), rfl, po, by rw [ht]; exact hP9, va_K.moved hW.alike hK, hD9⟩, hS.F ht⟩) hS.2.2 dX6_frame_298
                  ·
                    refine lv_iconst (v := zI 2) hx hb dX6_frame_290 (rfl) ?_
                    refine lv_goto (tgt := 295) hx hb dX6_frame_291 (by decide) ?_
                    refine va_put (D := (dC, dI)) (ci := 6) (v := .int (zI 2)) (ty := .int) (C := RX6) (T := TX6) (N := 28) hx hb hts i_6 tyX6 tyX6_ok nmX6 hown hK hP hD hS 0 rfl rfl 23 (by decide) f_90 (fun _ h9 => h9) rfl (by decide +kernel) rfl rfl (Nat.le_of_ble_eq_true rfl) dX6_frame_295 (fun H locs hP hD hS => ?_)
                    have hP : va_P (dC, dI) vwCl [(mo, .inr (6, [.ref (ad 0), .ref (ad 1), .ref (ad 2), .ref (ad 3), .ref (ad 4), .ref (ad 5), .ref (ad 6), .ref (ad 7), .ref (ad 8), .int (zI mn), .ref (ad 10), .ref (ad 11), .int (zI mp), .int (zI mon), .int (zI mrx), .int (zI mry), .int (zI mrl), .int (zI mrs), .int (zI mrf), .ref (ad 19), .int (zI (mx + d)), .int (zI y3), .int (zI l4), .int (zI 2), .ref (ad 24), .ref (ad 25), .ref (ad 26), .int (zI mla)])), zA cI (ad 0) 6 mW, zA cI (ad 1) 6 mH, zA cI (ad 2) 576 mC, zA cI (ad 5) 6 mFX, zA cI (ad 6) 6 mFY] H := hP
                    have hD : va_D A [(mo, .inr (6, [.ref (ad 0), .ref (ad 1), .ref (ad 2), .ref (ad 3), .ref (ad 4), .ref (ad 5), .ref (ad 6), .ref (ad 7), .ref (ad 8), .int (zI mn), .ref (ad 10), .ref (ad 11), .int (zI mp), .int (zI mon), .int (zI mrx), .int (zI mry), .int (zI mrl), .int (zI mrs), .int (zI mrf), .ref (ad 19), .int (zI (mx + d)), .int (zI y3), .int (zI l4), .int (zI 2), .ref (ad 24), .ref (ad 25), .ref (ad 26), .int (zI mla)])), zA cI (ad 0) 6 mW, zA cI (ad 1) 6 mH, zA cI (ad 2) 576 mC, zA cI (ad 5) 6 mFX, zA cI (ad 6) 6 mFY] := hD
                    have hP9 := hP.sub (ws' := [(mo, .inr (6, [.ref (ad 0), .ref (ad 1), .ref (ad 2), .ref (ad 3), .ref (ad 4), .ref (ad 5), .ref (ad 6), .ref (ad 7), .ref (ad 8), .int (zI mn), .ref (ad 10), .ref (ad 11), .int (zI mp), .int (zI mon), .int (zI mrx), .int (zI mry), .int (zI mrl), .int (zI mrs), .int (zI mrf), .ref (ad 19), .int (zI (mx + d)), .int (zI y3), .int (zI l4), .int (zI 2), .ref (ad 24), .ref (ad 25), .ref (ad 26), .int (zI mla)])), zA cI (ad 0) 6 mW, zA cI (ad 1) 6 mH, zA cI (ad 2) 576 mC, zA cI (ad 5) 6 mFX, zA cI (ad 6) 6 mFY]) [0, 1, 2, 3, 4, 5] rfl
                    have hD9 := hD.sub (ws' := [(mo, .inr (6, [.ref (ad 0), .ref (ad 1), .ref (ad 2), .ref (ad 3), .ref (ad 4), .ref (ad 5), .ref (ad 6), .ref (ad 7), .ref (ad 8), .int (zI mn), .ref (ad 10), .ref (ad 11), .int (zI mp), .int (zI mon), .int (zI mrx), .int (zI mry), .int (zI mrl), .int (zI mrs), .int (zI mrf), .ref (ad 19), .int (zI (mx + d)), .int (zI y3), .int (zI l4), .int (zI 2), .ref (ad 24), .ref (ad 25), .ref (ad 26), .int (zI mla)])), zA cI (ad 0) 6 mW, zA cI (ad 1) 6 mH, zA cI (ad 2) 576 mC, zA cI (ad 5) 6 mFX, zA cI (ad 6) 6 mFY]) [0, 1, 2, 3, 4, 5] (by decide) rfl
                    have po : ((mx + d) = mvX (Kof mC L) (mW L) (mH L) mx my i ∧ y3 = mvY (Kof mC L) (mW L) (mH L) mx my ml i ∧ l4 = mvL (Kof mC L) (mW L) (mH L) mx my ml i ∧ (2 : Int) = mvO (Kof mC L) (mW L) (mH L) (mFX L) (mFY L) mx my ml i) := by
                      have m2 : y3 = mvY (Kof mC L) (mW L) (mH L) mx my ml i := by rw [mvY, ← m1, ← hn]; exact hy3
                      have m0 : upL (Kof mC L) (mW L) (mH L) (mvX (Kof mC L) (mW L) (mH L) mx my i) my (juL (Kof mC L) (mW L) (mH L) mx my ml i) = l3 := by rw [← m1, ← hn]; exact hl3.symm
                      have e7 := kd_M (C := mC) (L := L) (w := mW L) (h := mH L) (c := mx + d) (r := y3) (by omega) (by omega)
                      refine ⟨m1, m2, ?_, ?_⟩
                      · rw [mvL, m0, ← m1, ← m2]; exact hl4
                      · rw [mvO, ← m1, ← m2, lkO, if_neg (by omega)]
                        first | rw [if_pos (by omega)] | rw [if_neg (by omega)]
                    exact W.vret hx hb hr (fun t ht hW => ⟨⟨(mx + d, y3, l4, 2), rfl, po, by rw [ht]; exact hP9, va_K.moved hW.alike hK, hD9⟩, hS.F ht⟩) hS.2.2 dX6_frame_298
              intro J_10
              refine lv_aload_n hx hb dX6_frame_230 rfl (lv_at hl 0 rfl) ?_
              refine lv_aload_n hx hb dX6_frame_231 rfl (lv_at hl 0 rfl) ?_
              refine va_get (D := (dC, dI)) (ci := 6) (v := .ref (ad 2)) (C := RX6) (T := TX6) (N := 28) hx hb hts i_6 hown hK hP 0 rfl rfl 2 (by decide) f_16 (fun _ h9 => h9) rfl dX6_frame_232 ?_
              refine lv_iload_n hx hb dX6_frame_235 rfl (lv_at hl 1 rfl) ?_
              refine lv_aload_n hx hb dX6_frame_236 rfl (lv_at hl 0 rfl) ?_
              refine va_get (D := (dC, dI)) (ci := 6) (v := .int (zI (mx + d))) (C := RX6) (T := TX6) (N := 28) hx hb hts i_6 hown hK hP 0 rfl rfl 20 (by decide) f_81 (fun _ h9 => h9) rfl dX6_frame_237 ?_
              refine lv_aload_n hx hb dX6_frame_240 rfl (lv_at hl 0 rfl) ?_
              refine va_get (D := (dC, dI)) (ci := 6) (v := .int (zI y3)) (C := RX6) (T := TX6) (N := 28) hx hb hts i_6 hown hK hP 0 rfl rfl 21 (by decide) f_84 (fun _ h9 => h9) rfl dX6_frame_241 ?_
              have hPc := hP.sub (ws' := []) [] rfl
              have hDc := hD.sub (ws' := []) [] (by decide) rfl
              have hFc := va_free (wc := []) hD hS hA [] rfl
              refine va_calli (va_runS (As := [.int (zI L), .int (zI (mx + d)), .int (zI y3)]) (rest := [.ref (ad 2), .ref mo]) ⟨hx, hb, hml, hown, hts⟩ (c_X6_at l dC dI cI cZ cL cT cJ H.size L (mx + d) y3 ) (cwS 3 hts gX6_frame_X6_at rfl rfl rfl (by decide +kernel) ⟨Nat.le_of_ble_eq_true rfl, Nat.le_of_ble_eq_true rfl⟩) ⟨zP_blind, zP_pre hPc hDc hK⟩ rfl rfl hl.1 rfl (lv_room (Nat.le_of_ble_eq_true rfl)) dX6_frame_244 ⟨Nat.le_of_ble_eq_true rfl, Nat.le_of_ble_eq_true rfl⟩) hS (fun q _ h => hFc q h) hFc (fun r_11 u_11 t H1 locs ht hvm hw hB hz1 hk1 hS => ?_)
              obtain ⟨hP1, hK1, hD1⟩ := hB
              rw [ht] at hP1
              have hP1 : va_P (dC, dI) vwCl [] H1 := hP1
              obtain ⟨hP, hD⟩ := va_join (wr := [(mo, .inr (6, [.ref (ad 0), .ref (ad 1), .ref (ad 2), .ref (ad 3), .ref (ad 4), .ref (ad 5), .ref (ad 6), .ref (ad 7), .ref (ad 8), .int (zI mn), .ref (ad 10), .ref (ad 11), .int (zI mp), .int (zI mon), .int (zI mrx), .int (zI mry), .int (zI mrl), .int (zI mrs), .int (zI mrf), .ref (ad 19), .int (zI (mx + d)), .int (zI y3), .int (zI l3), .int (zI mst), .ref (ad 24), .ref (ad 25), .ref (ad 26), .int (zI mla)])), zA cI (ad 0) 6 mW, zA cI (ad 1) 6 mH, zA cI (ad 2) 576 mC, zA cI (ad 5) 6 mFX, zA cI (ad 6) 6 mFY]) (w1 := []) hP hD [] [0, 1, 2, 3, 4, 5] rfl rfl (by decide) (by decide) hk1 hFc hP1 hD1
              clear hP1 hD1 hk1 hFc hPc hDc hz1
              generalize H1 = H at hP hS ⊢
              have hP : va_P (dC, dI) vwCl [(mo, .inr (6, [.ref (ad 0), .ref (ad 1), .ref (ad 2), .ref (ad 3), .ref (ad 4), .ref (ad 5), .ref (ad 6), .ref (ad 7), .ref (ad 8), .int (zI mn), .ref (ad 10), .ref (ad 11), .int (zI mp), .int (zI mon), .int (zI mrx), .int (zI mry), .int (zI mrl), .int (zI mrs), .int (zI mrf), .ref (ad 19), .int (zI (mx + d)), .int (zI y3), .int (zI l3), .int (zI mst), .ref (ad 24), .ref (ad 25), .ref (ad 26), .int (zI mla)])), zA cI (ad 0) 6 mW, zA cI (ad 1) 6 mH, zA cI (ad 2) 576 mC, zA cI (ad 5) 6 mFX, zA cI (ad 6) 6 mFY] H := hP.sub [0, 1, 2, 3, 4, 5] rfl
              have hD : va_D A [(mo, .inr (6, [.ref (ad 0), .ref (ad 1), .ref (ad 2), .ref (ad 3), .ref (ad 4), .ref (ad 5), .ref (ad 6), .ref (ad 7), .ref (ad 8), .int (zI mn), .ref (ad 10), .ref (ad 11), .int (zI mp), .int (zI mon), .int (zI mrx), .int (zI mry), .int (zI mrl), .int (zI mrs), .int (zI mrf), .ref (ad 19), .int (zI (mx + d)), .int (zI y3), .int (zI l3), .int (zI mst), .ref (ad 24), .ref (ad 25), .ref (ad 26), .int (zI mla)])), zA cI (ad 0) 6 mW, zA cI (ad 1) 6 mH, zA cI (ad 2) 576 mC, zA cI (ad 5) 6 mFX, zA cI (ad 6) 6 mFY] := hD.sub [0, 1, 2, 3, 4, 5] (by decide) rfl
              clear hK1 hvm
              obtain ⟨rfl, po_12⟩ := hw
              refine W.eq (g2 := F0 m 247 ls [.int (zI (96 * L + 12 * y3 + (mx + d))), .ref (ad 2), .ref mo]) rfl ?_
              refine lz_iald (F := mC) (i := 96 * L + 12 * y3 + (mx + d)) hx hb hK hP 3 0 rfl rfl (by omega) (by omega) (by decide) dX6_frame_247 ?_
              have ec2 := gC ((96 * L + 12 * y3 + (mx + d)))
              refine lv_iconst (v := zI 3) hx hb dX6_frame_248 (rfl) ?_
              refine lz_icmp_ne (tgt := 256) hx hb dX6_frame_249 (by decide) (by omega) ⟨by decide, by decide⟩ (fun c_13 => ?_) (fun c_13 => ?_)
              ·
                refine lv_aload_n hx hb dX6_frame_256 rfl (lv_at hl 0 rfl) ?_
                refine va_get (D := (dC, dI)) (ci := 6) (v := .int (zI l3)) (C := RX6) (T := TX6) (N := 28) hx hb hts i_6 hown hK hP 0 rfl rfl 22 (by decide) f_87 (fun _ h9 => h9) rfl dX6_frame_257 ?_
                exact J_10 l3 _ _ _ ⟨(by (have e8 := kd_M (C := mC) (L := L) (w := mW L) (h := mH L) (c := mx + d) (r := y3) (by omega) (by omega); unfold lkL; first | rw [if_neg (by omega), if_pos (by omega)] | rw [if_neg (by omega), if_neg (by omega)])), hP, hD, hS, lv_sub hl [0, 1, 2, 3] rfl⟩
              ·
                refine lv_iconst (v := zI 4) hx hb dX6_frame_252 (rfl) ?_
                refine lv_goto (tgt := 260) hx hb dX6_frame_253 (by decide) ?_
                exact J_10 4 _ _ _ ⟨(by (have e8 := kd_M (C := mC) (L := L) (w := mW L) (h := mH L) (c := mx + d) (r := y3) (by omega) (by omega); unfold lkL; first | rw [if_neg (by omega), if_pos (by omega)] | rw [if_neg (by omega), if_neg (by omega)])), hP, hD, hS, lv_sub hl [0, 1, 2, 3] rfl⟩
            ·
              refine lv_aload_n hx hb dX6_frame_224 rfl (lv_at hl 0 rfl) ?_
              refine lv_iconst (v := zI 1) hx hb dX6_frame_225 (rfl) ?_
              refine va_put (D := (dC, dI)) (ci := 6) (v := .int (zI 1)) (ty := .int) (C := RX6) (T := TX6) (N := 28) hx hb hts i_6 tyX6 tyX6_ok nmX6 hown hK hP hD hS 0 rfl rfl 23 (by decide) f_90 (fun _ h9 => h9) rfl (by decide +kernel) rfl rfl (Nat.le_of_ble_eq_true rfl) dX6_frame_226 (fun H locs hP hD hS => ?_)
              have hP : va_P (dC, dI) vwCl [(mo, .inr (6, [.ref (ad 0), .ref (ad 1), .ref (ad 2), .ref (ad 3), .ref (ad 4), .ref (ad 5), .ref (ad 6), .ref (ad 7), .ref (ad 8), .int (zI mn), .ref (ad 10), .ref (ad 11), .int (zI mp), .int (zI mon), .int (zI mrx), .int (zI mry), .int (zI mrl), .int (zI mrs), .int (zI mrf), .ref (ad 19), .int (zI (mx + d)), .int (zI y3), .int (zI l3), .int (zI 1), .ref (ad 24), .ref (ad 25), .ref (ad 26), .int (zI mla)])), zA cI (ad 0) 6 mW, zA cI (ad 1) 6 mH, zA cI (ad 2) 576 mC, zA cI (ad 5) 6 mFX, zA cI (ad 6) 6 mFY] H := hP
              have hD : va_D A [(mo, .inr (6, [.ref (ad 0), .ref (ad 1), .ref (ad 2), .ref (ad 3), .ref (ad 4), .ref (ad 5), .ref (ad 6), .ref (ad 7), .ref (ad 8), .int (zI mn), .ref (ad 10), .ref (ad 11), .int (zI mp), .int (zI mon), .int (zI mrx), .int (zI mry), .int (zI mrl), .int (zI mrs), .int (zI mrf), .ref (ad 19), .int (zI (mx + d)), .int (zI y3), .int (zI l3), .int (zI 1), .ref (ad 24), .ref (ad 25), .ref (ad 26), .int (zI mla)])), zA cI (ad 0) 6 mW, zA cI (ad 1) 6 mH, zA cI (ad 2) 576 mC, zA cI (ad 5) 6 mFX, zA cI (ad 6) 6 mFY] := hD
              have hP9 := hP.sub (ws' := [(mo, .inr (6, [.ref (ad 0), .ref (ad 1), .ref (ad 2), .ref (ad 3), .ref (ad 4), .ref (ad 5), .ref (ad 6), .ref (ad 7), .ref (ad 8), .int (zI mn), .ref (ad 10), .ref (ad 11), .int (zI mp), .int (zI mon), .int (zI mrx), .int (zI mry), .int (zI mrl), .int (zI mrs), .int (zI mrf), .ref (ad 19), .int (zI (mx + d)), .int (zI y3), .int (zI l3), .int (zI 1), .ref (ad 24), .ref (ad 25), .ref (ad 26), .int (zI mla)])), zA cI (ad 0) 6 mW, zA cI (ad 1) 6 mH, zA cI (ad 2) 576 mC, zA cI (ad 5) 6 mFX, zA cI (ad 6) 6 mFY]) [0, 1, 2, 3, 4, 5] rfl
              have hD9 := hD.sub (ws' := [(mo, .inr (6, [.ref (ad 0), .ref (ad 1), .ref (ad 2), .ref (ad 3), .ref (ad 4), .ref (ad 5), .ref (ad 6), .ref (ad 7), .ref (ad 8), .int (zI mn), .ref (ad 10), .ref (ad 11), .int (zI mp), .int (zI mon), .int (zI mrx), .int (zI mry), .int (zI mrl), .int (zI mrs), .int (zI mrf), .ref (ad 19), .int (zI (mx + d)), .int (zI y3), .int (zI l3), .int (zI 1), .ref (ad 24), .ref (ad 25), .ref (ad 26), .int (zI mla)])), zA cI (ad 0) 6 mW, zA cI (ad 1) 6 mH, zA cI (ad 2) 576 mC, zA cI (ad 5) 6 mFX, zA cI (ad 6) 6 mFY]) [0, 1, 2, 3, 4, 5] (by decide) rfl
              have po : ((mx + d) = mvX (Kof mC L) (mW L) (mH L) mx my i ∧ y3 = mvY (Kof mC L) (mW L) (mH L) mx my ml i ∧ l3 = mvL (Kof mC L) (mW L) (mH L) mx my ml i ∧ (1 : Int) = mvO (Kof mC L) (mW L) (mH L) (mFX L) (mFY L) mx my ml i) := by
                have m2 : y3 = mvY (Kof mC L) (mW L) (mH L) mx my ml i := by rw [mvY, ← m1, ← hn]; exact hy3
                have m0 : upL (Kof mC L) (mW L) (mH L) (mvX (Kof mC L) (mW L) (mH L) mx my i) my (juL (Kof mC L) (mW L) (mH L) mx my ml i) = l3 := by rw [← m1, ← hn]; exact hl3.symm
                have e8 : kd (Kof mC L) (mW L) (mH L) (mx + d) y3 = -1 ∨ kd (Kof mC L) (mW L) (mH L) (mx + d) y3 = 2 := by
                  first | exact Or.inl (kd_no (by omega)) | (have e7 := kd_M (C := mC) (L := L) (w := mW L) (h := mH L) (c := mx + d) (r := y3) (by omega) (by omega); omega)
                refine ⟨m1, m2, ?_, ?_⟩
                · rw [mvL, m0, ← m1, ← m2, lkL, if_pos e8]
                · rw [mvO, ← m1, ← m2, lkO, if_pos e8]
              exact W.vret hx hb hr (fun t ht hW => ⟨⟨(mx + d, y3, l3, 1), rfl, po, by rw [ht]; exact hP9, va_K.moved hW.alike hK, hD9⟩, hS.F ht⟩) hS.2.2 dX6_frame_229
        intro J_14
        refine lv_aload_n hx hb dX6_frame_94 rfl (lv_at hl 0 rfl) ?_
        refine va_get (D := (dC, dI)) (ci := 6) (v := .int (zI l2)) (C := RX6) (T := TX6) (N := 28) hx hb hts i_6 hown hK hP 0 rfl rfl 22 (by decide) f_87 (fun _ h9 => h9) rfl dX6_frame_95 ?_
        refine lz_if_le (tgt := 159) hx hb dX6_frame_98 (by decide) (by omega) (fun c_15 => ?_) (fun c_15 => ?_)
        ·
          refine lv_aload_n hx hb dX6_frame_159 rfl (lv_at hl 0 rfl) ?_
          refine lv_iload_n hx hb dX6_frame_160 rfl (lv_at hl 1 rfl) ?_
          refine lv_aload_n hx hb dX6_frame_161 rfl (lv_at hl 0 rfl) ?_
          refine va_get (D := (dC, dI)) (ci := 6) (v := .int (zI (mx + d))) (C := RX6) (T := TX6) (N := 28) hx hb hts i_6 hown hK hP 0 rfl rfl 20 (by decide) f_81 (fun _ h9 => h9) rfl dX6_frame_162 ?_
          refine lv_aload_n hx hb dX6_frame_165 rfl (lv_at hl 0 rfl) ?_
          refine va_get (D := (dC, dI)) (ci := 6) (v := .int (zI my)) (C := RX6) (T := TX6) (N := 28) hx hb hts i_6 hown hK hP 0 rfl rfl 21 (by decide) f_84 (fun _ h9 => h9) rfl dX6_frame_166 ?_
          refine lv_iconst (v := zI 1) hx hb dX6_frame_169 (rfl) ?_
          refine lz_iadd (z := my + 1) hx hb dX6_frame_170 (by rfl) ?_
          have hPc := hP.sub (ws' := [(mo, .inr (6, [.ref (ad 0), .ref (ad 1), .ref (ad 2), .ref (ad 3), .ref (ad 4), .ref (ad 5), .ref (ad 6), .ref (ad 7), .ref (ad 8), .int (zI mn), .ref (ad 10), .ref (ad 11), .int (zI mp), .int (zI mon), .int (zI mrx), .int (zI mry), .int (zI mrl), .int (zI mrs), .int (zI mrf), .ref (ad 19), .int (zI (mx + d)), .int (zI my), .int (zI l2), .int (zI mst), .ref (ad 24), .ref (ad 25), .ref (ad 26), .int (zI mla)])), zA cI (ad 0) 6 mW, zA cI (ad 1) 6 mH, zA cI (ad 2) 576 mC]) [0, 1, 2, 3] rfl
          have hDc := hD.sub (ws' := [(mo, .inr (6, [.ref (ad 0), .ref (ad 1), .ref (ad 2), .ref (ad 3), .ref (ad 4), .ref (ad 5), .ref (ad 6), .ref (ad 7), .ref (ad 8), .int (zI mn), .ref (ad 10), .ref (ad 11), .int (zI mp), .int (zI mon), .int (zI mrx), .int (zI mry), .int (zI mrl), .int (zI mrs), .int (zI mrf), .ref (ad 19), .int (zI (mx + d)), .int (zI my), .int (zI l2), .int (zI mst), .ref (ad 24), .ref (ad 25), .ref (ad 26), .int (zI mla)])), zA cI (ad 0) 6 mW, zA cI (ad 1) 6 mH, zA cI (ad 2) 576 mC]) [0, 1, 2, 3] (by decide) rfl
          have hFc := va_free (wc := [(mo, .inr (6, [.ref (ad 0), .ref (ad 1), .ref (ad 2), .ref (ad 3), .ref (ad 4), .ref (ad 5), .ref (ad 6), .ref (ad 7), .ref (ad 8), .int (zI mn), .ref (ad 10), .ref (ad 11), .int (zI mp), .int (zI mon), .int (zI mrx), .int (zI mry), .int (zI mrl), .int (zI mrs), .int (zI mrf), .ref (ad 19), .int (zI (mx + d)), .int (zI my), .int (zI l2), .int (zI mst), .ref (ad 24), .ref (ad 25), .ref (ad 26), .int (zI mla)])), zA cI (ad 0) 6 mW, zA cI (ad 1) 6 mH, zA cI (ad 2) 576 mC]) hD hS hA [0, 1, 2, 3] rfl
          refine va_calli (va_runV (As := [.int (zI L), .int (zI (mx + d)), .int (zI (my + 1))]) (rest := []) ⟨hx, hb, hml, hown, hts⟩ (c_X6_isBlock l dC dI cI cZ cL cT cJ H.size mo ad mn mp mon mrx mry mrl mrs mrf (mx + d) my l2 mst mla mW mH mC L (mx + d) (my + 1) (by first | assumption | omega) (by first | assumption | omega) (by first | assumption | omega) (by first | assumption | omega) (by first | assumption | omega) (by first | assumption | omega) (by first | assumption | omega) (by first | assumption | omega)) (cwV 3 hts gX6_frame_X6_isBlock rfl rfl rfl (by decide +kernel) ⟨Nat.le_of_ble_eq_true rfl, Nat.le_of_ble_eq_true rfl⟩) ⟨zP_blind, va_recv hK hPc (ci := 6) (q0 := 0) rfl rfl, zP_pre hPc hDc hK⟩ rfl rfl hl.1 rfl (lv_room (Nat.le_of_ble_eq_true rfl)) dX6_frame_171 ⟨Nat.le_of_ble_eq_true rfl, Nat.le_of_ble_eq_true rfl⟩) hS (fun q _ h => hFc q h) hFc (fun r_16 u_16 t H1 locs ht hvm hw hB hz1 hk1 hS => ?_)
          obtain ⟨r_17, rfl⟩ : ∃ z, z = u_16 := ⟨_, rfl⟩
          obtain ⟨hP1, hK1, hD1⟩ := hB
          rw [ht] at hP1
          have hP1 : va_P (dC, dI) vwCl [(mo, .inr (6, [.ref (ad 0), .ref (ad 1), .ref (ad 2), .ref (ad 3), .ref (ad 4), .ref (ad 5), .ref (ad 6), .ref (ad 7), .ref (ad 8), .int (zI mn), .ref (ad 10), .ref (ad 11), .int (zI mp), .int (zI mon), .int (zI mrx), .int (zI mry), .int (zI mrl), .int (zI mrs), .int (zI mrf), .ref (ad 19), .int (zI (mx + d)), .int (zI my), .int (zI l2), .int (zI mst), .ref (ad 24), .ref (ad 25), .ref (ad 26), .int (zI mla)])), zA cI (ad 0) 6 mW, zA cI (ad 1) 6 mH, zA cI (ad 2) 576 mC] H1 := hP1
          obtain ⟨hP, hD⟩ := va_join (wr := [zA cI (ad 5) 6 mFX, zA cI (ad 6) 6 mFY]) (w1 := [(mo, .inr (6, [.ref (ad 0), .ref (ad 1), .ref (ad 2), .ref (ad 3), .ref (ad 4), .ref (ad 5), .ref (ad 6), .ref (ad 7), .ref (ad 8), .int (zI mn), .ref (ad 10), .ref (ad 11), .int (zI mp), .int (zI mon), .int (zI mrx), .int (zI mry), .int (zI mrl), .int (zI mrs), .int (zI mrf), .ref (ad 19), .int (zI (mx + d)), .int (zI my), .int (zI l2), .int (zI mst), .ref (ad 24), .ref (ad 25), .ref (ad 26), .int (zI mla)])), zA cI (ad 0) 6 mW, zA cI (ad 1) 6 mH, zA cI (ad 2) 576 mC]) hP hD [0, 1, 2, 3] [4, 5] rfl rfl (by decide) (by decide) hk1 hFc hP1 hD1
          clear hP1 hD1 hk1 hFc hPc hDc hz1
          generalize H1 = H at hP hS ⊢
          have hP : va_P (dC, dI) vwCl [(mo, .inr (6, [.ref (ad 0), .ref (ad 1), .ref (ad 2), .ref (ad 3), .ref (ad 4), .ref (ad 5), .ref (ad 6), .ref (ad 7), .ref (ad 8), .int (zI mn), .ref (ad 10), .ref (ad 11), .int (zI mp), .int (zI mon), .int (zI mrx), .int (zI mry), .int (zI mrl), .int (zI mrs), .int (zI mrf), .ref (ad 19), .int (zI (mx + d)), .int (zI my), .int (zI l2), .int (zI mst), .ref (ad 24), .ref (ad 25), .ref (ad 26), .int (zI mla)])), zA cI (ad 0) 6 mW, zA cI (ad 1) 6 mH, zA cI (ad 2) 576 mC, zA cI (ad 5) 6 mFX, zA cI (ad 6) 6 mFY] H := hP.sub [2, 3, 4, 5, 0, 1] rfl
          have hD : va_D A [(mo, .inr (6, [.ref (ad 0), .ref (ad 1), .ref (ad 2), .ref (ad 3), .ref (ad 4), .ref (ad 5), .ref (ad 6), .ref (ad 7), .ref (ad 8), .int (zI mn), .ref (ad 10), .ref (ad 11), .int (zI mp), .int (zI mon), .int (zI mrx), .int (zI mry), .int (zI mrl), .int (zI mrs), .int (zI mrf), .ref (ad 19), .int (zI (mx + d)), .int (zI my), .int (zI l2), .int (zI mst), .ref (ad 24), .ref (ad 25), .ref (ad 26), .int (zI mla)])), zA cI (ad 0) 6 mW, zA cI (ad 1) 6 mH, zA cI (ad 2) 576 mC, zA cI (ad 5) 6 mFX, zA cI (ad 6) 6 mFY] := hD.sub [2, 3, 4, 5, 0, 1] (by decide) rfl
          clear hK1 hvm
          obtain ⟨rfl, po_18⟩ := hw
          have po_18 : (r_17 = 1 ∧ kd (Kof mC L) (mW L) (mH L) (mx + d) (my + 1) = 1) ∨ (r_17 = 0 ∧ ¬ kd (Kof mC L) (mW L) (mH L) (mx + d) (my + 1) = 1) := po_18
          refine W.eq (g2 := F0 m 174 ls [.int (zI r_17)]) rfl ?_
          refine lz_if_ne (tgt := 187) hx hb dX6_frame_174 (by decide) (by omega) (fun c_19 => ?_) (fun c_19 => ?_)
          ·
            exact J_14 (my, l2) _ _ _ ⟨(by (unfold upY riY faY; first | (rw [if_pos (by omega), if_pos (by omega)]; done) | (rw [if_pos (by omega), if_neg (by omega)]; done) | (rw [if_neg (by omega), if_pos (by omega)]; done) | (rw [if_neg (by omega), if_neg (by omega)]; done))), (by (unfold upL riL; first | (rw [if_pos (by omega), if_pos (by omega)]; done) | (rw [if_pos (by omega), if_neg (by omega)]; done) | (rw [if_neg (by omega)]; done))), (by (first | omega | (have e8 := kd_in (K := Kof mC L) (w := mW L) (h := mH L) (x := mx + d) (y := my - 1) (by omega); omega))), (by omega), hP, hD, hS, lv_sub hl [0, 1, 2, 3] rfl⟩
          ·
            refine lv_aload_n hx hb dX6_frame_177 rfl (lv_at hl 0 rfl) ?_
            refine lv_dup hx hb dX6_frame_178 rfl ?_
            refine va_get (D := (dC, dI)) (ci := 6) (v := .int (zI my)) (C := RX6) (T := TX6) (N := 28) hx hb hts i_6 hown hK hP 0 rfl rfl 21 (by decide) f_84 (fun _ h9 => h9) rfl dX6_frame_179 ?_
            refine lv_iconst (v := zI 1) hx hb dX6_frame_182 (rfl) ?_
            refine lz_iadd (z := my + 1) hx hb dX6_frame_183 (by rfl) ?_
            refine va_put (D := (dC, dI)) (ci := 6) (v := .int (zI (my + 1))) (ty := .int) (C := RX6) (T := TX6) (N := 28) hx hb hts i_6 tyX6 tyX6_ok nmX6 hown hK hP hD hS 0 rfl rfl 21 (by decide) f_84 (fun _ h9 => h9) rfl (by decide +kernel) rfl rfl (Nat.le_of_ble_eq_true rfl) dX6_frame_184 (fun H locs hP hD hS => ?_)
            have hP : va_P (dC, dI) vwCl [(mo, .inr (6, [.ref (ad 0), .ref (ad 1), .ref (ad 2), .ref (ad 3), .ref (ad 4), .ref (ad 5), .ref (ad 6), .ref (ad 7), .ref (ad 8), .int (zI mn), .ref (ad 10), .ref (ad 11), .int (zI mp), .int (zI mon), .int (zI mrx), .int (zI mry), .int (zI mrl), .int (zI mrs), .int (zI mrf), .ref (ad 19), .int (zI (mx + d)), .int (zI (my + 1)), .int (zI l2), .int (zI mst), .ref (ad 24), .ref (ad 25), .ref (ad 26), .int (zI mla)])), zA cI (ad 0) 6 mW, zA cI (ad 1) 6 mH, zA cI (ad 2) 576 mC, zA cI (ad 5) 6 mFX, zA cI (ad 6) 6 mFY] H := hP
            have hD : va_D A [(mo, .inr (6, [.ref (ad 0), .ref (ad 1), .ref (ad 2), .ref (ad 3), .ref (ad 4), .ref (ad 5), .ref (ad 6), .ref (ad 7), .ref (ad 8), .int (zI mn), .ref (ad 10), .ref (ad 11), .int (zI mp), .int (zI mon), .int (zI mrx), .int (zI mry), .int (zI mrl), .int (zI mrs), .int (zI mrf), .ref (ad 19), .int (zI (mx + d)), .int (zI (my + 1)), .int (zI l2), .int (zI mst), .ref (ad 24), .ref (ad 25), .ref (ad 26), .int (zI mla)])), zA cI (ad 0) 6 mW, zA cI (ad 1) 6 mH, zA cI (ad 2) 576 mC, zA cI (ad 5) 6 mFX, zA cI (ad 6) 6 mFY] := hD
            exact J_14 (my + 1, l2) _ _ _ ⟨(by (unfold upY riY faY; first | (rw [if_pos (by omega), if_pos (by omega)]; done) | (rw [if_pos (by omega), if_neg (by omega)]; done) | (rw [if_neg (by omega), if_pos (by omega)]; done) | (rw [if_neg (by omega), if_neg (by omega)]; done))), (by (unfold upL riL; first | (rw [if_pos (by omega), if_pos (by omega)]; done) | (rw [if_pos (by omega), if_neg (by omega)]; done) | (rw [if_neg (by omega)]; done))), (by (first | omega | (have e8 := kd_in (K := Kof mC L) (w := mW L) (h := mH L) (x := mx + d) (y := my - 1) (by omega); omega))), (by omega), hP, hD, hS, lv_sub hl [0, 1, 2, 3] rfl⟩
        ·
          refine lv_aload_n hx hb dX6_frame_101 rfl (lv_at hl 0 rfl) ?_
          refine lv_iload_n hx hb dX6_frame_102 rfl (lv_at hl 1 rfl) ?_
          refine lv_aload_n hx hb dX6_frame_103 rfl (lv_at hl 0 rfl) ?_
          refine va_get (D := (dC, dI)) (ci := 6) (v := .int (zI (mx + d))) (C := RX6) (T := TX6) (N := 28) hx hb hts i_6 hown hK hP 0 rfl rfl 20 (by decide) f_81 (fun _ h9 => h9) rfl dX6_frame_104 ?_
          refine lv_aload_n hx hb dX6_frame_107 rfl (lv_at hl 0 rfl) ?_
          refine va_get (D := (dC, dI)) (ci := 6) (v := .int (zI my)) (C := RX6) (T := TX6) (N := 28) hx hb hts i_6 hown hK hP 0 rfl rfl 21 (by decide) f_84 (fun _ h9 => h9) rfl dX6_frame_108 ?_
          refine lv_iconst (v := zI 1) hx hb dX6_frame_111 (rfl) ?_
          refine lz_isub (z := my - 1) hx hb dX6_frame_112 (by rfl) ?_
          have hPc := hP.sub (ws' := [(mo, .inr (6, [.ref (ad 0), .ref (ad 1), .ref (ad 2), .ref (ad 3), .ref (ad 4), .ref (ad 5), .ref (ad 6), .ref (ad 7), .ref (ad 8), .int (zI mn), .ref (ad 10), .ref (ad 11), .int (zI mp), .int (zI mon), .int (zI mrx), .int (zI mry), .int (zI mrl), .int (zI mrs), .int (zI mrf), .ref (ad 19), .int (zI (mx + d)), .int (zI my), .int (zI l2), .int (zI mst), .ref (ad 24), .ref (ad 25), .ref (ad 26), .int (zI mla)])), zA cI (ad 0) 6 mW, zA cI (ad 1) 6 mH, zA cI (ad 2) 576 mC]) [0, 1, 2, 3] rfl
          have hDc := hD.sub (ws' := [(mo, .inr (6, [.ref (ad 0), .ref (ad 1), .ref (ad 2), .ref (ad 3), .ref (ad 4), .ref (ad 5), .ref (ad 6), .ref (ad 7), .ref (ad 8), .int (zI mn), .ref (ad 10), .ref (ad 11), .int (zI mp), .int (zI mon), .int (zI mrx), .int (zI mry), .int (zI mrl), .int (zI mrs), .int (zI mrf), .ref (ad 19), .int (zI (mx + d)), .int (zI my), .int (zI l2), .int (zI mst), .ref (ad 24), .ref (ad 25), .ref (ad 26), .int (zI mla)])), zA cI (ad 0) 6 mW, zA cI (ad 1) 6 mH, zA cI (ad 2) 576 mC]) [0, 1, 2, 3] (by decide) rfl
          have hFc := va_free (wc := [(mo, .inr (6, [.ref (ad 0), .ref (ad 1), .ref (ad 2), .ref (ad 3), .ref (ad 4), .ref (ad 5), .ref (ad 6), .ref (ad 7), .ref (ad 8), .int (zI mn), .ref (ad 10), .ref (ad 11), .int (zI mp), .int (zI mon), .int (zI mrx), .int (zI mry), .int (zI mrl), .int (zI mrs), .int (zI mrf), .ref (ad 19), .int (zI (mx + d)), .int (zI my), .int (zI l2), .int (zI mst), .ref (ad 24), .ref (ad 25), .ref (ad 26), .int (zI mla)])), zA cI (ad 0) 6 mW, zA cI (ad 1) 6 mH, zA cI (ad 2) 576 mC]) hD hS hA [0, 1, 2, 3] rfl
          refine va_calli (va_runV (As := [.int (zI L), .int (zI (mx + d)), .int (zI (my - 1))]) (rest := []) ⟨hx, hb, hml, hown, hts⟩ (c_X6_isFree l dC dI cI cZ cL cT cJ H.size mo ad mn mp mon mrx mry mrl mrs mrf (mx + d) my l2 mst mla mW mH mC L (mx + d) (my - 1) (by first | assumption | omega) (by first | assumption | omega) (by first | assumption | omega) (by first | assumption | omega) (by first | assumption | omega) (by first | assumption | omega) (by first | assumption | omega) (by first | assumption | omega)) (cwV 3 hts gX6_frame_X6_isFree rfl rfl rfl (by decide +kernel) ⟨Nat.le_of_ble_eq_true rfl, Nat.le_of_ble_eq_true rfl⟩) ⟨zP_blind, va_recv hK hPc (ci := 6) (q0 := 0) rfl rfl, zP_pre hPc hDc hK⟩ rfl rfl hl.1 rfl (lv_room (Nat.le_of_ble_eq_true rfl)) dX6_frame_113 ⟨Nat.le_of_ble_eq_true rfl, Nat.le_of_ble_eq_true rfl⟩) hS (fun q _ h => hFc q h) hFc (fun r_20 u_20 t H1 locs ht hvm hw hB hz1 hk1 hS => ?_)
          obtain ⟨r_21, rfl⟩ : ∃ z, z = u_20 := ⟨_, rfl⟩
          obtain ⟨hP1, hK1, hD1⟩ := hB
          rw [ht] at hP1
          have hP1 : va_P (dC, dI) vwCl [(mo, .inr (6, [.ref (ad 0), .ref (ad 1), .ref (ad 2), .ref (ad 3), .ref (ad 4), .ref (ad 5), .ref (ad 6), .ref (ad 7), .ref (ad 8), .int (zI mn), .ref (ad 10), .ref (ad 11), .int (zI mp), .int (zI mon), .int (zI mrx), .int (zI mry), .int (zI mrl), .int (zI mrs), .int (zI mrf), .ref (ad 19), .int (zI (mx + d)), .int (zI my), .int (zI l2), .int (zI mst), .ref (ad 24), .ref (ad 25), .ref (ad 26), .int (zI mla)])), zA cI (ad 0) 6 mW, zA cI (ad 1) 6 mH, zA cI (ad 2) 576 mC] H1 := hP1
          obtain ⟨hP, hD⟩ := va_join (wr := [zA cI (ad 5) 6 mFX, zA cI (ad 6) 6 mFY]) (w1 := [(mo, .inr (6, [.ref (ad 0), .ref (ad 1), .ref (ad 2), .ref (ad 3), .ref (ad 4), .ref (ad 5), .ref (ad 6), .ref (ad 7), .ref (ad 8), .int (zI mn), .ref (ad 10), .ref (ad 11), .int (zI mp), .int (zI mon), .int (zI mrx), .int (zI mry), .int (zI mrl), .int (zI mrs), .int (zI mrf), .ref (ad 19), .int (zI (mx + d)), .int (zI my), .int (zI l2), .int (zI mst), .ref (ad 24), .ref (ad 25), .ref (ad 26), .int (zI mla)])), zA cI (ad 0) 6 mW, zA cI (ad 1) 6 mH, zA cI (ad 2) 576 mC]) hP hD [0, 1, 2, 3] [4, 5] rfl rfl (by decide) (by decide) hk1 hFc hP1 hD1
          clear hP1 hD1 hk1 hFc hPc hDc hz1
          generalize H1 = H at hP hS ⊢
          have hP : va_P (dC, dI) vwCl [(mo, .inr (6, [.ref (ad 0), .ref (ad 1), .ref (ad 2), .ref (ad 3), .ref (ad 4), .ref (ad 5), .ref (ad 6), .ref (ad 7), .ref (ad 8), .int (zI mn), .ref (ad 10), .ref (ad 11), .int (zI mp), .int (zI mon), .int (zI mrx), .int (zI mry), .int (zI mrl), .int (zI mrs), .int (zI mrf), .ref (ad 19), .int (zI (mx + d)), .int (zI my), .int (zI l2), .int (zI mst), .ref (ad 24), .ref (ad 25), .ref (ad 26), .int (zI mla)])), zA cI (ad 0) 6 mW, zA cI (ad 1) 6 mH, zA cI (ad 2) 576 mC, zA cI (ad 5) 6 mFX, zA cI (ad 6) 6 mFY] H := hP.sub [2, 3, 4, 5, 0, 1] rfl
          have hD : va_D A [(mo, .inr (6, [.ref (ad 0), .ref (ad 1), .ref (ad 2), .ref (ad 3), .ref (ad 4), .ref (ad 5), .ref (ad 6), .ref (ad 7), .ref (ad 8), .int (zI mn), .ref (ad 10), .ref (ad 11), .int (zI mp), .int (zI mon), .int (zI mrx), .int (zI mry), .int (zI mrl), .int (zI mrs), .int (zI mrf), .ref (ad 19), .int (zI (mx + d)), .int (zI my), .int (zI l2), .int (zI mst), .ref (ad 24), .ref (ad 25), .ref (ad 26), .int (zI mla)])), zA cI (ad 0) 6 mW, zA cI (ad 1) 6 mH, zA cI (ad 2) 576 mC, zA cI (ad 5) 6 mFX, zA cI (ad 6) 6 mFY] := hD.sub [2, 3, 4, 5, 0, 1] (by decide) rfl
          clear hK1 hvm
          obtain ⟨rfl, po_22⟩ := hw
          have po_22 : (r_21 = 1 ∧ ¬ kd (Kof mC L) (mW L) (mH L) (mx + d) (my - 1) = -1 ∧ ¬ kd (Kof mC L) (mW L) (mH L) (mx + d) (my - 1) = 1) ∨ (r_21 = 0 ∧ (kd (Kof mC L) (mW L) (mH L) (mx + d) (my - 1) = -1 ∨ kd (Kof mC L) (mW L) (mH L) (mx + d) (my - 1) = 1)) := po_22
          refine W.eq (g2 := F0 m 116 ls [.int (zI r_21)]) rfl ?_
          refine lv_istore (lv' := [(4, .int (zI r_21)), (0, .ref mo), (1, .int (zI L)), (2, .int (zI i)), (3, .int (zI by9))]) hx hb dX6_frame_116 hl (by decide) rfl (fun ls hl => ?_)
          refine lv_aload_n hx hb dX6_frame_118 rfl (lv_at hl 1 rfl) ?_
          refine lv_dup hx hb dX6_frame_119 rfl ?_
          refine va_get (D := (dC, dI)) (ci := 6) (v := .int (zI my)) (C := RX6) (T := TX6) (N := 28) hx hb hts i_6 hown hK hP 0 rfl rfl 21 (by decide) f_84 (fun _ h9 => h9) rfl dX6_frame_120 ?_
          refine lv_iload hx hb dX6_frame_123 (lv_at hl 0 rfl) ?_
          refine lz_if_eq (tgt := 132) hx hb dX6_frame_125 (by decide) (by omega) (fun c_23 => ?_) (fun c_23 => ?_)
          ·
            refine lv_iconst (v := zI 0) hx hb dX6_frame_132 (rfl) ?_
            refine lz_isub (z := my) hx hb dX6_frame_133 (by omega) ?_
            refine va_put (D := (dC, dI)) (ci := 6) (v := .int (zI my)) (ty := .int) (C := RX6) (T := TX6) (N := 28) hx hb hts i_6 tyX6 tyX6_ok nmX6 hown hK hP hD hS 0 rfl rfl 21 (by decide) f_84 (fun _ h9 => h9) rfl (by decide +kernel) rfl rfl (Nat.le_of_ble_eq_true rfl) dX6_frame_134 (fun H locs hP hD hS => ?_)
            have hP : va_P (dC, dI) vwCl [(mo, .inr (6, [.ref (ad 0), .ref (ad 1), .ref (ad 2), .ref (ad 3), .ref (ad 4), .ref (ad 5), .ref (ad 6), .ref (ad 7), .ref (ad 8), .int (zI mn), .ref (ad 10), .ref (ad 11), .int (zI mp), .int (zI mon), .int (zI mrx), .int (zI mry), .int (zI mrl), .int (zI mrs), .int (zI mrf), .ref (ad 19), .int (zI (mx + d)), .int (zI my), .int (zI l2), .int (zI mst), .ref (ad 24), .ref (ad 25), .ref (ad 26), .int (zI mla)])), zA cI (ad 0) 6 mW, zA cI (ad 1) 6 mH, zA cI (ad 2) 576 mC, zA cI (ad 5) 6 mFX, zA cI (ad 6) 6 mFY] H := hP
            have hD : va_D A [(mo, .inr (6, [.ref (ad 0), .ref (ad 1), .ref (ad 2), .ref (ad 3), .ref (ad 4), .ref (ad 5), .ref (ad 6), .ref (ad 7), .ref (ad 8), .int (zI mn), .ref (ad 10), .ref (ad 11), .int (zI mp), .int (zI mon), .int (zI mrx), .int (zI mry), .int (zI mrl), .int (zI mrs), .int (zI mrf), .ref (ad 19), .int (zI (mx + d)), .int (zI my), .int (zI l2), .int (zI mst), .ref (ad 24), .ref (ad 25), .ref (ad 26), .int (zI mla)])), zA cI (ad 0) 6 mW, zA cI (ad 1) 6 mH, zA cI (ad 2) 576 mC, zA cI (ad 5) 6 mFX, zA cI (ad 6) 6 mFY] := hD
            refine lv_aload_n hx hb dX6_frame_137 rfl (lv_at hl 1 rfl) ?_
            refine lv_iload hx hb dX6_frame_138 (lv_at hl 0 rfl) ?_
            refine lz_if_eq (tgt := 152) hx hb dX6_frame_140 (by decide) (by omega) (fun c_24 => ?_) (fun c_24 => ?_)
            ·
              refine lv_iconst (v := zI 0) hx hb dX6_frame_152 (rfl) ?_
              refine va_put (D := (dC, dI)) (ci := 6) (v := .int (zI 0)) (ty := .int) (C := RX6) (T := TX6) (N := 28) hx hb hts i_6 tyX6 tyX6_ok nmX6 hown hK hP hD hS 0 rfl rfl 22 (by decide) f_87 (fun _ h9 => h9) rfl (by decide +kernel) rfl rfl (Nat.le_of_ble_eq_true rfl) dX6_frame_153 (fun H locs hP hD hS => ?_)
              have hP : va_P (dC, dI) vwCl [(mo, .inr (6, [.ref (ad 0), .ref (ad 1), .ref (ad 2), .ref (ad 3), .ref (ad 4), .ref (ad 5), .ref (ad 6), .ref (ad 7), .ref (ad 8), .int (zI mn), .ref (ad 10), .ref (ad 11), .int (zI mp), .int (zI mon), .int (zI mrx), .int (zI mry), .int (zI mrl), .int (zI mrs), .int (zI mrf), .ref (ad 19), .int (zI (mx + d)), .int (zI my), .int (zI 0), .int (zI mst), .ref (ad 24), .ref (ad 25), .ref (ad 26), .int (zI mla)])), zA cI (ad 0) 6 mW, zA cI (ad 1) 6 mH, zA cI (ad 2) 576 mC, zA cI (ad 5) 6 mFX, zA cI (ad 6) 6 mFY] H := hP
              have hD : va_D A [(mo, .inr (6, [.ref (ad 0), .ref (ad 1), .ref (ad 2), .ref (ad 3), .ref (ad 4), .ref (ad 5), .ref (ad 6), .ref (ad 7), .ref (ad 8), .int (zI mn), .ref (ad 10), .ref (ad 11), .int (zI mp), .int (zI mon), .int (zI mrx), .int (zI mry), .int (zI mrl), .int (zI mrs), .int (zI mrf), .ref (ad 19), .int (zI (mx + d)), .int (zI my), .int (zI 0), .int (zI mst), .ref (ad 24), .ref (ad 25), .ref (ad 26), .int (zI mla)])), zA cI (ad 0) 6 mW, zA cI (ad 1) 6 mH, zA cI (ad 2) 576 mC, zA cI (ad 5) 6 mFX, zA cI (ad 6) 6 mFY] := hD
              refine lv_goto (tgt := 187) hx hb dX6_frame_156 (by decide) ?_
              exact J_14 (my, 0) _ _ _ ⟨(by (unfold upY riY faY; first | (rw [if_pos (by omega), if_pos (by omega)]; done) | (rw [if_pos (by omega), if_neg (by omega)]; done) | (rw [if_neg (by omega), if_pos (by omega)]; done) | (rw [if_neg (by omega), if_neg (by omega)]; done))), (by (unfold upL riL; first | (rw [if_pos (by omega), if_pos (by omega)]; done) | (rw [if_pos (by omega), if_neg (by omega)]; done) | (rw [if_neg (by omega)]; done))), (by (first | omega | (have e8 := kd_in (K := Kof mC L) (w := mW L) (h := mH L) (x := mx + d) (y := my - 1) (by omega); omega))), (by omega), hP, hD, hS, lv_sub hl [1, 2, 3, 4] rfl⟩
            · exact absurd c_24 (by omega)
          ·
            refine lv_iconst (v := zI 1) hx hb dX6_frame_128 (rfl) ?_
            refine lv_goto (tgt := 133) hx hb dX6_frame_129 (by decide) ?_
            refine lz_isub (z := my - 1) hx hb dX6_frame_133 (by rfl) ?_
            refine va_put (D := (dC, dI)) (ci := 6) (v := .int (zI (my - 1))) (ty := .int) (C := RX6) (T := TX6) (N := 28) hx hb hts i_6 tyX6 tyX6_ok nmX6 hown hK hP hD hS 0 rfl rfl 21 (by decide) f_84 (fun _ h9 => h9) rfl (by decide +kernel) rfl rfl (Nat.le_of_ble_eq_true rfl) dX6_frame_134 (fun H locs hP hD hS => ?_)
            have hP : va_P (dC, dI) vwCl [(mo, .inr (6, [.ref (ad 0), .ref (ad 1), .ref (ad 2), .ref (ad 3), .ref (ad 4), .ref (ad 5), .ref (ad 6), .ref (ad 7), .ref (ad 8), .int (zI mn), .ref (ad 10), .ref (ad 11), .int (zI mp), .int (zI mon), .int (zI mrx), .int (zI mry), .int (zI mrl), .int (zI mrs), .int (zI mrf), .ref (ad 19), .int (zI (mx + d)), .int (zI (my - 1)), .int (zI l2), .int (zI mst), .ref (ad 24), .ref (ad 25), .ref (ad 26), .int (zI mla)])), zA cI (ad 0) 6 mW, zA cI (ad 1) 6 mH, zA cI (ad 2) 576 mC, zA cI (ad 5) 6 mFX, zA cI (ad 6) 6 mFY] H := hP
            have hD : va_D A [(mo, .inr (6, [.ref (ad 0), .ref (ad 1), .ref (ad 2), .ref (ad 3), .ref (ad 4), .ref (ad 5), .ref (ad 6), .ref (ad 7), .ref (ad 8), .int (zI mn), .ref (ad 10), .ref (ad 11), .int (zI mp), .int (zI mon), .int (zI mrx), .int (zI mry), .int (zI mrl), .int (zI mrs), .int (zI mrf), .ref (ad 19), .int (zI (mx + d)), .int (zI (my - 1)), .int (zI l2), .int (zI mst), .ref (ad 24), .ref (ad 25), .ref (ad 26), .int (zI mla)])), zA cI (ad 0) 6 mW, zA cI (ad 1) 6 mH, zA cI (ad 2) 576 mC, zA cI (ad 5) 6 mFX, zA cI (ad 6) 6 mFY] := hD
            refine lv_aload_n hx hb dX6_frame_137 rfl (lv_at hl 1 rfl) ?_
            refine lv_iload hx hb dX6_frame_138 (lv_at hl 0 rfl) ?_
            refine lz_if_eq (tgt := 152) hx hb dX6_frame_140 (by decide) (by omega) (fun c_25 => ?_) (fun c_25 => ?_)
            · exact absurd c_25 (by omega)
            ·
              refine lv_aload_n hx hb dX6_frame_143 rfl (lv_at hl 1 rfl) ?_
              refine va_get (D := (dC, dI)) (ci := 6) (v := .int (zI l2)) (C := RX6) (T := TX6) (N := 28) hx hb hts i_6 hown hK hP 0 rfl rfl 22 (by decide) f_87 (fun _ h9 => h9) rfl dX6_frame_144 ?_
              refine lv_iconst (v := zI 1) hx hb dX6_frame_147 (rfl) ?_
              refine lz_isub (z := l2 - 1) hx hb dX6_frame_148 (by rfl) ?_
              refine lv_goto (tgt := 153) hx hb dX6_frame_149 (by decide) ?_
              refine va_put (D := (dC, dI)) (ci := 6) (v := .int (zI (l2 - 1))) (ty := .int) (C := RX6) (T := TX6) (N := 28) hx hb hts i_6 tyX6 tyX6_ok nmX6 hown hK hP hD hS 0 rfl rfl 22 (by decide) f_87 (fun _ h9 => h9) rfl (by decide +kernel) rfl rfl (Nat.le_of_ble_eq_true rfl) dX6_frame_153 (fun H locs hP hD hS => ?_)
              have hP : va_P (dC, dI) vwCl [(mo, .inr (6, [.ref (ad 0), .ref (ad 1), .ref (ad 2), .ref (ad 3), .ref (ad 4), .ref (ad 5), .ref (ad 6), .ref (ad 7), .ref (ad 8), .int (zI mn), .ref (ad 10), .ref (ad 11), .int (zI mp), .int (zI mon), .int (zI mrx), .int (zI mry), .int (zI mrl), .int (zI mrs), .int (zI mrf), .ref (ad 19), .int (zI (mx + d)), .int (zI (my - 1)), .int (zI (l2 - 1)), .int (zI mst), .ref (ad 24), .ref (ad 25), .ref (ad 26), .int (zI mla)])), zA cI (ad 0) 6 mW, zA cI (ad 1) 6 mH, zA cI (ad 2) 576 mC, zA cI (ad 5) 6 mFX, zA cI (ad 6) 6 mFY] H := hP
              have hD : va_D A [(mo, .inr (6, [.ref (ad 0), .ref (ad 1), .ref (ad 2), .ref (ad 3), .ref (ad 4), .ref (ad 5), .ref (ad 6), .ref (ad 7), .ref (ad 8), .int (zI mn), .ref (ad 10), .ref (ad 11), .int (zI mp), .int (zI mon), .int (zI mrx), .int (zI mry), .int (zI mrl), .int (zI mrs), .int (zI mrf), .ref (ad 19), .int (zI (mx + d)), .int (zI (my - 1)), .int (zI (l2 - 1)), .int (zI mst), .ref (ad 24), .ref (ad 25), .ref (ad 26), .int (zI mla)])), zA cI (ad 0) 6 mW, zA cI (ad 1) 6 mH, zA cI (ad 2) 576 mC, zA cI (ad 5) 6 mFX, zA cI (ad 6) 6 mFY] := hD
              refine lv_goto (tgt := 187) hx hb dX6_frame_156 (by decide) ?_
              exact J_14 (my - 1, l2 - 1) _ _ _ ⟨(by (unfold upY riY faY; first | (rw [if_pos (by omega), if_pos (by omega)]; done) | (rw [if_pos (by omega), if_neg (by omega)]; done) | (rw [if_neg (by omega), if_pos (by omega)]; done) | (rw [if_neg (by omega), if_neg (by omega)]; done))), (by (unfold upL riL; first | (rw [if_pos (by omega), if_pos (by omega)]; done) | (rw [if_pos (by omega), if_neg (by omega)]; done) | (rw [if_neg (by omega)]; done))), (by (first | omega | (have e8 := kd_in (K := Kof mC L) (w := mW L) (h := mH L) (x := mx + d) (y := my - 1) (by omega); omega))), (by omega), hP, hD, hS, lv_sub hl [1, 2, 3, 4] rfl⟩
      intro J_26
      refine lv_iload_n hx hb dX6_frame_63 rfl (lv_at hl 0 rfl) ?_
      refine lz_if_eq (tgt := 89) hx hb dX6_frame_64 (by decide) (by omega) (fun c_27 => ?_) (fun c_27 => ?_)
      ·
        refine lv_iconst (v := zI 0) hx hb dX6_frame_89 (rfl) ?_
        exact J_26 0 _ _ _ ⟨(by (rw [wk_by, ← hby]; first | (rw [if_pos (by omega)]; omega) | rw [if_neg (by omega)] | (have e9 : by9 = 0 := (by omega); rw [e9]; simp))), (by (have e9 := wk_rng (K := Kof mC L) (w := mW L) (h := mH L) (x := mx) (y := my) (i := i) (by omega); rw [wk_by, ← hby] at e9; first | (rw [if_pos (by omega)] at e9; omega) | (rw [if_neg (by omega)] at e9; omega) | omega)), hP, hD, hS, lv_sub hl [1, 2, 3, 0] rfl⟩
      ·
        refine lv_aload_n hx hb dX6_frame_67 rfl (lv_at hl 1 rfl) ?_
        refine lv_iload_n hx hb dX6_frame_68 rfl (lv_at hl 2 rfl) ?_
        refine lv_aload_n hx hb dX6_frame_69 rfl (lv_at hl 1 rfl) ?_
        refine va_get (D := (dC, dI)) (ci := 6) (v := .int (zI mx)) (C := RX6) (T := TX6) (N := 28) hx hb hts i_6 hown hK hP 0 rfl rfl 20 (by decide) f_81 (fun _ h9 => h9) rfl dX6_frame_70 ?_
        refine lv_iload_n hx hb dX6_frame_73 rfl (lv_at hl 0 rfl) ?_
        refine lz_iadd (z := mx + by9) hx hb dX6_frame_74 (by rfl) ?_
        refine lv_aload_n hx hb dX6_frame_75 rfl (lv_at hl 1 rfl) ?_
        refine va_get (D := (dC, dI)) (ci := 6) (v := .int (zI my)) (C := RX6) (T := TX6) (N := 28) hx hb hts i_6 hown hK hP 0 rfl rfl 21 (by decide) f_84 (fun _ h9 => h9) rfl dX6_frame_76 ?_
        have hPc := hP.sub (ws' := [(mo, .inr (6, [.ref (ad 0), .ref (ad 1), .ref (ad 2), .ref (ad 3), .ref (ad 4), .ref (ad 5), .ref (ad 6), .ref (ad 7), .ref (ad 8), .int (zI mn), .ref (ad 10), .ref (ad 11), .int (zI mp), .int (zI mon), .int (zI mrx), .int (zI mry), .int (zI mrl), .int (zI mrs), .int (zI mrf), .ref (ad 19), .int (zI mx), .int (zI my), .int (zI l2), .int (zI mst), .ref (ad 24), .ref (ad 25), .ref (ad 26), .int (zI mla)])), zA cI (ad 0) 6 mW, zA cI (ad 1) 6 mH, zA cI (ad 2) 576 mC]) [0, 1, 2, 3] rfl
        have hDc := hD.sub (ws' := [(mo, .inr (6, [.ref (ad 0), .ref (ad 1), .ref (ad 2), .ref (ad 3), .ref (ad 4), .ref (ad 5), .ref (ad 6), .ref (ad 7), .ref (ad 8), .int (zI mn), .ref (ad 10), .ref (ad 11), .int (zI mp), .int (zI mon), .int (zI mrx), .int (zI mry), .int (zI mrl), .int (zI mrs), .int (zI mrf), .ref (ad 19), .int (zI mx), .int (zI my), .int (zI l2), .int (zI mst), .ref (ad 24), .ref (ad 25), .ref (ad 26), .int (zI mla)])), zA cI (ad 0) 6 mW, zA cI (ad 1) 6 mH, zA cI (ad 2) 576 mC]) [0, 1, 2, 3] (by decide) rfl
        have hFc := va_free (wc := [(mo, .inr (6, [.ref (ad 0), .ref (ad 1), .ref (ad 2), .ref (ad 3), .ref (ad 4), .ref (ad 5), .ref (ad 6), .ref (ad 7), .ref (ad 8), .int (zI mn), .ref (ad 10), .ref (ad 11), .int (zI mp), .int (zI mon), .int (zI mrx), .int (zI mry), .int (zI mrl), .int (zI mrs), .int (zI mrf), .ref (ad 19), .int (zI mx), .int (zI my), .int (zI l2), .int (zI mst), .ref (ad 24), .ref (ad 25), .ref (ad 26), .int (zI mla)])), zA cI (ad 0) 6 mW, zA cI (ad 1) 6 mH, zA cI (ad 2) 576 mC]) hD hS hA [0, 1, 2, 3] rfl
        refine va_calli (va_runV (As := [.int (zI L), .int (zI (mx + by9)), .int (zI my)]) (rest := [.int (zI mx), .ref mo]) ⟨hx, hb, hml, hown, hts⟩ (c_X6_isFree l dC dI cI cZ cL cT cJ H.size mo ad mn mp mon mrx mry mrl mrs mrf mx my l2 mst mla mW mH mC L (mx + by9) my (by first | assumption | omega) (by first | assumption | omega) (by first | assumption | omega) (by first | assumption | omega) (by first | assumption | omega) (by first | assumption | omega) (by first | assumption | omega) (by first | assumption | omega)) (cwV 3 hts gX6_frame_X6_isFree rfl rfl rfl (by decide +kernel) ⟨Nat.le_of_ble_eq_true rfl, Nat.le_of_ble_eq_true rfl⟩) ⟨zP_blind, va_recv hK hPc (ci := 6) (q0 := 0) rfl rfl, zP_pre hPc hDc hK⟩ rfl rfl hl.1 rfl (lv_room (Nat.le_of_ble_eq_true rfl)) dX6_frame_79 ⟨Nat.le_of_ble_eq_true rfl, Nat.le_of_ble_eq_true rfl⟩) hS (fun q _ h => hFc q h) hFc (fun r_28 u_28 t H1 locs ht hvm hw hB hz1 hk1 hS => ?_)
        obtain ⟨r_29, rfl⟩ : ∃ z, z = u_28 := ⟨_, rfl⟩
        obtain ⟨hP1, hK1, hD1⟩ := hB
        rw [ht] at hP1
        have hP1 : va_P (dC, dI) vwCl [(mo, .inr (6, [.ref (ad 0), .ref (ad 1), .ref (ad 2), .ref (ad 3), .ref (ad 4), .ref (ad 5), .ref (ad 6), .ref (ad 7), .ref (ad 8), .int (zI mn), .ref (ad 10), .ref (ad 11), .int (zI mp), .int (zI mon), .int (zI mrx), .int (zI mry), .int (zI mrl), .int (zI mrs), .int (zI mrf), .ref (ad 19), .int (zI mx), .int (zI my), .int (zI l2), .int (zI mst), .ref (ad 24), .ref (ad 25), .ref (ad 26), .int (zI mla)])), zA cI (ad 0) 6 mW, zA cI (ad 1) 6 mH, zA cI (ad 2) 576 mC] H1 := hP1
        obtain ⟨hP, hD⟩ := va_join (wr := [zA cI (ad 5) 6 mFX, zA cI (ad 6) 6 mFY]) (w1 := [(mo, .inr (6, [.ref (ad 0), .ref (ad 1), .ref (ad 2), .ref (ad 3), .ref (ad 4), .ref (ad 5), .ref (ad 6), .ref (ad 7), .ref (ad 8), .int (zI mn), .ref (ad 10), .ref (ad 11), .int (zI mp), .int (zI mon), .int (zI mrx), .int (zI mry), .int (zI mrl), .int (zI mrs), .int (zI mrf), .ref (ad 19), .int (zI mx), .int (zI my), .int (zI l2), .int (zI mst), .ref (ad 24), .ref (ad 25), .ref (ad 26), .int (zI mla)])), zA cI (ad 0) 6 mW, zA cI (ad 1) 6 mH, zA cI (ad 2) 576 mC]) hP hD [0, 1, 2, 3] [4, 5] rfl rfl (by decide) (by decide) hk1 hFc hP1 hD1
        clear hP1 hD1 hk1 hFc hPc hDc hz1
        generalize H1 = H at hP hS ⊢
        have hP : va_P (dC, dI) vwCl [(mo, .inr (6, [.ref (ad 0), .ref (ad 1), .ref (ad 2), .ref (ad 3), .ref (ad 4), .ref (ad 5), .ref (ad 6), .ref (ad 7), .ref (ad 8), .int (zI mn), .ref (ad 10), .ref (ad 11), .int (zI mp), .int (zI mon), .int (zI mrx), .int (zI mry), .int (zI mrl), .int (zI mrs), .int (zI mrf), .ref (ad 19), .int (zI mx), .int (zI my), .int (zI l2), .int (zI mst), .ref (ad 24), .ref (ad 25), .ref (ad 26), .int (zI mla)])), zA cI (ad 0) 6 mW, zA cI (ad 1) 6 mH, zA cI (ad 2) 576 mC, zA cI (ad 5) 6 mFX, zA cI (ad 6) 6 mFY] H := hP.sub [2, 3, 4, 5, 0, 1] rfl
        have hD : va_D A [(mo, .inr (6, [.ref (ad 0), .ref (ad 1), .ref (ad 2), .ref (ad 3), .ref (ad 4), .ref (ad 5), .ref (ad 6), .ref (ad 7), .ref (ad 8), .int (zI mn), .ref (ad 10), .ref (ad 11), .int (zI mp), .int (zI mon), .int (zI mrx), .int (zI mry), .int (zI mrl), .int (zI mrs), .int (zI mrf), .ref (ad 19), .int (zI mx), .int (zI my), .int (zI l2), .int (zI mst), .ref (ad 24), .ref (ad 25), .ref (ad 26), .int (zI mla)])), zA cI (ad 0) 6 mW, zA cI (ad 1) 6 mH, zA cI (ad 2) 576 mC, zA cI (ad 5) 6 mFX, zA cI (ad 6) 6 mFY] := hD.sub [2, 3, 4, 5, 0, 1] (by decide) rfl
        clear hK1 hvm
        obtain ⟨rfl, po_30⟩ := hw
        have po_30 : (r_29 = 1 ∧ ¬ kd (Kof mC L) (mW L) (mH L) (mx + by9) my = -1 ∧ ¬ kd (Kof mC L) (mW L) (mH L) (mx + by9) my = 1) ∨ (r_29 = 0 ∧ (kd (Kof mC L) (mW L) (mH L) (mx + by9) my = -1 ∨ kd (Kof mC L) (mW L) (mH L) (mx + by9) my = 1)) := po_30
        refine W.eq (g2 := F0 m 82 ls [.int (zI r_29), .int (zI mx), .ref mo]) rfl ?_
        refine lz_if_eq (tgt := 89) hx hb dX6_frame_82 (by decide) (by omega) (fun c_31 => ?_) (fun c_31 => ?_)
        ·
          refine lv_iconst (v := zI 0) hx hb dX6_frame_89 (rfl) ?_
          exact J_26 0 _ _ _ ⟨(by (rw [wk_by, ← hby]; first | (rw [if_pos (by omega)]; omega) | rw [if_neg (by omega)] | (have e9 : by9 = 0 := (by omega); rw [e9]; simp))), (by (have e9 := wk_rng (K := Kof mC L) (w := mW L) (h := mH L) (x := mx) (y := my) (i := i) (by omega); rw [wk_by, ← hby] at e9; first | (rw [if_pos (by omega)] at e9; omega) | (rw [if_neg (by omega)] at e9; omega) | omega)), hP, hD, hS, lv_sub hl [1, 2, 3, 0] rfl⟩
        ·
          refine lv_iload_n hx hb dX6_frame_85 rfl (lv_at hl 0 rfl) ?_
          refine lv_goto (tgt := 90) hx hb dX6_frame_86 (by decide) ?_
          exact J_26 by9 _ _ _ ⟨(by (rw [wk_by, ← hby]; first | (rw [if_pos (by omega)]; omega) | rw [if_neg (by omega)] | (have e9 : by9 = 0 := (by omega); rw [e9]; simp))), (by (have e9 := wk_rng (K := Kof mC L) (w := mW L) (h := mH L) (x := mx) (y := my) (i := i) (by omega); rw [wk_by, ← hby] at e9; first | (rw [if_pos (by omega)] at e9; omega) | (rw [if_neg (by omega)] at e9; omega) | omega)), hP, hD, hS, lv_sub hl [1, 2, 3, 0] rfl⟩
    intro J_32
    refine lv_iconst (v := zI 1) hx hb dX6_frame_29 (rfl) ?_
    refine lz_icmp_eq (tgt := 38) hx hb dX6_frame_30 (by decide) (by omega) ⟨by decide, by decide⟩ (fun c_33 => ?_) (fun c_33 => ?_)
    ·
      refine lv_iconst (v := zI (-1)) hx hb dX6_frame_38 (rfl) ?_
      refine lv_goto (tgt := 57) hx hb dX6_frame_39 (by decide) ?_
      exact J_32 (-1) _ _ _ ⟨(by (unfold byF; first | rw [if_pos (by omega)] | rw [if_neg (by omega), if_pos (by omega)] | rw [if_neg (by omega), if_neg (by omega)])), (by omega), hP, hD, hS, lv_sub hl [0, 1, 2] rfl⟩
    ·
      refine lv_iload_n hx hb dX6_frame_33 rfl (lv_at hl 2 rfl) ?_
      refine lv_iconst (v := zI 4) hx hb dX6_frame_34 (rfl) ?_
      refine lz_icmp_ne (tgt := 42) hx hb dX6_frame_35 (by decide) (by omega) ⟨by decide, by decide⟩ (fun c_34 => ?_) (fun c_34 => ?_)
      ·
        refine lv_iload_n hx hb dX6_frame_42 rfl (lv_at hl 2 rfl) ?_
        refine lv_iconst (v := zI 2) hx hb dX6_frame_43 (rfl) ?_
        refine lz_icmp_eq (tgt := 52) hx hb dX6_frame_44 (by decide) (by omega) ⟨by decide, by decide⟩ (fun c_35 => ?_) (fun c_35 => ?_)
        ·
          refine lv_iconst (v := zI 1) hx hb dX6_frame_52 (rfl) ?_
          refine lv_goto (tgt := 57) hx hb dX6_frame_53 (by decide) ?_
          exact J_32 1 _ _ _ ⟨(by (unfold byF; first | rw [if_pos (by omega)] | rw [if_neg (by omega), if_pos (by omega)] | rw [if_neg (by omega), if_neg (by omega)])), (by omega), hP, hD, hS, lv_sub hl [0, 1, 2] rfl⟩
        ·
          refine lv_iload_n hx hb dX6_frame_47 rfl (lv_at hl 2 rfl) ?_
          refine lv_iconst (v := zI 5) hx hb dX6_frame_48 (rfl) ?_
          refine lz_icmp_ne (tgt := 56) hx hb dX6_frame_49 (by decide) (by omega) ⟨by decide, by decide⟩ (fun c_36 => ?_) (fun c_36 => ?_)
          ·
            refine lv_iconst (v := zI 0) hx hb dX6_frame_56 (rfl) ?_
            exact J_32 0 _ _ _ ⟨(by (unfold byF; first | rw [if_pos (by omega)] | rw [if_neg (by omega), if_pos (by omega)] | rw [if_neg (by omega), if_neg (by omega)])), (by omega), hP, hD, hS, lv_sub hl [0, 1, 2] rfl⟩
          ·
            refine lv_iconst (v := zI 1) hx hb dX6_frame_52 (rfl) ?_
            refine lv_goto (tgt := 57) hx hb dX6_frame_53 (by decide) ?_
            exact J_32 1 _ _ _ ⟨(by (unfold byF; first | rw [if_pos (by omega)] | rw [if_neg (by omega), if_pos (by omega)] | rw [if_neg (by omega), if_neg (by omega)])), (by omega), hP, hD, hS, lv_sub hl [0, 1, 2] rfl⟩
      ·
        refine lv_iconst (v := zI (-1)) hx hb dX6_frame_38 (rfl) ?_
        refine lv_goto (tgt := 57) hx hb dX6_frame_39 (by decide) ?_
        exact J_32 (-1) _ _ _ ⟨(by (unfold byF; first | rw [if_pos (by omega)] | rw [if_neg (by omega), if_pos (by omega)] | rw [if_neg (by omega), if_neg (by omega)])), (by omega), hP, hD, hS, lv_sub hl [0, 1, 2] rfl⟩
  intro J_37
  refine lv_iload_n hx hb dX6_frame_0 rfl (lv_at hl 2 rfl) ?_
  refine lv_iconst (v := zI 3) hx hb dX6_frame_1 (rfl) ?_
  refine lz_icmp_lt (tgt := 28) hx hb dX6_frame_2 (by decide) (by omega) ⟨by decide, by decide⟩ (fun c_38 => ?_) (fun c_38 => ?_)
  ·
    exact J_37 ml _ _ _ ⟨(by (rw [juL, if_neg (by omega)])), (by omega), hP, hD, hS, lv_sub hl [0, 1, 2] rfl⟩
  ·
    refine lv_aload_n hx hb dX6_frame_5 rfl (lv_at hl 0 rfl) ?_
    refine lv_iload_n hx hb dX6_frame_6 rfl (lv_at hl 1 rfl) ?_
    refine lv_aload_n hx hb dX6_frame_7 rfl (lv_at hl 0 rfl) ?_
    refine va_get (D := (dC, dI)) (ci := 6) (v := .int (zI mx)) (C := RX6) (T := TX6) (N := 28) hx hb hts i_6 hown hK hP 0 rfl rfl 20 (by decide) f_81 (fun _ h9 => h9) rfl dX6_frame_8 ?_
    refine lv_aload_n hx hb dX6_frame_11 rfl (lv_at hl 0 rfl) ?_
    refine va_get (D := (dC, dI)) (ci := 6) (v := .int (zI my)) (C := RX6) (T := TX6) (N := 28) hx hb hts i_6 hown hK hP 0 rfl rfl 21 (by decide) f_84 (fun _ h9 => h9) rfl dX6_frame_12 ?_
    refine lv_iconst (v := zI 1) hx hb dX6_frame_15 (rfl) ?_
    refine lz_iadd (z := my + 1) hx hb dX6_frame_16 (by rfl) ?_
    have hPc := hP.sub (ws' := [(mo, .inr (6, [.ref (ad 0), .ref (ad 1), .ref (ad 2), .ref (ad 3), .ref (ad 4), .ref (ad 5), .ref (ad 6), .ref (ad 7), .ref (ad 8), .int (zI mn), .ref (ad 10), .ref (ad 11), .int (zI mp), .int (zI mon), .int (zI mrx), .int (zI mry), .int (zI mrl), .int (zI mrs), .int (zI mrf), .ref (ad 19), .int (zI mx), .int (zI my), .int (zI ml), .int (zI mst), .ref (ad 24), .ref (ad 25), .ref (ad 26), .int (zI mla)])), zA cI (ad 0) 6 mW, zA cI (ad 1) 6 mH, zA cI (ad 2) 576 mC]) [0, 1, 2, 3] rfl
    have hDc := hD.sub (ws' := [(mo, .inr (6, [.ref (ad 0), .ref (ad 1), .ref (ad 2), .ref (ad 3), .ref (ad 4), .ref (ad 5), .ref (ad 6), .ref (ad 7), .ref (ad 8), .int (zI mn), .ref (ad 10), .ref (ad 11), .int (zI mp), .int (zI mon), .int (zI mrx), .int (zI mry), .int (zI mrl), .int (zI mrs), .int (zI mrf), .ref (ad 19), .int (zI mx), .int (zI my), .int (zI ml), .int (zI mst), .ref (ad 24), .ref (ad 25), .ref (ad 26), .int (zI mla)])), zA cI (ad 0) 6 mW, zA cI (ad 1) 6 mH, zA cI (ad 2) 576 mC]) [0, 1, 2, 3] (by decide) rfl
    have hFc := va_free (wc := [(mo, .inr (6, [.ref (ad 0), .ref (ad 1), .ref (ad 2), .ref (ad 3), .ref (ad 4), .ref (ad 5), .ref (ad 6), .ref (ad 7), .ref (ad 8), .int (zI mn), .ref (ad 10), .ref (ad 11), .int (zI mp), .int (zI mon), .int (zI mrx), .int (zI mry), .int (zI mrl), .int (zI mrs), .int (zI mrf), .ref (ad 19), .int (zI mx), .int (zI my), .int (zI ml), .int (zI mst), .ref (ad 24), .ref (ad 25), .ref (ad 26), .int (zI mla)])), zA cI (ad 0) 6 mW, zA cI (ad 1) 6 mH, zA cI (ad 2) 576 mC]) hD hS hA [0, 1, 2, 3] rfl
    refine va_calli (va_runV (As := [.int (zI L), .int (zI mx), .int (zI (my + 1))]) (rest := []) ⟨hx, hb, hml, hown, hts⟩ (c_X6_isBlock l dC dI cI cZ cL cT cJ s.heap.size mo ad mn mp mon mrx mry mrl mrs mrf mx my ml mst mla mW mH mC L mx (my + 1) (by first | assumption | omega) (by first | assumption | omega) (by first | assumption | omega) (by first | assumption | omega) (by first | assumption | omega) (by first | assumption | omega) (by first | assumption | omega) (by first | assumption | omega)) (cwV 3 hts gX6_frame_X6_isBlock rfl rfl rfl (by decide +kernel) ⟨Nat.le_of_ble_eq_true rfl, Nat.le_of_ble_eq_true rfl⟩) ⟨zP_blind, va_recv hK hPc (ci := 6) (q0 := 0) rfl rfl, zP_pre hPc hDc hK⟩ rfl rfl hl.1 rfl (lv_room (Nat.le_of_ble_eq_true rfl)) dX6_frame_17 ⟨Nat.le_of_ble_eq_true rfl, Nat.le_of_ble_eq_true rfl⟩) hS (fun q _ h => hFc q h) hFc (fun r_39 u_39 t H1 locs ht hvm hw hB hz1 hk1 hS => ?_)
    obtain ⟨r_40, rfl⟩ : ∃ z, z = u_39 := ⟨_, rfl⟩
    obtain ⟨hP1, hK1, hD1⟩ := hB
    rw [ht] at hP1
    have hP1 : va_P (dC, dI) vwCl [(mo, .inr (6, [.ref (ad 0), .ref (ad 1), .ref (ad 2), .ref (ad 3), .ref (ad 4), .ref (ad 5), .ref (ad 6), .ref (ad 7), .ref (ad 8), .int (zI mn), .ref (ad 10), .ref (ad 11), .int (zI mp), .int (zI mon), .int (zI mrx), .int (zI mry), .int (zI mrl), .int (zI mrs), .int (zI mrf), .ref (ad 19), .int (zI mx), .int (zI my), .int (zI ml), .int (zI mst), .ref (ad 24), .ref (ad 25), .ref (ad 26), .int (zI mla)])), zA cI (ad 0) 6 mW, zA cI (ad 1) 6 mH, zA cI (ad 2) 576 mC] H1 := hP1
    obtain ⟨hP, hD⟩ := va_join (wr := [zA cI (ad 5) 6 mFX, zA cI (ad 6) 6 mFY]) (w1 := [(mo, .inr (6, [.ref (ad 0), .ref (ad 1), .ref (ad 2), .ref (ad 3), .ref (ad 4), .ref (ad 5), .ref (ad 6), .ref (ad 7), .ref (ad 8), .int (zI mn), .ref (ad 10), .ref (ad 11), .int (zI mp), .int (zI mon), .int (zI mrx), .int (zI mry), .int (zI mrl), .int (zI mrs), .int (zI mrf), .ref (ad 19), .int (zI mx), .int (zI my), .int (zI ml), .int (zI mst), .ref (ad 24), .ref (ad 25), .ref (ad 26), .int (zI mla)])), zA cI (ad 0) 6 mW, zA cI (ad 1) 6 mH, zA cI (ad 2) 576 mC]) hP hD [0, 1, 2, 3] [4, 5] rfl rfl (by decide) (by decide) hk1 hFc hP1 hD1
    clear hP1 hD1 hk1 hFc hPc hDc hz1
    generalize H1 = H at hP hS ⊢
    have hP : va_P (dC, dI) vwCl [(mo, .inr (6, [.ref (ad 0), .ref (ad 1), .ref (ad 2), .ref (ad 3), .ref (ad 4), .ref (ad 5), .ref (ad 6), .ref (ad 7), .ref (ad 8), .int (zI mn), .ref (ad 10), .ref (ad 11), .int (zI mp), .int (zI mon), .int (zI mrx), .int (zI mry), .int (zI mrl), .int (zI mrs), .int (zI mrf), .ref (ad 19), .int (zI mx), .int (zI my), .int (zI ml), .int (zI mst), .ref (ad 24), .ref (ad 25), .ref (ad 26), .int (zI mla)])), zA cI (ad 0) 6 mW, zA cI (ad 1) 6 mH, zA cI (ad 2) 576 mC, zA cI (ad 5) 6 mFX, zA cI (ad 6) 6 mFY] H := hP.sub [2, 3, 4, 5, 0, 1] rfl
    have hD : va_D A [(mo, .inr (6, [.ref (ad 0), .ref (ad 1), .ref (ad 2), .ref (ad 3), .ref (ad 4), .ref (ad 5), .ref (ad 6), .ref (ad 7), .ref (ad 8), .int (zI mn), .ref (ad 10), .ref (ad 11), .int (zI mp), .int (zI mon), .int (zI mrx), .int (zI mry), .int (zI mrl), .int (zI mrs), .int (zI mrf), .ref (ad 19), .int (zI mx), .int (zI my), .int (zI ml), .int (zI mst), .ref (ad 24), .ref (ad 25), .ref (ad 26), .int (zI mla)])), zA cI (ad 0) 6 mW, zA cI (ad 1) 6 mH, zA cI (ad 2) 576 mC, zA cI (ad 5) 6 mFX, zA cI (ad 6) 6 mFY] := hD.sub [2, 3, 4, 5, 0, 1] (by decide) rfl
    clear hK1 hvm
    obtain ⟨rfl, po_41⟩ := hw
    have po_41 : (r_40 = 1 ∧ kd (Kof mC L) (mW L) (mH L) mx (my + 1) = 1) ∨ (r_40 = 0 ∧ ¬ kd (Kof mC L) (mW L) (mH L) mx (my + 1) = 1) := po_41
    refine W.eq (g2 := F0 m 20 ls [.int (zI r_40)]) rfl ?_
    refine lz_if_eq (tgt := 28) hx hb dX6_frame_20 (by decide) (by omega) (fun c_42 => ?_) (fun c_42 => ?_)
    ·
      exact J_37 ml _ _ _ ⟨(by (first | rw [juL, if_neg (by omega)] | rw [juL, if_pos (by omega)])), (by omega), hP, hD, hS, lv_sub hl [0, 1, 2] rfl⟩
    ·
      refine lv_aload_n hx hb dX6_frame_23 rfl (lv_at hl 0 rfl) ?_
      refine lv_iconst (v := zI 2) hx hb dX6_frame_24 (rfl) ?_
      refine va_put (D := (dC, dI)) (ci := 6) (v := .int (zI 2)) (ty := .int) (C := RX6) (T := TX6) (N := 28) hx hb hts i_6 tyX6 tyX6_ok nmX6 hown hK hP hD hS 0 rfl rfl 22 (by decide) f_87 (fun _ h9 => h9) rfl (by decide +kernel) rfl rfl (Nat.le_of_ble_eq_true rfl) dX6_frame_25 (fun H locs hP hD hS => ?_)
      have hP : va_P (dC, dI) vwCl [(mo, .inr (6, [.ref (ad 0), .ref (ad 1), .ref (ad 2), .ref (ad 3), .ref (ad 4), .ref (ad 5), .ref (ad 6), .ref (ad 7), .ref (ad 8), .int (zI mn), .ref (ad 10), .ref (ad 11), .int (zI mp), .int (zI mon), .int (zI mrx), .int (zI mry), .int (zI mrl), .int (zI mrs), .int (zI mrf), .ref (ad 19), .int (zI mx), .int (zI my), .int (zI 2), .int (zI mst), .ref (ad 24), .ref (ad 25), .ref (ad 26), .int (zI mla)])), zA cI (ad 0) 6 mW, zA cI (ad 1) 6 mH, zA cI (ad 2) 576 mC, zA cI (ad 5) 6 mFX, zA cI (ad 6) 6 mFY] H := hP
      have hD : va_D A [(mo, .inr (6, [.ref (ad 0), .ref (ad 1), .ref (ad 2), .ref (ad 3), .ref (ad 4), .ref (ad 5), .ref (ad 6), .ref (ad 7), .ref (ad 8), .int (zI mn), .ref (ad 10), .ref (ad 11), .int (zI mp), .int (zI mon), .int (zI mrx), .int (zI mry), .int (zI mrl), .int (zI mrs), .int (zI mrf), .ref (ad 19), .int (zI mx), .int (zI my), .int (zI 2), .int (zI mst), .ref (ad 24), .ref (ad 25), .ref (ad 26), .int (zI mla)])), zA cI (ad 0) 6 mW, zA cI (ad 1) 6 mH, zA cI (ad 2) 576 mC, zA cI (ad 5) 6 mFX, zA cI (ad 6) 6 mFY] := hD
      exact J_37 2 _ _ _ ⟨(by (first | rw [juL, if_neg (by omega)] | rw [juL, if_pos (by omega)])), (by omega), hP, hD, hS, lv_sub hl [0, 1, 2] rfl⟩
set_option maxHeartbeats 4000000 in
set_option maxRecDepth 100000 in
theorem c_X6_least (l : Launch) (dC : Nat → ClassId) (dI : Nat → Nat → Nat) (cI cZ cL cT cJ : ClassId) (sz : Nat) (mo : Nat) (ad : Nat → Nat) (mn : Int) (mp : Int) (mon : Int) (mrx : Int) (mry : Int) (mrl : Int) (mrs : Int) (mrf : Int) (mx : Int) (my : Int) (ml : Int) (mst : Int) (mla : Int) (mW : Int → Int) (mH : Int → Int) (mC : Int → Int) (mFX : Int → Int) (mFY : Int → Int) (mSE : Int → Int) (mHE : Int → Int) (mNE : Int → Int) (L : Int) (cx : Int) (cy : Int) (li : Int) (mm : Int) (gn : 0 ≤ mn ∧ mn ≤ 6) (gW : ∀ i, 0 ≤ i → i < mn → 2 ≤ mW i ∧ mW i ≤ 12) (gH : ∀ i, 0 ≤ i → i < mn → 2 ≤ mH i ∧ mH i ≤ 8) (gC : Kin mC) (gv : 0 ≤ L ∧ L < mn) (gx : 0 ≤ cx ∧ cx < mW L) (gy : 0 ≤ cy ∧ cy < mH L) (gl : 0 ≤ li ∧ li ≤ 4) (gfx : Z32 mFX) (gfy : Z32 mFY) (gm : 0 ≤ mm ∧ mm ≤ 100) (gS : B01 mSE) (r9L : -2147483648 ≤ L ∧ L < 2147483648) : Met l yX6_least wsX6_least ({ frames := 5, cells := 0, slots := 0, locals := 113 }) (zP (dC, dI) (zT cI cZ cL cT cJ) sz [.ref mo, .int (zI L), .int (zI cx), .int (zI cy), .int (zI li), .int (zI mm)] [(mo, .inr (6, [.ref (ad 0), .ref (ad 1), .ref (ad 2), .ref (ad 3), .ref (ad 4), .ref (ad 5), .ref (ad 6), .ref (ad 7), .ref (ad 8), .int (zI mn), .ref (ad 10), .ref (ad 11), .int (zI mp), .int (zI mon), .int (zI mrx), .int (zI mry), .int (zI mrl), .int (zI mrs), .int (zI mrf), .ref (ad 19), .int (zI mx), .int (zI my), .int (zI ml), .int (zI mst), .ref (ad 24), .ref (ad 25), .ref (ad 26), .int (zI mla)])), zA cI (ad 0) 6 mW, zA cI (ad 1) 6 mH, zA cI (ad 2) 576 mC, zA cI (ad 5) 6 mFX, zA cI (ad 6) 6 mFY, zA cZ (ad 24) 480 mSE, zA cI (ad 25) 480 mHE, zA cI (ad 26) 480 mNE]) (va_Qi (fun (r9 : Int32) (u9 : Int × Int × Int × Int × Int × (Int → Int) × (Int → Int) × (Int → Int)) => match u9 with | (r, x1, y1, l1, o1, S1, E1, N1) => r9 = zI r ∧ (B01 S1 ∧ ∃ S0 E0 N0, B01 S0 ∧ (∀ j, 0 ≤ j → j < 480 → S0 j = 0) ∧ r = ltT (Kof mC L) (mW L) (mH L) (mFX L) (mFY L) mm (plc cx cy li) E0 S0 N0)) (zB (dC, dI) (zT cI cZ cL cT cJ) (va_A [(mo, .inr (6, [.ref (ad 0), .ref (ad 1), .ref (ad 2), .ref (ad 3), .ref (ad 4), .ref (ad 5), .ref (ad 6), .ref (ad 7), .ref (ad 8), .int (zI mn), .ref (ad 10), .ref (ad 11), .int (zI mp), .int (zI mon), .int (zI mrx), .int (zI mry), .int (zI mrl), .int (zI mrs), .int (zI mrf), .ref (ad 19), .int (zI mx), .int (zI my), .int (zI ml), .int (zI mst), .ref (ad 24), .ref (ad 25), .ref (ad 26), .int (zI mla)])), zA cI (ad 0) 6 mW, zA cI (ad 1) 6 mH, zA cI (ad 2) 576 mC, zA cI (ad 5) 6 mFX, zA cI (ad 6) 6 mFY, zA cZ (ad 24) 480 mSE, zA cI (ad 25) 480 mHE, zA cI (ad 26) 480 mNE] sz) (fun (u9 : Int × Int × Int × Int × Int × (Int → Int) × (Int → Int) × (Int → Int)) => match u9 with | (r, x1, y1, l1, o1, S1, E1, N1) => [(mo, .inr (6, [.ref (ad 0), .ref (ad 1), .ref (ad 2), .ref (ad 3), .ref (ad 4), .ref (ad 5), .ref (ad 6), .ref (ad 7), .ref (ad 8), .int (zI mn), .ref (ad 10), .ref (ad 11), .int (zI mp), .int (zI mon), .int (zI mrx), .int (zI mry), .int (zI mrl), .int (zI mrs), .int (zI mrf), .ref (ad 19), .int (zI x1), .int (zI y1), .int (zI l1), .int (zI o1), .ref (ad 24), .ref (ad 25), .ref (ad 26), .int (zI mla)])), zA cI (ad 0) 6 mW, zA cI (ad 1) 6 mH, zA cI (ad 2) 576 mC, zA cI (ad 5) 6 mFX, zA cI (ad 6) 6 mFY, zA cZ (ad 24) 480 S1, zA cI (ad 25) 480 E1, zA cI (ad 26) 480 N1])) (va_A [(mo, .inr (6, [.ref (ad 0), .ref (ad 1), .ref (ad 2), .ref (ad 3), .ref (ad 4), .ref (ad 5), .ref (ad 6), .ref (ad 7), .ref (ad 8), .int (zI mn), .ref (ad 10), .ref (ad 11), .int (zI mp), .int (zI mon), .int (zI mrx), .int (zI mry), .int (zI mrl), .int (zI mrs), .int (zI mrf), .ref (ad 19), .int (zI mx), .int (zI my), .int (zI ml), .int (zI mst), .ref (ad 24), .ref (ad 25), .ref (ad 26), .int (zI mla)])), zA cI (ad 0) 6 mW, zA cI (ad 1) 6 mH, zA cI (ad 2) 576 mC, zA cI (ad 5) 6 mFX, zA cI (ad 6) 6 mFY, zA cZ (ad 24) 480 mSE, zA cI (ad 25) 480 mHE, zA cI (ad 26) 480 mNE] sz)) 0 0 (va_A [(mo, .inr (6, [.ref (ad 0), .ref (ad 1), .ref (ad 2), .ref (ad 3), .ref (ad 4), .ref (ad 5), .ref (ad 6), .ref (ad 7), .ref (ad 8), .int (zI mn), .ref (ad 10), .ref (ad 11), .int (zI mp), .int (zI mon), .int (zI mrx), .int (zI mry), .int (zI mrl), .int (zI mrs), .int (zI mrf), .ref (ad 19), .int (zI mx), .int (zI my), .int (zI ml), .int (zI mst), .ref (ad 24), .ref (ad 25), .ref (ad 26), .int (zI mla)])), zA cI (ad 0) 6 mW, zA cI (ad 1) 6 mH, zA cI (ad 2) 576 mC, zA cI (ad 5) 6 mFX, zA cI (ad 6) 6 mFY, zA cZ (ad 24) 480 mSE, zA cI (ad 25) 480 mHE, zA cI (ad 26) 480 mNE] sz) := by
  refine Met.ofW (cc := cX6_least) (maxL := 12) (ret := (some .int)) (by decide) rfl ?_
  intro p e s m args below meth c s₁ B hml hv
  obtain ⟨rfl, hsz, hP, hK, hD0⟩ := hv
  have hx := B.exec
  have hb := B.bytes
  have hr := B.returns
  have hts := atoms_spec (ws := wsX6_least) B.pre
  have hown : s.vm.findClass RX6 = some m.cls := findClass_of_methodNamed B.named
  have hlocks := B.notSynchronized
  subst hsz
  have hD := hD0.self (sz := s.heap.size)
  generalize hAe : va_A [(mo, .inr (6, [.ref (ad 0), .ref (ad 1), .ref (ad 2), .ref (ad 3), .ref (ad 4), .ref (ad 5), .ref (ad 6), .ref (ad 7), .ref (ad 8), .int (zI mn), .ref (ad 10), .ref (ad 11), .int (zI mp), .int (zI mon), .int (zI mrx), .int (zI mry), .int (zI mrl), .int (zI mrs), .int (zI mrf), .ref (ad 19), .int (zI mx), .int (zI my), .int (zI ml), .int (zI mst), .ref (ad 24), .ref (ad 25), .ref (ad 26), .int (zI mla)])), zA cI (ad 0) 6 mW, zA cI (ad 1) 6 mH, zA cI (ad 2) 576 mC, zA cI (ad 5) 6 mFX, zA cI (ad 6) 6 mFY, zA cZ (ad 24) 480 mSE, zA cI (ad 25) 480 mHE, zA cI (ad 26) 480 mNE] s.heap.size = A at hD ⊢
  have hA : ∀ q : Nat, s.heap.size ≤ q → A q := fun q h => by rw [← hAe]; exact Or.inr h
  clear hAe hD0
  have hS : va_S A s.heap s.heap [] := va_S.rf
  have hP : va_P (dC, dI) vwCl [(mo, .inr (6, [.ref (ad 0), .ref (ad 1), .ref (ad 2), .ref (ad 3), .ref (ad 4), .ref (ad 5), .ref (ad 6), .ref (ad 7), .ref (ad 8), .int (zI mn), .ref (ad 10), .ref (ad 11), .int (zI mp), .int (zI mon), .int (zI mrx), .int (zI mry), .int (zI mrl), .int (zI mrs), .int (zI mrf), .ref (ad 19), .int (zI mx), .int (zI my), .int (zI ml), .int (zI mst), .ref (ad 24), .ref (ad 25), .ref (ad 26), .int (zI mla)])), zA cI (ad 0) 6 mW, zA cI (ad 1) 6 mH, zA cI (ad 2) 576 mC, zA cI (ad 5) 6 mFX, zA cI (ad 6) 6 mFY, zA cZ (ad 24) 480 mSE, zA cI (ad 25) 480 mHE, zA cI (ad 26) 480 mNE] s.heap := hP
  have f_51 := hts (.fieldLink RX6 51 "SpringLevelsModel" "seen" "[Z") (by decide +kernel)
  have f_54 := hts (.fieldLink RX6 54 "SpringLevelsModel" "here" "[I") (by decide +kernel)
  have f_57 := hts (.fieldLink RX6 57 "SpringLevelsModel" "next" "[I") (by decide +kernel)
  have f_81 := hts (.fieldLink RX6 81 "SpringLevelsModel" "x" "I") (by decide +kernel)
  have f_84 := hts (.fieldLink RX6 84 "SpringLevelsModel" "y" "I") (by decide +kernel)
  have f_87 := hts (.fieldLink RX6 87 "SpringLevelsModel" "lift" "I") (by decide +kernel)
  have f_90 := hts (.fieldLink RX6 90 "SpringLevelsModel" "state" "I") (by decide +kernel)
  have i_6 : ∀ w ∈ wsX60, w ∈ wsX6_least := by decide +kernel
  have hl := lv_entry ([.ref mo, .int (zI L), .int (zI cx), .int (zI cy), .int (zI li), .int (zI mm)]) (n := 12) (Nat.le_of_ble_eq_true rfl)
  rw [lg_entry_eq]
  generalize (lg_sl ([.ref mo, .int (zI L), .int (zI cx), .int (zI cy), .int (zI li), .int (zI mm)]) ++ List.replicate (12 - (lg_sl ([.ref mo, .int (zI L), .int (zI cx), .int (zI cy), .int (zI li), .int (zI mm)])).length) Slot.unset).toArray = ls at hl ⊢
  have hl : lv_has ls 12 [(0, .ref mo), (1, .int (zI L)), (2, .int (zI cx)), (3, .int (zI cy)), (4, .int (zI li)), (5, .int (zI mm))] := hl
  have gw := gW L gv.1 gv.2
  have gh := gH L gv.1 gv.2
  refine lv_iconst (v := zI 0) hx hb dX6_least_0 (rfl) ?_
  refine lv_istore (lv' := [(6, .int (zI 0)), (0, .ref mo), (1, .int (zI L)), (2, .int (zI cx)), (3, .int (zI cy)), (4, .int (zI li)), (5, .int (zI mm))]) hx hb dX6_least_1 hl (by decide) rfl (fun ls hl => ?_)
  refine z_loop (μ := fun (x9 : Int × (Int → Int)) => match x9 with | (k, S9) => (480 - k).toNat) (I := fun (x9 : Int × (Int → Int)) (H9 : Heap) (k9 : List Loc) (ls9 : Array Slot) => match x9 with | (k, S9) => (0 ≤ k ∧ k ≤ 480) ∧ (B01 S9) ∧ (∀ j, 0 ≤ j → j < k → S9 j = 0) ∧ va_P (dC, dI) vwCl [(mo, .inr (6, [.ref (ad 0), .ref (ad 1), .ref (ad 2), .ref (ad 3), .ref (ad 4), .ref (ad 5), .ref (ad 6), .ref (ad 7), .ref (ad 8), .int (zI mn), .ref (ad 10), .ref (ad 11), .int (zI mp), .int (zI mon), .int (zI mrx), .int (zI mry), .int (zI mrl), .int (zI mrs), .int (zI mrf), .ref (ad 19), .int (zI mx), .int (zI my), .int (zI ml), .int (zI mst), .ref (ad 24), .ref (ad 25), .ref (ad 26), .int (zI mla)])), zA cI (ad 0) 6 mW, zA cI (ad 1) 6 mH, zA cI (ad 2) 576 mC, zA cI (ad 5) 6 mFX, zA cI (ad 6) 6 mFY, zA cZ (ad 24) 480 S9, zA cI (ad 25) 480 mHE, zA cI (ad 26) 480 mNE] H9 ∧ va_D A [(mo, .inr (6, [.ref (ad 0), .ref (ad 1), .ref (ad 2), .ref (ad 3), .ref (ad 4), .ref (ad 5), .ref (ad 6), .ref (ad 7), .ref (ad 8), .int (zI mn), .ref (ad 10), .ref (ad 11), .int (zI mp), .int (zI mon), .int (zI mrx), .int (zI mry), .int (zI mrl), .int (zI mrs), .int (zI mrf), .ref (ad 19), .int (zI mx), .int (zI my), .int (zI ml), .int (zI mst), .ref (ad 24), .ref (ad 25), .ref (ad 26), .int (zI mla)])), zA cI (ad 0) 6 mW, zA cI (ad 1) 6 mH, zA cI (ad 2) 576 mC, zA cI (ad 5) 6 mFX, zA cI (ad 6) 6 mFY, zA cZ (ad 24) 480 S9, zA cI (ad 25) 480 mHE, zA cI (ad 26) 480 mNE] ∧ va_S A s.heap H9 k9 ∧ lv_has ls9 12 [(0, .ref mo), (1, .int (zI L)), (2, .int (zI cx)), (3, .int (zI cy)), (4, .int (zI li)), (5, .int (zI mm)), (6, .int (zI k))]) (fr := fun (x9 : Int × (Int → Int)) (ls9 : Array Slot) => match x9 with | (k, S9) => F0 m 3 ls9 []) ?_ (0, mSE) ⟨(by omega), (by assumption), (by intro j j0 j1; omega), hP, hD, hS, lv_sub hl [1, 2, 3, 4, 5, 6, 0] rfl⟩
  rintro ⟨k, S9⟩ H locs ls ⟨rk, hb9, hc, hP, hD, hS, hl⟩ L_1
  refine W.eq (g2 := F0 m 3 ls []) rfl ?_
  refine lv_iload hx hb dX6_least_3 (lv_at hl 6 rfl) ?_
  refine lv_sipush (v := zI 480) hx hb dX6_least_5 (by decide) ?_
  refine lz_icmp_ge (tgt := 25) hx hb dX6_least_8 (by decide) (by omega) ⟨by decide, by decide⟩ (fun c_2 => ?_) (fun c_2 => ?_)
  ·
    refine lv_iconst (v := zI 1) hx hb dX6_least_25 (rfl) ?_
    refine lv_istore (lv' := [(6, .int (zI 1)), (0, .ref mo), (1, .int (zI L)), (2, .int (zI cx)), (3, .int (zI cy)), (4, .int (zI li)), (5, .int (zI mm))]) hx hb dX6_least_26 hl (by decide) rfl (fun ls hl => ?_)
    have hpl : 5 * (12 * cy + cx) + li = plc cx cy li := by unfold plc; omega
    have vp := vld_plc (w := mW L) (h := mH L) (x := cx) (y := cy) (li := li) (by omega) (by omega) gx gy gl
    refine lv_aload_n hx hb dX6_least_28 rfl (lv_at hl 1 rfl) ?_
    refine va_get (D := (dC, dI)) (ci := 6) (v := .ref (ad 25)) (C := RX6) (T := TX6) (N := 28) hx hb hts i_6 hown hK hP 0 rfl rfl 25 (by decide) f_54 (fun _ h9 => h9) rfl dX6_least_29 ?_
    refine lv_iconst (v := zI 0) hx hb dX6_least_32 (rfl) ?_
    refine lv_iconst (v := zI 5) hx hb dX6_least_33 (rfl) ?_
    refine lv_bipush (v := zI 12) hx hb dX6_least_34 (by decide) ?_
    refine lv_iload_n hx hb dX6_least_36 rfl (lv_at hl 4 rfl) ?_
    refine lz_imul (z := 12 * cy) hx hb dX6_least_37 (by rfl) ?_
    refine lv_iload_n hx hb dX6_least_38 rfl (lv_at hl 3 rfl) ?_
    refine lz_iadd (z := (12 * cy) + cx) hx hb dX6_least_39 (by rfl) ?_
    refine lz_imul (z := 5 * ((12 * cy) + cx)) hx hb dX6_least_40 (by rfl) ?_
    refine lv_iload hx hb dX6_least_41 (lv_at hl 5 rfl) ?_
    refine lz_iadd (z := (5 * ((12 * cy) + cx)) + li) hx hb dX6_least_43 (by rfl) ?_
    refine lz_iast (F := mHE) (i := 0) (v := (5 * ((12 * cy) + cx)) + li) hx hb hK hP hD hS 7 0 rfl rfl (by omega) (by omega) (by decide) dX6_least_44 (fun H locs hP hD hS => ?_)
    have hP : va_P (dC, dI) vwCl [(mo, .inr (6, [.ref (ad 0), .ref (ad 1), .ref (ad 2), .ref (ad 3), .ref (ad 4), .ref (ad 5), .ref (ad 6), .ref (ad 7), .ref (ad 8), .int (zI mn), .ref (ad 10), .ref (ad 11), .int (zI mp), .int (zI mon), .int (zI mrx), .int (zI mry), .int (zI mrl), .int (zI mrs), .int (zI mrf), .ref (ad 19), .int (zI mx), .int (zI my), .int (zI ml), .int (zI mst), .ref (ad 24), .ref (ad 25), .ref (ad 26), .int (zI mla)])), zA cI (ad 0) 6 mW, zA cI (ad 1) 6 mH, zA cI (ad 2) 576 mC, zA cI (ad 5) 6 mFX, zA cI (ad 6) 6 mFY, zA cZ (ad 24) 480 S9, zA cI (ad 25) 480 (zu mHE 0 ((5 * ((12 * cy) + cx)) + li)), zA cI (ad 26) 480 mNE] H := hP
    have hD : va_D A [(mo, .inr (6, [.ref (ad 0), .ref (ad 1), .ref (ad 2), .ref (ad 3), .ref (ad 4), .ref (ad 5), .ref (ad 6), .ref (ad 7), .ref (ad 8), .int (zI mn), .ref (ad 10), .ref (ad 11), .int (zI mp), .int (zI mon), .int (zI mrx), .int (zI mry), .int (zI mrl), .int (zI mrs), .int (zI mrf), .ref (ad 19), .int (zI mx), .int (zI my), .int (zI ml), .int (zI mst), .ref (ad 24), .ref (ad 25), .ref (ad 26), .int (zI mla)])), zA cI (ad 0) 6 mW, zA cI (ad 1) 6 mH, zA cI (ad 2) 576 mC, zA cI (ad 5) 6 mFX, zA cI (ad 6) 6 mFY, zA cZ (ad 24) 480 S9, zA cI (ad 25) 480 (zu mHE 0 ((5 * ((12 * cy) + cx)) + li)), zA cI (ad 26) 480 mNE] := hD
    refine lv_aload_n hx hb dX6_least_45 rfl (lv_at hl 1 rfl) ?_
    refine va_get (D := (dC, dI)) (ci := 6) (v := .ref (ad 24)) (C := RX6) (T := TX6) (N := 28) hx hb hts i_6 hown hK hP 0 rfl rfl 24 (by decide) f_51 (fun _ h9 => h9) rfl dX6_least_46 ?_
    refine lv_aload_n hx hb dX6_least_49 rfl (lv_at hl 1 rfl) ?_
    refine va_get (D := (dC, dI)) (ci := 6) (v := .ref (ad 25)) (C := RX6) (T := TX6) (N := 28) hx hb hts i_6 hown hK hP 0 rfl rfl 25 (by decide) f_54 (fun _ h9 => h9) rfl dX6_least_50 ?_
    refine lv_iconst (v := zI 0) hx hb dX6_least_53 (rfl) ?_
    refine lz_iald (F := zu mHE 0 ((5 * ((12 * cy) + cx)) + li)) (i := 0) hx hb hK hP 7 0 rfl rfl (by omega) (by omega) (by decide) dX6_least_54 ?_
    refine lz_top (show zI ((zu mHE 0 ((5 * ((12 * cy) + cx)) + li)) 0) = zI ((5 * ((12 * cy) + cx)) + li) by rw [zu_same]) ?_
    refine lv_iconst (v := zI 1) hx hb dX6_least_55 (rfl) ?_
    refine lz_zast (F := S9) (i := (5 * ((12 * cy) + cx)) + li) (v := 1) hx hb hK hP hD hS 6 1 rfl rfl (by omega) (by omega) (by decide) (by omega) dX6_least_56 (fun H locs hP hD hS => ?_)
    have hP : va_P (dC, dI) vwCl [(mo, .inr (6, [.ref (ad 0), .ref (ad 1), .ref (ad 2), .ref (ad 3), .ref (ad 4), .ref (ad 5), .ref (ad 6), .ref (ad 7), .ref (ad 8), .int (zI mn), .ref (ad 10), .ref (ad 11), .int (zI mp), .int (zI mon), .int (zI mrx), .int (zI mry), .int (zI mrl), .int (zI mrs), .int (zI mrf), .ref (ad 19), .int (zI mx), .int (zI my), .int (zI ml), .int (zI mst), .ref (ad 24), .ref (ad 25), .ref (ad 26), .int (zI mla)])), zA cI (ad 0) 6 mW, zA cI (ad 1) 6 mH, zA cI (ad 2) 576 mC, zA cI (ad 5) 6 mFX, zA cI (ad 6) 6 mFY, zA cZ (ad 24) 480 (zu S9 ((5 * ((12 * cy) + cx)) + li) 1), zA cI (ad 25) 480 (zu mHE 0 ((5 * ((12 * cy) + cx)) + li)), zA cI (ad 26) 480 mNE] H := hP
    have hD : va_D A [(mo, .inr (6, [.ref (ad 0), .ref (ad 1), .ref (ad 2), .ref (ad 3), .ref (ad 4), .ref (ad 5), .ref (ad 6), .ref (ad 7), .ref (ad 8), .int (zI mn), .ref (ad 10), .ref (ad 11), .int (zI mp), .int (zI mon), .int (zI mrx), .int (zI mry), .int (zI mrl), .int (zI mrs), .int (zI mrf), .ref (ad 19), .int (zI mx), .int (zI my), .int (zI ml), .int (zI mst), .ref (ad 24), .ref (ad 25), .ref (ad 26), .int (zI mla)])), zA cI (ad 0) 6 mW, zA cI (ad 1) 6 mH, zA cI (ad 2) 576 mC, zA cI (ad 5) 6 mFX, zA cI (ad 6) 6 mFY, zA cZ (ad 24) 480 (zu S9 ((5 * ((12 * cy) + cx)) + li) 1), zA cI (ad 25) 480 (zu mHE 0 ((5 * ((12 * cy) + cx)) + li)), zA cI (ad 26) 480 mNE] := hD
    refine lv_iconst (v := zI 1) hx hb dX6_least_57 (rfl) ?_
    refine lv_istore (lv' := [(7, .int (zI 1)), (6, .int (zI 1)), (0, .ref mo), (1, .int (zI L)), (2, .int (zI cx)), (3, .int (zI cy)), (4, .int (zI li)), (5, .int (zI mm))]) hx hb dX6_least_58 hl (by decide) rfl (fun ls hl => ?_)
    refine z_loop (μ := fun (x9 : Int × Int × (Int → Int) × (Int → Int) × (Int → Int) × Int × Int × Int × Int) => match x9 with | (f, mn9, E9, S8, N9, qax, qay, qal, qas) => (mm + 1 - f).toNat) (I := fun (x9 : Int × Int × (Int → Int) × (Int → Int) × (Int → Int) × Int × Int × Int × Int) (H9 : Heap) (k9 : List Loc) (ls9 : Array Slot) => match x9 with | (f, mn9, E9, S8, N9, qax, qay, qal, qas) => (1 ≤ f ∧ f ≤ mm + 1) ∧ (0 ≤ mn9 ∧ mn9 ≤ 480) ∧ (B01 S8) ∧ (∀ k, 0 ≤ k → k < mn9 → vld (mW L) (mH L) (E9 k)) ∧ (ltF (Kof mC L) (mW L) (mH L) (mFX L) (mFY L) (mm + 1 - f).toNat f E9 S8 N9 mn9 = ltT (Kof mC L) (mW L) (mH L) (mFX L) (mFY L) mm (plc cx cy li) mHE S9 mNE) ∧ va_P (dC, dI) vwCl [(mo, .inr (6, [.ref (ad 0), .ref (ad 1), .ref (ad 2), .ref (ad 3), .ref (ad 4), .ref (ad 5), .ref (ad 6), .ref (ad 7), .ref (ad 8), .int (zI mn), .ref (ad 10), .ref (ad 11), .int (zI mp), .int (zI mon), .int (zI mrx), .int (zI mry), .int (zI mrl), .int (zI mrs), .int (zI mrf), .ref (ad 19), .int (zI qax), .int (zI qay), .int (zI qal), .int (zI qas), .ref (ad 24), .ref (ad 25), .ref (ad 26), .int (zI mla)])), zA cI (ad 0) 6 mW, zA cI (ad 1) 6 mH, zA cI (ad 2) 576 mC, zA cI (ad 5) 6 mFX, zA cI (ad 6) 6 mFY, zA cZ (ad 24) 480 S8, zA cI (ad 25) 480 E9, zA cI (ad 26) 480 N9] H9 ∧ va_D A [(mo, .inr (6, [.ref (ad 0), .ref (ad 1), .ref (ad 2), .ref (ad 3), .ref (ad 4), .ref (ad 5), .ref (ad 6), .ref (ad 7), .ref (ad 8), .int (zI mn), .ref (ad 10), .ref (ad 11), .int (zI mp), .int (zI mon), .int (zI mrx), .int (zI mry), .int (zI mrl), .int (zI mrs), .int (zI mrf), .ref (ad 19), .int (zI qax), .int (zI qay), .int (zI qal), .int (zI qas), .ref (ad 24), .ref (ad 25), .ref (ad 26), .int (zI mla)])), zA cI (ad 0) 6 mW, zA cI (ad 1) 6 mH, zA cI (ad 2) 576 mC, zA cI (ad 5) 6 mFX, zA cI (ad 6) 6 mFY, zA cZ (ad 24) 480 S8, zA cI (ad 25) 480 E9, zA cI (ad 26) 480 N9] ∧ va_S A s.heap H9 k9 ∧ lv_has ls9 12 [(0, .ref mo), (1, .int (zI L)), (2, .int (zI cx)), (3, .int (zI cy)), (4, .int (zI li)), (5, .int (zI mm)), (6, .int (zI mn9)), (7, .int (zI f))]) (fr := fun (x9 : Int × Int × (Int → Int) × (Int → Int) × (Int → Int) × Int × Int × Int × Int) (ls9 : Array Slot) => match x9 with | (f, mn9, E9, S8, N9, qax, qay, qal, qas) => F0 m 60 ls9 []) ?_ (1, 1, zu mHE 0 ((5 * ((12 * cy) + cx)) + li), zu S9 ((5 * ((12 * cy) + cx)) + li) 1, mNE, mx, my, ml, mst) ⟨(by omega), (by omega), (by exact B01_zu hb9 (by omega)), (by intro q q0 q1; rw [show q = 0 by omega, zu_same, hpl]; exact vp), (by show _ = ltF (Kof mC L) (mW L) (mH L) (mFX L) (mFY L) mm.toNat 1 (zu mHE 0 (plc cx cy li)) (zu S9 (plc cx cy li) 1) mNE 1; rw [hpl, show (mm + 1 - 1).toNat = mm.toNat by omega]), hP, hD, hS, lv_sub hl [2, 3, 4, 5, 6, 7, 1, 0] rfl⟩
    rintro ⟨f, mn9, E9, S8, N9, qax, qay, qal, qas⟩ H locs ls ⟨rf, rm, hS8, hE, rem, hP, hD, hS, hl⟩ L_3
    refine W.eq (g2 := F0 m 60 ls []) rfl ?_
    refine lv_iload hx hb dX6_least_60 (lv_at hl 7 rfl) ?_
    refine lv_iload hx hb dX6_least_62 (lv_at hl 5 rfl) ?_
    refine lz_icmp_gt (tgt := 272) hx hb dX6_least_64 (by decide) (by omega) (by omega) (fun c_4 => ?_) (fun c_4 => ?_)
    ·
      refine lv_iconst (v := zI (-1)) hx hb dX6_least_272 (rfl) ?_
      have hP9 := hP.sub (ws' := [(mo, .inr (6, [.ref (ad 0), .ref (ad 1), .ref (ad 2), .ref (ad 3), .ref (ad 4), .ref (ad 5), .ref (ad 6), .ref (ad 7), .ref (ad 8), .int (zI mn), .ref (ad 10), .ref (ad 11), .int (zI mp), .int (zI mon), .int (zI mrx), .int (zI mry), .int (zI mrl), .int (zI mrs), .int (zI mrf), .ref (ad 19), .int (zI qax), .int (zI qay), .int (zI qal), .int (zI qas), .ref (ad 24), .ref (ad 25), .ref (ad 26), .int (zI mla)])), zA cI (ad 0) 6 mW, zA cI (ad 1) 6 mH, zA cI (ad 2) 576 mC, zA cI (ad 5) 6 mFX, zA cI (ad 6) 6 mFY, zA cZ (ad 24) 480 S8, zA cI (ad 25) 480 E9, zA cI (ad 26) 480 N9]) [0, 1, 2, 3, 4, 5, 6, 7, 8] rfl
      have hD9 := hD.sub (ws' := [(mo, .inr (6, [.ref (ad 0), .ref (ad 1), .ref (ad 2), .ref (ad 3), .ref (ad 4), .ref (ad 5), .ref (ad 6), .ref (ad 7), .ref (ad 8), .int (zI mn), .ref (ad 10), .ref (ad 11), .int (zI mp), .int (zI mon), .int (zI mrx), .int (zI mry), .int (zI mrl), .int (zI mrs), .int (zI mrf), .ref (ad 19), .int (zI qax), .int (zI qay), .int (zI qal), .int (zI qas), .ref (ad 24), .ref (ad 25), .ref (ad 26), .int (zI mla)])), zA cI (ad 0) 6 mW, zA cI (ad 1) 6 mH, zA cI (ad 2) 576 mC, zA cI (ad 5) 6 mFX, zA cI (ad 6) 6 mFY, zA cZ (ad 24) 480 S8, zA cI (ad 25) 480 E9, zA cI (ad 26) 480 N9]) [0, 1, 2, 3, 4, 5, 6, 7, 8] (by decide) rfl
      have po : zI (-1) = zI (-1 : Int) ∧ (B01 S8 ∧ ∃ S0 E0 N0, B01 S0 ∧ (∀ j, 0 ≤ j → j < 480 → S0 j = 0) ∧ (-1 : Int) = ltT (Kof mC L) (mW L) (mH L) (mFX L) (mFY L) mm (plc cx cy li) E0 S0 N0) := by
        refine ⟨by first | rfl | (congr 1; omega) | (congr 1; simp [*]), ?_⟩
        refine ⟨hS8, S9, mHE, mNE, hb9, fun q q0 q1 => hc q q0 (by omega), ?_⟩
        rw [← rem]
        rcases h9 : (mm + 1 - f).toNat with _ | n9
        · rfl
        · rw [ltF, if_neg (by omega)]
      exact W.iret (v := zI (-1)) hx hb hr (fun t ht hW => ⟨⟨zI (-1), (-1, qax, qay, qal, qas, S8, E9, N9), rfl, po, by rw [ht]; exact hP9, va_K.moved hW.alike hK, hD9⟩, hS.F ht⟩) hS.2.2 dX6_least_273
    ·
      refine lv_iload hx hb dX6_least_67 (lv_at hl 6 rfl) ?_
      refine lz_if_le (tgt := 272) hx hb dX6_least_69 (by decide) (by omega) (fun c_5 => ?_) (fun c_5 => ?_)
      ·
        refine lv_iconst (v := zI (-1)) hx hb dX6_least_272 (rfl) ?_
        have hP9 := hP.sub (ws' := [(mo, .inr (6, [.ref (ad 0), .ref (ad 1), .ref (ad 2), .ref (ad 3), .ref (ad 4), .ref (ad 5), .ref (ad 6), .ref (ad 7), .ref (ad 8), .int (zI mn), .ref (ad 10), .ref (ad 11), .int (zI mp), .int (zI mon), .int (zI mrx), .int (zI mry), .int (zI mrl), .int (zI mrs), .int (zI mrf), .ref (ad 19), .int (zI qax), .int (zI qay), .int (zI qal), .int (zI qas), .ref (ad 24), .ref (ad 25), .ref (ad 26), .int (zI mla)])), zA cI (ad 0) 6 mW, zA cI (ad 1) 6 mH, zA cI (ad 2) 576 mC, zA cI (ad 5) 6 mFX, zA cI (ad 6) 6 mFY, zA cZ (ad 24) 480 S8, zA cI (ad 25) 480 E9, zA cI (ad 26) 480 N9]) [0, 1, 2, 3, 4, 5, 6, 7, 8] rfl
        have hD9 := hD.sub (ws' := [(mo, .inr (6, [.ref (ad 0), .ref (ad 1), .ref (ad 2), .ref (ad 3), .ref (ad 4), .ref (ad 5), .ref (ad 6), .ref (ad 7), .ref (ad 8), .int (zI mn), .ref (ad 10), .ref (ad 11), .int (zI mp), .int (zI mon), .int (zI mrx), .int (zI mry), .int (zI mrl), .int (zI mrs), .int (zI mrf), .ref (ad 19), .int (zI qax), .int (zI qay), .int (zI qal), .int (zI qas), .ref (ad 24), .ref (ad 25), .ref (ad 26), .int (zI mla)])), zA cI (ad 0) 6 mW, zA cI (ad 1) 6 mH, zA cI (ad 2) 576 mC, zA cI (ad 5) 6 mFX, zA cI (ad 6) 6 mFY, zA cZ (ad 24) 480 S8, zA cI (ad 25) 480 E9, zA cI (ad 26) 480 N9]) [0, 1, 2, 3, 4, 5, 6, 7, 8] (by decide) rfl
        have po : zI (-1) = zI (-1 : Int) ∧ (B01 S8 ∧ ∃ S0 E0 N0, B01 S0 ∧ (∀ j, 0 ≤ j → j < 480 → S0 j = 0) ∧ (-1 : Int) = ltT (Kof mC L) (mW L) (mH L) (mFX L) (mFY L) mm (plc cx cy li) E0 S0 N0) := by
          refine ⟨by first | rfl | (congr 1; omega) | (congr 1; simp [*]), ?_⟩
          refine ⟨hS8, S9, mHE, mNE, hb9, fun q q0 q1 => hc q q0 (by omega), ?_⟩
          rw [← rem]
          rcases h9 : (mm + 1 - f).toNat with _ | n9
          · rfl
          · rw [ltF, if_neg (by omega)]
        exact W.iret (v := zI (-1)) hx hb hr (fun t ht hW => ⟨⟨zI (-1), (-1, qax, qay, qal, qas, S8, E9, N9), rfl, po, by rw [ht]; exact hP9, va_K.moved hW.alike hK, hD9⟩, hS.F ht⟩) hS.2.2 dX6_least_273
      ·
        obtain ⟨n6, hn6⟩ : ∃ n, (mm + 1 - f).toNat = n + 1 := ⟨(mm + 1 - f).toNat - 1, by omega⟩
        have hn5 : (mm + 1 - (f + 1)).toNat = n6 := by omega
        rw [hn6, ltF, if_pos (by omega)] at rem
        refine lv_iconst (v := zI 0) hx hb dX6_least_72 (rfl) ?_
        refine lv_istore (lv' := [(8, .int (zI 0)), (0, .ref mo), (1, .int (zI L)), (2, .int (zI cx)), (3, .int (zI cy)), (4, .int (zI li)), (5, .int (zI mm)), (6, .int (zI mn9)), (7, .int (zI f))]) hx hb dX6_least_73 hl (by decide) rfl (fun ls hl => ?_)
        refine lv_iconst (v := zI 0) hx hb dX6_least_75 (rfl) ?_
        refine lv_istore (lv' := [(9, .int (zI 0)), (8, .int (zI 0)), (0, .ref mo), (1, .int (zI L)), (2, .int (zI cx)), (3, .int (zI cy)), (4, .int (zI li)), (5, .int (zI mm)), (6, .int (zI mn9)), (7, .int (zI f))]) hx hb dX6_least_76 hl (by decide) rfl (fun ls hl => ?_)
        refine z_loop (μ := fun (x9 : Int × Int × (Int → Int) × (Int → Int) × Int × Int × Int × Int) => match x9 with | (k, mr9, S7, N8, qbx, qby, qbl, qbs) => (mn9 - k).toNat) (I := fun (x9 : Int × Int × (Int → Int) × (Int → Int) × Int × Int × Int × Int) (H9 : Heap) (k9 : List Loc) (ls9 : Array Slot) => match x9 with | (k, mr9, S7, N8, qbx, qby, qbl, qbs) => (0 ≤ k ∧ k ≤ mn9) ∧ (MOK (mW L) (mH L) S7 N8 mr9) ∧ (ltK (Kof mC L) (mW L) (mH L) (mFX L) (mFY L) E9 (mn9 - k).toNat k S7 N8 mr9 = ltK (Kof mC L) (mW L) (mH L) (mFX L) (mFY L) E9 mn9.toNat 0 S8 N9 0) ∧ va_P (dC, dI) vwCl [(mo, .inr (6, [.ref (ad 0), .ref (ad 1), .ref (ad 2), .ref (ad 3), .ref (ad 4), .ref (ad 5), .ref (ad 6), .ref (ad 7), .ref (ad 8), .int (zI mn), .ref (ad 10), .ref (ad 11), .int (zI mp), .int (zI mon), .int (zI mrx), .int (zI mry), .int (zI mrl), .int (zI mrs), .int (zI mrf), .ref (ad 19), .int (zI qbx), .int (zI qby), .int (zI qbl), .int (zI qbs), .ref (ad 24), .ref (ad 25), .ref (ad 26), .int (zI mla)])), zA cI (ad 0) 6 mW, zA cI (ad 1) 6 mH, zA cI (ad 2) 576 mC, zA cI (ad 5) 6 mFX, zA cI (ad 6) 6 mFY, zA cZ (ad 24) 480 S7, zA cI (ad 25) 480 E9, zA cI (ad 26) 480 N8] H9 ∧ va_D A [(mo, .inr (6, [.ref (ad 0), .ref (ad 1), .ref (ad 2), .ref (ad 3), .ref (ad 4), .ref (ad 5), .ref (ad 6), .ref (ad 7), .ref (ad 8), .int (zI mn), .ref (ad 10), .ref (ad 11), .int (zI mp), .int (zI mon), .int (zI mrx), .int (zI mry), .int (zI mrl), .int (zI mrs), .int (zI mrf), .ref (ad 19), .int (zI qbx), .int (zI qby), .int (zI qbl), .int (zI qbs), .ref (ad 24), .ref (ad 25), .ref (ad 26), .int (zI mla)])), zA cI (ad 0) 6 mW, zA cI (ad 1) 6 mH, zA cI (ad 2) 576 mC, zA cI (ad 5) 6 mFX, zA cI (ad 6) 6 mFY, zA cZ (ad 24) 480 S7, zA cI (ad 25) 480 E9, zA cI (ad 26) 480 N8] ∧ va_S A s.heap H9 k9 ∧ lv_has ls9 12 [(0, .ref mo), (1, .int (zI L)), (2, .int (zI cx)), (3, .int (zI cy)), (4, .int (zI li)), (5, .int (zI mm)), (6, .int (zI mn9)), (7, .int (zI f)), (8, .int (zI mr9)), (9, .int (zI k))]) (fr := fun (x9 : Int × Int × (Int → Int) × (Int → Int) × Int × Int × Int × Int) (ls9 : Array Slot) => match x9 with | (k, mr9, S7, N8, qbx, qby, qbl, qbs) => F0 m 78 ls9 []) ?_ (0, 0, S8, N9, qax, qay, qal, qas) ⟨(by omega), (by exact ⟨hS8, ⟨by omega, (cn_le S8 480).1⟩, fun k k0 k1 => by omega⟩), (by rw [show (mn9 - 0).toNat = mn9.toNat by omega]), hP, hD, hS, lv_sub hl [2, 3, 4, 5, 6, 7, 8, 9, 1, 0] rfl⟩
        rintro ⟨k, mr9, S7, N8, qbx, qby, qbl, qbs⟩ H locs ls ⟨rk2, hMK, rem2, hP, hD, hS, hl⟩ L_6
        refine W.eq (g2 := F0 m 78 ls []) rfl ?_
        refine lv_iload hx hb dX6_least_78 (lv_at hl 9 rfl) ?_
        refine lv_iload hx hb dX6_least_80 (lv_at hl 6 rfl) ?_
        refine lz_icmp_ge (tgt := 232) hx hb dX6_least_82 (by decide) (by omega) (by omega) (fun c_7 => ?_) (fun c_7 => ?_)
        ·
          have c9 := cn_le S7 480
          have c8 := hMK.2.1
          refine lv_iconst (v := zI 0) hx hb dX6_least_232 (rfl) ?_
          refine lv_istore (lv' := [(9, .int (zI 0)), (0, .ref mo), (1, .int (zI L)), (2, .int (zI cx)), (3, .int (zI cy)), (4, .int (zI li)), (5, .int (zI mm)), (6, .int (zI mn9)), (7, .int (zI f)), (8, .int (zI mr9))]) hx hb dX6_least_233 hl (by decide) rfl (fun ls hl => ?_)
          refine z_loop (μ := fun (x9 : Int × (Int → Int)) => match x9 with | (j, E8) => (mr9 - j).toNat) (I := fun (x9 : Int × (Int → Int)) (H9 : Heap) (k9 : List Loc) (ls9 : Array Slot) => match x9 with | (j, E8) => (0 ≤ j ∧ j ≤ mr9) ∧ (E8 = cpE N8 E9 j) ∧ va_P (dC, dI) vwCl [(mo, .inr (6, [.ref (ad 0), .ref (ad 1), .ref (ad 2), .ref (ad 3), .ref (ad 4), .ref (ad 5), .ref (ad 6), .ref (ad 7), .ref (ad 8), .int (zI mn), .ref (ad 10), .ref (ad 11), .int (zI mp), .int (zI mon), .int (zI mrx), .int (zI mry), .int (zI mrl), .int (zI mrs), .int (zI mrf), .ref (ad 19), .int (zI qbx), .int (zI qby), .int (zI qbl), .int (zI qbs), .ref (ad 24), .ref (ad 25), .ref (ad 26), .int (zI mla)])), zA cI (ad 0) 6 mW, zA cI (ad 1) 6 mH, zA cI (ad 2) 576 mC, zA cI (ad 5) 6 mFX, zA cI (ad 6) 6 mFY, zA cZ (ad 24) 480 S7, zA cI (ad 25) 480 E8, zA cI (ad 26) 480 N8] H9 ∧ va_D A [(mo, .inr (6, [.ref (ad 0), .ref (ad 1), .ref (ad 2), .ref (ad 3), .ref (ad 4), .ref (ad 5), .ref (ad 6), .ref (ad 7), .ref (ad 8), .int (zI mn), .ref (ad 10), .ref (ad 11), .int (zI mp), .int (zI mon), .int (zI mrx), .int (zI mry), .int (zI mrl), .int (zI mrs), .int (zI mrf), .ref (ad 19), .int (zI qbx), .int (zI qby), .int (zI qbl), .int (zI qbs), .ref (ad 24), .ref (ad 25), .ref (ad 26), .int (zI mla)])), zA cI (ad 0) 6 mW, zA cI (ad 1) 6 mH, zA cI (ad 2) 576 mC, zA cI (ad 5) 6 mFX, zA cI (ad 6) 6 mFY, zA cZ (ad 24) 480 S7, zA cI (ad 25) 480 E8, zA cI (ad 26) 480 N8] ∧ va_S A s.heap H9 k9 ∧ lv_has ls9 12 [(0, .ref mo), (1, .int (zI L)), (2, .int (zI cx)), (3, .int (zI cy)), (4, .int (zI li)), (5, .int (zI mm)), (6, .int (zI mn9)), (7, .int (zI f)), (8, .int (zI mr9)), (9, .int (zI j))]) (fr := fun (x9 : Int × (Int → Int)) (ls9 : Array Slot) => match x9 with | (j, E8) => F0 m 235 ls9 []) ?_ (0, E9) ⟨(by omega), (by exact cpE_0.symm), hP, hD, hS, lv_sub hl [1, 2, 3, 4, 5, 6, 7, 8, 9, 0] rfl⟩
          rintro ⟨j, E8⟩ H locs ls ⟨rj, hE8, hP, hD, hS, hl⟩ L_8
          refine W.eq (g2 := F0 m 235 ls []) rfl ?_
          refine lv_iload hx hb dX6_least_235 (lv_at hl 9 rfl) ?_
          refine lv_iload hx hb dX6_least_237 (lv_at hl 8 rfl) ?_
          refine lz_icmp_ge (tgt := 262) hx hb dX6_least_239 (by decide) (by omega) (by omega) (fun c_9 => ?_) (fun c_9 => ?_)
          ·
            refine lv_iload hx hb dX6_least_262 (lv_at hl 8 rfl) ?_
            refine lv_istore (lv' := [(6, .int (zI mr9)), (0, .ref mo), (1, .int (zI L)), (2, .int (zI cx)), (3, .int (zI cy)), (4, .int (zI li)), (5, .int (zI mm)), (7, .int (zI f)), (8, .int (zI mr9)), (9, .int (zI j))]) hx hb dX6_least_264 hl (by decide) rfl (fun ls hl => ?_)
            refine lz_iinc (z := f + 1) (lv' := [(7, .int (zI (f + 1))), (6, .int (zI mr9)), (0, .ref mo), (1, .int (zI L)), (2, .int (zI cx)), (3, .int (zI cy)), (4, .int (zI li)), (5, .int (zI mm)), (8, .int (zI mr9)), (9, .int (zI j))]) hx hb dX6_least_266 hl (k := 7) rfl (by omega) (by decide) rfl (fun ls hl => ?_)
            refine lv_goto (tgt := 60) hx hb dX6_least_269 (by decide) ?_
            exact L_3 (f + 1, mr9, E8, S7, N8, qbx, qby, qbl, qbs) _ _ _ (by (try dsimp only); omega) ⟨(by omega), (by omega), (by exact hMK.1), (by intro q q0 q1; rw [hE8, show j = mr9 by omega]; unfold cpE; rw [if_pos ⟨q0, q1⟩]; exact hMK.2.2 q q0 q1), (by rw [hn5]; rw [show (mn9 - k).toNat = 0 by omega, ltK] at rem2; rw [← rem2] at rem; dsimp only at rem; rw [if_neg (by decide)] at rem; rw [hE8, show j = mr9 by omega]; exact rem), hP, hD, hS, lv_sub hl [2, 3, 4, 5, 6, 7, 1, 0] rfl⟩
          ·
            refine lv_aload_n hx hb dX6_least_242 rfl (lv_at hl 0 rfl) ?_
            refine va_get (D := (dC, dI)) (ci := 6) (v := .ref (ad 25)) (C := RX6) (T := TX6) (N := 28) hx hb hts i_6 hown hK hP 0 rfl rfl 25 (by decide) f_54 (fun _ h9 => h9) rfl dX6_least_243 ?_
            refine lv_iload hx hb dX6_least_246 (lv_at hl 9 rfl) ?_
            refine lv_aload_n hx hb dX6_least_248 rfl (lv_at hl 0 rfl) ?_
            refine va_get (D := (dC, dI)) (ci := 6) (v := .ref (ad 26)) (C := RX6) (T := TX6) (N := 28) hx hb hts i_6 hown hK hP 0 rfl rfl 26 (by decide) f_57 (fun _ h9 => h9) rfl dX6_least_249 ?_
            refine lv_iload hx hb dX6_least_252 (lv_at hl 9 rfl) ?_
            refine lz_iald (F := N8) (i := j) hx hb hK hP 8 0 rfl rfl (by omega) (by omega) (by decide) dX6_least_254 ?_
            refine lz_iast (F := E8) (i := j) (v := N8 j) hx hb hK hP hD hS 7 0 rfl rfl (by omega) (by omega) (by decide) dX6_least_255 (fun H locs hP hD hS => ?_)
            have hP : va_P (dC, dI) vwCl [(mo, .inr (6, [.ref (ad 0), .ref (ad 1), .ref (ad 2), .ref (ad 3), .ref (ad 4), .ref (ad 5), .ref (ad 6), .ref (ad 7), .ref (ad 8), .int (zI mn), .ref (ad 10), .ref (ad 11), .int (zI mp), .int (zI mon), .int (zI mrx), .int (zI mry), .int (zI mrl), .int (zI mrs), .int (zI mrf), .ref (ad 19), .int (zI qbx), .int (zI qby), .int (zI qbl), .int (zI qbs), .ref (ad 24), .ref (ad 25), .ref (ad 26), .int (zI mla)])), zA cI (ad 0) 6 mW, zA cI (ad 1) 6 mH, zA cI (ad 2) 576 mC, zA cI (ad 5) 6 mFX, zA cI (ad 6) 6 mFY, zA cZ (ad 24) 480 S7, zA cI (ad 25) 480 (zu E8 j (N8 j)), zA cI (ad 26) 480 N8] H := hP
            have hD : va_D A [(mo, .inr (6, [.ref (ad 0), .ref (ad 1), .ref (ad 2), .ref (ad 3), .ref (ad 4), .ref (ad 5), .ref (ad 6), .ref (ad 7), .ref (ad 8), .int (zI mn), .ref (ad 10), .ref (ad 11), .int (zI mp), .int (zI mon), .int (zI mrx), .int (zI mry), .int (zI mrl), .int (zI mrs), .int (zI mrf), .ref (ad 19), .int (zI qbx), .int (zI qby), .int (zI qbl), .int (zI qbs), .ref (ad 24), .ref (ad 25), .ref (ad 26), .int (zI mla)])), zA cI (ad 0) 6 mW, zA cI (ad 1) 6 mH, zA cI (ad 2) 576 mC, zA cI (ad 5) 6 mFX, zA cI (ad 6) 6 mFY, zA cZ (ad 24) 480 S7, zA cI (ad 25) 480 (zu E8 j (N8 j)), zA cI (ad 26) 480 N8] := hD
            refine lz_iinc (z := j + 1) (lv' := [(9, .int (zI (j + 1))), (0, .ref mo), (1, .int (zI L)), (2, .int (zI cx)), (3, .int (zI cy)), (4, .int (zI li)), (5, .int (zI mm)), (6, .int (zI mn9)), (7, .int (zI f)), (8, .int (zI mr9))]) hx hb dX6_least_256 hl (k := 9) rfl (by omega) (by decide) rfl (fun ls hl => ?_)
            refine lv_goto (tgt := 235) hx hb dX6_least_259 (by decide) ?_
            exact L_8 (j + 1, zu E8 j (N8 j)) _ _ _ (by (try dsimp only); omega) ⟨(by omega), (by (rw [hE8]; exact cpE_step rj.1)), hP, hD, hS, lv_sub hl [1, 2, 3, 4, 5, 6, 7, 8, 9, 0] rfl⟩
        ·
          obtain ⟨n4, hn4⟩ : ∃ n, (mn9 - k).toNat = n + 1 := ⟨(mn9 - k).toNat - 1, by omega⟩
          have hn3 : (mn9 - (k + 1)).toNat = n4 := by omega
          rw [hn4, ltK] at rem2
          obtain ⟨vq1, vq2, vq3, vq4⟩ := hE k (by omega) (by omega)
          refine lv_iconst (v := zI 0) hx hb dX6_least_85 (rfl) ?_
          refine lv_istore (lv' := [(10, .int (zI 0)), (0, .ref mo), (1, .int (zI L)), (2, .int (zI cx)), (3, .int (zI cy)), (4, .int (zI li)), (5, .int (zI mm)), (6, .int (zI mn9)), (7, .int (zI f)), (8, .int (zI mr9)), (9, .int (zI k))]) hx hb dX6_least_86 hl (by decide) rfl (fun ls hl => ?_)
          refine z_loop (μ := fun (x9 : Int × Int × (Int → Int) × (Int → Int) × Int × Int × Int × Int) => match x9 with | (i, mr8, S6, N7, qcx, qcy, qcl, qcs) => (6 - i).toNat) (I := fun (x9 : Int × Int × (Int → Int) × (Int → Int) × Int × Int × Int × Int) (H9 : Heap) (k9 : List Loc) (ls9 : Array Slot) => match x9 with | (i, mr8, S6, N7, qcx, qcy, qcl, qcs) => (0 ≤ i ∧ i ≤ 6) ∧ (MOK (mW L) (mH L) S6 N7 mr8) ∧ (ltI (Kof mC L) (mW L) (mH L) (mFX L) (mFY L) (E9 k / 5 % 12) (E9 k / 5 / 12) (E9 k % 5) (6 - i).toNat i S6 N7 mr8 = ltI (Kof mC L) (mW L) (mH L) (mFX L) (mFY L) (E9 k / 5 % 12) (E9 k / 5 / 12) (E9 k % 5) 6 0 S7 N8 mr9) ∧ va_P (dC, dI) vwCl [(mo, .inr (6, [.ref (ad 0), .ref (ad 1), .ref (ad 2), .ref (ad 3), .ref (ad 4), .ref (ad 5), .ref (ad 6), .ref (ad 7), .ref (ad 8), .int (zI mn), .ref (ad 10), .ref (ad 11), .int (zI mp), .int (zI mon), .int (zI mrx), .int (zI mry), .int (zI mrl), .int (zI mrs), .int (zI mrf), .ref (ad 19), .int (zI qcx), .int (zI qcy), .int (zI qcl), .int (zI qcs), .ref (ad 24), .ref (ad 25), .ref (ad 26), .int (zI mla)])), zA cI (ad 0) 6 mW, zA cI (ad 1) 6 mH, zA cI (ad 2) 576 mC, zA cI (ad 5) 6 mFX, zA cI (ad 6) 6 mFY, zA cZ (ad 24) 480 S6, zA cI (ad 25) 480 E9, zA cI (ad 26) 480 N7] H9 ∧ va_D A [(mo, .inr (6, [.ref (ad 0), .ref (ad 1), .ref (ad 2), .ref (ad 3), .ref (ad 4), .ref (ad 5), .ref (ad 6), .ref (ad 7), .ref (ad 8), .int (zI mn), .ref (ad 10), .ref (ad 11), .int (zI mp), .int (zI mon), .int (zI mrx), .int (zI mry), .int (zI mrl), .int (zI mrs), .int (zI mrf), .ref (ad 19), .int (zI qcx), .int (zI qcy), .int (zI qcl), .int (zI qcs), .ref (ad 24), .ref (ad 25), .ref (ad 26), .int (zI mla)])), zA cI (ad 0) 6 mW, zA cI (ad 1) 6 mH, zA cI (ad 2) 576 mC, zA cI (ad 5) 6 mFX, zA cI (ad 6) 6 mFY, zA cZ (ad 24) 480 S6, zA cI (ad 25) 480 E9, zA cI (ad 26) 480 N7] ∧ va_S A s.heap H9 k9 ∧ lv_has ls9 12 [(0, .ref mo), (1, .int (zI L)), (2, .int (zI cx)), (3, .int (zI cy)), (4, .int (zI li)), (5, .int (zI mm)), (6, .int (zI mn9)), (7, .int (zI f)), (8, .int (zI mr8)), (9, .int (zI k)), (10, .int (zI i))]) (fr := fun (x9 : Int × Int × (Int → Int) × (Int → Int) × Int × Int × Int × Int) (ls9 : Array Slot) => match x9 with | (i, mr8, S6, N7, qcx, qcy, qcl, qcs) => F0 m 88 ls9 []) ?_ (0, mr9, S7, N8, qbx, qby, qbl, qbs) ⟨(by omega), (by exact hMK), (by rfl), hP, hD, hS, lv_sub hl [1, 2, 3, 4, 5, 6, 7, 8, 9, 10, 0] rfl⟩
          rintro ⟨i, mr8, S6, N7, qcx, qcy, qcl, qcs⟩ H locs ls ⟨ri, hMI, rem3, hP, hD, hS, hl⟩ L_10
          refine W.eq (g2 := F0 m 88 ls []) rfl ?_
          refine lv_iload hx hb dX6_least_88 (lv_at hl 10 rfl) ?_
          refine lv_bipush (v := zI 6) hx hb dX6_least_90 (by decide) ?_
          refine lz_icmp_ge (tgt := 226) hx hb dX6_least_92 (by decide) (by omega) ⟨by decide, by decide⟩ (fun c_11 => ?_) (fun c_11 => ?_)
          ·
            refine lz_iinc (z := k + 1) (lv' := [(9, .int (zI (k + 1))), (0, .ref mo), (1, .int (zI L)), (2, .int (zI cx)), (3, .int (zI cy)), (4, .int (zI li)), (5, .int (zI mm)), (6, .int (zI mn9)), (7, .int (zI f)), (8, .int (zI mr8)), (10, .int (zI i))]) hx hb dX6_least_226 hl (k := 9) rfl (by omega) (by decide) rfl (fun ls hl => ?_)
            refine lv_goto (tgt := 78) hx hb dX6_least_229 (by decide) ?_
            exact L_6 (k + 1, mr8, S6, N7, qcx, qcy, qcl, qcs) _ _ _ (by (try dsimp only); omega) ⟨(by omega), (by exact hMI), (by rw [hn3]; rw [show (6 - i).toNat = 0 by omega, ltI] at rem3; rw [← rem3] at rem2; dsimp only at rem2; rw [if_neg (by decide)] at rem2; exact rem2), hP, hD, hS, lv_sub hl [1, 2, 3, 4, 5, 6, 7, 8, 9, 0] rfl⟩
          ·
            obtain ⟨n2, hn2⟩ : ∃ n, (6 - i).toNat = n + 1 := ⟨(6 - i).toNat - 1, by omega⟩
            have hn1 : (6 - (i + 1)).toNat = n2 := by omega
            rw [hn2, ltI] at rem3
            refine lv_aload_n hx hb dX6_least_95 rfl (lv_at hl 0 rfl) ?_
            refine lv_aload_n hx hb dX6_least_96 rfl (lv_at hl 0 rfl) ?_
            refine va_get (D := (dC, dI)) (ci := 6) (v := .ref (ad 25)) (C := RX6) (T := TX6) (N := 28) hx hb hts i_6 hown hK hP 0 rfl rfl 25 (by decide) f_54 (fun _ h9 => h9) rfl dX6_least_97 ?_
            refine lv_iload hx hb dX6_least_100 (lv_at hl 9 rfl) ?_
            refine lz_iald (F := E9) (i := k) hx hb hK hP 7 0 rfl rfl (by omega) (by omega) (by decide) dX6_least_102 ?_
            refine lv_iconst (v := zI 5) hx hb dX6_least_103 (rfl) ?_
            refine lz_idiv hx hb dX6_least_104 (by omega) (by decide) ?_
            refine lv_bipush (v := zI 12) hx hb dX6_least_105 (by decide) ?_
            refine lz_irem hx hb dX6_least_107 (by omega) (by decide) ?_
            refine lv_aload_n hx hb dX6_least_108 rfl (lv_at hl 0 rfl) ?_
            refine va_get (D := (dC, dI)) (ci := 6) (v := .ref (ad 25)) (C := RX6) (T := TX6) (N := 28) hx hb hts i_6 hown hK hP 0 rfl rfl 25 (by decide) f_54 (fun _ h9 => h9) rfl dX6_least_109 ?_
            refine lv_iload hx hb dX6_least_112 (lv_at hl 9 rfl) ?_
            refine lz_iald (F := E9) (i := k) hx hb hK hP 7 0 rfl rfl (by omega) (by omega) (by decide) dX6_least_114 ?_
            refine lv_iconst (v := zI 5) hx hb dX6_least_115 (rfl) ?_
            refine lz_idiv hx hb dX6_least_116 (by omega) (by decide) ?_
            refine lv_bipush (v := zI 12) hx hb dX6_least_117 (by decide) ?_
            refine lz_idiv hx hb dX6_least_119 (by omega) (by decide) ?_
            refine lv_aload_n hx hb dX6_least_120 rfl (lv_at hl 0 rfl) ?_
            refine va_get (D := (dC, dI)) (ci := 6) (v := .ref (ad 25)) (C := RX6) (T := TX6) (N := 28) hx hb hts i_6 hown hK hP 0 rfl rfl 25 (by decide) f_54 (fun _ h9 => h9) rfl dX6_least_121 ?_
            refine lv_iload hx hb dX6_least_124 (lv_at hl 9 rfl) ?_
            refine lz_iald (F := E9) (i := k) hx hb hK hP 7 0 rfl rfl (by omega) (by omega) (by decide) dX6_least_126 ?_
            refine lv_iconst (v := zI 5) hx hb dX6_least_127 (rfl) ?_
            refine lz_irem hx hb dX6_least_128 (by omega) (by decide) ?_
            have hPc := hP.sub (ws' := [(mo, .inr (6, [.ref (ad 0), .ref (ad 1), .ref (ad 2), .ref (ad 3), .ref (ad 4), .ref (ad 5), .ref (ad 6), .ref (ad 7), .ref (ad 8), .int (zI mn), .ref (ad 10), .ref (ad 11), .int (zI mp), .int (zI mon), .int (zI mrx), .int (zI mry), .int (zI mrl), .int (zI mrs), .int (zI mrf), .ref (ad 19), .int (zI qcx), .int (zI qcy), .int (zI qcl), .int (zI qcs), .ref (ad 24), .ref (ad 25), .ref (ad 26), .int (zI mla)]))]) [0] rfl
            have hDc := hD.sub (ws' := [(mo, .inr (6, [.ref (ad 0), .ref (ad 1), .ref (ad 2), .ref (ad 3), .ref (ad 4), .ref (ad 5), .ref (ad 6), .ref (ad 7), .ref (ad 8), .int (zI mn), .ref (ad 10), .ref (ad 11), .int (zI mp), .int (zI mon), .int (zI mrx), .int (zI mry), .int (zI mrl), .int (zI mrs), .int (zI mrf), .ref (ad 19), .int (zI qcx), .int (zI qcy), .int (zI qcl), .int (zI qcs), .ref (ad 24), .ref (ad 25), .ref (ad 26), .int (zI mla)]))]) [0] (by decide) rfl
            have hFc := va_free (wc := [(mo, .inr (6, [.ref (ad 0), .ref (ad 1), .ref (ad 2), .ref (ad 3), .ref (ad 4), .ref (ad 5), .ref (ad 6), .ref (ad 7), .ref (ad 8), .int (zI mn), .ref (ad 10), .ref (ad 11), .int (zI mp), .int (zI mon), .int (zI mrx), .int (zI mry), .int (zI mrl), .int (zI mrs), .int (zI mrf), .ref (ad 19), .int (zI qcx), .int (zI qcy), .int (zI qcl), .int (zI qcs), .ref (ad 24), .ref (ad 25), .ref (ad 26), .int (zI mla)]))]) hD hS hA [0] rfl
            refine va_callv (va_runV (As := [.int (zI (((E9 k) / 5) % 12)), .int (zI (((E9 k) / 5) / 12)), .int (zI ((E9 k) % 5))]) (rest := []) ⟨hx, hb, hml, hown, hts⟩ (c_X6_isAt l dC dI cI cZ cL cT cJ H.size mo ad mn mp mon mrx mry mrl mrs mrf qcx qcy qcl qcs mla (((E9 k) / 5) % 12) (((E9 k) / 5) / 12) ((E9 k) % 5) ) (cwV 3 hts gX6_least_X6_isAt rfl rfl rfl (by decide +kernel) ⟨Nat.le_of_ble_eq_true rfl, Nat.le_of_ble_eq_true rfl⟩) ⟨zP_blind, va_recv hK hPc (ci := 6) (q0 := 0) rfl rfl, zP_pre hPc hDc hK⟩ rfl rfl hl.1 rfl (lv_room (Nat.le_of_ble_eq_true rfl)) dX6_least_129 ⟨Nat.le_of_ble_eq_true rfl, Nat.le_of_ble_eq_true rfl⟩) hS (fun q _ h => hFc q h) hFc (fun u_12 t H1 locs ht hvm hw hB hz1 hk1 hS => ?_)
            obtain ⟨hP1, hK1, hD1⟩ := hB
            rw [ht] at hP1
            have hP1 : va_P (dC, dI) vwCl [(mo, .inr (6, [.ref (ad 0), .ref (ad 1), .ref (ad 2), .ref (ad 3), .ref (ad 4), .ref (ad 5), .ref (ad 6), .ref (ad 7), .ref (ad 8), .int (zI mn), .ref (ad 10), .ref (ad 11), .int (zI mp), .int (zI mon), .int (zI mrx), .int (zI mry), .int (zI mrl), .int (zI mrs), .int (zI mrf), .ref (ad 19), .int (zI (((E9 k) / 5) % 12)), .int (zI (((E9 k) / 5) / 12)), .int (zI ((E9 k) % 5)), .int (zI 0), .ref (ad 24), .ref (ad 25), .ref (ad 26), .int (zI mla)]))] H1 := hP1
            obtain ⟨hP, hD⟩ := va_join (wr := [zA cI (ad 0) 6 mW, zA cI (ad 1) 6 mH, zA cI (ad 2) 576 mC, zA cI (ad 5) 6 mFX, zA cI (ad 6) 6 mFY, zA cZ (ad 24) 480 S6, zA cI (ad 25) 480 E9, zA cI (ad 26) 480 N7]) (w1 := [(mo, .inr (6, [.ref (ad 0), .ref (ad 1), .ref (ad 2), .ref (ad 3), .ref (ad 4), .ref (ad 5), .ref (ad 6), .ref (ad 7), .ref (ad 8), .int (zI mn), .ref (ad 10), .ref (ad 11), .int (zI mp), .int (zI mon), .int (zI mrx), .int (zI mry), .int (zI mrl), .int (zI mrs), .int (zI mrf), .ref (ad 19), .int (zI (((E9 k) / 5) % 12)), .int (zI (((E9 k) / 5) / 12)), .int (zI ((E9 k) % 5)), .int (zI 0), .ref (ad 24), .ref (ad 25), .ref (ad 26), .int (zI mla)]))]) hP hD [0] [1, 2, 3, 4, 5, 6, 7, 8] rfl rfl (by decide) (by decide) hk1 hFc hP1 hD1
            clear hP1 hD1 hk1 hFc hPc hDc hz1
            generalize H1 = H at hP hS ⊢
            have hP : va_P (dC, dI) vwCl [(mo, .inr (6, [.ref (ad 0), .ref (ad 1), .ref (ad 2), .ref (ad 3), .ref (ad 4), .ref (ad 5), .ref (ad 6), .ref (ad 7), .ref (ad 8), .int (zI mn), .ref (ad 10), .ref (ad 11), .int (zI mp), .int (zI mon), .int (zI mrx), .int (zI mry), .int (zI mrl), .int (zI mrs), .int (zI mrf), .ref (ad 19), .int (zI (((E9 k) / 5) % 12)), .int (zI (((E9 k) / 5) / 12)), .int (zI ((E9 k) % 5)), .int (zI 0), .ref (ad 24), .ref (ad 25), .ref (ad 26), .int (zI mla)])), zA cI (ad 0) 6 mW, zA cI (ad 1) 6 mH, zA cI (ad 2) 576 mC, zA cI (ad 5) 6 mFX, zA cI (ad 6) 6 mFY, zA cZ (ad 24) 480 S6, zA cI (ad 25) 480 E9, zA cI (ad 26) 480 N7] H := hP.sub [8, 0, 1, 2, 3, 4, 5, 6, 7] rfl
            have hD : va_D A [(mo, .inr (6, [.ref (ad 0), .ref (ad 1), .ref (ad 2), .ref (ad 3), .ref (ad 4), .ref (ad 5), .ref (ad 6), .ref (ad 7), .ref (ad 8), .int (zI mn), .ref (ad 10), .ref (ad 11), .int (zI mp), .int (zI mon), .int (zI mrx), .int (zI mry), .int (zI mrl), .int (zI mrs), .int (zI mrf), .ref (ad 19), .int (zI (((E9 k) / 5) % 12)), .int (zI (((E9 k) / 5) / 12)), .int (zI ((E9 k) % 5)), .int (zI 0), .ref (ad 24), .ref (ad 25), .ref (ad 26), .int (zI mla)])), zA cI (ad 0) 6 mW, zA cI (ad 1) 6 mH, zA cI (ad 2) 576 mC, zA cI (ad 5) 6 mFX, zA cI (ad 6) 6 mFY, zA cZ (ad 24) 480 S6, zA cI (ad 25) 480 E9, zA cI (ad 26) 480 N7] := hD.sub [8, 0, 1, 2, 3, 4, 5, 6, 7] (by decide) rfl
            clear hK1 hvm
            refine W.eq (g2 := F0 m 132 ls []) rfl ?_
            refine lv_aload_n hx hb dX6_least_132 rfl (lv_at hl 0 rfl) ?_
            refine lv_iload_n hx hb dX6_least_133 rfl (lv_at hl 1 rfl) ?_
            refine lv_iload hx hb dX6_least_134 (lv_at hl 10 rfl) ?_
            have hPc := hP.sub (ws' := [(mo, .inr (6, [.ref (ad 0), .ref (ad 1), .ref (ad 2), .ref (ad 3), .ref (ad 4), .ref (ad 5), .ref (ad 6), .ref (ad 7), .ref (ad 8), .int (zI mn), .ref (ad 10), .ref (ad 11), .int (zI mp), .int (zI mon), .int (zI mrx), .int (zI mry), .int (zI mrl), .int (zI mrs), .int (zI mrf), .ref (ad 19), .int (zI (((E9 k) / 5) % 12)), .int (zI (((E9 k) / 5) / 12)), .int (zI ((E9 k) % 5)), .int (zI 0), .ref (ad 24), .ref (ad 25), .ref (ad 26), .int (zI mla)])), zA cI (ad 0) 6 mW, zA cI (ad 1) 6 mH, zA cI (ad 2) 576 mC, zA cI (ad 5) 6 mFX, zA cI (ad 6) 6 mFY]) [0, 1, 2, 3, 4, 5] rfl
            have hDc := hD.sub (ws' := [(mo, .inr (6, [.ref (ad 0), .ref (ad 1), .ref (ad 2), .ref (ad 3), .ref (ad 4), .ref (ad 5), .ref (ad 6), .ref (ad 7), .ref (ad 8), .int (zI mn), .ref (ad 10), .ref (ad 11), .int (zI mp), .int (zI mon), .int (zI mrx), .int (zI mry), .int (zI mrl), .int (zI mrs), .int (zI mrf), .ref (ad 19), .int (zI (((E9 k) / 5) % 12)), .int (zI (((E9 k) / 5) / 12)), .int (zI ((E9 k) % 5)), .int (zI 0), .ref (ad 24), .ref (ad 25), .ref (ad 26), .int (zI mla)])), zA cI (ad 0) 6 mW, zA cI (ad 1) 6 mH, zA cI (ad 2) 576 mC, zA cI (ad 5) 6 mFX, zA cI (ad 6) 6 mFY]) [0, 1, 2, 3, 4, 5] (by decide) rfl
            have hFc := va_free (wc := [(mo, .inr (6, [.ref (ad 0), .ref (ad 1), .ref (ad 2), .ref (ad 3), .ref (ad 4), .ref (ad 5), .ref (ad 6), .ref (ad 7), .ref (ad 8), .int (zI mn), .ref (ad 10), .ref (ad 11), .int (zI mp), .int (zI mon), .int (zI mrx), .int (zI mry), .int (zI mrl), .int (zI mrs), .int (zI mrf), .ref (ad 19), .int (zI (((E9 k) / 5) % 12)), .int (zI (((E9 k) / 5) / 12)), .int (zI ((E9 k) % 5)), .int (zI 0), .ref (ad 24), .ref (ad 25), .ref (ad 26), .int (zI mla)])), zA cI (ad 0) 6 mW, zA cI (ad 1) 6 mH, zA cI (ad 2) 576 mC, zA cI (ad 5) 6 mFX, zA cI (ad 6) 6 mFY]) hD hS hA [0, 1, 2, 3, 4, 5] rfl
            refine va_callv (va_runV (As := [.int (zI L), .int (zI i)]) (rest := []) ⟨hx, hb, hml, hown, hts⟩ (c_X6_frame l dC dI cI cZ cL cT cJ H.size mo ad mn mp mon mrx mry mrl mrs mrf (((E9 k) / 5) % 12) (((E9 k) / 5) / 12) ((E9 k) % 5) 0 mla mW mH mC mFX mFY L i (by first | assumption | omega) (by first | assumption | omega) (by first | assumption | omega) (by first | assumption | omega) (by first | assumption | omega) (by first | assumption | omega) (by first | assumption | omega) (by first | assumption | omega) (by first | assumption | omega) (by first | assumption | omega) (by first | assumption | omega) (by first | assumption | omega)) (cwV 2 hts gX6_least_X6_frame rfl rfl rfl (by decide +kernel) ⟨Nat.le_of_ble_eq_true rfl, Nat.le_of_ble_eq_true rfl⟩) ⟨zP_blind, va_recv hK hPc (ci := 6) (q0 := 0) rfl rfl, zP_pre hPc hDc hK⟩ rfl rfl hl.1 rfl (lv_room (Nat.le_of_ble_eq_true rfl)) dX6_least_136 ⟨Nat.le_of_ble_eq_true rfl, Nat.le_of_ble_eq_true rfl⟩) hS (fun q _ h => hFc q h) hFc (fun u_14 t H1 locs ht hvm hw hB hz1 hk1 hS => ?_)
            obtain ⟨x1_15, y1_16, l1_17, o1_18⟩ := u_14
            obtain ⟨hP1, hK1, hD1⟩ := hB
            rw [ht] at hP1
            have hP1 : va_P (dC, dI) vwCl [(mo, .inr (6, [.ref (ad 0), .ref (ad 1), .ref (ad 2), .ref (ad 3), .ref (ad 4), .ref (ad 5), .ref (ad 6), .ref (ad 7), .ref (ad 8), .int (zI mn), .ref (ad 10), .ref (ad 11), .int (zI mp), .int (zI mon), .int (zI mrx), .int (zI mry), .int (zI mrl), .int (zI mrs), .int (zI mrf), .ref (ad 19), .int (zI x1_15), .int (zI y1_16), .int (zI l1_17), .int (zI o1_18), .ref (ad 24), .ref (ad 25), .ref (ad 26), .int (zI mla)])), zA cI (ad 0) 6 mW, zA cI (ad 1) 6 mH, zA cI (ad 2) 576 mC, zA cI (ad 5) 6 mFX, zA cI (ad 6) 6 mFY] H1 := hP1
            obtain ⟨hP, hD⟩ := va_join (wr := [zA cZ (ad 24) 480 S6, zA cI (ad 25) 480 E9, zA cI (ad 26) 480 N7]) (w1 := [(mo, .inr (6, [.ref (ad 0), .ref (ad 1), .ref (ad 2), .ref (ad 3), .ref (ad 4), .ref (ad 5), .ref (ad 6), .ref (ad 7), .ref (ad 8), .int (zI mn), .ref (ad 10), .ref (ad 11), .int (zI mp), .int (zI mon), .int (zI mrx), .int (zI mry), .int (zI mrl), .int (zI mrs), .int (zI mrf), .ref (ad 19), .int (zI x1_15), .int (zI y1_16), .int (zI l1_17), .int (zI o1_18), .ref (ad 24), .ref (ad 25), .ref (ad 26), .int (zI mla)])), zA cI (ad 0) 6 mW, zA cI (ad 1) 6 mH, zA cI (ad 2) 576 mC, zA cI (ad 5) 6 mFX, zA cI (ad 6) 6 mFY]) hP hD [0, 1, 2, 3, 4, 5] [6, 7, 8] rfl rfl (by decide) (by decide) hk1 hFc hP1 hD1
            clear hP1 hD1 hk1 hFc hPc hDc hz1
            generalize H1 = H at hP hS ⊢
            have hP : va_P (dC, dI) vwCl [(mo, .inr (6, [.ref (ad 0), .ref (ad 1), .ref (ad 2), .ref (ad 3), .ref (ad 4), .ref (ad 5), .ref (ad 6), .ref (ad 7), .ref (ad 8), .int (zI mn), .ref (ad 10), .ref (ad 11), .int (zI mp), .int (zI mon), .int (zI mrx), .int (zI mry), .int (zI mrl), .int (zI mrs), .int (zI mrf), .ref (ad 19), .int (zI x1_15), .int (zI y1_16), .int (zI l1_17), .int (zI o1_18), .ref (ad 24), .ref (ad 25), .ref (ad 26), .int (zI mla)])), zA cI (ad 0) 6 mW, zA cI (ad 1) 6 mH, zA cI (ad 2) 576 mC, zA cI (ad 5) 6 mFX, zA cI (ad 6) 6 mFY, zA cZ (ad 24) 480 S6, zA cI (ad 25) 480 E9, zA cI (ad 26) 480 N7] H := hP.sub [3, 4, 5, 6, 7, 8, 0, 1, 2] rfl
            have hD : va_D A [(mo, .inr (6, [.ref (ad 0), .ref (ad 1), .ref (ad 2), .ref (ad 3), .ref (ad 4), .ref (ad 5), .ref (ad 6), .ref (ad 7), .ref (ad 8), .int (zI mn), .ref (ad 10), .ref (ad 11), .int (zI mp), .int (zI mon), .int (zI mrx), .int (zI mry), .int (zI mrl), .int (zI mrs), .int (zI mrf), .ref (ad 19), .int (zI x1_15), .int (zI y1_16), .int (zI l1_17), .int (zI o1_18), .ref (ad 24), .ref (ad 25), .ref (ad 26), .int (zI mla)])), zA cI (ad 0) 6 mW, zA cI (ad 1) 6 mH, zA cI (ad 2) 576 mC, zA cI (ad 5) 6 mFX, zA cI (ad 6) 6 mFY, zA cZ (ad 24) 480 S6, zA cI (ad 25) 480 E9, zA cI (ad 26) 480 N7] := hD.sub [3, 4, 5, 6, 7, 8, 0, 1, 2] (by decide) rfl
            clear hK1 hvm
            have po_19 : x1_15 = mvX (Kof mC L) (mW L) (mH L) (((E9 k) / 5) % 12) (((E9 k) / 5) / 12) i ∧ y1_16 = mvY (Kof mC L) (mW L) (mH L) (((E9 k) / 5) % 12) (((E9 k) / 5) / 12) ((E9 k) % 5) i ∧ l1_17 = mvL (Kof mC L) (mW L) (mH L) (((E9 k) / 5) % 12) (((E9 k) / 5) / 12) ((E9 k) % 5) i ∧ o1_18 = mvO (Kof mC L) (mW L) (mH L) (mFX L) (mFY L) (((E9 k) / 5) % 12) (((E9 k) / 5) / 12) ((E9 k) % 5) i := hw
            refine W.eq (g2 := F0 m 139 ls []) rfl ?_
            have e9 := mv_rng (K := Kof mC L) (w := mW L) (h := mH L) (fx := mFX L) (fy := mFY L) (x := E9 k / 5 % 12) (y := E9 k / 5 / 12) (li := E9 k % 5) (i := i) (by omega) (by omega) (by omega)
            rw [← po_19.1, ← po_19.2.1, ← po_19.2.2.1, ← po_19.2.2.2] at e9
            have m9 := po_19
            rw [← m9.1, ← m9.2.1, ← m9.2.2.1, ← m9.2.2.2] at rem3
            refine lv_aload_n hx hb dX6_least_139 rfl (lv_at hl 0 rfl) ?_
            refine va_get (D := (dC, dI)) (ci := 6) (v := .int (zI o1_18)) (C := RX6) (T := TX6) (N := 28) hx hb hts i_6 hown hK hP 0 rfl rfl 23 (by decide) f_90 (fun _ h9 => h9) rfl dX6_least_140 ?_
            refine lv_iconst (v := zI 2) hx hb dX6_least_143 (rfl) ?_
            refine lz_icmp_ne (tgt := 150) hx hb dX6_least_144 (by decide) (by omega) ⟨by decide, by decide⟩ (fun c_20 => ?_) (fun c_20 => ?_)
            ·
              refine lv_aload_n hx hb dX6_least_150 rfl (lv_at hl 0 rfl) ?_
              refine va_get (D := (dC, dI)) (ci := 6) (v := .int (zI o1_18)) (C := RX6) (T := TX6) (N := 28) hx hb hts i_6 hown hK hP 0 rfl rfl 23 (by decide) f_90 (fun _ h9 => h9) rfl dX6_least_151 ?_
              refine lv_iconst (v := zI 1) hx hb dX6_least_154 (rfl) ?_
              refine lz_icmp_ne (tgt := 162) hx hb dX6_least_155 (by decide) (by omega) ⟨by decide, by decide⟩ (fun c_21 => ?_) (fun c_21 => ?_)
              ·
                refine lv_iconst (v := zI 5) hx hb dX6_least_162 (rfl) ?_
                refine lv_bipush (v := zI 12) hx hb dX6_least_163 (by decide) ?_
                refine lv_aload_n hx hb dX6_least_165 rfl (lv_at hl 0 rfl) ?_
                refine va_get (D := (dC, dI)) (ci := 6) (v := .int (zI y1_16)) (C := RX6) (T := TX6) (N := 28) hx hb hts i_6 hown hK hP 0 rfl rfl 21 (by decide) f_84 (fun _ h9 => h9) rfl dX6_least_166 ?_
                refine lz_imul (z := 12 * y1_16) hx hb dX6_least_169 (by rfl) ?_
                refine lv_aload_n hx hb dX6_least_170 rfl (lv_at hl 0 rfl) ?_
                refine va_get (D := (dC, dI)) (ci := 6) (v := .int (zI x1_15)) (C := RX6) (T := TX6) (N := 28) hx hb hts i_6 hown hK hP 0 rfl rfl 20 (by decide) f_81 (fun _ h9 => h9) rfl dX6_least_171 ?_
                refine lz_iadd (z := (12 * y1_16) + x1_15) hx hb dX6_least_174 (by rfl) ?_
                refine lz_imul (z := 5 * ((12 * y1_16) + x1_15)) hx hb dX6_least_175 (by rfl) ?_
                refine lv_aload_n hx hb dX6_least_176 rfl (lv_at hl 0 rfl) ?_
                refine va_get (D := (dC, dI)) (ci := 6) (v := .int (zI l1_17)) (C := RX6) (T := TX6) (N := 28) hx hb hts i_6 hown hK hP 0 rfl rfl 22 (by decide) f_87 (fun _ h9 => h9) rfl dX6_least_177 ?_
                refine lz_iadd (z := (5 * ((12 * y1_16) + x1_15)) + l1_17) hx hb dX6_least_180 (by rfl) ?_
                refine lv_istore (lv' := [(11, .int (zI ((5 * ((12 * y1_16) + x1_15)) + l1_17))), (0, .ref mo), (1, .int (zI L)), (2, .int (zI cx)), (3, .int (zI cy)), (4, .int (zI li)), (5, .int (zI mm)), (6, .int (zI mn9)), (7, .int (zI f)), (8, .int (zI mr8)), (9, .int (zI k)), (10, .int (zI i))]) hx hb dX6_least_181 hl (by decide) rfl (fun ls hl => ?_)
                have hq : 5 * (12 * y1_16 + x1_15) + l1_17 = plc x1_15 y1_16 l1_17 := by unfold plc; omega
                rw [← hq] at rem3
                have vp9 : o1_18 = 0 → vld (mW L) (mH L) (plc x1_15 y1_16 l1_17) := fun h9 => vld_plc (by omega) (by omega) (by omega) ⟨by omega, e9.2.2.2.2 (by omega)⟩ (by omega)
                refine lv_aload_n hx hb dX6_least_183 rfl (lv_at hl 1 rfl) ?_
                refine va_get (D := (dC, dI)) (ci := 6) (v := .int (zI o1_18)) (C := RX6) (T := TX6) (N := 28) hx hb hts i_6 hown hK hP 0 rfl rfl 23 (by decide) f_90 (fun _ h9 => h9) rfl dX6_least_184 ?_
                refine lz_if_ne (tgt := 220) hx hb dX6_least_187 (by decide) (by omega) (fun c_22 => ?_) (fun c_22 => ?_)
                · exact absurd c_22 (by omega)
                ·
                  refine lv_aload_n hx hb dX6_least_190 rfl (lv_at hl 1 rfl) ?_
                  refine va_get (D := (dC, dI)) (ci := 6) (v := .ref (ad 24)) (C := RX6) (T := TX6) (N := 28) hx hb hts i_6 hown hK hP 0 rfl rfl 24 (by decide) f_51 (fun _ h9 => h9) rfl dX6_least_191 ?_
                  refine lv_iload hx hb dX6_least_194 (lv_at hl 0 rfl) ?_
                  refine lz_zald (F := S6) (i := (5 * ((12 * y1_16) + x1_15)) + l1_17) hx hb hK hP 6 1 rfl rfl (by (have q9 := e9.2.2.2.2 (by omega); omega)) (by (have q9 := e9.2.2.2.2 (by omega); omega)) (by decide) dX6_least_196 ?_
                  have s6 := hMI.1 ((5 * ((12 * y1_16) + x1_15)) + l1_17)
                  refine lz_if_ne (tgt := 220) hx hb dX6_least_197 (by decide) (by omega) (fun c_23 => ?_) (fun c_23 => ?_)
                  ·
                    refine lz_iinc (z := i + 1) (lv' := [(10, .int (zI (i + 1))), (11, .int (zI ((5 * ((12 * y1_16) + x1_15)) + l1_17))), (0, .ref mo), (1, .int (zI L)), (2, .int (zI cx)), (3, .int (zI cy)), (4, .int (zI li)), (5, .int (zI mm)), (6, .int (zI mn9)), (7, .int (zI f)), (8, .int (zI mr8)), (9, .int (zI k))]) hx hb dX6_least_220 hl (k := 11) rfl (by omega) (by decide) rfl (fun ls hl => ?_)
                    refine lv_goto (tgt := 88) hx hb dX6_least_223 (by decide) ?_
                    exact L_10 (i + 1, mr8, S6, N7, x1_15, y1_16, l1_17, o1_18) _ _ _ (by (try dsimp only); omega) ⟨(by omega), (by first | exact hMI | exact pm.2), (by rw [hn1]; rw [if_neg (by omega)] at rem3; first | (rw [if_neg (by omega)] at rem3; exact rem3) | (rw [if_pos (by omega)] at rem3; exact rem3)), hP, hD, hS, lv_sub hl [2, 3, 4, 5, 6, 7, 8, 9, 10, 11, 0] rfl⟩
                  ·
                    have pm := MOK_put hMI (vp9 (by omega)) (by rw [← hq]; omega)
                    rw [← hq] at pm
                    refine lv_aload_n hx hb dX6_least_200 rfl (lv_at hl 1 rfl) ?_
                    refine va_get (D := (dC, dI)) (ci := 6) (v := .ref (ad 24)) (C := RX6) (T := TX6) (N := 28) hx hb hts i_6 hown hK hP 0 rfl rfl 24 (by decide) f_51 (fun _ h9 => h9) rfl dX6_least_201 ?_
                    refine lv_iload hx hb dX6_least_204 (lv_at hl 0 rfl) ?_
                    refine lv_iconst (v := zI 1) hx hb dX6_least_206 (rfl) ?_
                    refine lz_zast (F := S6) (i := (5 * ((12 * y1_16) + x1_15)) + l1_17) (v := 1) hx hb hK hP hD hS 6 1 rfl rfl (by (have q9 := e9.2.2.2.2 (by omega); omega)) (by (have q9 := e9.2.2.2.2 (by omega); omega)) (by decide) (by omega) dX6_least_207 (fun H locs hP hD hS => ?_)
                    have hP : va_P (dC, dI) vwCl [(mo, .inr (6, [.ref (ad 0), .ref (ad 1), .ref (ad 2), .ref (ad 3), .ref (ad 4), .ref (ad 5), .ref (ad 6), .ref (ad 7), .ref (ad 8), .int (zI mn), .ref (ad 10), .ref (ad 11), .int (zI mp), .int (zI mon), .int (zI mrx), .int (zI mry), .int (zI mrl), .int (zI mrs), .int (zI mrf), .ref (ad 19), .int (zI x1_15), .int (zI y1_16), .int (zI l1_17), .int (zI o1_18), .ref (ad 24), .ref (ad 25), .ref (ad 26), .int (zI mla)])), zA cI (ad 0) 6 mW, zA cI (ad 1) 6 mH, zA cI (ad 2) 576 mC, zA cI (ad 5) 6 mFX, zA cI (ad 6) 6 mFY, zA cZ (ad 24) 480 (zu S6 ((5 * ((12 * y1_16) + x1_15)) + l1_17) 1), zA cI (ad 25) 480 E9, zA cI (ad 26) 480 N7] H := hP
                    have hD : va_D A [(mo, .inr (6, [.ref (ad 0), .ref (ad 1), .ref (ad 2), .ref (ad 3), .ref (ad 4), .ref (ad 5), .ref (ad 6), .ref (ad 7), .ref (ad 8), .int (zI mn), .ref (ad 10), .ref (ad 11), .int (zI mp), .int (zI mon), .int (zI mrx), .int (zI mry), .int (zI mrl), .int (zI mrs), .int (zI mrf), .ref (ad 19), .int (zI x1_15), .int (zI y1_16), .int (zI l1_17), .int (zI o1_18), .ref (ad 24), .ref (ad 25), .ref (ad 26), .int (zI mla)])), zA cI (ad 0) 6 mW, zA cI (ad 1) 6 mH, zA cI (ad 2) 576 mC, zA cI (ad 5) 6 mFX, zA cI (ad 6) 6 mFY, zA cZ (ad 24) 480 (zu S6 ((5 * ((12 * y1_16) + x1_15)) + l1_17) 1), zA cI (ad 25) 480 E9, zA cI (ad 26) 480 N7] := hD
                    refine lv_aload_n hx hb dX6_least_208 rfl (lv_at hl 1 rfl) ?_
                    refine va_get (D := (dC, dI)) (ci := 6) (v := .ref (ad 26)) (C := RX6) (T := TX6) (N := 28) hx hb hts i_6 hown hK hP 0 rfl rfl 26 (by decide) f_57 (fun _ h9 => h9) rfl dX6_least_209 ?_
                    refine lv_iload hx hb dX6_least_212 (lv_at hl 9 rfl) ?_
                    refine lv_iload hx hb dX6_least_214 (lv_at hl 0 rfl) ?_
                    refine lz_iast (F := N7) (i := mr8) (v := (5 * ((12 * y1_16) + x1_15)) + l1_17) hx hb hK hP hD hS 8 0 rfl rfl (by (have q8 := pm.1; have q7 := hMI.2.1; omega)) (by (have q8 := pm.1; have q7 := hMI.2.1; omega)) (by decide) dX6_least_216 (fun H locs hP hD hS => ?_)
                    have hP : va_P (dC, dI) vwCl [(mo, .inr (6, [.ref (ad 0), .ref (ad 1), .ref (ad 2), .ref (ad 3), .ref (ad 4), .ref (ad 5), .ref (ad 6), .ref (ad 7), .ref (ad 8), .int (zI mn), .ref (ad 10), .ref (ad 11), .int (zI mp), .int (zI mon), .int (zI mrx), .int (zI mry), .int (zI mrl), .int (zI mrs), .int (zI mrf), .ref (ad 19), .int (zI x1_15), .int (zI y1_16), .int (zI l1_17), .int (zI o1_18), .ref (ad 24), .ref (ad 25), .ref (ad 26), .int (zI mla)])), zA cI (ad 0) 6 mW, zA cI (ad 1) 6 mH, zA cI (ad 2) 576 mC, zA cI (ad 5) 6 mFX, zA cI (ad 6) 6 mFY, zA cZ (ad 24) 480 (zu S6 ((5 * ((12 * y1_16) + x1_15)) + l1_17) 1), zA cI (ad 25) 480 E9, zA cI (ad 26) 480 (zu N7 mr8 ((5 * ((12 * y1_16) + x1_15)) + l1_17))] H := hP
                    have hD : va_D A [(mo, .inr (6, [.ref (ad 0), .ref (ad 1), .ref (ad 2), .ref (ad 3), .ref (ad 4), .ref (ad 5), .ref (ad 6), .ref (ad 7), .ref (ad 8), .int (zI mn), .ref (ad 10), .ref (ad 11), .int (zI mp), .int (zI mon), .int (zI mrx), .int (zI mry), .int (zI mrl), .int (zI mrs), .int (zI mrf), .ref (ad 19), .int (zI x1_15), .int (zI y1_16), .int (zI l1_17), .int (zI o1_18), .ref (ad 24), .ref (ad 25), .ref (ad 26), .int (zI mla)])), zA cI (ad 0) 6 mW, zA cI (ad 1) 6 mH, zA cI (ad 2) 576 mC, zA cI (ad 5) 6 mFX, zA cI (ad 6) 6 mFY, zA cZ (ad 24) 480 (zu S6 ((5 * ((12 * y1_16) + x1_15)) + l1_17) 1), zA cI (ad 25) 480 E9, zA cI (ad 26) 480 (zu N7 mr8 ((5 * ((12 * y1_16) + x1_15)) + l1_17))] := hD
                    refine lz_iinc (z := mr8 + 1) (lv' := [(8, .int (zI (mr8 + 1))), (11, .int (zI ((5 * ((12 * y1_16) + x1_15)) + l1_17))), (0, .ref mo), (1, .int (zI L)), (2, .int (zI cx)), (3, .int (zI cy)), (4, .int (zI li)), (5, .int (zI mm)), (6, .int (zI mn9)), (7, .int (zI f)), (9, .int (zI k)), (10, .int (zI i))]) hx hb dX6_least_217 hl (k := 9) rfl (by omega) (by decide) rfl (fun ls hl => ?_)
                    refine lz_iinc (z := i + 1) (lv' := [(10, .int (zI (i + 1))), (8, .int (zI (mr8 + 1))), (11, .int (zI ((5 * ((12 * y1_16) + x1_15)) + l1_17))), (0, .ref mo), (1, .int (zI L)), (2, .int (zI cx)), (3, .int (zI cy)), (4, .int (zI li)), (5, .int (zI mm)), (6, .int (zI mn9)), (7, .int (zI f)), (9, .int (zI k))]) hx hb dX6_least_220 hl (k := 11) rfl (by omega) (by decide) rfl (fun ls hl => ?_)
                    refine lv_goto (tgt := 88) hx hb dX6_least_223 (by decide) ?_
                    exact L_10 (i + 1, mr8 + 1, zu S6 ((5 * ((12 * y1_16) + x1_15)) + l1_17) 1, zu N7 mr8 ((5 * ((12 * y1_16) + x1_15)) + l1_17), x1_15, y1_16, l1_17, o1_18) _ _ _ (by (try dsimp only); omega) ⟨(by omega), (by first | exact hMI | exact pm.2), (by rw [hn1]; rw [if_neg (by omega)] at rem3; first | (rw [if_neg (by omega)] at rem3; exact rem3) | (rw [if_pos (by omega)] at rem3; exact rem3)), hP, hD, hS, lv_sub hl [3, 4, 5, 6, 7, 8, 9, 10, 1, 11, 0] rfl⟩
              ·
                refine lv_iconst (v := zI 0) hx hb dX6_least_158 (rfl) ?_
                refine lv_goto (tgt := 181) hx hb dX6_least_159 (by decide) ?_
                refine lv_istore (lv' := [(11, .int (zI 0)), (0, .ref mo), (1, .int (zI L)), (2, .int (zI cx)), (3, .int (zI cy)), (4, .int (zI li)), (5, .int (zI mm)), (6, .int (zI mn9)), (7, .int (zI f)), (8, .int (zI mr8)), (9, .int (zI k)), (10, .int (zI i))]) hx hb dX6_least_181 hl (by decide) rfl (fun ls hl => ?_)
                have hq : 5 * (12 * y1_16 + x1_15) + l1_17 = plc x1_15 y1_16 l1_17 := by unfold plc; omega
                rw [← hq] at rem3
                have vp9 : o1_18 = 0 → vld (mW L) (mH L) (plc x1_15 y1_16 l1_17) := fun h9 => vld_plc (by omega) (by omega) (by omega) ⟨by omega, e9.2.2.2.2 (by omega)⟩ (by omega)
                refine lv_aload_n hx hb dX6_least_183 rfl (lv_at hl 1 rfl) ?_
                refine va_get (D := (dC, dI)) (ci := 6) (v := .int (zI o1_18)) (C := RX6) (T := TX6) (N := 28) hx hb hts i_6 hown hK hP 0 rfl rfl 23 (by decide) f_90 (fun _ h9 => h9) rfl dX6_least_184 ?_
                refine lz_if_ne (tgt := 220) hx hb dX6_least_187 (by decide) (by omega) (fun c_24 => ?_) (fun c_24 => ?_)
                ·
                  refine lz_iinc (z := i + 1) (lv' := [(10, .int (zI (i + 1))), (11, .int (zI 0)), (0, .ref mo), (1, .int (zI L)), (2, .int (zI cx)), (3, .int (zI cy)), (4, .int (zI li)), (5, .int (zI mm)), (6, .int (zI mn9)), (7, .int (zI f)), (8, .int (zI mr8)), (9, .int (zI k))]) hx hb dX6_least_220 hl (k := 11) rfl (by omega) (by decide) rfl (fun ls hl => ?_)
                  refine lv_goto (tgt := 88) hx hb dX6_least_223 (by decide) ?_
                  exact L_10 (i + 1, mr8, S6, N7, x1_15, y1_16, l1_17, o1_18) _ _ _ (by (try dsimp only); omega) ⟨(by omega), (by first | exact hMI | exact pm.2), (by rw [hn1]; rw [if_neg (by omega)] at rem3; first | (rw [if_neg (by omega)] at rem3; exact rem3) | (rw [if_pos (by omega)] at rem3; exact rem3)), hP, hD, hS, lv_sub hl [2, 3, 4, 5, 6, 7, 8, 9, 10, 11, 0] rfl⟩
                · exact absurd c_24 (by omega)
            ·
              refine lv_iload hx hb dX6_least_147 (lv_at hl 7 rfl) ?_
              have hP9 := hP.sub (ws' := [(mo, .inr (6, [.ref (ad 0), .ref (ad 1), .ref (ad 2), .ref (ad 3), .ref (ad 4), .ref (ad 5), .ref (ad 6), .ref (ad 7), .ref (ad 8), .int (zI mn), .ref (ad 10), .ref (ad 11), .int (zI mp), .int (zI mon), .int (zI mrx), .int (zI mry), .int (zI mrl), .int (zI mrs), .int (zI mrf), .ref (ad 19), .int (zI x1_15), .int (zI y1_16), .int (zI l1_17), .int (zI o1_18), .ref (ad 24), .ref (ad 25), .ref (ad 26), .int (zI mla)])), zA cI (ad 0) 6 mW, zA cI (ad 1) 6 mH, zA cI (ad 2) 576 mC, zA cI (ad 5) 6 mFX, zA cI (ad 6) 6 mFY, zA cZ (ad 24) 480 S6, zA cI (ad 25) 480 E9, zA cI (ad 26) 480 N7]) [0, 1, 2, 3, 4, 5, 6, 7, 8] rfl
              have hD9 := hD.sub (ws' := [(mo, .inr (6, [.ref (ad 0), .ref (ad 1), .ref (ad 2), .ref (ad 3), .ref (ad 4), .ref (ad 5), .ref (ad 6), .ref (ad 7), .ref (ad 8), .int (zI mn), .ref (ad 10), .ref (ad 11), .int (zI mp), .int (zI mon), .int (zI mrx), .int (zI mry), .int (zI mrl), .int (zI mrs), .int (zI mrf), .ref (ad 19), .int (zI x1_15), .int (zI y1_16), .int (zI l1_17), .int (zI o1_18), .ref (ad 24), .ref (ad 25), .ref (ad 26), .int (zI mla)])), zA cI (ad 0) 6 mW, zA cI (ad 1) 6 mH, zA cI (ad 2) 576 mC, zA cI (ad 5) 6 mFX, zA cI (ad 6) 6 mFY, zA cZ (ad 24) 480 S6, zA cI (ad 25) 480 E9, zA cI (ad 26) 480 N7]) [0, 1, 2, 3, 4, 5, 6, 7, 8] (by decide) rfl
              have po : zI f = zI f ∧ (B01 S6 ∧ ∃ S0 E0 N0, B01 S0 ∧ (∀ j, 0 ≤ j → j < 480 → S0 j = 0) ∧ f = ltT (Kof mC L) (mW L) (mH L) (mFX L) (mFY L) mm (plc cx cy li) E0 S0 N0) := by
                refine ⟨by first | rfl | (congr 1; omega) | (congr 1; simp [*]), ?_⟩
                rw [if_pos (by omega)] at rem3
                rw [← rem3] at rem2
                dsimp only at rem2
                rw [if_pos rfl] at rem2
                rw [← rem2] at rem
                dsimp only at rem
                rw [if_pos rfl] at rem
                exact ⟨hMI.1, S9, mHE, mNE, hb9, fun q q0 q1 => hc q q0 (by omega), rem⟩
              exact W.iret (v := zI f) hx hb hr (fun t ht hW => ⟨⟨zI f, (f, x1_15, y1_16, l1_17, o1_18, S6, E9, N7), rfl, po, by rw [ht]; exact hP9, va_K.moved hW.alike hK, hD9⟩, hS.F ht⟩) hS.2.2 dX6_least_149
  ·
    refine lv_aload_n hx hb dX6_least_11 rfl (lv_at hl 0 rfl) ?_
    refine va_get (D := (dC, dI)) (ci := 6) (v := .ref (ad 24)) (C := RX6) (T := TX6) (N := 28) hx hb hts i_6 hown hK hP 0 rfl rfl 24 (by decide) f_51 (fun _ h9 => h9) rfl dX6_least_12 ?_
    refine lv_iload hx hb dX6_least_15 (lv_at hl 6 rfl) ?_
    refine lv_iconst (v := zI 0) hx hb dX6_least_17 (rfl) ?_
    refine lz_zast (F := S9) (i := k) (v := 0) hx hb hK hP hD hS 6 1 rfl rfl (by omega) (by omega) (by decide) (by omega) dX6_least_18 (fun H locs hP hD hS => ?_)
    have hP : va_P (dC, dI) vwCl [(mo, .inr (6, [.ref (ad 0), .ref (ad 1), .ref (ad 2), .ref (ad 3), .ref (ad 4), .ref (ad 5), .ref (ad 6), .ref (ad 7), .ref (ad 8), .int (zI mn), .ref (ad 10), .ref (ad 11), .int (zI mp), .int (zI mon), .int (zI mrx), .int (zI mry), .int (zI mrl), .int (zI mrs), .int (zI mrf), .ref (ad 19), .int (zI mx), .int (zI my), .int (zI ml), .int (zI mst), .ref (ad 24), .ref (ad 25), .ref (ad 26), .int (zI mla)])), zA cI (ad 0) 6 mW, zA cI (ad 1) 6 mH, zA cI (ad 2) 576 mC, zA cI (ad 5) 6 mFX, zA cI (ad 6) 6 mFY, zA cZ (ad 24) 480 (zu S9 k 0), zA cI (ad 25) 480 mHE, zA cI (ad 26) 480 mNE] H := hP
    have hD : va_D A [(mo, .inr (6, [.ref (ad 0), .ref (ad 1), .ref (ad 2), .ref (ad 3), .ref (ad 4), .ref (ad 5), .ref (ad 6), .ref (ad 7), .ref (ad 8), .int (zI mn), .ref (ad 10), .ref (ad 11), .int (zI mp), .int (zI mon), .int (zI mrx), .int (zI mry), .int (zI mrl), .int (zI mrs), .int (zI mrf), .ref (ad 19), .int (zI mx), .int (zI my), .int (zI ml), .int (zI mst), .ref (ad 24), .ref (ad 25), .ref (ad 26), .int (zI mla)])), zA cI (ad 0) 6 mW, zA cI (ad 1) 6 mH, zA cI (ad 2) 576 mC, zA cI (ad 5) 6 mFX, zA cI (ad 6) 6 mFY, zA cZ (ad 24) 480 (zu S9 k 0), zA cI (ad 25) 480 mHE, zA cI (ad 26) 480 mNE] := hD
    refine lz_iinc (z := k + 1) (lv' := [(6, .int (zI (k + 1))), (0, .ref mo), (1, .int (zI L)), (2, .int (zI cx)), (3, .int (zI cy)), (4, .int (zI li)), (5, .int (zI mm))]) hx hb dX6_least_19 hl (k := 6) rfl (by omega) (by decide) rfl (fun ls hl => ?_)
    refine lv_goto (tgt := 3) hx hb dX6_least_22 (by decide) ?_
    exact L_1 (k + 1, zu S9 k 0) _ _ _ (by (try dsimp only); omega) ⟨(by omega), (by exact B01_zu hb9 (by omega)), (by intro j j0 j1; unfold zu; split <;> first | rfl | exact hc j j0 (by omega)), hP, hD, hS, lv_sub hl [1, 2, 3, 4, 5, 6, 0] rfl⟩
