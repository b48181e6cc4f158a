/-! what the start gives -/
set_option maxHeartbeats 4000000 in
set_option maxRecDepth 100000 in
theorem lC_of (l : Launch) {p : Program} {s : State} {m : MethodId} {meth : Method} {c : Code} (hflags : l.flags = flags0) {b L : Nat} {xs : Nat → Int32} (hL : L ≤ 2560) (C0 : lw_At p s m meth c b L xs) : ∃ (dC : Nat → ClassId) (dI : Nat → Nat → Nat) (cI cZ cL cT cJ : ClassId), lC l p s m meth c b L xs dC dI cI cZ cL cT cJ := by
  obtain ⟨hx, hb, hr, hml, hown, hts, hX, hbl, hlocks, hgv⟩ := id C0
  have hst : l.stackTraces = false := by
    show (!l.flags.contains noTraceFlag) = false
    rw [hflags]
    decide +kernel
  obtain ⟨c0, iS0, hKn0⟩ := u_known (C := RX0) (T := TX0) (N := 3) (n := 3) hts inX0 (hts (.instantiable RX0 3) (List.mem_append_right _ (List.mem_of_getElem? (i := 31) (by decide +kernel))))
  obtain ⟨c1, iS1, hKn1⟩ := u_known (C := RX1) (T := TX1) (N := 10) (n := 10) hts inX1 (hts (.instantiable RX1 10) (List.mem_append_right _ (List.mem_of_getElem? (i := 353) (by decide +kernel))))
  obtain ⟨c2, iS2, hKn2⟩ := u_known (C := RX2) (T := TX2) (N := 5) (n := 5) hts inX2 (hts (.instantiable RX2 5) (List.mem_append_right _ (List.mem_of_getElem? (i := 25) (by decide +kernel))))
  obtain ⟨c3, iS3, hKn3⟩ := u_known (C := RX3) (T := TX3) (N := 7) (n := 7) hts inX3 (hts (.instantiable RX3 7) (List.mem_append_right _ (List.mem_of_getElem? (i := 98) (by decide +kernel))))
  obtain ⟨c4, iS4, hKn4⟩ := u_known (C := RX4) (T := TX4) (N := 3) (n := 3) hts inX4 (hts (.instantiable RX4 3) (List.mem_append_right _ (List.mem_of_getElem? (i := 54) (by decide +kernel))))
  obtain ⟨c5, iS5, hKn5⟩ := u_known (C := RX5) (T := TX5) (N := 5) (n := 5) hts inX5 (hts (.instantiable RX5 5) (List.mem_append_right _ (List.mem_of_getElem? (i := 15) (by decide +kernel))))
  obtain ⟨c6, iS6, hKn6⟩ := u_known (C := RX6) (T := TX6) (N := 28) (n := 28) hts inX6 (hts (.instantiable RX6 28) (List.mem_append_right _ (List.mem_of_getElem? (i := 618) (by decide +kernel))))
  obtain ⟨dC, dI, hKc⟩ : ∃ (dC : Nat → ClassId) (dI : Nat → Nat → Nat), ∀ (k : Nat) (q : vw_C), vwCl[k]? = some q → u_Kn s q.1 q.2.1 q.2.2 (dC k) (dI k) := by
    refine ⟨fun k => if k = 0 then c0 else if k = 1 then c1 else if k = 2 then c2 else if k = 3 then c3 else if k = 4 then c4 else if k = 5 then c5 else c6, fun k => if k = 0 then iS0 else if k = 1 then iS1 else if k = 2 then iS2 else if k = 3 then iS3 else if k = 4 then iS4 else if k = 5 then iS5 else iS6, ?_⟩
    intro k q hq
    match k, hq with
    | 0, hq => cases hq; exact hKn0
    | 1, hq => cases hq; exact hKn1
    | 2, hq => cases hq; exact hKn2
    | 3, hq => cases hq; exact hKn3
    | 4, hq => cases hq; exact hKn4
    | 5, hq => cases hq; exact hKn5
    | 6, hq => cases hq; exact hKn6
    | k + 7, hq => simp [vwCl] at hq
  obtain ⟨cI, kI, pI, fI, hkI, hdI⟩ := Cond.arrayClass_spec (hts (.arrayClass .int) (List.mem_append_right _ (List.mem_of_getElem? (i := 73) (by decide +kernel))))
  obtain ⟨cZ, kZ, pZ, fZ, hkZ, hdZ⟩ := Cond.arrayClass_spec (hts (.arrayClass .boolean) (List.mem_append_right _ (List.mem_of_getElem? (i := 708) (by decide +kernel))))
  obtain ⟨cJ, kJ, pJ, fJ, hkJ, hdJ⟩ := Cond.arrayClass_spec (hts (.arrayClass .long) (List.mem_append_right _ (List.mem_of_getElem? (i := 882) (by decide +kernel))))
  obtain ⟨pL, cL, kL, fL, _, hkL, hdL, gL⟩ := Cond.arrayOver_spec (hts (.arrayOver (.object "SpringLevels$Level")) (List.mem_append_right _ (List.mem_of_getElem? (i := 23) (by decide +kernel))))
  obtain ⟨pT, cT, kT, fT, _, hkT, hdT, gT⟩ := Cond.arrayOver_spec (hts (.arrayOver (.object "SpringLevels$Tape")) (List.mem_append_right _ (List.mem_of_getElem? (i := 364) (by decide +kernel))))
  have hKt : ∀ (k : Nat) (q : ClassId × FieldType), (zT cI cZ cL cT cJ)[k]? = some q → ArrOfT s q.1 q.2 ∧ va_RA s q.1 q.2 := by
    intro k q hq
    match k, hq with
    | 0, hq => cases hq; exact ⟨fun n z => ⟨fun k h => (by cases h), kI, hkI, pI, hdI⟩, fI⟩
    | 1, hq => cases hq; exact ⟨fun n z => ⟨fun k h => (by cases h), kZ, hkZ, pZ, hdZ⟩, fZ⟩
    | 2, hq => cases hq; exact ⟨fun n z => ⟨fun k h => (by cases h), kL, hkL, pL, hdL⟩, kL, pL, hkL, hdL, fL, gL⟩
    | 3, hq => cases hq; exact ⟨fun n z => ⟨fun k h => (by cases h), kT, hkT, pT, hdT⟩, kT, pT, hkT, hdT, fT, gT⟩
    | 4, hq => cases hq; exact ⟨fun n z => ⟨fun k h => (by cases h), kJ, hkJ, pJ, hdJ⟩, fJ⟩
    | k + 5, hq => simp at hq
  have hs := flat_of_before _ hgv
  have hAG : ∀ a : Nat, a < s.heap.size → ¬ lG s a := fun a h => Nat.not_le.mpr h
  have e1 : vx_Zq Bundle.tN "UNASSIGNED_STACK" Bundle.steD (lG s) s s.heap := vx_Zqof (hts (.laysStatic Bundle.tN "UNASSIGNED_STACK" Bundle.steD) (List.mem_append_right _ (List.mem_of_getElem? (i := 296) (by decide +kernel)))) (hts (.initialized "java/lang/Throwable") (List.mem_append_right _ (List.mem_of_getElem? (i := 7) (by decide +kernel)))) (hs (.isRef (.static Bundle.tN "UNASSIGNED_STACK" Bundle.steD)) (by decide +kernel)) hAG
  have e2 : vx_Zq Bundle.tN "SUPPRESSED_SENTINEL" Bundle.listD (lG s) s s.heap := vx_Zqof (hts (.laysStatic Bundle.tN "SUPPRESSED_SENTINEL" Bundle.listD) (List.mem_append_right _ (List.mem_of_getElem? (i := 298) (by decide +kernel)))) (hts (.initialized "java/lang/Throwable") (List.mem_append_right _ (List.mem_of_getElem? (i := 7) (by decide +kernel)))) (hs (.isRef (.static Bundle.tN "SUPPRESSED_SENTINEL" Bundle.listD)) (by decide +kernel)) hAG
  have e3 : va_Nw (.castable "java/lang/IllegalArgumentException" "java/lang/IllegalArgumentException") s := va_Nw.of rfl (hts (.castable "java/lang/IllegalArgumentException" "java/lang/IllegalArgumentException") (List.mem_append_right _ (List.mem_of_getElem? (i := 271) (by decide +kernel))))
  have e4 : va_Nw (.castable "java/lang/IllegalStateException" "java/lang/IllegalStateException") s := va_Nw.of rfl (hts (.castable "java/lang/IllegalStateException" "java/lang/IllegalStateException") (List.mem_append_right _ (List.mem_of_getElem? (i := 339) (by decide +kernel))))
  have e5 : va_Nw (.castable "java/lang/IndexOutOfBoundsException" "java/lang/IndexOutOfBoundsException") s := va_Nw.of rfl (hts (.castable "java/lang/IndexOutOfBoundsException" "java/lang/IndexOutOfBoundsException") (List.mem_append_right _ (List.mem_of_getElem? (i := 424) (by decide +kernel))))
  have e6 : va_Nw (.declares (Bundle.initS "java/lang/RuntimeException")) s := va_Nw.of rfl (hts (.declares (Bundle.initS "java/lang/RuntimeException")) (List.mem_append_right _ (List.mem_of_getElem? (i := 273) (by decide +kernel))))
  have e7 : va_Nw (.declares (Bundle.initS "java/lang/Exception")) s := va_Nw.of rfl (hts (.declares (Bundle.initS "java/lang/Exception")) (List.mem_append_right _ (List.mem_of_getElem? (i := 275) (by decide +kernel))))
  have e8 : va_Nw (.declares (Bundle.initS "java/lang/Throwable")) s := va_Nw.of rfl (hts (.declares (Bundle.initS "java/lang/Throwable")) (List.mem_append_right _ (List.mem_of_getElem? (i := 277) (by decide +kernel))))
  have s42 : ∃ sa, vk_R RX5 42 "width or height is out of range" sa s := by
    obtain ⟨a, _, _, _, ha, _⟩ := Cond.exactly_spec (hs (.exactly (.string RX5 42) "java/lang/String") (by decide +kernel))
    exact ⟨a, vk_R.of (hts (.stringRef RX5 42 "width or height is out of range") (List.mem_append_right _ (List.mem_of_getElem? (i := 310) (by decide +kernel)))) ha⟩
  have s49 : ∃ sa, vk_R RX5 49 "there are 6 levels" sa s := by
    obtain ⟨a, _, _, _, ha, _⟩ := Cond.exactly_spec (hs (.exactly (.string RX5 49) "java/lang/String") (by decide +kernel))
    exact ⟨a, vk_R.of (hts (.stringRef RX5 49 "there are 6 levels") (List.mem_append_right _ (List.mem_of_getElem? (i := 346) (by decide +kernel)))) ha⟩
  have s59 : ∃ sa, vk_R RX5 59 "no such kind" sa s := by
    obtain ⟨a, _, _, _, ha, _⟩ := Cond.exactly_spec (hs (.exactly (.string RX5 59) "java/lang/String") (by decide +kernel))
    exact ⟨a, vk_R.of (hts (.stringRef RX5 59 "no such kind") (List.mem_append_right _ (List.mem_of_getElem? (i := 440) (by decide +kernel)))) ha⟩
  have s68 : ∃ sa, vk_R RX5 68 "the start or the flag is there" sa s := by
    obtain ⟨a, _, _, _, ha, _⟩ := Cond.exactly_spec (hs (.exactly (.string RX5 68) "java/lang/String") (by decide +kernel))
    exact ⟨a, vk_R.of (hts (.stringRef RX5 68 "the start or the flag is there") (List.mem_append_right _ (List.mem_of_getElem? (i := 446) (by decide +kernel)))) ha⟩
  have s102 : ∃ sa, vk_R RX5 102 "seed is out of range" sa s := by
    obtain ⟨a, _, _, _, ha, _⟩ := Cond.exactly_spec (hs (.exactly (.string RX5 102) "java/lang/String") (by decide +kernel))
    exact ⟨a, vk_R.of (hts (.stringRef RX5 102 "seed is out of range") (List.mem_append_right _ (List.mem_of_getElem? (i := 487) (by decide +kernel)))) ha⟩
  have s123 : ∃ sa, vk_R RX5 123 "no way of the level was found" sa s := by
    obtain ⟨a, _, _, _, ha, _⟩ := Cond.exactly_spec (hs (.exactly (.string RX5 123) "java/lang/String") (by decide +kernel))
    exact ⟨a, vk_R.of (hts (.stringRef RX5 123 "no way of the level was found") (List.mem_append_right _ (List.mem_of_getElem? (i := 528) (by decide +kernel)))) ha⟩
  have s131 : ∃ sa, vk_R RX5 131 "no such player" sa s := by
    obtain ⟨a, _, _, _, ha, _⟩ := Cond.exactly_spec (hs (.exactly (.string RX5 131) "java/lang/String") (by decide +kernel))
    exact ⟨a, vk_R.of (hts (.stringRef RX5 131 "no such player") (List.mem_append_right _ (List.mem_of_getElem? (i := 543) (by decide +kernel)))) ha⟩
  have s134 : ∃ sa, vk_R RX5 134 "the level is not open" sa s := by
    obtain ⟨a, _, _, _, ha, _⟩ := Cond.exactly_spec (hs (.exactly (.string RX5 134) "java/lang/String") (by decide +kernel))
    exact ⟨a, vk_R.of (hts (.stringRef RX5 134 "the level is not open") (List.mem_append_right _ (List.mem_of_getElem? (i := 544) (by decide +kernel)))) ha⟩
  have s146 : ∃ sa, vk_R RX5 146 "input is out of range" sa s := by
    obtain ⟨a, _, _, _, ha, _⟩ := Cond.exactly_spec (hs (.exactly (.string RX5 146) "java/lang/String") (by decide +kernel))
    exact ⟨a, vk_R.of (hts (.stringRef RX5 146 "input is out of range") (List.mem_append_right _ (List.mem_of_getElem? (i := 565) (by decide +kernel)))) ha⟩
  have s155 : ∃ sa, vk_R RX5 155 "there is no run that is RUNNING" sa s := by
    obtain ⟨a, _, _, _, ha, _⟩ := Cond.exactly_spec (hs (.exactly (.string RX5 155) "java/lang/String") (by decide +kernel))
    exact ⟨a, vk_R.of (hts (.stringRef RX5 155 "there is no run that is RUNNING") (List.mem_append_right _ (List.mem_of_getElem? (i := 566) (by decide +kernel)))) ha⟩
  have s206 : ∃ sa, vk_R RX5 206 "no such level" sa s := by
    obtain ⟨a, _, _, _, ha, _⟩ := Cond.exactly_spec (hs (.exactly (.string RX5 206) "java/lang/String") (by decide +kernel))
    exact ⟨a, vk_R.of (hts (.stringRef RX5 206 "no such level") (List.mem_append_right _ (List.mem_of_getElem? (i := 431) (by decide +kernel)))) ha⟩
  have s208 : ∃ sa, vk_R RX5 208 "no such cell" sa s := by
    obtain ⟨a, _, _, _, ha, _⟩ := Cond.exactly_spec (hs (.exactly (.string RX5 208) "java/lang/String") (by decide +kernel))
    exact ⟨a, vk_R.of (hts (.stringRef RX5 208 "no such cell") (List.mem_append_right _ (List.mem_of_getElem? (i := 439) (by decide +kernel)))) ha⟩
  have s210 : ∃ sa, vk_R RX5 210 "the cell is BLOCK" sa s := by
    obtain ⟨a, _, _, _, ha, _⟩ := Cond.exactly_spec (hs (.exactly (.string RX5 210) "java/lang/String") (by decide +kernel))
    exact ⟨a, vk_R.of (hts (.stringRef RX5 210 "the cell is BLOCK") (List.mem_append_right _ (List.mem_of_getElem? (i := 471) (by decide +kernel)))) ha⟩
  have hEx : zEx (lG s) s := ⟨e1, e2, e3, e4, e5, e6, e7, e8, s42, s49, s59, s68, s102, s123, s131, s134, s146, s155, s206, s208, s210⟩
  have hNc : zNc s := ⟨va_Nc.of (hs (.not (.castable "java/lang/IllegalArgumentException" "java/lang/IllegalStateException")) (by decide +kernel)), va_Nc.of (hs (.not (.castable "java/lang/IllegalArgumentException" "java/lang/IndexOutOfBoundsException")) (by decide +kernel)), va_Nc.of (hs (.not (.castable "java/lang/IllegalStateException" "java/lang/IllegalArgumentException")) (by decide +kernel)), va_Nc.of (hs (.not (.castable "java/lang/IllegalStateException" "java/lang/IndexOutOfBoundsException")) (by decide +kernel)), va_Nc.of (hs (.not (.castable "java/lang/IndexOutOfBoundsException" "java/lang/IllegalArgumentException")) (by decide +kernel)), va_Nc.of (hs (.not (.castable "java/lang/IndexOutOfBoundsException" "java/lang/IllegalStateException")) (by decide +kernel))⟩
  have hAo : zAo s := ⟨va_AO.of (hts (.arrayOver (.object "SpringLevels$Level")) (List.mem_append_right _ (List.mem_of_getElem? (i := 23) (by decide +kernel)))), va_AO.of (hts (.arrayOver (.object "SpringLevels$Tape")) (List.mem_append_right _ (List.mem_of_getElem? (i := 364) (by decide +kernel)))), va_Nw.of rfl (hts (.methodLinkNest RX5 28 yX0_init RX5) (List.mem_append_right _ (List.mem_of_getElem? (i := 96) (by decide +kernel)))), va_Nw.of rfl (hts (.methodLinkNest RX2 11 yX0_init RX5) (List.mem_append_right _ (List.mem_of_getElem? (i := 32) (by decide +kernel)))), va_Nw.of rfl (hts (.methodLinkNest RX3 23 yX0_init RX5) (List.mem_append_right _ (List.mem_of_getElem? (i := 104) (by decide +kernel))))⟩
  exact ⟨dC, dI, cI, cZ, cL, cT, cJ, hst, C0, hL, ⟨hKc, hKt⟩, hEx, hNc, hAo⟩
