/-! the loop -/
set_option maxHeartbeats 4000000 in
set_option maxRecDepth 100000 in
theorem law_loop (l : Launch) {p : Program} {e : Env} {s : State} {m : MethodId} {below : List Frame} {meth : Method} {c : Code} {b nL : Nat} {xs : Nat → Int32} {dC : Nat → ClassId} {dI : Nat → Nat → Nat} {cI cZ cL cT cJ : ClassId} (C1 : lC l p s m meth c b nL xs dC dI cI cZ cL cT cJ) {sl sh ru tr se rh rt ri de fi qu pr ou mo : Nat} {ad : Nat → Nat} : ∀ (n t : Nat), n + t = 513 → t ≤ 512 → ∀ (jj : Int), jj = 5 * (t : Int) → ∀ (Hc : Heap) (ls : Array Slot), lRel s (dC, dI) cI cZ cL cT cJ sl sh ru tr se rh rt ri de fi qu pr ou mo ad Hc → lv_has ls 7 [(0, .ref b), (1, .ref sl), (2, .ref mo), (3, .ref ou), (4, .int (zI jj))] → W p l e room_1 s m #[Value.ref b] below meth c Hc [] (29 + 11 * t) (6192 + 522 * t) (lw_Z below #[.ref b] s) (F0 m 23 ls []) := by
  obtain ⟨hfl, C0, hnL, hK, hEx, hNc, hAo⟩ := id C1
  obtain ⟨hx, hb, hr, hml, hown, hts, hX, hbl, hlocks, hgv⟩ := id C0
  have hbG : ¬ lG s b := Nat.not_le.mpr hbl
  intro n
  induction n with
  | zero =>
    intro t h1 h2
    exact absurd h1 (by omega)
  | succ n ih =>
    intro t h1 h2 jj hjj Hc ls hR hl
    have hS0 : va_S (lG s) s.heap Hc [] := by
      obtain ⟨_, _, _, _, _, _, _, _, _, _, _, _, _, _, _, _, _, _, _, _, _, _, _, _, _, _, _, _, _, _, _, _, _, _, _, _, _, _, _, _, _, _, _, _, _, _, _, _, _, _, _, _, h, _⟩ := hR
      exact h
    refine lv_iload hx hb dL_law_23 (lv_at hl 4 rfl) ?_
    refine lv_aload_n hx hb dL_law_25 rfl (lv_at hl 0 rfl) ?_
    refine va_slen hx hb hX hbl hbG hS0 dL_law_26 ?_
    refine lz_top (zI_nat nL) ?_
    refine lv_iconst (v := zI 5) hx hb dL_law_27 rfl ?_
    refine lz_isub (z := (nL : Int) - 5) hx hb dL_law_28 rfl ?_
    refine lz_icmp_gt (tgt := 1325) hx hb dL_law_29 (by decide) (by omega) (by omega) (fun c1 => ?_) (fun c1 => ?_)
    · refine lv_iconst (v := (1 : Int32)) hx hb dL_law_1325 rfl ?_
      refine W.widen (k := 601024) (n := 7293034) (by omega) (by omega) ?_
      exact lw_ret hx hb hr hlocks dL_law_1326
    · obtain ⟨a0, ha0, r0⟩ := zI_ex (xs jj.toNat)
      have hc : ∀ (H9 : Heap) (ls9 : Array Slot), lRel s (dC, dI) cI cZ cL cT cJ sl sh ru tr se rh rt ri de fi qu pr ou mo ad H9 → lv_has ls9 7 [(0, .ref b), (1, .ref sl), (2, .ref mo), (3, .ref ou), (4, .int (zI jj))] → W p l e room_1 s m #[Value.ref b] below meth c H9 [] (29 + 11 * t + 11) (6192 + 522 * t + 522) (lw_Z below #[.ref b] s) (F0 m 1319 ls9 []) := by
        intro H9 ls9 hR9 hl9
        refine lz_iinc (z := jj + 5) (lv' := [(4, .int (zI (jj + 5))), (0, .ref b), (1, .ref sl), (2, .ref mo), (3, .ref ou)]) hx hb dL_law_1319 hl9 (k := 4) rfl (by omega) (by decide) rfl (fun ls hl => ?_)
        refine lv_goto (tgt := 23) hx hb dL_law_1322 (by decide) ?_
        refine W.widen (k := 29 + 11 * (t + 1)) (n := 6192 + 522 * (t + 1)) (by omega) (by omega) ?_
        exact ih (t + 1) (by omega) (by omega) (jj + 5) (by omega) H9 ls hR9 (lv_sub hl [1, 2, 3, 4, 0] rfl)
      have hcc : 29 + 11 * t + 11 ≤ room_1.cells := by
        show _ ≤ 601024
        omega
      have hss : 6192 + 522 * t + 522 ≤ room_1.slots := by
        show _ ≤ 7293034
        omega
      have hj : 0 ≤ jj ∧ jj + 5 ≤ (nL : Int) := by omega
      refine lv_aload_n hx hb dL_law_32 rfl (lv_at hl 0 rfl) ?_
      refine lv_iload hx hb dL_law_33 (lv_at hl 4 rfl) ?_
      refine lz_sld (v := a0) (i := jj) hx hb hX hbl hbG hS0 (by omega) (by omega) hnL ha0 dL_law_35 ?_
      refine lv_bipush (v := (31 : Int32)) hx hb dL_law_36 (by decide) ?_
      refine lv_iand hx hb dL_law_38 ?_
      obtain ⟨j, hj32, ej⟩ := pk_andE (zI a0) (m := 31) 5 (by decide)
      refine lz_top ej ?_
      have hj32 : j < 32 := hj32
      obtain rfl | rfl | rfl | rfl | rfl | rfl | rfl | rfl | rfl | rfl | rfl | rfl | rfl | rfl | rfl | rfl | rfl | rfl | rfl | rfl | rfl | rfl | rfl | rfl | rfl | rfl | rfl | rfl | rfl | rfl | rfl | rfl : j = 0 ∨ j = 1 ∨ j = 2 ∨ j = 3 ∨ j = 4 ∨ j = 5 ∨ j = 6 ∨ j = 7 ∨ j = 8 ∨ j = 9 ∨ j = 10 ∨ j = 11 ∨ j = 12 ∨ j = 13 ∨ j = 14 ∨ j = 15 ∨ j = 16 ∨ j = 17 ∨ j = 18 ∨ j = 19 ∨ j = 20 ∨ j = 21 ∨ j = 22 ∨ j = 23 ∨ j = 24 ∨ j = 25 ∨ j = 26 ∨ j = 27 ∨ j = 28 ∨ j = 29 ∨ j = 30 ∨ j = 31 := by omega
      · refine lv_tableIn (off := 113) (tgt := 152) hx hb dL_law_39 (by decide) (by decide) (by decide) (by decide) ?_
        exact s_addLevel l C1 hcc hss hj hR hl hc
      · refine lv_tableIn (off := 181) (tgt := 220) hx hb dL_law_39 (by decide) (by decide) (by decide) (by decide) ?_
        exact s_setCell l C1 hcc hss hj hR hl hc
      · refine lv_tableIn (off := 273) (tgt := 312) hx hb dL_law_39 (by decide) (by decide) (by decide) (by decide) ?_
        exact s_setStart l C1 hcc hss hj hR hl hc
      · refine lv_tableIn (off := 333) (tgt := 372) hx hb dL_law_39 (by decide) (by decide) (by decide) (by decide) ?_
        exact s_setFlag l C1 hcc hss hj hR hl hc
      · refine lv_tableIn (off := 393) (tgt := 432) hx hb dL_law_39 (by decide) (by decide) (by decide) (by decide) ?_
        exact s_grow l C1 hcc hss hj hR hl hc
      · refine lv_tableIn (off := 461) (tgt := 500) hx hb dL_law_39 (by decide) (by decide) (by decide) (by decide) ?_
        exact s_cell l C1 hcc hss hj hR hl hc
      · refine lv_tableIn (off := 541) (tgt := 580) hx hb dL_law_39 (by decide) (by decide) (by decide) (by decide) ?_
        exact s_levels l C1 hcc hss hj hR hl hc
      · refine lv_tableIn (off := 554) (tgt := 593) hx hb dL_law_39 (by decide) (by decide) (by decide) (by decide) ?_
        exact s_solve l C1 hcc hss hj hR hl hc
      · refine lv_tableIn (off := 610) (tgt := 649) hx hb dL_law_39 (by decide) (by decide) (by decide) (by decide) ?_
        exact s_way l C1 hcc hss hj hR hl hc
      · refine lv_tableIn (off := 666) (tgt := 705) hx hb dL_law_39 (by decide) (by decide) (by decide) (by decide) ?_
        exact s_open l C1 hcc hss hj hR hl hc
      · refine lv_tableIn (off := 729) (tgt := 768) hx hb dL_law_39 (by decide) (by decide) (by decide) (by decide) ?_
        exact s_isOpen l C1 hcc hss hj hR hl hc
      · refine lv_tableIn (off := 792) (tgt := 831) hx hb dL_law_39 (by decide) (by decide) (by decide) (by decide) ?_
        exact s_begin l C1 hcc hss hj hR hl hc
      · refine lv_tableIn (off := 860) (tgt := 899) hx hb dL_law_39 (by decide) (by decide) (by decide) (by decide) ?_
        exact s_play l C1 hcc hss hj hR hl hc
      · refine lv_tableIn (off := 916) (tgt := 955) hx hb dL_law_39 (by decide) (by decide) (by decide) (by decide) ?_
        exact s_state l C1 hcc hss hj hR hl hc
      · refine lv_tableIn (off := 929) (tgt := 968) hx hb dL_law_39 (by decide) (by decide) (by decide) (by decide) ?_
        exact s_frames l C1 hcc hss hj hR hl hc
      · refine lv_tableIn (off := 942) (tgt := 981) hx hb dL_law_39 (by decide) (by decide) (by decide) (by decide) ?_
        exact s_heroX l C1 hcc hss hj hR hl hc
      · refine lv_tableIn (off := 955) (tgt := 994) hx hb dL_law_39 (by decide) (by decide) (by decide) (by decide) ?_
        exact s_heroY l C1 hcc hss hj hR hl hc
      · refine lv_tableIn (off := 968) (tgt := 1007) hx hb dL_law_39 (by decide) (by decide) (by decide) (by decide) ?_
        exact s_lift l C1 hcc hss hj hR hl hc
      · refine lv_tableIn (off := 981) (tgt := 1020) hx hb dL_law_39 (by decide) (by decide) (by decide) (by decide) ?_
        exact s_left l C1 hcc hss hj hR hl hc
      · refine lv_tableIn (off := 994) (tgt := 1033) hx hb dL_law_39 (by decide) (by decide) (by decide) (by decide) ?_
        exact s_hint l C1 hcc hss hj hR hl hc
      · refine lv_tableIn (off := 1007) (tgt := 1046) hx hb dL_law_39 (by decide) (by decide) (by decide) (by decide) ?_
        exact s_record l C1 hcc hss hj hR hl hc
      · refine lv_tableIn (off := 1075) (tgt := 1114) hx hb dL_law_39 (by decide) (by decide) (by decide) (by decide) ?_
        exact s_half l C1 hcc hss hj hR hl hc
      · refine lv_tableIn (off := 1143) (tgt := 1182) hx hb dL_law_39 (by decide) (by decide) (by decide) (by decide) ?_
        exact s_bestPlayer l C1 hcc hss hj hR hl hc
      · refine lv_tableIn (off := 1199) (tgt := 1238) hx hb dL_law_39 (by decide) (by decide) (by decide) (by decide) ?_
        exact s_ghost l C1 hcc hss hj hR hl hc
      · refine lv_tableIn (off := 1212) (tgt := 1251) hx hb dL_law_39 (by decide) (by decide) (by decide) (by decide) ?_
        exact s_replay l C1 hcc hss hj hR hl hc
      · refine lv_tableOut (tgt := 1319) hx hb dL_law_39 (by decide) (by decide) ?_
        exact W.widen (by omega) (by omega) (hc Hc ls hR hl)
      · refine lv_tableOut (tgt := 1319) hx hb dL_law_39 (by decide) (by decide) ?_
        exact W.widen (by omega) (by omega) (hc Hc ls hR hl)
      · refine lv_tableOut (tgt := 1319) hx hb dL_law_39 (by decide) (by decide) ?_
        exact W.widen (by omega) (by omega) (hc Hc ls hR hl)
      · refine lv_tableOut (tgt := 1319) hx hb dL_law_39 (by decide) (by decide) ?_
        exact W.widen (by omega) (by omega) (hc Hc ls hR hl)
      · refine lv_tableOut (tgt := 1319) hx hb dL_law_39 (by decide) (by decide) ?_
        exact W.widen (by omega) (by omega) (hc Hc ls hR hl)
      · refine lv_tableOut (tgt := 1319) hx hb dL_law_39 (by decide) (by decide) ?_
        exact W.widen (by omega) (by omega) (hc Hc ls hR hl)
      · refine lv_tableOut (tgt := 1319) hx hb dL_law_39 (by decide) (by decide) ?_
        exact W.widen (by omega) (by omega) (hc Hc ls hR hl)
