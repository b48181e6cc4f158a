set_option maxHeartbeats 4000000 in
set_option maxRecDepth 100000 in
theorem s_state (l : Launch) {p : Program} {e : Env} {s : State} {m : MethodId} {below : List Frame} {meth : Method} {c : Code} {Z : State → Prop} {b nL : Nat} {xs : Nat → Int32} {dC : Nat → ClassId} {dI : Nat → Nat → Nat} {cI cZ cL cT cJ : ClassId} (C1 : lC l p s m meth c b nL xs dC dI cI cZ cL cT cJ) {Hc : Heap} {cells slots : Nat} (hcc : cells + 11 ≤ room_1.cells) (hss : slots + 522 ≤ room_1.slots) {ls : Array Slot} {jj : Int} (hj : 0 ≤ jj ∧ jj + 5 ≤ (nL : Int)) {sl sh ru tr se rh rt ri de fi qu pr ou mo : Nat} {ad : Nat → Nat} (hR : lRel s (dC, dI) cI cZ cL cT cJ sl sh ru tr se rh rt ri de fi qu pr ou mo ad Hc) (hl : lv_has ls 7 [(0, .ref b), (1, .ref sl), (2, .ref mo), (3, .ref ou), (4, .int (zI jj))]) (hc : ∀ (H9 : Heap) (ls9 : Array Slot), lRel s (dC, dI) cI cZ cL cT cJ sl sh ru tr se rh rt ri de fi qu pr ou mo ad H9 → lv_has ls9 7 [(0, .ref b), (1, .ref sl), (2, .ref mo), (3, .ref ou), (4, .int (zI jj))] → W p l e room_1 s m #[Value.ref b] below meth c H9 [] (cells + 11) (slots + 522) Z (F0 m 1319 ls9 [])) : W p l e room_1 s m #[Value.ref b] below meth c Hc [] cells slots Z (F0 m 955 ls []) := by
  obtain ⟨own, sf, rl, rp, oc, hx9, hy9, hl9, rln, rhf, tx, ty, tl, qd, s1, s2, qx, qy, ql, RI, DD, FF, QQ, OU, mn, mp, mon, mrx, mry, mrl, mrs, mrf, mx, my, ml, mst, mla, mW, mH, mC, mSX, mSY, mFX, mFY, mWY, mOP, mRE, mKI, mIN, mSE, mHE, mNE, hS0, hP0, hG0, hM, ⟨hDD, hFF, hSE⟩, hRn, hLv, hNo⟩ := hR
  obtain ⟨gn, go, gp, grs, gf, gW, gH, gC, gC0, gsX, gsY, gfX, gfY, gWY, gOP, gRE, gKI, gIN⟩ := id hM
  rcases id hRn with ⟨m1, rfl⟩ | ⟨m1, m2, ⟨rfl, rfl, rfl, rfl, rfl, rfl⟩, m4, m5⟩
  ·
    have hPf := hP0
    have hDf := lD0 hG0
    refine k_state_no (rl := none) l C1 hS0 hcc hss hj  hPf hDf hl (by first | assumption | omega) (fun rr_4 po_5 => (by rw [po_5, if_pos m1])) ?_
    intro rr_4 H9 k9 ls9 po_5 hQ0 hS9 hlz
    have hLv1 : ∀ i : Nat, (i : Int) < mn → lLev (dC, dI) cI cT s H9 own sf mW mH mC mSX mSY mFX mFY mWY mOP mRE mKI i := fun i hi => lLev_keep (lF0 hG0) hS9 (hLv i hi) (by omega) (fun _ _ => rfl) rfl lSame_rf
    exact hc H9 ls9 ⟨own, sf, none, rp, oc, hx9, hy9, hl9, rln, rhf, tx, ty, tl, qd, s1, s2, qx, qy, ql, RI, DD, FF, QQ, OU, mn, mp, mon, mrx, mry, mrl, mrs, mrf, mx, my, ml, mst, 0, mW, mH, mC, mSX, mSY, mFX, mFY, mWY, mOP, mRE, mKI, mIN, mSE, mHE, mNE, lS_tr hS0 hS9 (lG_of hDf hS0), hQ0, zD_re hG0 rfl, hM, ⟨hDD, hFF, hSE⟩, hRn, hLv1, hNo⟩ hlz
  ·
    obtain ⟨k, hk⟩ : ∃ k : Nat, mon = (k : Int) := ⟨mon.toNat, by omega⟩
    obtain ⟨lv, w, h, ka, ta, sx, sy, fx, fy, lf, un, K, tq, tp, ti, LN, HF, FI, hf, hPk, hGk, hT⟩ := hLv k (by omega)
    have hT1 := hT
    rw [← hk] at hT1
    have hTa := hT1
    obtain ⟨⟨rfl, rfl, rfl, rfl, rfl, rfl, rfl, rfl⟩, b1, b2, b3, b4, b5, b6, b7, b8, b9, b10, b11, b12⟩ := hT1
    have hPf := hP0.app hPk
    have hDf := lDk hG0 hGk
    obtain rfl : rl = some lv := m2.trans (by rw [show mon.toNat = k by omega]; exact hf)
    refine k_state (k := k) (rl := none) l C1 hS0 hcc hss hj  hPf hDf hl (by first | assumption | omega) (fun rr_4 po_5 => (by rw [po_5, if_neg (by omega)])) ?_
    intro rr_4 H9 k9 ls9 po_5 hQ0 hQk hS9 hlz
    have hLv1 : ∀ i : Nat, (i : Int) < mn → lLev (dC, dI) cI cT s H9 own sf mW mH mC mSX mSY mFX mFY mWY mOP mRE mKI i := by
      intro i hi
      by_cases e9 : i = k
      · subst e9
        refine ⟨lv, (mW mon), (mH mon), ka, ta, (mSX mon), (mSY mon), (mFX mon), (mFY mon), (mWY mon), (mOP mon), K, tq, tp, ti, LN, HF, FI, hf, hQk, zD_re hGk rfl, ?_⟩
        exact hT
      · exact lLev_keep (lFk hG0 hGk) hS9 (hLv i hi) (by omega) (fun _ _ => rfl) rfl lSame_rf
    exact hc H9 ls9 ⟨own, sf, some lv, mp, mrs, mrx, mry, mrl, mrf, rhf, tx, ty, tl, qd, s1, s2, qx, qy, ql, RI, DD, FF, QQ, OU, mn, mp, mon, mrx, mry, mrl, mrs, mrf, mx, my, ml, mst, 0, mW, mH, mC, mSX, mSY, mFX, mFY, mWY, mOP, mRE, mKI, mIN, mSE, mHE, mNE, lS_tr hS0 hS9 (lG_of hDf hS0), hQ0, zD_re hG0 rfl, hM, ⟨hDD, hFF, hSE⟩, hRn, hLv1, hNo⟩ hlz
set_option maxHeartbeats 4000000 in
set_option maxRecDepth 100000 in
theorem s_frames (l : Launch) {p : Program} {e : Env} {s : State} {m : MethodId} {below : List Frame} {meth : Method} {c : Code} {Z : State → Prop} {b nL : Nat} {xs : Nat → Int32} {dC : Nat → ClassId} {dI : Nat → Nat → Nat} {cI cZ cL cT cJ : ClassId} (C1 : lC l p s m meth c b nL xs dC dI cI cZ cL cT cJ) {Hc : Heap} {cells slots : Nat} (hcc : cells + 11 ≤ room_1.cells) (hss : slots + 522 ≤ room_1.slots) {ls : Array Slot} {jj : Int} (hj : 0 ≤ jj ∧ jj + 5 ≤ (nL : Int)) {sl sh ru tr se rh rt ri de fi qu pr ou mo : Nat} {ad : Nat → Nat} (hR : lRel s (dC, dI) cI cZ cL cT cJ sl sh ru tr se rh rt ri de fi qu pr ou mo ad Hc) (hl : lv_has ls 7 [(0, .ref b), (1, .ref sl), (2, .ref mo), (3, .ref ou), (4, .int (zI jj))]) (hc : ∀ (H9 : Heap) (ls9 : Array Slot), lRel s (dC, dI) cI cZ cL cT cJ sl sh ru tr se rh rt ri de fi qu pr ou mo ad H9 → lv_has ls9 7 [(0, .ref b), (1, .ref sl), (2, .ref mo), (3, .ref ou), (4, .int (zI jj))] → W p l e room_1 s m #[Value.ref b] below meth c H9 [] (cells + 11) (slots + 522) Z (F0 m 1319 ls9 [])) : W p l e room_1 s m #[Value.ref b] below meth c Hc [] cells slots Z (F0 m 968 ls []) := by
  obtain ⟨own, sf, rl, rp, oc, hx9, hy9, hl9, rln, rhf, tx, ty, tl, qd, s1, s2, qx, qy, ql, RI, DD, FF, QQ, OU, mn, mp, mon, mrx, mry, mrl, mrs, mrf, mx, my, ml, mst, mla, mW, mH, mC, mSX, mSY, mFX, mFY, mWY, mOP, mRE, mKI, mIN, mSE, mHE, mNE, hS0, hP0, hG0, hM, ⟨hDD, hFF, hSE⟩, hRn, hLv, hNo⟩ := hR
  obtain ⟨gn, go, gp, grs, gf, gW, gH, gC, gC0, gsX, gsY, gfX, gfY, gWY, gOP, gRE, gKI, gIN⟩ := id hM
  rcases id hRn with ⟨m1, rfl⟩ | ⟨m1, m2, ⟨rfl, rfl, rfl, rfl, rfl, rfl⟩, m4, m5⟩
  ·
    have hPf := hP0
    have hDf := lD0 hG0
    refine k_frames_no (rl := none) l C1 hS0 hcc hss hj  hPf hDf hl (by first | assumption | omega) (fun rr_4 po_5 => (by rw [po_5, if_pos m1])) ?_
    intro rr_4 H9 k9 ls9 po_5 hQ0 hS9 hlz
    have hLv1 : ∀ i : Nat, (i : Int) < mn → lLev (dC, dI) cI cT s H9 own sf mW mH mC mSX mSY mFX mFY mWY mOP mRE mKI i := fun i hi => lLev_keep (lF0 hG0) hS9 (hLv i hi) (by omega) (fun _ _ => rfl) rfl lSame_rf
    exact hc H9 ls9 ⟨own, sf, none, rp, oc, hx9, hy9, hl9, rln, rhf, tx, ty, tl, qd, s1, s2, qx, qy, ql, RI, DD, FF, QQ, OU, mn, mp, mon, mrx, mry, mrl, mrs, mrf, mx, my, ml, mst, 0, mW, mH, mC, mSX, mSY, mFX, mFY, mWY, mOP, mRE, mKI, mIN, mSE, mHE, mNE, lS_tr hS0 hS9 (lG_of hDf hS0), hQ0, zD_re hG0 rfl, hM, ⟨hDD, hFF, hSE⟩, hRn, hLv1, hNo⟩ hlz
  ·
    obtain ⟨k, hk⟩ : ∃ k : Nat, mon = (k : Int) := ⟨mon.toNat, by omega⟩
    obtain ⟨lv, w, h, ka, ta, sx, sy, fx, fy, lf, un, K, tq, tp, ti, LN, HF, FI, hf, hPk, hGk, hT⟩ := hLv k (by omega)
    have hT1 := hT
    rw [← hk] at hT1
    have hTa := hT1
    obtain ⟨⟨rfl, rfl, rfl, rfl, rfl, rfl, rfl, rfl⟩, b1, b2, b3, b4, b5, b6, b7, b8, b9, b10, b11, b12⟩ := hT1
    have hPf := hP0.app hPk
    have hDf := lDk hG0 hGk
    obtain rfl : rl = some lv := m2.trans (by rw [show mon.toNat = k by omega]; exact hf)
    refine k_frames (k := k) (rl := none) l C1 hS0 hcc hss hj  hPf hDf hl (by first | assumption | omega) (fun rr_4 po_5 => (by rw [po_5, if_neg (by omega)])) ?_
    intro rr_4 H9 k9 ls9 po_5 hQ0 hQk hS9 hlz
    have hLv1 : ∀ i : Nat, (i : Int) < mn → lLev (dC, dI) cI cT s H9 own sf mW mH mC mSX mSY mFX mFY mWY mOP mRE mKI i := by
      intro i hi
      by_cases e9 : i = k
      · subst e9
        refine ⟨lv, (mW mon), (mH mon), ka, ta, (mSX mon), (mSY mon), (mFX mon), (mFY mon), (mWY mon), (mOP mon), K, tq, tp, ti, LN, HF, FI, hf, hQk, zD_re hGk rfl, ?_⟩
        exact hT
      · exact lLev_keep (lFk hG0 hGk) hS9 (hLv i hi) (by omega) (fun _ _ => rfl) rfl lSame_rf
    exact hc H9 ls9 ⟨own, sf, some lv, mp, mrs, mrx, mry, mrl, mrf, rhf, tx, ty, tl, qd, s1, s2, qx, qy, ql, RI, DD, FF, QQ, OU, mn, mp, mon, mrx, mry, mrl, mrs, mrf, mx, my, ml, mst, 0, mW, mH, mC, mSX, mSY, mFX, mFY, mWY, mOP, mRE, mKI, mIN, mSE, mHE, mNE, lS_tr hS0 hS9 (lG_of hDf hS0), hQ0, zD_re hG0 rfl, hM, ⟨hDD, hFF, hSE⟩, hRn, hLv1, hNo⟩ hlz
set_option maxHeartbeats 4000000 in
set_option maxRecDepth 100000 in
theorem s_heroX (l : Launch) {p : Program} {e : Env} {s : State} {m : MethodId} {below : List Frame} {meth : Method} {c : Code} {Z : State → Prop} {b nL : Nat} {xs : Nat → Int32} {dC : Nat → ClassId} {dI : Nat → Nat → Nat} {cI cZ cL cT cJ : ClassId} (C1 : lC l p s m meth c b nL xs dC dI cI cZ cL cT cJ) {Hc : Heap} {cells slots : Nat} (hcc : cells + 11 ≤ room_1.cells) (hss : slots + 522 ≤ room_1.slots) {ls : Array Slot} {jj : Int} (hj : 0 ≤ jj ∧ jj + 5 ≤ (nL : Int)) {sl sh ru tr se rh rt ri de fi qu pr ou mo : Nat} {ad : Nat → Nat} (hR : lRel s (dC, dI) cI cZ cL cT cJ sl sh ru tr se rh rt ri de fi qu pr ou mo ad Hc) (hl : lv_has ls 7 [(0, .ref b), (1, .ref sl), (2, .ref mo), (3, .ref ou), (4, .int (zI jj))]) (hc : ∀ (H9 : Heap) (ls9 : Array Slot), lRel s (dC, dI) cI cZ cL cT cJ sl sh ru tr se rh rt ri de fi qu pr ou mo ad H9 → lv_has ls9 7 [(0, .ref b), (1, .ref sl), (2, .ref mo), (3, .ref ou), (4, .int (zI jj))] → W p l e room_1 s m #[Value.ref b] below meth c H9 [] (cells + 11) (slots + 522) Z (F0 m 1319 ls9 [])) : W p l e room_1 s m #[Value.ref b] below meth c Hc [] cells slots Z (F0 m 981 ls []) := by
  obtain ⟨own, sf, rl, rp, oc, hx9, hy9, hl9, rln, rhf, tx, ty, tl, qd, s1, s2, qx, qy, ql, RI, DD, FF, QQ, OU, mn, mp, mon, mrx, mry, mrl, mrs, mrf, mx, my, ml, mst, mla, mW, mH, mC, mSX, mSY, mFX, mFY, mWY, mOP, mRE, mKI, mIN, mSE, mHE, mNE, hS0, hP0, hG0, hM, ⟨hDD, hFF, hSE⟩, hRn, hLv, hNo⟩ := hR
  obtain ⟨gn, go, gp, grs, gf, gW, gH, gC, gC0, gsX, gsY, gfX, gfY, gWY, gOP, gRE, gKI, gIN⟩ := id hM
  rcases id hRn with ⟨m1, rfl⟩ | ⟨m1, m2, ⟨rfl, rfl, rfl, rfl, rfl, rfl⟩, m4, m5⟩
  ·
    have hPf := hP0
    have hDf := lD0 hG0
    refine k_heroX_no (rl := none) l C1 hS0 hcc hss hj  hPf hDf hl (by first | assumption | omega) (fun rr_4 po_5 => (by rw [po_5, if_pos m1])) ?_
    intro rr_4 H9 k9 ls9 po_5 hQ0 hS9 hlz
    have hLv1 : ∀ i : Nat, (i : Int) < mn → lLev (dC, dI) cI cT s H9 own sf mW mH mC mSX mSY mFX mFY mWY mOP mRE mKI i := fun i hi => lLev_keep (lF0 hG0) hS9 (hLv i hi) (by omega) (fun _ _ => rfl) rfl lSame_rf
    exact hc H9 ls9 ⟨own, sf, none, rp, oc, hx9, hy9, hl9, rln, rhf, tx, ty, tl, qd, s1, s2, qx, qy, ql, RI, DD, FF, QQ, OU, mn, mp, mon, mrx, mry, mrl, mrs, mrf, mx, my, ml, mst, 0, mW, mH, mC, mSX, mSY, mFX, mFY, mWY, mOP, mRE, mKI, mIN, mSE, mHE, mNE, lS_tr hS0 hS9 (lG_of hDf hS0), hQ0, zD_re hG0 rfl, hM, ⟨hDD, hFF, hSE⟩, hRn, hLv1, hNo⟩ hlz
  ·
    obtain ⟨k, hk⟩ : ∃ k : Nat, mon = (k : Int) := ⟨mon.toNat, by omega⟩
    obtain ⟨lv, w, h, ka, ta, sx, sy, fx, fy, lf, un, K, tq, tp, ti, LN, HF, FI, hf, hPk, hGk, hT⟩ := hLv k (by omega)
    have hT1 := hT
    rw [← hk] at hT1
    have hTa := hT1
    obtain ⟨⟨rfl, rfl, rfl, rfl, rfl, rfl, rfl, rfl⟩, b1, b2, b3, b4, b5, b6, b7, b8, b9, b10, b11, b12⟩ := hT1
    have hPf := hP0.app hPk
    have hDf := lDk hG0 hGk
    obtain rfl : rl = some lv := m2.trans (by rw [show mon.toNat = k by omega]; exact hf)
    refine k_heroX (k := k) (rl := none) l C1 hS0 hcc hss hj  hPf hDf hl (by first | assumption | omega) (fun rr_4 po_5 => (by rw [po_5, if_neg (by omega)])) ?_
    intro rr_4 H9 k9 ls9 po_5 hQ0 hQk hS9 hlz
    have hLv1 : ∀ i : Nat, (i : Int) < mn → lLev (dC, dI) cI cT s H9 own sf mW mH mC mSX mSY mFX mFY mWY mOP mRE mKI i := by
      intro i hi
      by_cases e9 : i = k
      · subst e9
        refine ⟨lv, (mW mon), (mH mon), ka, ta, (mSX mon), (mSY mon), (mFX mon), (mFY mon), (mWY mon), (mOP mon), K, tq, tp, ti, LN, HF, FI, hf, hQk, zD_re hGk rfl, ?_⟩
        exact hT
      · exact lLev_keep (lFk hG0 hGk) hS9 (hLv i hi) (by omega) (fun _ _ => rfl) rfl lSame_rf
    exact hc H9 ls9 ⟨own, sf, some lv, mp, mrs, mrx, mry, mrl, mrf, rhf, tx, ty, tl, qd, s1, s2, qx, qy, ql, RI, DD, FF, QQ, OU, mn, mp, mon, mrx, mry, mrl, mrs, mrf, mx, my, ml, mst, 0, mW, mH, mC, mSX, mSY, mFX, mFY, mWY, mOP, mRE, mKI, mIN, mSE, mHE, mNE, lS_tr hS0 hS9 (lG_of hDf hS0), hQ0, zD_re hG0 rfl, hM, ⟨hDD, hFF, hSE⟩, hRn, hLv1, hNo⟩ hlz
set_option maxHeartbeats 4000000 in
set_option maxRecDepth 100000 in
theorem s_heroY (l : Launch) {p : Program} {e : Env} {s : State} {m : MethodId} {below : List Frame} {meth : Method} {c : Code} {Z : State → Prop} {b nL : Nat} {xs : Nat → Int32} {dC : Nat → ClassId} {dI : Nat → Nat → Nat} {cI cZ cL cT cJ : ClassId} (C1 : lC l p s m meth c b nL xs dC dI cI cZ cL cT cJ) {Hc : Heap} {cells slots : Nat} (hcc : cells + 11 ≤ room_1.cells) (hss : slots + 522 ≤ room_1.slots) {ls : Array Slot} {jj : Int} (hj : 0 ≤ jj ∧ jj + 5 ≤ (nL : Int)) {sl sh ru tr se rh rt ri de fi qu pr ou mo : Nat} {ad : Nat → Nat} (hR : lRel s (dC, dI) cI cZ cL cT cJ sl sh ru tr se rh rt ri de fi qu pr ou mo ad Hc) (hl : lv_has ls 7 [(0, .ref b), (1, .ref sl), (2, .ref mo), (3, .ref ou), (4, .int (zI jj))]) (hc : ∀ (H9 : Heap) (ls9 : Array Slot), lRel s (dC, dI) cI cZ cL cT cJ sl sh ru tr se rh rt ri de fi qu pr ou mo ad H9 → lv_has ls9 7 [(0, .ref b), (1, .ref sl), (2, .ref mo), (3, .ref ou), (4, .int (zI jj))] → W p l e room_1 s m #[Value.ref b] below meth c H9 [] (cells + 11) (slots + 522) Z (F0 m 1319 ls9 [])) : W p l e room_1 s m #[Value.ref b] below meth c Hc [] cells slots Z (F0 m 994 ls []) := by
  obtain ⟨own, sf, rl, rp, oc, hx9, hy9, hl9, rln, rhf, tx, ty, tl, qd, s1, s2, qx, qy, ql, RI, DD, FF, QQ, OU, mn, mp, mon, mrx, mry, mrl, mrs, mrf, mx, my, ml, mst, mla, mW, mH, mC, mSX, mSY, mFX, mFY, mWY, mOP, mRE, mKI, mIN, mSE, mHE, mNE, hS0, hP0, hG0, hM, ⟨hDD, hFF, hSE⟩, hRn, hLv, hNo⟩ := hR
  obtain ⟨gn, go, gp, grs, gf, gW, gH, gC, gC0, gsX, gsY, gfX, gfY, gWY, gOP, gRE, gKI, gIN⟩ := id hM
  rcases id hRn with ⟨m1, rfl⟩ | ⟨m1, m2, ⟨rfl, rfl, rfl, rfl, rfl, rfl⟩, m4, m5⟩
  ·
    have hPf := hP0
    have hDf := lD0 hG0
    refine k_heroY_no (rl := none) l C1 hS0 hcc hss hj  hPf hDf hl (by first | assumption | omega) (fun rr_4 po_5 => (by rw [po_5, if_pos m1])) ?_
    intro rr_4 H9 k9 ls9 po_5 hQ0 hS9 hlz
    have hLv1 : ∀ i : Nat, (i : Int) < mn → lLev (dC, dI) cI cT s H9 own sf mW mH mC mSX mSY mFX mFY mWY mOP mRE mKI i := fun i hi => lLev_keep (lF0 hG0) hS9 (hLv i hi) (by omega) (fun _ _ => rfl) rfl lSame_rf
    exact hc H9 ls9 ⟨own, sf, none, rp, oc, hx9, hy9, hl9, rln, rhf, tx, ty, tl, qd, s1, s2, qx, qy, ql, RI, DD, FF, QQ, OU, mn, mp, mon, mrx, mry, mrl, mrs, mrf, mx, my, ml, mst, 0, mW, mH, mC, mSX, mSY, mFX, mFY, mWY, mOP, mRE, mKI, mIN, mSE, mHE, mNE, lS_tr hS0 hS9 (lG_of hDf hS0), hQ0, zD_re hG0 rfl, hM, ⟨hDD, hFF, hSE⟩, hRn, hLv1, hNo⟩ hlz
  ·
    obtain ⟨k, hk⟩ : ∃ k : Nat, mon = (k : Int) := ⟨mon.toNat, by omega⟩
    obtain ⟨lv, w, h, ka, ta, sx, sy, fx, fy, lf, un, K, tq, tp, ti, LN, HF, FI, hf, hPk, hGk, hT⟩ := hLv k (by omega)
    have hT1 := hT
    rw [← hk] at hT1
    have hTa := hT1
    obtain ⟨⟨rfl, rfl, rfl, rfl, rfl, rfl, rfl, rfl⟩, b1, b2, b3, b4, b5, b6, b7, b8, b9, b10, b11, b12⟩ := hT1
    have hPf := hP0.app hPk
    have hDf := lDk hG0 hGk
    obtain rfl : rl = some lv := m2.trans (by rw [show mon.toNat = k by omega]; exact hf)
    refine k_heroY (k := k) (rl := none) l C1 hS0 hcc hss hj  hPf hDf hl (by first | assumption | omega) (fun rr_4 po_5 => (by rw [po_5, if_neg (by omega)])) ?_
    intro rr_4 H9 k9 ls9 po_5 hQ0 hQk hS9 hlz
    have hLv1 : ∀ i : Nat, (i : Int) < mn → lLev (dC, dI) cI cT s H9 own sf mW mH mC mSX mSY mFX mFY mWY mOP mRE mKI i := by
      intro i hi
      by_cases e9 : i = k
      · subst e9
        refine ⟨lv, (mW mon), (mH mon), ka, ta, (mSX mon), (mSY mon), (mFX mon), (mFY mon), (mWY mon), (mOP mon), K, tq, tp, ti, LN, HF, FI, hf, hQk, zD_re hGk rfl, ?_⟩
        exact hT
      · exact lLev_keep (lFk hG0 hGk) hS9 (hLv i hi) (by omega) (fun _ _ => rfl) rfl lSame_rf
    exact hc H9 ls9 ⟨own, sf, some lv, mp, mrs, mrx, mry, mrl, mrf, rhf, tx, ty, tl, qd, s1, s2, qx, qy, ql, RI, DD, FF, QQ, OU, mn, mp, mon, mrx, mry, mrl, mrs, mrf, mx, my, ml, mst, 0, mW, mH, mC, mSX, mSY, mFX, mFY, mWY, mOP, mRE, mKI, mIN, mSE, mHE, mNE, lS_tr hS0 hS9 (lG_of hDf hS0), hQ0, zD_re hG0 rfl, hM, ⟨hDD, hFF, hSE⟩, hRn, hLv1, hNo⟩ hlz
set_option maxHeartbeats 4000000 in
set_option maxRecDepth 100000 in
theorem s_lift (l : Launch) {p : Program} {e : Env} {s : State} {m : MethodId} {below : List Frame} {meth : Method} {c : Code} {Z : State → Prop} {b nL : Nat} {xs : Nat → Int32} {dC : Nat → ClassId} {dI : Nat → Nat → Nat} {cI cZ cL cT cJ : ClassId} (C1 : lC l p s m meth c b nL xs dC dI cI cZ cL cT cJ) {Hc : Heap} {cells slots : Nat} (hcc : cells + 11 ≤ room_1.cells) (hss : slots + 522 ≤ room_1.slots) {ls : Array Slot} {jj : Int} (hj : 0 ≤ jj ∧ jj + 5 ≤ (nL : Int)) {sl sh ru tr se rh rt ri de fi qu pr ou mo : Nat} {ad : Nat → Nat} (hR : lRel s (dC, dI) cI cZ cL cT cJ sl sh ru tr se rh rt ri de fi qu pr ou mo ad Hc) (hl : lv_has ls 7 [(0, .ref b), (1, .ref sl), (2, .ref mo), (3, .ref ou), (4, .int (zI jj))]) (hc : ∀ (H9 : Heap) (ls9 : Array Slot), lRel s (dC, dI) cI cZ cL cT cJ sl sh ru tr se rh rt ri de fi qu pr ou mo ad H9 → lv_has ls9 7 [(0, .ref b), (1, .ref sl), (2, .ref mo), (3, .ref ou), (4, .int (zI jj))] → W p l e room_1 s m #[Value.ref b] below meth c H9 [] (cells + 11) (slots + 522) Z (F0 m 1319 ls9 [])) : W p l e room_1 s m #[Value.ref b] below meth c Hc [] cells slots Z (F0 m 1007 ls []) := by
  obtain ⟨own, sf, rl, rp, oc, hx9, hy9, hl9, rln, rhf, tx, ty, tl, qd, s1, s2, qx, qy, ql, RI, DD, FF, QQ, OU, mn, mp, mon, mrx, mry, mrl, mrs, mrf, mx, my, ml, mst, mla, mW, mH, mC, mSX, mSY, mFX, mFY, mWY, mOP, mRE, mKI, mIN, mSE, mHE, mNE, hS0, hP0, hG0, hM, ⟨hDD, hFF, hSE⟩, hRn, hLv, hNo⟩ := hR
  obtain ⟨gn, go, gp, grs, gf, gW, gH, gC, gC0, gsX, gsY, gfX, gfY, gWY, gOP, gRE, gKI, gIN⟩ := id hM
  rcases id hRn with ⟨m1, rfl⟩ | ⟨m1, m2, ⟨rfl, rfl, rfl, rfl, rfl, rfl⟩, m4, m5⟩
  ·
    have hPf := hP0
    have hDf := lD0 hG0
    refine k_lift_no (rl := none) l C1 hS0 hcc hss hj  hPf hDf hl (by first | assumption | omega) (fun rr_4 po_5 => (by rw [po_5, if_pos m1])) ?_
    intro rr_4 H9 k9 ls9 po_5 hQ0 hS9 hlz
    have hLv1 : ∀ i : Nat, (i : Int) < mn → lLev (dC, dI) cI cT s H9 own sf mW mH mC mSX mSY mFX mFY mWY mOP mRE mKI i := fun i hi => lLev_keep (lF0 hG0) hS9 (hLv i hi) (by omega) (fun _ _ => rfl) rfl lSame_rf
    exact hc H9 ls9 ⟨own, sf, none, rp, oc, hx9, hy9, hl9, rln, rhf, tx, ty, tl, qd, s1, s2, qx, qy, ql, RI, DD, FF, QQ, OU, mn, mp, mon, mrx, mry, mrl, mrs, mrf, mx, my, ml, mst, 0, mW, mH, mC, mSX, mSY, mFX, mFY, mWY, mOP, mRE, mKI, mIN, mSE, mHE, mNE, lS_tr hS0 hS9 (lG_of hDf hS0), hQ0, zD_re hG0 rfl, hM, ⟨hDD, hFF, hSE⟩, hRn, hLv1, hNo⟩ hlz
  ·
    obtain ⟨k, hk⟩ : ∃ k : Nat, mon = (k : Int) := ⟨mon.toNat, by omega⟩
    obtain ⟨lv, w, h, ka, ta, sx, sy, fx, fy, lf, un, K, tq, tp, ti, LN, HF, FI, hf, hPk, hGk, hT⟩ := hLv k (by omega)
    have hT1 := hT
    rw [← hk] at hT1
    have hTa := hT1
    obtain ⟨⟨rfl, rfl, rfl, rfl, rfl, rfl, rfl, rfl⟩, b1, b2, b3, b4, b5, b6, b7, b8, b9, b10, b11, b12⟩ := hT1
    have hPf := hP0.app hPk
    have hDf := lDk hG0 hGk
    obtain rfl : rl = some lv := m2.trans (by rw [show mon.toNat = k by omega]; exact hf)
    refine k_lift (k := k) (rl := none) l C1 hS0 hcc hss hj  hPf hDf hl (by first | assumption | omega) (fun rr_4 po_5 => (by rw [po_5, if_neg (by omega)])) ?_
    intro rr_4 H9 k9 ls9 po_5 hQ0 hQk hS9 hlz
    have hLv1 : ∀ i : Nat, (i : Int) < mn → lLev (dC, dI) cI cT s H9 own sf mW mH mC mSX mSY mFX mFY mWY mOP mRE mKI i := by
      intro i hi
      by_cases e9 : i = k
      · subst e9
        refine ⟨lv, (mW mon), (mH mon), ka, ta, (mSX mon), (mSY mon), (mFX mon), (mFY mon), (mWY mon), (mOP mon), K, tq, tp, ti, LN, HF, FI, hf, hQk, zD_re hGk rfl, ?_⟩
        exact hT
      · exact lLev_keep (lFk hG0 hGk) hS9 (hLv i hi) (by omega) (fun _ _ => rfl) rfl lSame_rf
    exact hc H9 ls9 ⟨own, sf, some lv, mp, mrs, mrx, mry, mrl, mrf, rhf, tx, ty, tl, qd, s1, s2, qx, qy, ql, RI, DD, FF, QQ, OU, mn, mp, mon, mrx, mry, mrl, mrs, mrf, mx, my, ml, mst, 0, mW, mH, mC, mSX, mSY, mFX, mFY, mWY, mOP, mRE, mKI, mIN, mSE, mHE, mNE, lS_tr hS0 hS9 (lG_of hDf hS0), hQ0, zD_re hG0 rfl, hM, ⟨hDD, hFF, hSE⟩, hRn, hLv1, hNo⟩ hlz
set_option maxHeartbeats 4000000 in
set_option maxRecDepth 100000 in
theorem s_left (l : Launch) {p : Program} {e : Env} {s : State} {m : MethodId} {below : List Frame} {meth : Method} {c : Code} {Z : State → Prop} {b nL : Nat} {xs : Nat → Int32} {dC : Nat → ClassId} {dI : Nat → Nat → Nat} {cI cZ cL cT cJ : ClassId} (C1 : lC l p s m meth c b nL xs dC dI cI cZ cL cT cJ) {Hc : Heap} {cells slots : Nat} (hcc : cells + 11 ≤ room_1.cells) (hss : slots + 522 ≤ room_1.slots) {ls : Array Slot} {jj : Int} (hj : 0 ≤ jj ∧ jj + 5 ≤ (nL : Int)) {sl sh ru tr se rh rt ri de fi qu pr ou mo : Nat} {ad : Nat → Nat} (hR : lRel s (dC, dI) cI cZ cL cT cJ sl sh ru tr se rh rt ri de fi qu pr ou mo ad Hc) (hl : lv_has ls 7 [(0, .ref b), (1, .ref sl), (2, .ref mo), (3, .ref ou), (4, .int (zI jj))]) (hc : ∀ (H9 : Heap) (ls9 : Array Slot), lRel s (dC, dI) cI cZ cL cT cJ sl sh ru tr se rh rt ri de fi qu pr ou mo ad H9 → lv_has ls9 7 [(0, .ref b), (1, .ref sl), (2, .ref mo), (3, .ref ou), (4, .int (zI jj))] → W p l e room_1 s m #[Value.ref b] below meth c H9 [] (cells + 11) (slots + 522) Z (F0 m 1319 ls9 [])) : W p l e room_1 s m #[Value.ref b] below meth c Hc [] cells slots Z (F0 m 1020 ls []) := by
  obtain ⟨own, sf, rl, rp, oc, hx9, hy9, hl9, rln, rhf, tx, ty, tl, qd, s1, s2, qx, qy, ql, RI, DD, FF, QQ, OU, mn, mp, mon, mrx, mry, mrl, mrs, mrf, mx, my, ml, mst, mla, mW, mH, mC, mSX, mSY, mFX, mFY, mWY, mOP, mRE, mKI, mIN, mSE, mHE, mNE, hS0, hP0, hG0, hM, ⟨hDD, hFF, hSE⟩, hRn, hLv, hNo⟩ := hR
  obtain ⟨gn, go, gp, grs, gf, gW, gH, gC, gC0, gsX, gsY, gfX, gfY, gWY, gOP, gRE, gKI, gIN⟩ := id hM
  rcases id hRn with ⟨m1, rfl⟩ | ⟨m1, m2, ⟨rfl, rfl, rfl, rfl, rfl, rfl⟩, m4, m5⟩
  ·
    have hPf := hP0
    have hDf := lD0 hG0
    refine k_left_a (rl := none) l C1 hS0 hcc hss hj  hPf hDf hl (by first | assumption | omega) (by first | assumption | omega) (by first | assumption | omega) (by omega) ?_
    intro  H9 k9 ls9  hQ0 hS9 hlz
    have hLv1 : ∀ i : Nat, (i : Int) < mn → lLev (dC, dI) cI cT s H9 own sf mW mH mC mSX mSY mFX mFY mWY mOP mRE mKI i := fun i hi => lLev_keep (lF0 hG0) hS9 (hLv i hi) (by omega) (fun _ _ => rfl) rfl lSame_rf
    exact hc H9 ls9 ⟨own, sf, none, rp, oc, hx9, hy9, hl9, rln, rhf, tx, ty, tl, qd, -1, -1, qx, qy, ql, RI, DD, FF, QQ, OU, mn, mp, mon, mrx, mry, mrl, mrs, mrf, mx, my, ml, mst, 0, mW, mH, mC, mSX, mSY, mFX, mFY, mWY, mOP, mRE, mKI, mIN, mSE, mHE, mNE, lS_tr hS0 hS9 (lG_of hDf hS0), hQ0, zD_re hG0 rfl, hM, ⟨hDD, hFF, hSE⟩, hRn, hLv1, hNo⟩ hlz
  ·
    obtain ⟨k, hk⟩ : ∃ k : Nat, mon = (k : Int) := ⟨mon.toNat, by omega⟩
    obtain ⟨lv, w, h, ka, ta, sx, sy, fx, fy, lf, un, K, tq, tp, ti, LN, HF, FI, hf, hPk, hGk, hT⟩ := hLv k (by omega)
    have hT1 := hT
    rw [← hk] at hT1
    have hTa := hT1
    obtain ⟨⟨rfl, rfl, rfl, rfl, rfl, rfl, rfl, rfl⟩, b1, b2, b3, b4, b5, b6, b7, b8, b9, b10, b11, b12⟩ := hT1
    have hPf := hP0.app hPk
    have hDf := lDk hG0 hGk
    obtain rfl : rl = some lv := m2.trans (by rw [show mon.toNat = k by omega]; exact hf)
    by_cases c1 : mrs = 0
    ·
      have m6 := m5 c1
      have g6 := lRnP_rng b3 b4 gf.1 m6
      have gm := m6.1
      refine k_left (k := k) (rl := none) l C1 hS0 hcc hss hj  hPf hDf hl (by first | assumption | omega) (by first | assumption | omega) (by first | assumption | omega) (by first | assumption | omega) (by first | assumption | omega) (by first | assumption | omega) (by first | assumption | omega) (by first | assumption | omega) (by first | assumption | omega) (by first | assumption | omega) (by first | assumption | omega) (by first | assumption | omega) (by first | assumption | omega) (by first | assumption | omega) (by first | assumption | omega) (by first | assumption | omega) (by first | assumption | omega) (by first | assumption | omega) (by first | assumption | omega) (by first | assumption | omega) (by first | assumption | omega) (by first | assumption | omega) (by first | assumption | omega) (by first | assumption | omega) (by first | assumption | omega) (fun n1_2 s11_3 s21_4 D1_5 F1_6 Q1_7 qx1_8 qy1_9 ql1_10 r_13 x1_14 y1_15 l1_16 o1_17 S1_18 E1_19 N1_20 po_11 po_21 => (by
                  obtain ⟨D0, F0, Q0, _, _, z3, z4⟩ := po_11.2.2
                  obtain ⟨S0, E0, N0, _, z5, z6⟩ := po_21.2
                  exact (show s11_3 = _ from congrArg Prod.fst z4).trans ((both_least (by omega) (by omega) (vld_plc (by omega) (by omega) g6.1 g6.2.1 g6.2.2) (by omega) b9 z3 z5).trans z6.symm))) ?_
      intro n1_2 s11_3 s21_4 D1_5 F1_6 Q1_7 qx1_8 qy1_9 ql1_10 r_13 x1_14 y1_15 l1_16 o1_17 S1_18 E1_19 N1_20 H9 k9 ls9 po_11 po_21 hQ0 hQk hS9 hlz
      have hLv1 : ∀ i : Nat, (i : Int) < mn → lLev (dC, dI) cI cT s H9 own sf mW mH mC mSX mSY mFX mFY mWY mOP mRE mKI i := by
        intro i hi
        by_cases e9 : i = k
        · subst e9
          refine ⟨lv, (mW mon), (mH mon), ka, ta, (mSX mon), (mSY mon), (mFX mon), (mFY mon), (mWY mon), (mOP mon), K, tq, tp, ti, LN, HF, FI, hf, hQk, zD_re hGk rfl, ?_⟩
          exact hT
        · exact lLev_keep (lFk hG0 hGk) hS9 (hLv i hi) (by omega) (fun _ _ => rfl) rfl lSame_rf
      exact hc H9 ls9 ⟨own, sf, some lv, mp, mrs, mrx, mry, mrl, mrf, rhf, tx, ty, tl, n1_2, s11_3, s21_4, qx1_8, qy1_9, ql1_10, RI, D1_5, F1_6, Q1_7, OU, mn, mp, mon, mrx, mry, mrl, mrs, mrf, x1_14, y1_15, l1_16, o1_17, 0, mW, mH, mC, mSX, mSY, mFX, mFY, mWY, mOP, mRE, mKI, mIN, S1_18, E1_19, N1_20, lS_tr hS0 hS9 (lG_of hDf hS0), hQ0, zD_re hG0 rfl, hM, ⟨po_11.1, po_11.2.1, po_21.1⟩, hRn, hLv1, hNo⟩ hlz
    ·
      refine k_left_b (k := k) (rl := none) l C1 hS0 hcc hss hj  hPf hDf hl (by first | assumption | omega) (by first | assumption | omega) (by first | assumption | omega) (by first | assumption | omega) (by first | assumption | omega) (by omega) ?_
      intro  H9 k9 ls9  hQ0 hQk hS9 hlz
      have hLv1 : ∀ i : Nat, (i : Int) < mn → lLev (dC, dI) cI cT s H9 own sf mW mH mC mSX mSY mFX mFY mWY mOP mRE mKI i := by
        intro i hi
        by_cases e9 : i = k
        · subst e9
          refine ⟨lv, (mW mon), (mH mon), ka, ta, (mSX mon), (mSY mon), (mFX mon), (mFY mon), (mWY mon), (mOP mon), K, tq, tp, ti, LN, HF, FI, hf, hQk, zD_re hGk rfl, ?_⟩
          exact hT
        · exact lLev_keep (lFk hG0 hGk) hS9 (hLv i hi) (by omega) (fun _ _ => rfl) rfl lSame_rf
      exact hc H9 ls9 ⟨own, sf, some lv, mp, mrs, mrx, mry, mrl, mrf, rhf, tx, ty, tl, qd, -1, -1, qx, qy, ql, RI, DD, FF, QQ, OU, mn, mp, mon, mrx, mry, mrl, mrs, mrf, mx, my, ml, mst, 0, mW, mH, mC, mSX, mSY, mFX, mFY, mWY, mOP, mRE, mKI, mIN, mSE, mHE, mNE, lS_tr hS0 hS9 (lG_of hDf hS0), hQ0, zD_re hG0 rfl, hM, ⟨hDD, hFF, hSE⟩, hRn, hLv1, hNo⟩ hlz
set_option maxHeartbeats 4000000 in
set_option maxRecDepth 100000 in
theorem s_hint (l : Launch) {p : Program} {e : Env} {s : State} {m : MethodId} {below : List Frame} {meth : Method} {c : Code} {Z : State → Prop} {b nL : Nat} {xs : Nat → Int32} {dC : Nat → ClassId} {dI : Nat → Nat → Nat} {cI cZ cL cT cJ : ClassId} (C1 : lC l p s m meth c b nL xs dC dI cI cZ cL cT cJ) {Hc : Heap} {cells slots : Nat} (hcc : cells + 11 ≤ room_1.cells) (hss : slots + 522 ≤ room_1.slots) {ls : Array Slot} {jj : Int} (hj : 0 ≤ jj ∧ jj + 5 ≤ (nL : Int)) {sl sh ru tr se rh rt ri de fi qu pr ou mo : Nat} {ad : Nat → Nat} (hR : lRel s (dC, dI) cI cZ cL cT cJ sl sh ru tr se rh rt ri de fi qu pr ou mo ad Hc) (hl : lv_has ls 7 [(0, .ref b), (1, .ref sl), (2, .ref mo), (3, .ref ou), (4, .int (zI jj))]) (hc : ∀ (H9 : Heap) (ls9 : Array Slot), lRel s (dC, dI) cI cZ cL cT cJ sl sh ru tr se rh rt ri de fi qu pr ou mo ad H9 → lv_has ls9 7 [(0, .ref b), (1, .ref sl), (2, .ref mo), (3, .ref ou), (4, .int (zI jj))] → W p l e room_1 s m #[Value.ref b] below meth c H9 [] (cells + 11) (slots + 522) Z (F0 m 1319 ls9 [])) : W p l e room_1 s m #[Value.ref b] below meth c Hc [] cells slots Z (F0 m 1033 ls []) := by
  obtain ⟨own, sf, rl, rp, oc, hx9, hy9, hl9, rln, rhf, tx, ty, tl, qd, s1, s2, qx, qy, ql, RI, DD, FF, QQ, OU, mn, mp, mon, mrx, mry, mrl, mrs, mrf, mx, my, ml, mst, mla, mW, mH, mC, mSX, mSY, mFX, mFY, mWY, mOP, mRE, mKI, mIN, mSE, mHE, mNE, hS0, hP0, hG0, hM, ⟨hDD, hFF, hSE⟩, hRn, hLv, hNo⟩ := hR
  obtain ⟨gn, go, gp, grs, gf, gW, gH, gC, gC0, gsX, gsY, gfX, gfY, gWY, gOP, gRE, gKI, gIN⟩ := id hM
  rcases id hRn with ⟨m1, rfl⟩ | ⟨m1, m2, ⟨rfl, rfl, rfl, rfl, rfl, rfl⟩, m4, m5⟩
  ·
    have hPf := hP0
    have hDf := lD0 hG0
    refine k_hint_a (rl := none) l C1 hS0 hcc hss hj  hPf hDf hl (by first | assumption | omega) (by first | assumption | omega) (by first | assumption | omega) (by omega) ?_
    intro  H9 k9 ls9  hQ0 hS9 hlz
    have hLv1 : ∀ i : Nat, (i : Int) < mn → lLev (dC, dI) cI cT s H9 own sf mW mH mC mSX mSY mFX mFY mWY mOP mRE mKI i := fun i hi => lLev_keep (lF0 hG0) hS9 (hLv i hi) (by omega) (fun _ _ => rfl) rfl lSame_rf
    exact hc H9 ls9 ⟨own, sf, none, rp, oc, hx9, hy9, hl9, rln, rhf, tx, ty, tl, qd, -1, -1, qx, qy, ql, RI, DD, FF, QQ, OU, mn, mp, mon, mrx, mry, mrl, mrs, mrf, mx, my, ml, mst, 0, mW, mH, mC, mSX, mSY, mFX, mFY, mWY, mOP, mRE, mKI, mIN, mSE, mHE, mNE, lS_tr hS0 hS9 (lG_of hDf hS0), hQ0, zD_re hG0 rfl, hM, ⟨hDD, hFF, hSE⟩, hRn, hLv1, hNo⟩ hlz
  ·
    obtain ⟨k, hk⟩ : ∃ k : Nat, mon = (k : Int) := ⟨mon.toNat, by omega⟩
    obtain ⟨lv, w, h, ka, ta, sx, sy, fx, fy, lf, un, K, tq, tp, ti, LN, HF, FI, hf, hPk, hGk, hT⟩ := hLv k (by omega)
    have hT1 := hT
    rw [← hk] at hT1
    have hTa := hT1
    obtain ⟨⟨rfl, rfl, rfl, rfl, rfl, rfl, rfl, rfl⟩, b1, b2, b3, b4, b5, b6, b7, b8, b9, b10, b11, b12⟩ := hT1
    have hPf := hP0.app hPk
    have hDf := lDk hG0 hGk
    obtain rfl : rl = some lv := m2.trans (by rw [show mon.toNat = k by omega]; exact hf)
    by_cases c1 : mrs = 0
    ·
      have m6 := m5 c1
      have g6 := lRnP_rng b3 b4 gf.1 m6
      have gm := m6.1
      refine k_hint (k := k) (rl := none) l C1 hS0 hcc hss hj  hPf hDf hl (by first | assumption | omega) (by first | assumption | omega) (by first | assumption | omega) (by first | assumption | omega) (by first | assumption | omega) (by first | assumption | omega) (by first | assumption | omega) (by first | assumption | omega) (by first | assumption | omega) (by first | assumption | omega) (by first | assumption | omega) (by first | assumption | omega) (by first | assumption | omega) (by first | assumption | omega) (by first | assumption | omega) (by first | assumption | omega) (by first | assumption | omega) (by first | assumption | omega) (by first | assumption | omega) (by first | assumption | omega) (by first | assumption | omega) (by first | assumption | omega) (by first | assumption | omega) (by first | assumption | omega) (by first | assumption | omega) (fun n1_2 s11_3 s21_4 D1_5 F1_6 Q1_7 qx1_8 qy1_9 ql1_10 rr_13 x1_14 y1_15 l1_16 o1_17 S1_18 E1_19 N1_20 po_11 po_21 => (by
                  obtain ⟨D0, F0, Q0, _, _, z3, z4⟩ := po_11.2.2
                  obtain ⟨r9, z5, z6⟩ := po_21.2
                  exact (show s21_4 = _ from congrArg Prod.snd z4).trans (both_first (by omega) (by omega) (vld_plc (by omega) (by omega) g6.1 g6.2.1 g6.2.2) b9 z3 z5 z6))) ?_
      intro n1_2 s11_3 s21_4 D1_5 F1_6 Q1_7 qx1_8 qy1_9 ql1_10 rr_13 x1_14 y1_15 l1_16 o1_17 S1_18 E1_19 N1_20 H9 k9 ls9 po_11 po_21 hQ0 hQk hS9 hlz
      have hLv1 : ∀ i : Nat, (i : Int) < mn → lLev (dC, dI) cI cT s H9 own sf mW mH mC mSX mSY mFX mFY mWY mOP mRE mKI i := by
        intro i hi
        by_cases e9 : i = k
        · subst e9
          refine ⟨lv, (mW mon), (mH mon), ka, ta, (mSX mon), (mSY mon), (mFX mon), (mFY mon), (mWY mon), (mOP mon), K, tq, tp, ti, LN, HF, FI, hf, hQk, zD_re hGk rfl, ?_⟩
          exact hT
        · exact lLev_keep (lFk hG0 hGk) hS9 (hLv i hi) (by omega) (fun _ _ => rfl) rfl lSame_rf
      exact hc H9 ls9 ⟨own, sf, some lv, mp, mrs, mrx, mry, mrl, mrf, rhf, tx, ty, tl, n1_2, s11_3, s21_4, qx1_8, qy1_9, ql1_10, RI, D1_5, F1_6, Q1_7, OU, mn, mp, mon, mrx, mry, mrl, mrs, mrf, x1_14, y1_15, l1_16, o1_17, 0, mW, mH, mC, mSX, mSY, mFX, mFY, mWY, mOP, mRE, mKI, mIN, S1_18, E1_19, N1_20, lS_tr hS0 hS9 (lG_of hDf hS0), hQ0, zD_re hG0 rfl, hM, ⟨po_11.1, po_11.2.1, po_21.1⟩, hRn, hLv1, hNo⟩ hlz
    ·
      refine k_hint_b (k := k) (rl := none) l C1 hS0 hcc hss hj  hPf hDf hl (by first | assumption | omega) (by first | assumption | omega) (by first | assumption | omega) (by first | assumption | omega) (by first | assumption | omega) (by omega) ?_
      intro  H9 k9 ls9  hQ0 hQk hS9 hlz
      have hLv1 : ∀ i : Nat, (i : Int) < mn → lLev (dC, dI) cI cT s H9 own sf mW mH mC mSX mSY mFX mFY mWY mOP mRE mKI i := by
        intro i hi
        by_cases e9 : i = k
        · subst e9
          refine ⟨lv, (mW mon), (mH mon), ka, ta, (mSX mon), (mSY mon), (mFX mon), (mFY mon), (mWY mon), (mOP mon), K, tq, tp, ti, LN, HF, FI, hf, hQk, zD_re hGk rfl, ?_⟩
          exact hT
        · exact lLev_keep (lFk hG0 hGk) hS9 (hLv i hi) (by omega) (fun _ _ => rfl) rfl lSame_rf
      exact hc H9 ls9 ⟨own, sf, some lv, mp, mrs, mrx, mry, mrl, mrf, rhf, tx, ty, tl, qd, -1, -1, qx, qy, ql, RI, DD, FF, QQ, OU, mn, mp, mon, mrx, mry, mrl, mrs, mrf, mx, my, ml, mst, 0, mW, mH, mC, mSX, mSY, mFX, mFY, mWY, mOP, mRE, mKI, mIN, mSE, mHE, mNE, lS_tr hS0 hS9 (lG_of hDf hS0), hQ0, zD_re hG0 rfl, hM, ⟨hDD, hFF, hSE⟩, hRn, hLv1, hNo⟩ hlz
