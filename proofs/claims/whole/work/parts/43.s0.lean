set_option maxHeartbeats 4000000 in
set_option maxRecDepth 100000 in
theorem s_levels (l : Launch) {p : Program} {e : Env} {s : State} {m : MethodId} {below : List Frame} {meth : Method} {c : Code} {Z : State → Prop} {b nL : Nat} {xs : Nat → Int32} {dC : Nat → ClassId} {dI : Nat → Nat → Nat} {cI cZ cL cT cJ : ClassId} (C1 : lC l p s m meth c b nL xs dC dI cI cZ cL cT cJ) {Hc : Heap} {cells slots : Nat} (hcc : cells + 11 ≤ room_1.cells) (hss : slots + 522 ≤ room_1.slots) {ls : Array Slot} {jj : Int} (hj : 0 ≤ jj ∧ jj + 5 ≤ (nL : Int)) {sl sh ru tr se rh rt ri de fi qu pr ou mo : Nat} {ad : Nat → Nat} (hR : lRel s (dC, dI) cI cZ cL cT cJ sl sh ru tr se rh rt ri de fi qu pr ou mo ad Hc) (hl : lv_has ls 7 [(0, .ref b), (1, .ref sl), (2, .ref mo), (3, .ref ou), (4, .int (zI jj))]) (hc : ∀ (H9 : Heap) (ls9 : Array Slot), lRel s (dC, dI) cI cZ cL cT cJ sl sh ru tr se rh rt ri de fi qu pr ou mo ad H9 → lv_has ls9 7 [(0, .ref b), (1, .ref sl), (2, .ref mo), (3, .ref ou), (4, .int (zI jj))] → W p l e room_1 s m #[Value.ref b] below meth c H9 [] (cells + 11) (slots + 522) Z (F0 m 1319 ls9 [])) : W p l e room_1 s m #[Value.ref b] below meth c Hc [] cells slots Z (F0 m 580 ls []) := by
  obtain ⟨own, sf, rl, rp, oc, hx9, hy9, hl9, rln, rhf, tx, ty, tl, qd, s1, s2, qx, qy, ql, RI, DD, FF, QQ, OU, mn, mp, mon, mrx, mry, mrl, mrs, mrf, mx, my, ml, mst, mla, mW, mH, mC, mSX, mSY, mFX, mFY, mWY, mOP, mRE, mKI, mIN, mSE, mHE, mNE, hS0, hP0, hG0, hM, ⟨hDD, hFF, hSE⟩, hRn, hLv, hNo⟩ := hR
  obtain ⟨gn, go, gp, grs, gf, gW, gH, gC, gC0, gsX, gsY, gfX, gfY, gWY, gOP, gRE, gKI, gIN⟩ := id hM
  have hPf := hP0
  have hDf := lD0 hG0
  refine k_levels l C1 hS0 hcc hss hj  hPf hDf hl  (by omega) ?_
  intro  H9 k9 ls9  hQ0 hS9 hlz
  have hLv1 : ∀ i : Nat, (i : Int) < mn → lLev (dC, dI) cI cT s H9 own sf mW mH mC mSX mSY mFX mFY mWY mOP mRE mKI i := fun i hi => lLev_keep (lF0 hG0) hS9 (hLv i hi) (by omega) (fun _ _ => rfl) rfl lSame_rf
  exact hc H9 ls9 ⟨own, sf, rl, rp, oc, hx9, hy9, hl9, rln, rhf, tx, ty, tl, qd, s1, s2, qx, qy, ql, RI, DD, FF, QQ, OU, mn, mp, mon, mrx, mry, mrl, mrs, mrf, mx, my, ml, mst, 0, mW, mH, mC, mSX, mSY, mFX, mFY, mWY, mOP, mRE, mKI, mIN, mSE, mHE, mNE, lS_tr hS0 hS9 (lG_of hDf hS0), hQ0, zD_re hG0 rfl, hM, ⟨hDD, hFF, hSE⟩, hRn, hLv1, hNo⟩ hlz
set_option maxHeartbeats 4000000 in
set_option maxRecDepth 100000 in
theorem s_way (l : Launch) {p : Program} {e : Env} {s : State} {m : MethodId} {below : List Frame} {meth : Method} {c : Code} {Z : State → Prop} {b nL : Nat} {xs : Nat → Int32} {dC : Nat → ClassId} {dI : Nat → Nat → Nat} {cI cZ cL cT cJ : ClassId} (C1 : lC l p s m meth c b nL xs dC dI cI cZ cL cT cJ) {Hc : Heap} {cells slots : Nat} (hcc : cells + 11 ≤ room_1.cells) (hss : slots + 522 ≤ room_1.slots) {ls : Array Slot} {jj : Int} (hj : 0 ≤ jj ∧ jj + 5 ≤ (nL : Int)) {sl sh ru tr se rh rt ri de fi qu pr ou mo : Nat} {ad : Nat → Nat} (hR : lRel s (dC, dI) cI cZ cL cT cJ sl sh ru tr se rh rt ri de fi qu pr ou mo ad Hc) (hl : lv_has ls 7 [(0, .ref b), (1, .ref sl), (2, .ref mo), (3, .ref ou), (4, .int (zI jj))]) (hc : ∀ (H9 : Heap) (ls9 : Array Slot), lRel s (dC, dI) cI cZ cL cT cJ sl sh ru tr se rh rt ri de fi qu pr ou mo ad H9 → lv_has ls9 7 [(0, .ref b), (1, .ref sl), (2, .ref mo), (3, .ref ou), (4, .int (zI jj))] → W p l e room_1 s m #[Value.ref b] below meth c H9 [] (cells + 11) (slots + 522) Z (F0 m 1319 ls9 [])) : W p l e room_1 s m #[Value.ref b] below meth c Hc [] cells slots Z (F0 m 649 ls []) := by
  obtain ⟨own, sf, rl, rp, oc, hx9, hy9, hl9, rln, rhf, tx, ty, tl, qd, s1, s2, qx, qy, ql, RI, DD, FF, QQ, OU, mn, mp, mon, mrx, mry, mrl, mrs, mrf, mx, my, ml, mst, mla, mW, mH, mC, mSX, mSY, mFX, mFY, mWY, mOP, mRE, mKI, mIN, mSE, mHE, mNE, hS0, hP0, hG0, hM, ⟨hDD, hFF, hSE⟩, hRn, hLv, hNo⟩ := hR
  obtain ⟨gn, go, gp, grs, gf, gW, gH, gC, gC0, gsX, gsY, gfX, gfY, gWY, gOP, gRE, gKI, gIN⟩ := id hM
  obtain ⟨a1, ha1, r1⟩ := zI_ex (xs (jj + 1).toNat)
  by_cases c1 : 0 ≤ a1 ∧ a1 < mn
  ·
    obtain ⟨k, hk⟩ : ∃ k : Nat, a1 = (k : Int) := ⟨a1.toNat, by omega⟩
    obtain ⟨lv, w, h, ka, ta, sx, sy, fx, fy, lf, un, K, tq, tp, ti, LN, HF, FI, hf, hPk, hGk, hT⟩ := hLv k (by omega)
    have hT1 := hT
    rw [← hk] at hT1
    have hTa := hT1
    obtain ⟨⟨rfl, rfl, rfl, rfl, rfl, rfl, rfl, rfl⟩, b1, b2, b3, b4, b5, b6, b7, b8, b9, b10, b11, b12⟩ := hT1
    have hPf := hP0.app hPk
    have hDf := lDk hG0 hGk
    refine k_way (k := k) l C1 hS0 hcc hss hj ha1 hPf hDf hl (by first | assumption | omega) (by first | assumption | omega) (by first | assumption | omega) (by first | assumption | omega) (by intros; omega) (fun OU1_2 la_5 rr_6 po_3 po_7 => (by exact po_7.2.symm)) ?_
    intro OU1_2 la_5 rr_6 H9 k9 ls9 po_3 po_7 hQ0 hQk hS9 hlz
    have hLv1 : ∀ i : Nat, (i : Int) < mn → lLev (dC, dI) cI cT s H9 own sf mW mH mC mSX mSY mFX mFY mWY mOP mRE mKI i := by
      intro i hi
      by_cases e9 : i = k
      · subst e9
        refine ⟨lv, (mW a1), (mH a1), ka, ta, (mSX a1), (mSY a1), (mFX a1), (mFY a1), (mWY a1), (mOP a1), K, tq, tp, ti, LN, HF, FI, hf, hQk, zD_re hGk rfl, ?_⟩
        exact hT
      · exact lLev_keep (lFk hG0 hGk) hS9 (hLv i hi) (by omega) (fun _ _ => rfl) rfl lSame_rf
    exact hc H9 ls9 ⟨own, sf, rl, rp, oc, hx9, hy9, hl9, rln, rhf, tx, ty, tl, qd, s1, s2, qx, qy, ql, RI, DD, FF, QQ, OU1_2, mn, mp, mon, mrx, mry, mrl, mrs, mrf, mx, my, ml, mst, la_5, mW, mH, mC, mSX, mSY, mFX, mFY, mWY, mOP, mRE, mKI, mIN, mSE, mHE, mNE, lS_tr hS0 hS9 (lG_of hDf hS0), hQ0, zD_re hG0 rfl, hM, ⟨hDD, hFF, hSE⟩, hRn, hLv1, hNo⟩ hlz
  ·
    have hPf := hP0
    have hDf := lD0 hG0
    have gb := lNo hNo c1
    refine k_way_xa l C1 hS0 hcc hss hj ha1 hPf hDf hl (by first | assumption | omega) (by first | assumption | omega) (by first | assumption | omega) (by first | assumption | omega) (by intros; omega) ?_
    intro la_4 H9 k9 ls9 po_5 hQ0 hS9 hlz
    have hLv1 : ∀ i : Nat, (i : Int) < mn → lLev (dC, dI) cI cT s H9 own sf mW mH mC mSX mSY mFX mFY mWY mOP mRE mKI i := fun i hi => lLev_keep (lF0 hG0) hS9 (hLv i hi) (by omega) (fun _ _ => rfl) rfl lSame_rf
    exact hc H9 ls9 ⟨own, sf, rl, rp, oc, hx9, hy9, hl9, rln, rhf, tx, ty, tl, qd, s1, s2, qx, qy, ql, RI, DD, FF, QQ, OU, mn, mp, mon, mrx, mry, mrl, mrs, mrf, mx, my, ml, mst, la_4, mW, mH, mC, mSX, mSY, mFX, mFY, mWY, mOP, mRE, mKI, mIN, mSE, mHE, mNE, lS_tr hS0 hS9 (lG_of hDf hS0), hQ0, zD_re hG0 rfl, hM, ⟨hDD, hFF, hSE⟩, hRn, hLv1, hNo⟩ hlz
set_option maxHeartbeats 4000000 in
set_option maxRecDepth 100000 in
theorem s_isOpen (l : Launch) {p : Program} {e : Env} {s : State} {m : MethodId} {below : List Frame} {meth : Method} {c : Code} {Z : State → Prop} {b nL : Nat} {xs : Nat → Int32} {dC : Nat → ClassId} {dI : Nat → Nat → Nat} {cI cZ cL cT cJ : ClassId} (C1 : lC l p s m meth c b nL xs dC dI cI cZ cL cT cJ) {Hc : Heap} {cells slots : Nat} (hcc : cells + 11 ≤ room_1.cells) (hss : slots + 522 ≤ room_1.slots) {ls : Array Slot} {jj : Int} (hj : 0 ≤ jj ∧ jj + 5 ≤ (nL : Int)) {sl sh ru tr se rh rt ri de fi qu pr ou mo : Nat} {ad : Nat → Nat} (hR : lRel s (dC, dI) cI cZ cL cT cJ sl sh ru tr se rh rt ri de fi qu pr ou mo ad Hc) (hl : lv_has ls 7 [(0, .ref b), (1, .ref sl), (2, .ref mo), (3, .ref ou), (4, .int (zI jj))]) (hc : ∀ (H9 : Heap) (ls9 : Array Slot), lRel s (dC, dI) cI cZ cL cT cJ sl sh ru tr se rh rt ri de fi qu pr ou mo ad H9 → lv_has ls9 7 [(0, .ref b), (1, .ref sl), (2, .ref mo), (3, .ref ou), (4, .int (zI jj))] → W p l e room_1 s m #[Value.ref b] below meth c H9 [] (cells + 11) (slots + 522) Z (F0 m 1319 ls9 [])) : W p l e room_1 s m #[Value.ref b] below meth c Hc [] cells slots Z (F0 m 768 ls []) := by
  obtain ⟨own, sf, rl, rp, oc, hx9, hy9, hl9, rln, rhf, tx, ty, tl, qd, s1, s2, qx, qy, ql, RI, DD, FF, QQ, OU, mn, mp, mon, mrx, mry, mrl, mrs, mrf, mx, my, ml, mst, mla, mW, mH, mC, mSX, mSY, mFX, mFY, mWY, mOP, mRE, mKI, mIN, mSE, mHE, mNE, hS0, hP0, hG0, hM, ⟨hDD, hFF, hSE⟩, hRn, hLv, hNo⟩ := hR
  obtain ⟨gn, go, gp, grs, gf, gW, gH, gC, gC0, gsX, gsY, gfX, gfY, gWY, gOP, gRE, gKI, gIN⟩ := id hM
  obtain ⟨a1, ha1, r1⟩ := zI_ex (xs (jj + 1).toNat)
  by_cases c1 : 0 ≤ a1 ∧ a1 < mn
  ·
    obtain ⟨k, hk⟩ : ∃ k : Nat, a1 = (k : Int) := ⟨a1.toNat, by omega⟩
    obtain ⟨lv, w, h, ka, ta, sx, sy, fx, fy, lf, un, K, tq, tp, ti, LN, HF, FI, hf, hPk, hGk, hT⟩ := hLv k (by omega)
    have hT1 := hT
    rw [← hk] at hT1
    have hTa := hT1
    obtain ⟨⟨rfl, rfl, rfl, rfl, rfl, rfl, rfl, rfl⟩, b1, b2, b3, b4, b5, b6, b7, b8, b9, b10, b11, b12⟩ := hT1
    have hPf := hP0.app hPk
    have hDf := lDk hG0 hGk
    have e9 := gOP a1
    refine k_isOpen (k := k) l C1 hS0 hcc hss hj ha1 hPf hDf hl (by first | assumption | omega) (by first | assumption | omega) (by first | assumption | omega) (by first | assumption | omega) (by first | assumption | omega) (by first | assumption | omega) (by intros; omega) (fun OU1_2 la_5 rr_6 po_3 po_7 => (by omega)) ?_
    intro OU1_2 la_5 rr_6 H9 k9 ls9 po_3 po_7 hQ0 hQk hS9 hlz
    have hLv1 : ∀ i : Nat, (i : Int) < mn → lLev (dC, dI) cI cT s H9 own sf mW mH mC mSX mSY mFX mFY mWY mOP mRE mKI i := by
      intro i hi
      by_cases e9 : i = k
      · subst e9
        refine ⟨lv, (mW a1), (mH a1), ka, ta, (mSX a1), (mSY a1), (mFX a1), (mFY a1), (mWY a1), (mOP a1), K, tq, tp, ti, LN, HF, FI, hf, hQk, zD_re hGk rfl, ?_⟩
        exact hT
      · exact lLev_keep (lFk hG0 hGk) hS9 (hLv i hi) (by omega) (fun _ _ => rfl) rfl lSame_rf
    exact hc H9 ls9 ⟨own, sf, rl, rp, oc, hx9, hy9, hl9, rln, rhf, tx, ty, tl, qd, s1, s2, qx, qy, ql, RI, DD, FF, QQ, OU1_2, mn, mp, mon, mrx, mry, mrl, mrs, mrf, mx, my, ml, mst, la_5, mW, mH, mC, mSX, mSY, mFX, mFY, mWY, mOP, mRE, mKI, mIN, mSE, mHE, mNE, lS_tr hS0 hS9 (lG_of hDf hS0), hQ0, zD_re hG0 rfl, hM, ⟨hDD, hFF, hSE⟩, hRn, hLv1, hNo⟩ hlz
  ·
    have hPf := hP0
    have hDf := lD0 hG0
    have gb := lNo hNo c1
    refine k_isOpen_xa l C1 hS0 hcc hss hj ha1 hPf hDf hl (by first | assumption | omega) (by first | assumption | omega) (by first | assumption | omega) (by first | assumption | omega) (by intros; omega) ?_
    intro la_4 H9 k9 ls9 po_5 hQ0 hS9 hlz
    have hLv1 : ∀ i : Nat, (i : Int) < mn → lLev (dC, dI) cI cT s H9 own sf mW mH mC mSX mSY mFX mFY mWY mOP mRE mKI i := fun i hi => lLev_keep (lF0 hG0) hS9 (hLv i hi) (by omega) (fun _ _ => rfl) rfl lSame_rf
    exact hc H9 ls9 ⟨own, sf, rl, rp, oc, hx9, hy9, hl9, rln, rhf, tx, ty, tl, qd, s1, s2, qx, qy, ql, RI, DD, FF, QQ, OU, mn, mp, mon, mrx, mry, mrl, mrs, mrf, mx, my, ml, mst, la_4, mW, mH, mC, mSX, mSY, mFX, mFY, mWY, mOP, mRE, mKI, mIN, mSE, mHE, mNE, lS_tr hS0 hS9 (lG_of hDf hS0), hQ0, zD_re hG0 rfl, hM, ⟨hDD, hFF, hSE⟩, hRn, hLv1, hNo⟩ hlz
set_option maxHeartbeats 4000000 in
set_option maxRecDepth 100000 in
theorem s_bestPlayer (l : Launch) {p : Program} {e : Env} {s : State} {m : MethodId} {below : List Frame} {meth : Method} {c : Code} {Z : State → Prop} {b nL : Nat} {xs : Nat → Int32} {dC : Nat → ClassId} {dI : Nat → Nat → Nat} {cI cZ cL cT cJ : ClassId} (C1 : lC l p s m meth c b nL xs dC dI cI cZ cL cT cJ) {Hc : Heap} {cells slots : Nat} (hcc : cells + 11 ≤ room_1.cells) (hss : slots + 522 ≤ room_1.slots) {ls : Array Slot} {jj : Int} (hj : 0 ≤ jj ∧ jj + 5 ≤ (nL : Int)) {sl sh ru tr se rh rt ri de fi qu pr ou mo : Nat} {ad : Nat → Nat} (hR : lRel s (dC, dI) cI cZ cL cT cJ sl sh ru tr se rh rt ri de fi qu pr ou mo ad Hc) (hl : lv_has ls 7 [(0, .ref b), (1, .ref sl), (2, .ref mo), (3, .ref ou), (4, .int (zI jj))]) (hc : ∀ (H9 : Heap) (ls9 : Array Slot), lRel s (dC, dI) cI cZ cL cT cJ sl sh ru tr se rh rt ri de fi qu pr ou mo ad H9 → lv_has ls9 7 [(0, .ref b), (1, .ref sl), (2, .ref mo), (3, .ref ou), (4, .int (zI jj))] → W p l e room_1 s m #[Value.ref b] below meth c H9 [] (cells + 11) (slots + 522) Z (F0 m 1319 ls9 [])) : W p l e room_1 s m #[Value.ref b] below meth c Hc [] cells slots Z (F0 m 1182 ls []) := by
  obtain ⟨own, sf, rl, rp, oc, hx9, hy9, hl9, rln, rhf, tx, ty, tl, qd, s1, s2, qx, qy, ql, RI, DD, FF, QQ, OU, mn, mp, mon, mrx, mry, mrl, mrs, mrf, mx, my, ml, mst, mla, mW, mH, mC, mSX, mSY, mFX, mFY, mWY, mOP, mRE, mKI, mIN, mSE, mHE, mNE, hS0, hP0, hG0, hM, ⟨hDD, hFF, hSE⟩, hRn, hLv, hNo⟩ := hR
  obtain ⟨gn, go, gp, grs, gf, gW, gH, gC, gC0, gsX, gsY, gfX, gfY, gWY, gOP, gRE, gKI, gIN⟩ := id hM
  obtain ⟨a1, ha1, r1⟩ := zI_ex (xs (jj + 1).toNat)
  by_cases c1 : 0 ≤ a1 ∧ a1 < mn
  ·
    obtain ⟨k, hk⟩ : ∃ k : Nat, a1 = (k : Int) := ⟨a1.toNat, by omega⟩
    obtain ⟨lv, w, h, ka, ta, sx, sy, fx, fy, lf, un, K, tq, tp, ti, LN, HF, FI, hf, hPk, hGk, hT⟩ := hLv k (by omega)
    have hT1 := hT
    rw [← hk] at hT1
    have hTa := hT1
    obtain ⟨⟨rfl, rfl, rfl, rfl, rfl, rfl, rfl, rfl⟩, b1, b2, b3, b4, b5, b6, b7, b8, b9, b10, b11, b12⟩ := hT1
    have hPf := hP0.app hPk
    have hDf := lDk hG0 hGk
    refine k_bestPlayer (k := k) l C1 hS0 hcc hss hj ha1 hPf hDf hl (by first | assumption | omega) (by first | assumption | omega) (by first | assumption | omega) (by exact fun q9 hq => by have := lTap_rng (b11 q9 hq); omega) (by first | assumption | omega) (by first | assumption | omega) (by first | assumption | omega) (by intros; omega) (fun rr_2 OU1_3 la_6 r_7 po_4 po_8 => (by rw [po_4.1, po_8.2]; exact (lTie_bp gRE hTa).1)) ?_
    intro rr_2 OU1_3 la_6 r_7 H9 k9 ls9 po_4 po_8 hQ0 hQk hS9 hlz
    have hLv1 : ∀ i : Nat, (i : Int) < mn → lLev (dC, dI) cI cT s H9 own sf mW mH mC mSX mSY mFX mFY mWY mOP mRE mKI i := by
      intro i hi
      by_cases e9 : i = k
      · subst e9
        refine ⟨lv, (mW a1), (mH a1), ka, ta, (mSX a1), (mSY a1), (mFX a1), (mFY a1), (mWY a1), (mOP a1), K, tq, tp, ti, LN, HF, FI, hf, hQk, zD_re hGk rfl, ?_⟩
        exact hT
      · exact lLev_keep (lFk hG0 hGk) hS9 (hLv i hi) (by omega) (fun _ _ => rfl) rfl lSame_rf
    exact hc H9 ls9 ⟨own, sf, rl, rp, oc, hx9, hy9, hl9, rln, rhf, tx, ty, tl, qd, s1, s2, qx, qy, ql, RI, DD, FF, QQ, OU1_3, mn, mp, mon, mrx, mry, mrl, mrs, mrf, mx, my, ml, mst, la_6, mW, mH, mC, mSX, mSY, mFX, mFY, mWY, mOP, mRE, mKI, mIN, mSE, mHE, mNE, lS_tr hS0 hS9 (lG_of hDf hS0), hQ0, zD_re hG0 rfl, hM, ⟨hDD, hFF, hSE⟩, hRn, hLv1, hNo⟩ hlz
  ·
    have hPf := hP0
    have hDf := lD0 hG0
    have gb := lNo hNo c1
    refine k_bestPlayer_xa l C1 hS0 hcc hss hj ha1 hPf hDf hl (by first | assumption | omega) (by first | assumption | omega) (by first | assumption | omega) (by first | assumption | omega) (by intros; omega) ?_
    intro la_4 H9 k9 ls9 po_5 hQ0 hS9 hlz
    have hLv1 : ∀ i : Nat, (i : Int) < mn → lLev (dC, dI) cI cT s H9 own sf mW mH mC mSX mSY mFX mFY mWY mOP mRE mKI i := fun i hi => lLev_keep (lF0 hG0) hS9 (hLv i hi) (by omega) (fun _ _ => rfl) rfl lSame_rf
    exact hc H9 ls9 ⟨own, sf, rl, rp, oc, hx9, hy9, hl9, rln, rhf, tx, ty, tl, qd, s1, s2, qx, qy, ql, RI, DD, FF, QQ, OU, mn, mp, mon, mrx, mry, mrl, mrs, mrf, mx, my, ml, mst, la_4, mW, mH, mC, mSX, mSY, mFX, mFY, mWY, mOP, mRE, mKI, mIN, mSE, mHE, mNE, lS_tr hS0 hS9 (lG_of hDf hS0), hQ0, zD_re hG0 rfl, hM, ⟨hDD, hFF, hSE⟩, hRn, hLv1, hNo⟩ hlz
set_option maxHeartbeats 4000000 in
set_option maxRecDepth 100000 in
theorem s_cell (l : Launch) {p : Program} {e : Env} {s : State} {m : MethodId} {below : List Frame} {meth : Method} {c : Code} {Z : State → Prop} {b nL : Nat} {xs : Nat → Int32} {dC : Nat → ClassId} {dI : Nat → Nat → Nat} {cI cZ cL cT cJ : ClassId} (C1 : lC l p s m meth c b nL xs dC dI cI cZ cL cT cJ) {Hc : Heap} {cells slots : Nat} (hcc : cells + 11 ≤ room_1.cells) (hss : slots + 522 ≤ room_1.slots) {ls : Array Slot} {jj : Int} (hj : 0 ≤ jj ∧ jj + 5 ≤ (nL : Int)) {sl sh ru tr se rh rt ri de fi qu pr ou mo : Nat} {ad : Nat → Nat} (hR : lRel s (dC, dI) cI cZ cL cT cJ sl sh ru tr se rh rt ri de fi qu pr ou mo ad Hc) (hl : lv_has ls 7 [(0, .ref b), (1, .ref sl), (2, .ref mo), (3, .ref ou), (4, .int (zI jj))]) (hc : ∀ (H9 : Heap) (ls9 : Array Slot), lRel s (dC, dI) cI cZ cL cT cJ sl sh ru tr se rh rt ri de fi qu pr ou mo ad H9 → lv_has ls9 7 [(0, .ref b), (1, .ref sl), (2, .ref mo), (3, .ref ou), (4, .int (zI jj))] → W p l e room_1 s m #[Value.ref b] below meth c H9 [] (cells + 11) (slots + 522) Z (F0 m 1319 ls9 [])) : W p l e room_1 s m #[Value.ref b] below meth c Hc [] cells slots Z (F0 m 500 ls []) := by
  obtain ⟨own, sf, rl, rp, oc, hx9, hy9, hl9, rln, rhf, tx, ty, tl, qd, s1, s2, qx, qy, ql, RI, DD, FF, QQ, OU, mn, mp, mon, mrx, mry, mrl, mrs, mrf, mx, my, ml, mst, mla, mW, mH, mC, mSX, mSY, mFX, mFY, mWY, mOP, mRE, mKI, mIN, mSE, mHE, mNE, hS0, hP0, hG0, hM, ⟨hDD, hFF, hSE⟩, hRn, hLv, hNo⟩ := hR
  obtain ⟨gn, go, gp, grs, gf, gW, gH, gC, gC0, gsX, gsY, gfX, gfY, gWY, gOP, gRE, gKI, gIN⟩ := id hM
  obtain ⟨a1, ha1, r1⟩ := zI_ex (xs (jj + 1).toNat)
  obtain ⟨a2, ha2, r2⟩ := zI_ex (xs (jj + 2).toNat)
  obtain ⟨a3, ha3, r3⟩ := zI_ex (xs (jj + 3).toNat)
  by_cases c1 : 0 ≤ a1 ∧ a1 < mn
  ·
    obtain ⟨k, hk⟩ : ∃ k : Nat, a1 = (k : Int) := ⟨a1.toNat, by omega⟩
    obtain ⟨lv, w, h, ka, ta, sx, sy, fx, fy, lf, un, K, tq, tp, ti, LN, HF, FI, hf, hPk, hGk, hT⟩ := hLv k (by omega)
    have hT1 := hT
    rw [← hk] at hT1
    have hTa := hT1
    obtain ⟨⟨rfl, rfl, rfl, rfl, rfl, rfl, rfl, rfl⟩, b1, b2, b3, b4, b5, b6, b7, b8, b9, b10, b11, b12⟩ := hT1
    have hPf := hP0.app hPk
    have hDf := lDk hG0 hGk
    by_cases c2 : 0 ≤ a2 ∧ a2 < mW a1 ∧ 0 ≤ a3 ∧ a3 < mH a1
    ·
      refine k_cell (k := k) l C1 hS0 hcc hss hj ha1 ha2 ha3 hPf hDf hl (by first | assumption | omega) (by first | assumption | omega) (by first | assumption | omega) (by first | assumption | omega) (by first | assumption | omega) (by first | assumption | omega) (by first | assumption | omega) (by first | assumption | omega) (by first | assumption | omega) (by first | assumption | omega) (by first | assumption | omega) (by first | assumption | omega) (by first | assumption | omega) (by first | assumption | omega) (by intros; omega) (fun rr_2 OU1_3 la_6 rr_7 po_4 po_8 => (by
                  rw [po_4.1, po_8.2, b9 a2 a3 (by omega) (by omega) (by omega) (by omega)]
                  show mC _ = mC _
                  congr 1
                  omega)) ?_
      intro rr_2 OU1_3 la_6 rr_7 H9 k9 ls9 po_4 po_8 hQ0 hQk hS9 hlz
      have hLv1 : ∀ i : Nat, (i : Int) < mn → lLev (dC, dI) cI cT s H9 own sf mW mH mC mSX mSY mFX mFY mWY mOP mRE mKI i := by
        intro i hi
        by_cases e9 : i = k
        · subst e9
          refine ⟨lv, (mW a1), (mH a1), ka, ta, (mSX a1), (mSY a1), (mFX a1), (mFY a1), (mWY a1), (mOP a1), K, tq, tp, ti, LN, HF, FI, hf, hQk, zD_re hGk rfl, ?_⟩
          exact hT
        · exact lLev_keep (lFk hG0 hGk) hS9 (hLv i hi) (by omega) (fun _ _ => rfl) rfl lSame_rf
      exact hc H9 ls9 ⟨own, sf, rl, rp, oc, hx9, hy9, hl9, rln, rhf, tx, ty, tl, qd, s1, s2, qx, qy, ql, RI, DD, FF, QQ, OU1_3, mn, mp, mon, mrx, mry, mrl, mrs, mrf, mx, my, ml, mst, la_6, mW, mH, mC, mSX, mSY, mFX, mFY, mWY, mOP, mRE, mKI, mIN, mSE, mHE, mNE, lS_tr hS0 hS9 (lG_of hDf hS0), hQ0, zD_re hG0 rfl, hM, ⟨hDD, hFF, hSE⟩, hRn, hLv1, hNo⟩ hlz
    ·
      have hk1 : kd K (mW a1) (mH a1) a2 a3 = -1 := kd_no (by omega)
      refine k_cell_xb (k := k) l C1 hS0 hcc hss hj ha1 ha2 ha3 hPf hDf hl (by first | assumption | omega) (by first | assumption | omega) (by first | assumption | omega) (by first | assumption | omega) (by first | assumption | omega) (by first | assumption | omega) (by first | assumption | omega) (by first | assumption | omega) (by first | assumption | omega) (by first | assumption | omega) (by first | assumption | omega) (by first | assumption | omega) (by first | assumption | omega) (by intros; omega) ?_
      intro la_4 H9 k9 ls9 po_5 hQ0 hQk hS9 hlz
      have hLv1 : ∀ i : Nat, (i : Int) < mn → lLev (dC, dI) cI cT s H9 own sf mW mH mC mSX mSY mFX mFY mWY mOP mRE mKI i := by
        intro i hi
        by_cases e9 : i = k
        · subst e9
          refine ⟨lv, (mW a1), (mH a1), ka, ta, (mSX a1), (mSY a1), (mFX a1), (mFY a1), (mWY a1), (mOP a1), K, tq, tp, ti, LN, HF, FI, hf, hQk, zD_re hGk rfl, ?_⟩
          exact hT
        · exact lLev_keep (lFk hG0 hGk) hS9 (hLv i hi) (by omega) (fun _ _ => rfl) rfl lSame_rf
      exact hc H9 ls9 ⟨own, sf, rl, rp, oc, hx9, hy9, hl9, rln, rhf, tx, ty, tl, qd, s1, s2, qx, qy, ql, RI, DD, FF, QQ, OU, mn, mp, mon, mrx, mry, mrl, mrs, mrf, mx, my, ml, mst, la_4, mW, mH, mC, mSX, mSY, mFX, mFY, mWY, mOP, mRE, mKI, mIN, mSE, mHE, mNE, lS_tr hS0 hS9 (lG_of hDf hS0), hQ0, zD_re hG0 rfl, hM, ⟨hDD, hFF, hSE⟩, hRn, hLv1, hNo⟩ hlz
  ·
    have hPf := hP0
    have hDf := lD0 hG0
    have gb := lNo hNo c1
    refine k_cell_xa l C1 hS0 hcc hss hj ha1 ha2 ha3 hPf hDf hl (by first | assumption | omega) (by first | assumption | omega) (by first | assumption | omega) (by first | assumption | omega) (by first | assumption | omega) (by first | assumption | omega) (by first | assumption | omega) (by first | assumption | omega) (by intros; omega) ?_
    intro la_4 H9 k9 ls9 po_5 hQ0 hS9 hlz
    have hLv1 : ∀ i : Nat, (i : Int) < mn → lLev (dC, dI) cI cT s H9 own sf mW mH mC mSX mSY mFX mFY mWY mOP mRE mKI i := fun i hi => lLev_keep (lF0 hG0) hS9 (hLv i hi) (by omega) (fun _ _ => rfl) rfl lSame_rf
    exact hc H9 ls9 ⟨own, sf, rl, rp, oc, hx9, hy9, hl9, rln, rhf, tx, ty, tl, qd, s1, s2, qx, qy, ql, RI, DD, FF, QQ, OU, mn, mp, mon, mrx, mry, mrl, mrs, mrf, mx, my, ml, mst, la_4, mW, mH, mC, mSX, mSY, mFX, mFY, mWY, mOP, mRE, mKI, mIN, mSE, mHE, mNE, lS_tr hS0 hS9 (lG_of hDf hS0), hQ0, zD_re hG0 rfl, hM, ⟨hDD, hFF, hSE⟩, hRn, hLv1, hNo⟩ hlz
set_option maxHeartbeats 4000000 in
set_option maxRecDepth 100000 in
theorem s_record (l : Launch) {p : Program} {e : Env} {s : State} {m : MethodId} {below : List Frame} {meth : Method} {c : Code} {Z : State → Prop} {b nL : Nat} {xs : Nat → Int32} {dC : Nat → ClassId} {dI : Nat → Nat → Nat} {cI cZ cL cT cJ : ClassId} (C1 : lC l p s m meth c b nL xs dC dI cI cZ cL cT cJ) {Hc : Heap} {cells slots : Nat} (hcc : cells + 11 ≤ room_1.cells) (hss : slots + 522 ≤ room_1.slots) {ls : Array Slot} {jj : Int} (hj : 0 ≤ jj ∧ jj + 5 ≤ (nL : Int)) {sl sh ru tr se rh rt ri de fi qu pr ou mo : Nat} {ad : Nat → Nat} (hR : lRel s (dC, dI) cI cZ cL cT cJ sl sh ru tr se rh rt ri de fi qu pr ou mo ad Hc) (hl : lv_has ls 7 [(0, .ref b), (1, .ref sl), (2, .ref mo), (3, .ref ou), (4, .int (zI jj))]) (hc : ∀ (H9 : Heap) (ls9 : Array Slot), lRel s (dC, dI) cI cZ cL cT cJ sl sh ru tr se rh rt ri de fi qu pr ou mo ad H9 → lv_has ls9 7 [(0, .ref b), (1, .ref sl), (2, .ref mo), (3, .ref ou), (4, .int (zI jj))] → W p l e room_1 s m #[Value.ref b] below meth c H9 [] (cells + 11) (slots + 522) Z (F0 m 1319 ls9 [])) : W p l e room_1 s m #[Value.ref b] below meth c Hc [] cells slots Z (F0 m 1046 ls []) := by
  obtain ⟨own, sf, rl, rp, oc, hx9, hy9, hl9, rln, rhf, tx, ty, tl, qd, s1, s2, qx, qy, ql, RI, DD, FF, QQ, OU, mn, mp, mon, mrx, mry, mrl, mrs, mrf, mx, my, ml, mst, mla, mW, mH, mC, mSX, mSY, mFX, mFY, mWY, mOP, mRE, mKI, mIN, mSE, mHE, mNE, hS0, hP0, hG0, hM, ⟨hDD, hFF, hSE⟩, hRn, hLv, hNo⟩ := hR
  obtain ⟨gn, go, gp, grs, gf, gW, gH, gC, gC0, gsX, gsY, gfX, gfY, gWY, gOP, gRE, gKI, gIN⟩ := id hM
  obtain ⟨a1, ha1, r1⟩ := zI_ex (xs (jj + 1).toNat)
  obtain ⟨a2, ha2, r2⟩ := zI_ex (xs (jj + 2).toNat)
  by_cases c1 : 0 ≤ a1 ∧ a1 < mn
  ·
    obtain ⟨k, hk⟩ : ∃ k : Nat, a1 = (k : Int) := ⟨a1.toNat, by omega⟩
    obtain ⟨lv, w, h, ka, ta, sx, sy, fx, fy, lf, un, K, tq, tp, ti, LN, HF, FI, hf, hPk, hGk, hT⟩ := hLv k (by omega)
    have hT1 := hT
    rw [← hk] at hT1
    have hTa := hT1
    obtain ⟨⟨rfl, rfl, rfl, rfl, rfl, rfl, rfl, rfl⟩, b1, b2, b3, b4, b5, b6, b7, b8, b9, b10, b11, b12⟩ := hT1
    have hPf := hP0.app hPk
    have hDf := lDk hG0 hGk
    by_cases c2 : 0 ≤ a2 ∧ a2 ≤ 3
    ·
      obtain e2 | e2 | e2 | e2 : a2 = 0 ∨ a2 = 1 ∨ a2 = 2 ∨ a2 = 3 := by omega
      ·
        refine k_record_0 (k := k) l C1 hS0 hcc hss hj ha1 ha2 hPf hDf hl (by first | assumption | omega) (by first | assumption | omega) (by first | assumption | omega) (by first | assumption | omega) (by first | assumption | omega) (by first | assumption | omega) (by first | assumption | omega) (by intros; omega) (fun OU1_2 la_5 rr_6 po_3 po_7 => (by rw [po_7.2]; exact lTie_ln hTa 0 (by decide) e2)) ?_
        intro OU1_2 la_5 rr_6 H9 k9 ls9 po_3 po_7 hQ0 hQk hS9 hlz
        have hLv1 : ∀ i : Nat, (i : Int) < mn → lLev (dC, dI) cI cT s H9 own sf mW mH mC mSX mSY mFX mFY mWY mOP mRE mKI i := by
          intro i hi
          by_cases e9 : i = k
          · subst e9
            refine ⟨lv, (mW a1), (mH a1), ka, ta, (mSX a1), (mSY a1), (mFX a1), (mFY a1), (mWY a1), (mOP a1), K, tq, tp, ti, LN, HF, FI, hf, hQk, zD_re hGk rfl, ?_⟩
            exact hT
          · exact lLev_keep (lFk hG0 hGk) hS9 (hLv i hi) (by omega) (fun _ _ => rfl) rfl lSame_rf
        exact hc H9 ls9 ⟨own, sf, rl, rp, oc, hx9, hy9, hl9, rln, rhf, tx, ty, tl, qd, s1, s2, qx, qy, ql, RI, DD, FF, QQ, OU1_2, mn, mp, mon, mrx, mry, mrl, mrs, mrf, mx, my, ml, mst, la_5, mW, mH, mC, mSX, mSY, mFX, mFY, mWY, mOP, mRE, mKI, mIN, mSE, mHE, mNE, lS_tr hS0 hS9 (lG_of hDf hS0), hQ0, zD_re hG0 rfl, hM, ⟨hDD, hFF, hSE⟩, hRn, hLv1, hNo⟩ hlz
      ·
        refine k_record_1 (k := k) l C1 hS0 hcc hss hj ha1 ha2 hPf hDf hl (by first | assumption | omega) (by first | assumption | omega) (by first | assumption | omega) (by first | assumption | omega) (by first | assumption | omega) (by first | assumption | omega) (by first | assumption | omega) (by intros; omega) (fun OU1_2 la_5 rr_6 po_3 po_7 => (by rw [po_7.2]; exact lTie_ln hTa 1 (by decide) e2)) ?_
        intro OU1_2 la_5 rr_6 H9 k9 ls9 po_3 po_7 hQ0 hQk hS9 hlz
        have hLv1 : ∀ i : Nat, (i : Int) < mn → lLev (dC, dI) cI cT s H9 own sf mW mH mC mSX mSY mFX mFY mWY mOP mRE mKI i := by
          intro i hi
          by_cases e9 : i = k
          · subst e9
            refine ⟨lv, (mW a1), (mH a1), ka, ta, (mSX a1), (mSY a1), (mFX a1), (mFY a1), (mWY a1), (mOP a1), K, tq, tp, ti, LN, HF, FI, hf, hQk, zD_re hGk rfl, ?_⟩
            exact hT
          · exact lLev_keep (lFk hG0 hGk) hS9 (hLv i hi) (by omega) (fun _ _ => rfl) rfl lSame_rf
        exact hc H9 ls9 ⟨own, sf, rl, rp, oc, hx9, hy9, hl9, rln, rhf, tx, ty, tl, qd, s1, s2, qx, qy, ql, RI, DD, FF, QQ, OU1_2, mn, mp, mon, mrx, mry, mrl, mrs, mrf, mx, my, ml, mst, la_5, mW, mH, mC, mSX, mSY, mFX, mFY, mWY, mOP, mRE, mKI, mIN, mSE, mHE, mNE, lS_tr hS0 hS9 (lG_of hDf hS0), hQ0, zD_re hG0 rfl, hM, ⟨hDD, hFF, hSE⟩, hRn, hLv1, hNo⟩ hlz
      ·
        refine k_record_2 (k := k) l C1 hS0 hcc hss hj ha1 ha2 hPf hDf hl (by first | assumption | omega) (by first | assumption | omega) (by first | assumption | omega) (by first | assumption | omega) (by first | assumption | omega) (by first | assumption | omega) (by first | assumption | omega) (by intros; omega) (fun OU1_2 la_5 rr_6 po_3 po_7 => (by rw [po_7.2]; exact lTie_ln hTa 2 (by decide) e2)) ?_
        intro OU1_2 la_5 rr_6 H9 k9 ls9 po_3 po_7 hQ0 hQk hS9 hlz
        have hLv1 : ∀ i : Nat, (i : Int) < mn → lLev (dC, dI) cI cT s H9 own sf mW mH mC mSX mSY mFX mFY mWY mOP mRE mKI i := by
          intro i hi
          by_cases e9 : i = k
          · subst e9
            refine ⟨lv, (mW a1), (mH a1), ka, ta, (mSX a1), (mSY a1), (mFX a1), (mFY a1), (mWY a1), (mOP a1), K, tq, tp, ti, LN, HF, FI, hf, hQk, zD_re hGk rfl, ?_⟩
            exact hT
          · exact lLev_keep (lFk hG0 hGk) hS9 (hLv i hi) (by omega) (fun _ _ => rfl) rfl lSame_rf
        exact hc H9 ls9 ⟨own, sf, rl, rp, oc, hx9, hy9, hl9, rln, rhf, tx, ty, tl, qd, s1, s2, qx, qy, ql, RI, DD, FF, QQ, OU1_2, mn, mp, mon, mrx, mry, mrl, mrs, mrf, mx, my, ml, mst, la_5, mW, mH, mC, mSX, mSY, mFX, mFY, mWY, mOP, mRE, mKI, mIN, mSE, mHE, mNE, lS_tr hS0 hS9 (lG_of hDf hS0), hQ0, zD_re hG0 rfl, hM, ⟨hDD, hFF, hSE⟩, hRn, hLv1, hNo⟩ hlz
      ·
        refine k_record_3 (k := k) l C1 hS0 hcc hss hj ha1 ha2 hPf hDf hl (by first | assumption | omega) (by first | assumption | omega) (by first | assumption | omega) (by first | assumption | omega) (by first | assumption | omega) (by first | assumption | omega) (by first | assumption | omega) (by intros; omega) (fun OU1_2 la_5 rr_6 po_3 po_7 => (by rw [po_7.2]; exact lTie_ln hTa 3 (by decide) e2)) ?_
        intro OU1_2 la_5 rr_6 H9 k9 ls9 po_3 po_7 hQ0 hQk hS9 hlz
        have hLv1 : ∀ i : Nat, (i : Int) < mn → lLev (dC, dI) cI cT s H9 own sf mW mH mC mSX mSY mFX mFY mWY mOP mRE mKI i := by
          intro i hi
          by_cases e9 : i = k
          · subst e9
            refine ⟨lv, (mW a1), (mH a1), ka, ta, (mSX a1), (mSY a1), (mFX a1), (mFY a1), (mWY a1), (mOP a1), K, tq, tp, ti, LN, HF, FI, hf, hQk, zD_re hGk rfl, ?_⟩
            exact hT
          · exact lLev_keep (lFk hG0 hGk) hS9 (hLv i hi) (by omega) (fun _ _ => rfl) rfl lSame_rf
        exact hc H9 ls9 ⟨own, sf, rl, rp, oc, hx9, hy9, hl9, rln, rhf, tx, ty, tl, qd, s1, s2, qx, qy, ql, RI, DD, FF, QQ, OU1_2, mn, mp, mon, mrx, mry, mrl, mrs, mrf, mx, my, ml, mst, la_5, mW, mH, mC, mSX, mSY, mFX, mFY, mWY, mOP, mRE, mKI, mIN, mSE, mHE, mNE, lS_tr hS0 hS9 (lG_of hDf hS0), hQ0, zD_re hG0 rfl, hM, ⟨hDD, hFF, hSE⟩, hRn, hLv1, hNo⟩ hlz
    ·
      refine k_record_xb (k := k) l C1 hS0 hcc hss hj ha1 ha2 hPf hDf hl (by first | assumption | omega) (by first | assumption | omega) (by first | assumption | omega) (by first | assumption | omega) (by first | assumption | omega) (by first | assumption | omega) (by first | assumption | omega) (by intros; omega) ?_
      intro la_4 H9 k9 ls9 po_5 hQ0 hQk hS9 hlz
      have hLv1 : ∀ i : Nat, (i : Int) < mn → lLev (dC, dI) cI cT s H9 own sf mW mH mC mSX mSY mFX mFY mWY mOP mRE mKI i := by
        intro i hi
        by_cases e9 : i = k
        · subst e9
          refine ⟨lv, (mW a1), (mH a1), ka, ta, (mSX a1), (mSY a1), (mFX a1), (mFY a1), (mWY a1), (mOP a1), K, tq, tp, ti, LN, HF, FI, hf, hQk, zD_re hGk rfl, ?_⟩
          exact hT
        · exact lLev_keep (lFk hG0 hGk) hS9 (hLv i hi) (by omega) (fun _ _ => rfl) rfl lSame_rf
      exact hc H9 ls9 ⟨own, sf, rl, rp, oc, hx9, hy9, hl9, rln, rhf, tx, ty, tl, qd, s1, s2, qx, qy, ql, RI, DD, FF, QQ, OU, mn, mp, mon, mrx, mry, mrl, mrs, mrf, mx, my, ml, mst, la_4, mW, mH, mC, mSX, mSY, mFX, mFY, mWY, mOP, mRE, mKI, mIN, mSE, mHE, mNE, lS_tr hS0 hS9 (lG_of hDf hS0), hQ0, zD_re hG0 rfl, hM, ⟨hDD, hFF, hSE⟩, hRn, hLv1, hNo⟩ hlz
  ·
    have hPf := hP0
    have hDf := lD0 hG0
    have gb := lNo hNo c1
    refine k_record_xa l C1 hS0 hcc hss hj ha1 ha2 hPf hDf hl (by first | assumption | omega) (by first | assumption | omega) (by first | assumption | omega) (by first | assumption | omega) (by first | assumption | omega) (by intros; omega) ?_
    intro la_4 H9 k9 ls9 po_5 hQ0 hS9 hlz
    have hLv1 : ∀ i : Nat, (i : Int) < mn → lLev (dC, dI) cI cT s H9 own sf mW mH mC mSX mSY mFX mFY mWY mOP mRE mKI i := fun i hi => lLev_keep (lF0 hG0) hS9 (hLv i hi) (by omega) (fun _ _ => rfl) rfl lSame_rf
    exact hc H9 ls9 ⟨own, sf, rl, rp, oc, hx9, hy9, hl9, rln, rhf, tx, ty, tl, qd, s1, s2, qx, qy, ql, RI, DD, FF, QQ, OU, mn, mp, mon, mrx, mry, mrl, mrs, mrf, mx, my, ml, mst, la_4, mW, mH, mC, mSX, mSY, mFX, mFY, mWY, mOP, mRE, mKI, mIN, mSE, mHE, mNE, lS_tr hS0 hS9 (lG_of hDf hS0), hQ0, zD_re hG0 rfl, hM, ⟨hDD, hFF, hSE⟩, hRn, hLv1, hNo⟩ hlz
