set_option maxHeartbeats 4000000 in
set_option maxRecDepth 100000 in
theorem s_setCell (l : Launch) {p : Program} {e : Env} {s : State} {m : MethodId} {below : List Frame} {meth : Method} {c : Code} {Z : State → Prop} {b nL : Nat} {xs : Nat → Int32} {dC : Nat → ClassId} {dI : Nat → Nat → Nat} {cI cZ cL cT cJ : ClassId} (C1 : lC l p s m meth c b nL xs dC dI cI cZ cL cT cJ) {Hc : Heap} {cells slots : Nat} (hcc : cells + 11 ≤ room_1.cells) (hss : slots + 522 ≤ room_1.slots) {ls : Array Slot} {jj : Int} (hj : 0 ≤ jj ∧ jj + 5 ≤ (nL : Int)) {sl sh ru tr se rh rt ri de fi qu pr ou mo : Nat} {ad : Nat → Nat} (hR : lRel s (dC, dI) cI cZ cL cT cJ sl sh ru tr se rh rt ri de fi qu pr ou mo ad Hc) (hl : lv_has ls 7 [(0, .ref b), (1, .ref sl), (2, .ref mo), (3, .ref ou), (4, .int (zI jj))]) (hc : ∀ (H9 : Heap) (ls9 : Array Slot), lRel s (dC, dI) cI cZ cL cT cJ sl sh ru tr se rh rt ri de fi qu pr ou mo ad H9 → lv_has ls9 7 [(0, .ref b), (1, .ref sl), (2, .ref mo), (3, .ref ou), (4, .int (zI jj))] → W p l e room_1 s m #[Value.ref b] below meth c H9 [] (cells + 11) (slots + 522) Z (F0 m 1319 ls9 [])) : W p l e room_1 s m #[Value.ref b] below meth c Hc [] cells slots Z (F0 m 220 ls []) := by
  obtain ⟨own, sf, rl, rp, oc, hx9, hy9, hl9, rln, rhf, tx, ty, tl, qd, s1, s2, qx, qy, ql, RI, DD, FF, QQ, OU, mn, mp, mon, mrx, mry, mrl, mrs, mrf, mx, my, ml, mst, mla, mW, mH, mC, mSX, mSY, mFX, mFY, mWY, mOP, mRE, mKI, mIN, mSE, mHE, mNE, hS0, hP0, hG0, hM, ⟨hDD, hFF, hSE⟩, hRn, hLv, hNo⟩ := hR
  obtain ⟨gn, go, gp, grs, gf, gW, gH, gC, gC0, gsX, gsY, gfX, gfY, gWY, gOP, gRE, gKI, gIN⟩ := id hM
  obtain ⟨a1, ha1, r1⟩ := zI_ex (xs (jj + 1).toNat)
  obtain ⟨a2, ha2, r2⟩ := zI_ex (xs (jj + 2).toNat)
  obtain ⟨a3, ha3, r3⟩ := zI_ex (xs (jj + 3).toNat)
  obtain ⟨a4, ha4, r4⟩ := zI_ex (xs (jj + 4).toNat)
  by_cases c1 : 0 ≤ a1 ∧ a1 < mn
  ·
    obtain ⟨k, hk⟩ : ∃ k : Nat, a1 = (k : Int) := ⟨a1.toNat, by omega⟩
    obtain ⟨lv, w, h, ka, ta, sx, sy, fx, fy, lf, un, K, tq, tp, ti, LN, HF, FI, hf, hPk, hGk, hT⟩ := hLv k (by omega)
    have hT1 := hT
    rw [← hk] at hT1
    have hTa := hT1
    obtain ⟨⟨rfl, rfl, rfl, rfl, rfl, rfl, rfl, rfl⟩, b1, b2, b3, b4, b5, b6, b7, b8, b9, b10, b11, b12⟩ := hT1
    have hPf := hP0.app hPk
    have hDf := lDk hG0 hGk
    by_cases c2 : 0 ≤ a2 ∧ a2 < mW a1 ∧ 0 ≤ a3 ∧ a3 < mH a1
    ·
      by_cases c3 : 0 ≤ a4 ∧ a4 ≤ 3
      ·
        by_cases c4 : a4 = 1 ∧ ((mSX a1 = a2 ∧ mSY a1 = a3) ∨ (mFX a1 = a2 ∧ mFY a1 = a3))
        ·
          refine k_setCell_xd (k := k) l C1 hS0 hcc hss hj ha1 ha2 ha3 ha4 hPf hDf hl (by first | assumption | omega) (by first | assumption | omega) (by first | assumption | omega) (by first | assumption | omega) (by first | assumption | omega) (by first | assumption | omega) (by first | assumption | omega) (by first | assumption | omega) (by first | assumption | omega) (by first | assumption | omega) (by first | assumption | omega) (by first | assumption | omega) (by exact c4.2) (by first | assumption | omega) (by first | assumption | omega) (by first | assumption | omega) (by first | assumption | omega) (by first | assumption | omega) (by first | assumption | omega) (by first | assumption | omega) (by first | assumption | omega) (by first | assumption | omega) (by first | assumption | omega) (by first | assumption | omega) (by first | assumption | omega) (by intros; omega) ?_
          intro la_4 H9 k9 ls9 po_5 hQ0 hQk hS9 hlz
          have hLv1 : ∀ i : Nat, (i : Int) < mn → lLev (dC, dI) cI cT s H9 own sf mW mH mC mSX mSY mFX mFY mWY mOP mRE mKI i := by
            intro i hi
            by_cases e9 : i = k
            · subst e9
              refine ⟨lv, (mW a1), (mH a1), ka, ta, (mSX a1), (mSY a1), (mFX a1), (mFY a1), (mWY a1), (mOP a1), K, tq, tp, ti, LN, HF, FI, hf, hQk, zD_re hGk rfl, ?_⟩
              exact hT
            · exact lLev_keep (lFk hG0 hGk) hS9 (hLv i hi) (by omega) (fun _ _ => rfl) rfl lSame_rf
          exact hc H9 ls9 ⟨own, sf, rl, rp, oc, hx9, hy9, hl9, rln, rhf, tx, ty, tl, qd, s1, s2, qx, qy, ql, RI, DD, FF, QQ, OU, mn, mp, mon, mrx, mry, mrl, mrs, mrf, mx, my, ml, mst, la_4, mW, mH, mC, mSX, mSY, mFX, mFY, mWY, mOP, mRE, mKI, mIN, mSE, mHE, mNE, lS_tr hS0 hS9 (lG_of hDf hS0), hQ0, zD_re hG0 rfl, hM, ⟨hDD, hFF, hSE⟩, hRn, hLv1, hNo⟩ hlz
        ·
          refine k_setCell (k := k) l C1 hS0 hcc hss hj ha1 ha2 ha3 ha4 hPf hDf hl (by first | assumption | omega) (by first | assumption | omega) (by first | assumption | omega) (by first | assumption | omega) (by first | assumption | omega) (by first | assumption | omega) (by first | assumption | omega) (by first | assumption | omega) (by first | assumption | omega) (by first | assumption | omega) (by first | assumption | omega) (by first | assumption | omega) (by first | assumption | omega) (by first | assumption | omega) (by first | assumption | omega) (by first | assumption | omega) (by first | assumption | omega) (by first | assumption | omega) (by first | assumption | omega) (by first | assumption | omega) (by first | assumption | omega) (by first | assumption | omega) (by first | assumption | omega) (by first | assumption | omega) (by first | assumption | omega) (by first | assumption | omega) (by first | assumption | omega) (by intros; omega) (fun rl1_2 rr_3 OU1_4 la_7 on1_8 rr_9 po_5 po_10 => (by
                          rw [po_5.1.2, po_10.2.2, b9 a2 a3 (by omega) (by omega) (by omega) (by omega)]
                          show mC _ = mC _
                          congr 1
                          omega)) ?_
          intro rl1_2 rr_3 OU1_4 la_7 on1_8 rr_9 H9 k9 ls9 po_5 po_10 hQ0 hQk hS9 hlz
          have hLv1 : ∀ i : Nat, (i : Int) < mn → lLev (dC, dI) cI cT s H9 own sf mW mH (zu mC (96 * a1 + 12 * a3 + a2) a4) mSX mSY mFX mFY (zu mWY a1 (-1)) (zu mOP a1 0) (zu (zu (zu (zu mRE (4 * a1) (-1)) (4 * a1 + 1) (-1)) (4 * a1 + 2) (-1)) (4 * a1 + 3) (-1)) mKI i := by
            intro i hi
            by_cases e9 : i = k
            · subst e9
              refine ⟨lv, (mW a1), (mH a1), ka, ta, (mSX a1), (mSY a1), (mFX a1), (mFY a1), -1, 0, zu K (a3 * 12 + a2) a4, tq, tp, ti, fun _ => -1, fun _ => -1, FI, hf, hQk, zD_re hGk rfl, ?_⟩
              exact lTie_void hk.symm (congrArg mW hk) (congrArg mH hk) (congrArg mSX hk) (congrArg mSY hk) (congrArg mFX hk) (congrArg mFY hk) b1 b2 b3 b4 b5 b6 (Kin_zu b7 c3) b8 (lCell hk.symm (by omega) b1.2 b9)
            · exact lLev_keep (lFk hG0 hGk) hS9 (hLv i hi) (by omega) (fun _ _ => rfl) rfl (lSame_ed (by omega) rfl rfl rfl rfl rfl rfl (fun j j0 j1 => zu_ne _ _ (by omega)))
          exact hc H9 ls9 ⟨own, sf, rl1_2, rp, oc, hx9, hy9, hl9, rln, rhf, tx, ty, tl, qd, s1, s2, qx, qy, ql, RI, DD, FF, QQ, OU1_4, mn, mp, on1_8, mrx, mry, mrl, mrs, mrf, mx, my, ml, mst, la_7, mW, mH, zu mC (96 * a1 + 12 * a3 + a2) a4, mSX, mSY, mFX, mFY, zu mWY a1 (-1), zu mOP a1 0, zu (zu (zu (zu mRE (4 * a1) (-1)) (4 * a1 + 1) (-1)) (4 * a1 + 2) (-1)) (4 * a1 + 3) (-1), mKI, mIN, mSE, mHE, mNE, lS_tr hS0 hS9 (lG_of hDf hS0), hQ0, zD_re hG0 rfl, ⟨gn, (by rw [po_10.2.1]; split <;> omega), gp, grs, gf, gW, gH, Kin_zu gC c3, (fun j hj => (zu_ne _ _ (by omega)).trans (gC0 j hj)), gsX, gsY, gfX, gfY, Din_zu gWY (by omega), B01_zu gOP (by omega), Din_RE4 gRE, gKI, gIN⟩, ⟨hDD, hFF, hSE⟩, lRun_edit (mWY := mWY) (mOP := mOP) (mRE := mRE) (mKI := mKI) hk hf (fun i hi hs => by have a := lLev_own (hLv i (by omega)) hs; have b : own lv = k + 1 := (hGk.2 0 _ rfl).2; omega) po_5.1.1 po_10.2.1 (fun h => ⟨(gW mon h go.2).2, (gH mon h go.2).2⟩) (fun h hne => lSame_ed (by omega) rfl rfl rfl rfl rfl rfl (fun j j0 j1 => zu_ne _ _ (by omega))) hRn, hLv1, hNo⟩ hlz
      ·
        refine k_setCell_xc (k := k) l C1 hS0 hcc hss hj ha1 ha2 ha3 ha4 hPf hDf hl (by first | assumption | omega) (by first | assumption | omega) (by first | assumption | omega) (by first | assumption | omega) (by first | assumption | omega) (by first | assumption | omega) (by first | assumption | omega) (by first | assumption | omega) (by first | assumption | omega) (by first | assumption | omega) (by first | assumption | omega) (by first | assumption | omega) (by first | assumption | omega) (by first | assumption | omega) (by first | assumption | omega) (by first | assumption | omega) (by first | assumption | omega) (by first | assumption | omega) (by first | assumption | omega) (by first | assumption | omega) (by intros; omega) ?_
        intro la_4 H9 k9 ls9 po_5 hQ0 hQk hS9 hlz
        have hLv1 : ∀ i : Nat, (i : Int) < mn → lLev (dC, dI) cI cT s H9 own sf mW mH mC mSX mSY mFX mFY mWY mOP mRE mKI i := by
          intro i hi
          by_cases e9 : i = k
          · subst e9
            refine ⟨lv, (mW a1), (mH a1), ka, ta, (mSX a1), (mSY a1), (mFX a1), (mFY a1), (mWY a1), (mOP a1), K, tq, tp, ti, LN, HF, FI, hf, hQk, zD_re hGk rfl, ?_⟩
            exact hT
          · exact lLev_keep (lFk hG0 hGk) hS9 (hLv i hi) (by omega) (fun _ _ => rfl) rfl lSame_rf
        exact hc H9 ls9 ⟨own, sf, rl, rp, oc, hx9, hy9, hl9, rln, rhf, tx, ty, tl, qd, s1, s2, qx, qy, ql, RI, DD, FF, QQ, OU, mn, mp, mon, mrx, mry, mrl, mrs, mrf, mx, my, ml, mst, la_4, mW, mH, mC, mSX, mSY, mFX, mFY, mWY, mOP, mRE, mKI, mIN, mSE, mHE, mNE, lS_tr hS0 hS9 (lG_of hDf hS0), hQ0, zD_re hG0 rfl, hM, ⟨hDD, hFF, hSE⟩, hRn, hLv1, hNo⟩ hlz
    ·
      have hk1 : kd K (mW a1) (mH a1) a2 a3 = -1 := kd_no (by omega)
      refine k_setCell_xb (k := k) l C1 hS0 hcc hss hj ha1 ha2 ha3 ha4 hPf hDf hl (by first | assumption | omega) (by first | assumption | omega) (by first | assumption | omega) (by first | assumption | omega) (by first | assumption | omega) (by first | assumption | omega) (by first | assumption | omega) (by first | assumption | omega) (by first | assumption | omega) (by first | assumption | omega) (by first | assumption | omega) (by first | assumption | omega) (by first | assumption | omega) (by first | assumption | omega) (by first | assumption | omega) (by first | assumption | omega) (by first | assumption | omega) (by first | assumption | omega) (by intros; omega) ?_
      intro la_4 H9 k9 ls9 po_5 hQ0 hQk hS9 hlz
      have hLv1 : ∀ i : Nat, (i : Int) < mn → lLev (dC, dI) cI cT s H9 own sf mW mH mC mSX mSY mFX mFY mWY mOP mRE mKI i := by
        intro i hi
        by_cases e9 : i = k
        · subst e9
          refine ⟨lv, (mW a1), (mH a1), ka, ta, (mSX a1), (mSY a1), (mFX a1), (mFY a1), (mWY a1), (mOP a1), K, tq, tp, ti, LN, HF, FI, hf, hQk, zD_re hGk rfl, ?_⟩
          exact hT
        · exact lLev_keep (lFk hG0 hGk) hS9 (hLv i hi) (by omega) (fun _ _ => rfl) rfl lSame_rf
      exact hc H9 ls9 ⟨own, sf, rl, rp, oc, hx9, hy9, hl9, rln, rhf, tx, ty, tl, qd, s1, s2, qx, qy, ql, RI, DD, FF, QQ, OU, mn, mp, mon, mrx, mry, mrl, mrs, mrf, mx, my, ml, mst, la_4, mW, mH, mC, mSX, mSY, mFX, mFY, mWY, mOP, mRE, mKI, mIN, mSE, mHE, mNE, lS_tr hS0 hS9 (lG_of hDf hS0), hQ0, zD_re hG0 rfl, hM, ⟨hDD, hFF, hSE⟩, hRn, hLv1, hNo⟩ hlz
  ·
    have hPf := hP0
    have hDf := lD0 hG0
    refine k_setCell_xa l C1 hS0 hcc hss hj ha1 ha2 ha3 ha4 hPf hDf hl (by first | assumption | omega) (by exact lNo hNo c1) (by first | assumption | omega) (by first | assumption | omega) (by first | assumption | omega) (by first | assumption | omega) (by first | assumption | omega) (by first | assumption | omega) (by first | assumption | omega) (by first | assumption | omega) (by first | assumption | omega) (by first | assumption | omega) (by first | assumption | omega) (by intros; omega) ?_
    intro la_4 H9 k9 ls9 po_5 hQ0 hS9 hlz
    have hLv1 : ∀ i : Nat, (i : Int) < mn → lLev (dC, dI) cI cT s H9 own sf mW mH mC mSX mSY mFX mFY mWY mOP mRE mKI i := fun i hi => lLev_keep (lF0 hG0) hS9 (hLv i hi) (by omega) (fun _ _ => rfl) rfl lSame_rf
    exact hc H9 ls9 ⟨own, sf, rl, rp, oc, hx9, hy9, hl9, rln, rhf, tx, ty, tl, qd, s1, s2, qx, qy, ql, RI, DD, FF, QQ, OU, mn, mp, mon, mrx, mry, mrl, mrs, mrf, mx, my, ml, mst, la_4, mW, mH, mC, mSX, mSY, mFX, mFY, mWY, mOP, mRE, mKI, mIN, mSE, mHE, mNE, lS_tr hS0 hS9 (lG_of hDf hS0), hQ0, zD_re hG0 rfl, hM, ⟨hDD, hFF, hSE⟩, hRn, hLv1, hNo⟩ hlz
set_option maxHeartbeats 4000000 in
set_option maxRecDepth 100000 in
theorem s_setStart (l : Launch) {p : Program} {e : Env} {s : State} {m : MethodId} {below : List Frame} {meth : Method} {c : Code} {Z : State → Prop} {b nL : Nat} {xs : Nat → Int32} {dC : Nat → ClassId} {dI : Nat → Nat → Nat} {cI cZ cL cT cJ : ClassId} (C1 : lC l p s m meth c b nL xs dC dI cI cZ cL cT cJ) {Hc : Heap} {cells slots : Nat} (hcc : cells + 11 ≤ room_1.cells) (hss : slots + 522 ≤ room_1.slots) {ls : Array Slot} {jj : Int} (hj : 0 ≤ jj ∧ jj + 5 ≤ (nL : Int)) {sl sh ru tr se rh rt ri de fi qu pr ou mo : Nat} {ad : Nat → Nat} (hR : lRel s (dC, dI) cI cZ cL cT cJ sl sh ru tr se rh rt ri de fi qu pr ou mo ad Hc) (hl : lv_has ls 7 [(0, .ref b), (1, .ref sl), (2, .ref mo), (3, .ref ou), (4, .int (zI jj))]) (hc : ∀ (H9 : Heap) (ls9 : Array Slot), lRel s (dC, dI) cI cZ cL cT cJ sl sh ru tr se rh rt ri de fi qu pr ou mo ad H9 → lv_has ls9 7 [(0, .ref b), (1, .ref sl), (2, .ref mo), (3, .ref ou), (4, .int (zI jj))] → W p l e room_1 s m #[Value.ref b] below meth c H9 [] (cells + 11) (slots + 522) Z (F0 m 1319 ls9 [])) : W p l e room_1 s m #[Value.ref b] below meth c Hc [] cells slots Z (F0 m 312 ls []) := by
  obtain ⟨own, sf, rl, rp, oc, hx9, hy9, hl9, rln, rhf, tx, ty, tl, qd, s1, s2, qx, qy, ql, RI, DD, FF, QQ, OU, mn, mp, mon, mrx, mry, mrl, mrs, mrf, mx, my, ml, mst, mla, mW, mH, mC, mSX, mSY, mFX, mFY, mWY, mOP, mRE, mKI, mIN, mSE, mHE, mNE, hS0, hP0, hG0, hM, ⟨hDD, hFF, hSE⟩, hRn, hLv, hNo⟩ := hR
  obtain ⟨gn, go, gp, grs, gf, gW, gH, gC, gC0, gsX, gsY, gfX, gfY, gWY, gOP, gRE, gKI, gIN⟩ := id hM
  obtain ⟨a1, ha1, r1⟩ := zI_ex (xs (jj + 1).toNat)
  obtain ⟨a2, ha2, r2⟩ := zI_ex (xs (jj + 2).toNat)
  obtain ⟨a3, ha3, r3⟩ := zI_ex (xs (jj + 3).toNat)
  by_cases c1 : 0 ≤ a1 ∧ a1 < mn
  ·
    obtain ⟨k, hk⟩ : ∃ k : Nat, a1 = (k : Int) := ⟨a1.toNat, by omega⟩
    obtain ⟨lv, w, h, ka, ta, sx, sy, fx, fy, lf, un, K, tq, tp, ti, LN, HF, FI, hf, hPk, hGk, hT⟩ := hLv k (by omega)
    have hT1 := hT
    rw [← hk] at hT1
    have hTa := hT1
    obtain ⟨⟨rfl, rfl, rfl, rfl, rfl, rfl, rfl, rfl⟩, b1, b2, b3, b4, b5, b6, b7, b8, b9, b10, b11, b12⟩ := hT1
    have hPf := hP0.app hPk
    have hDf := lDk hG0 hGk
    by_cases c2 : 0 ≤ a2 ∧ a2 < mW a1 ∧ 0 ≤ a3 ∧ a3 < mH a1
    ·
      have hkd := kd_congr b9 a2 a3
      by_cases c3 : kd K (mW a1) (mH a1) a2 a3 = 1
      ·
        refine k_setStart_xc (k := k) l C1 hS0 hcc hss hj ha1 ha2 ha3 hPf hDf hl (by first | assumption | omega) (by first | assumption | omega) (by first | assumption | omega) (by first | assumption | omega) (by first | assumption | omega) (by first | assumption | omega) (by first | assumption | omega) (by first | assumption | omega) (by first | assumption | omega) (by first | assumption | omega) (by first | assumption | omega) (by first | assumption | omega) (by first | assumption | omega) (by first | assumption | omega) (by first | assumption | omega) (by first | assumption | omega) (by intros; omega) ?_
        intro la_4 H9 k9 ls9 po_5 hQ0 hQk hS9 hlz
        have hLv1 : ∀ i : Nat, (i : Int) < mn → lLev (dC, dI) cI cT s H9 own sf mW mH mC mSX mSY mFX mFY mWY mOP mRE mKI i := by
          intro i hi
          by_cases e9 : i = k
          · subst e9
            refine ⟨lv, (mW a1), (mH a1), ka, ta, (mSX a1), (mSY a1), (mFX a1), (mFY a1), (mWY a1), (mOP a1), K, tq, tp, ti, LN, HF, FI, hf, hQk, zD_re hGk rfl, ?_⟩
            exact hT
          · exact lLev_keep (lFk hG0 hGk) hS9 (hLv i hi) (by omega) (fun _ _ => rfl) rfl lSame_rf
        exact hc H9 ls9 ⟨own, sf, rl, rp, oc, hx9, hy9, hl9, rln, rhf, tx, ty, tl, qd, s1, s2, qx, qy, ql, RI, DD, FF, QQ, OU, mn, mp, mon, mrx, mry, mrl, mrs, mrf, mx, my, ml, mst, la_4, mW, mH, mC, mSX, mSY, mFX, mFY, mWY, mOP, mRE, mKI, mIN, mSE, mHE, mNE, lS_tr hS0 hS9 (lG_of hDf hS0), hQ0, zD_re hG0 rfl, hM, ⟨hDD, hFF, hSE⟩, hRn, hLv1, hNo⟩ hlz
      ·
        refine k_setStart (k := k) l C1 hS0 hcc hss hj ha1 ha2 ha3 hPf hDf hl (by first | assumption | omega) (by first | assumption | omega) (by first | assumption | omega) (by first | assumption | omega) (by first | assumption | omega) (by first | assumption | omega) (by first | assumption | omega) (by first | assumption | omega) (by first | assumption | omega) (by first | assumption | omega) (by first | assumption | omega) (by first | assumption | omega) (by first | assumption | omega) (by first | assumption | omega) (by first | assumption | omega) (by first | assumption | omega) (by first | assumption | omega) (by first | assumption | omega) (by intros; omega) ?_
        intro rl1_2 la_5 on1_6 H9 k9 ls9 po_3 po_7 hQ0 hQk hS9 hlz
        have hLv1 : ∀ i : Nat, (i : Int) < mn → lLev (dC, dI) cI cT s H9 own sf mW mH mC (zu mSX a1 a2) (zu mSY a1 a3) mFX mFY (zu mWY a1 (-1)) (zu mOP a1 0) (zu (zu (zu (zu mRE (4 * a1) (-1)) (4 * a1 + 1) (-1)) (4 * a1 + 2) (-1)) (4 * a1 + 3) (-1)) mKI i := by
          intro i hi
          by_cases e9 : i = k
          · subst e9
            refine ⟨lv, (mW a1), (mH a1), ka, ta, a2, a3, (mFX a1), (mFY a1), -1, 0, K, tq, tp, ti, fun _ => -1, fun _ => -1, FI, hf, hQk, zD_re hGk rfl, ?_⟩
            exact lTie_void hk.symm (congrArg mW hk) (congrArg mH hk) (zu_at hk.symm).symm (zu_at hk.symm).symm (congrArg mFX hk) (congrArg mFY hk) b1 b2 ⟨c2.1, c2.2.1⟩ c2.2.2 b5 b6 b7 b8 (by rw [← hk]; exact b9)
          · exact lLev_keep (lFk hG0 hGk) hS9 (hLv i hi) (by omega) (fun _ _ => rfl) rfl (lSame_ed (by omega) rfl rfl (zu_ne _ _ (by omega)) (zu_ne _ _ (by omega)) rfl rfl (fun _ _ _ => rfl))
        exact hc H9 ls9 ⟨own, sf, rl1_2, rp, oc, hx9, hy9, hl9, rln, rhf, tx, ty, tl, qd, s1, s2, qx, qy, ql, RI, DD, FF, QQ, OU, mn, mp, on1_6, mrx, mry, mrl, mrs, mrf, mx, my, ml, mst, la_5, mW, mH, mC, zu mSX a1 a2, zu mSY a1 a3, mFX, mFY, zu mWY a1 (-1), zu mOP a1 0, zu (zu (zu (zu mRE (4 * a1) (-1)) (4 * a1 + 1) (-1)) (4 * a1 + 2) (-1)) (4 * a1 + 3) (-1), mKI, mIN, mSE, mHE, mNE, lS_tr hS0 hS9 (lG_of hDf hS0), hQ0, zD_re hG0 rfl, ⟨gn, (by rw [po_7.2]; split <;> omega), gp, grs, gf, gW, gH, gC, gC0, Z32_zu gsX r2, Z32_zu gsY r3, gfX, gfY, Din_zu gWY (by omega), B01_zu gOP (by omega), Din_RE4 gRE, gKI, gIN⟩, ⟨hDD, hFF, hSE⟩, lRun_edit (mWY := mWY) (mOP := mOP) (mRE := mRE) (mKI := mKI) hk hf (fun i hi hs => by have a := lLev_own (hLv i (by omega)) hs; have b : own lv = k + 1 := (hGk.2 0 _ rfl).2; omega) po_3 po_7.2 (fun h => ⟨(gW mon h go.2).2, (gH mon h go.2).2⟩) (fun h hne => lSame_ed (by omega) rfl rfl (zu_ne _ _ (by omega)) (zu_ne _ _ (by omega)) rfl rfl (fun _ _ _ => rfl)) hRn, hLv1, hNo⟩ hlz
    ·
      have hk1 : kd K (mW a1) (mH a1) a2 a3 = -1 := kd_no (by omega)
      refine k_setStart_xb (k := k) l C1 hS0 hcc hss hj ha1 ha2 ha3 hPf hDf hl (by first | assumption | omega) (by first | assumption | omega) (by first | assumption | omega) (by first | assumption | omega) (by first | assumption | omega) (by first | assumption | omega) (by first | assumption | omega) (by first | assumption | omega) (by first | assumption | omega) (by first | assumption | omega) (by first | assumption | omega) (by first | assumption | omega) (by first | assumption | omega) (by first | assumption | omega) (by intros; omega) ?_
      intro la_4 H9 k9 ls9 po_5 hQ0 hQk hS9 hlz
      have hLv1 : ∀ i : Nat, (i : Int) < mn → lLev (dC, dI) cI cT s H9 own sf mW mH mC mSX mSY mFX mFY mWY mOP mRE mKI i := by
        intro i hi
        by_cases e9 : i = k
        · subst e9
          refine ⟨lv, (mW a1), (mH a1), ka, ta, (mSX a1), (mSY a1), (mFX a1), (mFY a1), (mWY a1), (mOP a1), K, tq, tp, ti, LN, HF, FI, hf, hQk, zD_re hGk rfl, ?_⟩
          exact hT
        · exact lLev_keep (lFk hG0 hGk) hS9 (hLv i hi) (by omega) (fun _ _ => rfl) rfl lSame_rf
      exact hc H9 ls9 ⟨own, sf, rl, rp, oc, hx9, hy9, hl9, rln, rhf, tx, ty, tl, qd, s1, s2, qx, qy, ql, RI, DD, FF, QQ, OU, mn, mp, mon, mrx, mry, mrl, mrs, mrf, mx, my, ml, mst, la_4, mW, mH, mC, mSX, mSY, mFX, mFY, mWY, mOP, mRE, mKI, mIN, mSE, mHE, mNE, lS_tr hS0 hS9 (lG_of hDf hS0), hQ0, zD_re hG0 rfl, hM, ⟨hDD, hFF, hSE⟩, hRn, hLv1, hNo⟩ hlz
  ·
    have hPf := hP0
    have hDf := lD0 hG0
    refine k_setStart_xa l C1 hS0 hcc hss hj ha1 ha2 ha3 hPf hDf hl (by first | assumption | omega) (by exact lNo hNo c1) (by first | assumption | omega) (by first | assumption | omega) (by first | assumption | omega) (by first | assumption | omega) (by first | assumption | omega) (by first | assumption | omega) (by first | assumption | omega) (by intros; omega) ?_
    intro la_4 H9 k9 ls9 po_5 hQ0 hS9 hlz
    have hLv1 : ∀ i : Nat, (i : Int) < mn → lLev (dC, dI) cI cT s H9 own sf mW mH mC mSX mSY mFX mFY mWY mOP mRE mKI i := fun i hi => lLev_keep (lF0 hG0) hS9 (hLv i hi) (by omega) (fun _ _ => rfl) rfl lSame_rf
    exact hc H9 ls9 ⟨own, sf, rl, rp, oc, hx9, hy9, hl9, rln, rhf, tx, ty, tl, qd, s1, s2, qx, qy, ql, RI, DD, FF, QQ, OU, mn, mp, mon, mrx, mry, mrl, mrs, mrf, mx, my, ml, mst, la_4, mW, mH, mC, mSX, mSY, mFX, mFY, mWY, mOP, mRE, mKI, mIN, mSE, mHE, mNE, lS_tr hS0 hS9 (lG_of hDf hS0), hQ0, zD_re hG0 rfl, hM, ⟨hDD, hFF, hSE⟩, hRn, hLv1, hNo⟩ hlz
set_option maxHeartbeats 4000000 in
set_option maxRecDepth 100000 in
theorem s_setFlag (l : Launch) {p : Program} {e : Env} {s : State} {m : MethodId} {below : List Frame} {meth : Method} {c : Code} {Z : State → Prop} {b nL : Nat} {xs : Nat → Int32} {dC : Nat → ClassId} {dI : Nat → Nat → Nat} {cI cZ cL cT cJ : ClassId} (C1 : lC l p s m meth c b nL xs dC dI cI cZ cL cT cJ) {Hc : Heap} {cells slots : Nat} (hcc : cells + 11 ≤ room_1.cells) (hss : slots + 522 ≤ room_1.slots) {ls : Array Slot} {jj : Int} (hj : 0 ≤ jj ∧ jj + 5 ≤ (nL : Int)) {sl sh ru tr se rh rt ri de fi qu pr ou mo : Nat} {ad : Nat → Nat} (hR : lRel s (dC, dI) cI cZ cL cT cJ sl sh ru tr se rh rt ri de fi qu pr ou mo ad Hc) (hl : lv_has ls 7 [(0, .ref b), (1, .ref sl), (2, .ref mo), (3, .ref ou), (4, .int (zI jj))]) (hc : ∀ (H9 : Heap) (ls9 : Array Slot), lRel s (dC, dI) cI cZ cL cT cJ sl sh ru tr se rh rt ri de fi qu pr ou mo ad H9 → lv_has ls9 7 [(0, .ref b), (1, .ref sl), (2, .ref mo), (3, .ref ou), (4, .int (zI jj))] → W p l e room_1 s m #[Value.ref b] below meth c H9 [] (cells + 11) (slots + 522) Z (F0 m 1319 ls9 [])) : W p l e room_1 s m #[Value.ref b] below meth c Hc [] cells slots Z (F0 m 372 ls []) := by
  obtain ⟨own, sf, rl, rp, oc, hx9, hy9, hl9, rln, rhf, tx, ty, tl, qd, s1, s2, qx, qy, ql, RI, DD, FF, QQ, OU, mn, mp, mon, mrx, mry, mrl, mrs, mrf, mx, my, ml, mst, mla, mW, mH, mC, mSX, mSY, mFX, mFY, mWY, mOP, mRE, mKI, mIN, mSE, mHE, mNE, hS0, hP0, hG0, hM, ⟨hDD, hFF, hSE⟩, hRn, hLv, hNo⟩ := hR
  obtain ⟨gn, go, gp, grs, gf, gW, gH, gC, gC0, gsX, gsY, gfX, gfY, gWY, gOP, gRE, gKI, gIN⟩ := id hM
  obtain ⟨a1, ha1, r1⟩ := zI_ex (xs (jj + 1).toNat)
  obtain ⟨a2, ha2, r2⟩ := zI_ex (xs (jj + 2).toNat)
  obtain ⟨a3, ha3, r3⟩ := zI_ex (xs (jj + 3).toNat)
  by_cases c1 : 0 ≤ a1 ∧ a1 < mn
  ·
    obtain ⟨k, hk⟩ : ∃ k : Nat, a1 = (k : Int) := ⟨a1.toNat, by omega⟩
    obtain ⟨lv, w, h, ka, ta, sx, sy, fx, fy, lf, un, K, tq, tp, ti, LN, HF, FI, hf, hPk, hGk, hT⟩ := hLv k (by omega)
    have hT1 := hT
    rw [← hk] at hT1
    have hTa := hT1
    obtain ⟨⟨rfl, rfl, rfl, rfl, rfl, rfl, rfl, rfl⟩, b1, b2, b3, b4, b5, b6, b7, b8, b9, b10, b11, b12⟩ := hT1
    have hPf := hP0.app hPk
    have hDf := lDk hG0 hGk
    by_cases c2 : 0 ≤ a2 ∧ a2 < mW a1 ∧ 0 ≤ a3 ∧ a3 < mH a1
    ·
      have hkd := kd_congr b9 a2 a3
      by_cases c3 : kd K (mW a1) (mH a1) a2 a3 = 1
      ·
        refine k_setFlag_xc (k := k) l C1 hS0 hcc hss hj ha1 ha2 ha3 hPf hDf hl (by first | assumption | omega) (by first | assumption | omega) (by first | assumption | omega) (by first | assumption | omega) (by first | assumption | omega) (by first | assumption | omega) (by first | assumption | omega) (by first | assumption | omega) (by first | assumption | omega) (by first | assumption | omega) (by first | assumption | omega) (by first | assumption | omega) (by first | assumption | omega) (by first | assumption | omega) (by first | assumption | omega) (by first | assumption | omega) (by intros; omega) ?_
        intro la_4 H9 k9 ls9 po_5 hQ0 hQk hS9 hlz
        have hLv1 : ∀ i : Nat, (i : Int) < mn → lLev (dC, dI) cI cT s H9 own sf mW mH mC mSX mSY mFX mFY mWY mOP mRE mKI i := by
          intro i hi
          by_cases e9 : i = k
          · subst e9
            refine ⟨lv, (mW a1), (mH a1), ka, ta, (mSX a1), (mSY a1), (mFX a1), (mFY a1), (mWY a1), (mOP a1), K, tq, tp, ti, LN, HF, FI, hf, hQk, zD_re hGk rfl, ?_⟩
            exact hT
          · exact lLev_keep (lFk hG0 hGk) hS9 (hLv i hi) (by omega) (fun _ _ => rfl) rfl lSame_rf
        exact hc H9 ls9 ⟨own, sf, rl, rp, oc, hx9, hy9, hl9, rln, rhf, tx, ty, tl, qd, s1, s2, qx, qy, ql, RI, DD, FF, QQ, OU, mn, mp, mon, mrx, mry, mrl, mrs, mrf, mx, my, ml, mst, la_4, mW, mH, mC, mSX, mSY, mFX, mFY, mWY, mOP, mRE, mKI, mIN, mSE, mHE, mNE, lS_tr hS0 hS9 (lG_of hDf hS0), hQ0, zD_re hG0 rfl, hM, ⟨hDD, hFF, hSE⟩, hRn, hLv1, hNo⟩ hlz
      ·
        refine k_setFlag (k := k) l C1 hS0 hcc hss hj ha1 ha2 ha3 hPf hDf hl (by first | assumption | omega) (by first | assumption | omega) (by first | assumption | omega) (by first | assumption | omega) (by first | assumption | omega) (by first | assumption | omega) (by first | assumption | omega) (by first | assumption | omega) (by first | assumption | omega) (by first | assumption | omega) (by first | assumption | omega) (by first | assumption | omega) (by first | assumption | omega) (by first | assumption | omega) (by first | assumption | omega) (by first | assumption | omega) (by first | assumption | omega) (by first | assumption | omega) (by intros; omega) ?_
        intro rl1_2 la_5 on1_6 H9 k9 ls9 po_3 po_7 hQ0 hQk hS9 hlz
        have hLv1 : ∀ i : Nat, (i : Int) < mn → lLev (dC, dI) cI cT s H9 own sf mW mH mC mSX mSY (zu mFX a1 a2) (zu mFY a1 a3) (zu mWY a1 (-1)) (zu mOP a1 0) (zu (zu (zu (zu mRE (4 * a1) (-1)) (4 * a1 + 1) (-1)) (4 * a1 + 2) (-1)) (4 * a1 + 3) (-1)) mKI i := by
          intro i hi
          by_cases e9 : i = k
          · subst e9
            refine ⟨lv, (mW a1), (mH a1), ka, ta, (mSX a1), (mSY a1), a2, a3, -1, 0, K, tq, tp, ti, fun _ => -1, fun _ => -1, FI, hf, hQk, zD_re hGk rfl, ?_⟩
            exact lTie_void hk.symm (congrArg mW hk) (congrArg mH hk) (congrArg mSX hk) (congrArg mSY hk) (zu_at hk.symm).symm (zu_at hk.symm).symm b1 b2 b3 b4 ⟨c2.1, c2.2.1⟩ c2.2.2 b7 b8 (by rw [← hk]; exact b9)
          · exact lLev_keep (lFk hG0 hGk) hS9 (hLv i hi) (by omega) (fun _ _ => rfl) rfl (lSame_ed (by omega) rfl rfl rfl rfl (zu_ne _ _ (by omega)) (zu_ne _ _ (by omega)) (fun _ _ _ => rfl))
        exact hc H9 ls9 ⟨own, sf, rl1_2, rp, oc, hx9, hy9, hl9, rln, rhf, tx, ty, tl, qd, s1, s2, qx, qy, ql, RI, DD, FF, QQ, OU, mn, mp, on1_6, mrx, mry, mrl, mrs, mrf, mx, my, ml, mst, la_5, mW, mH, mC, mSX, mSY, zu mFX a1 a2, zu mFY a1 a3, zu mWY a1 (-1), zu mOP a1 0, zu (zu (zu (zu mRE (4 * a1) (-1)) (4 * a1 + 1) (-1)) (4 * a1 + 2) (-1)) (4 * a1 + 3) (-1), mKI, mIN, mSE, mHE, mNE, lS_tr hS0 hS9 (lG_of hDf hS0), hQ0, zD_re hG0 rfl, ⟨gn, (by rw [po_7.2]; split <;> omega), gp, grs, gf, gW, gH, gC, gC0, gsX, gsY, Z32_zu gfX r2, Z32_zu gfY r3, Din_zu gWY (by omega), B01_zu gOP (by omega), Din_RE4 gRE, gKI, gIN⟩, ⟨hDD, hFF, hSE⟩, lRun_edit (mWY := mWY) (mOP := mOP) (mRE := mRE) (mKI := mKI) hk hf (fun i hi hs => by have a := lLev_own (hLv i (by omega)) hs; have b : own lv = k + 1 := (hGk.2 0 _ rfl).2; omega) po_3 po_7.2 (fun h => ⟨(gW mon h go.2).2, (gH mon h go.2).2⟩) (fun h hne => lSame_ed (by omega) rfl rfl rfl rfl (zu_ne _ _ (by omega)) (zu_ne _ _ (by omega)) (fun _ _ _ => rfl)) hRn, hLv1, hNo⟩ hlz
    ·
      have hk1 : kd K (mW a1) (mH a1) a2 a3 = -1 := kd_no (by omega)
      refine k_setFlag_xb (k := k) l C1 hS0 hcc hss hj ha1 ha2 ha3 hPf hDf hl (by first | assumption | omega) (by first | assumption | omega) (by first | assumption | omega) (by first | assumption | omega) (by first | assumption | omega) (by first | assumption | omega) (by first | assumption | omega) (by first | assumption | omega) (by first | assumption | omega) (by first | assumption | omega) (by first | assumption | omega) (by first | assumption | omega) (by first | assumption | omega) (by first | assumption | omega) (by intros; omega) ?_
      intro la_4 H9 k9 ls9 po_5 hQ0 hQk hS9 hlz
      have hLv1 : ∀ i : Nat, (i : Int) < mn → lLev (dC, dI) cI cT s H9 own sf mW mH mC mSX mSY mFX mFY mWY mOP mRE mKI i := by
        intro i hi
        by_cases e9 : i = k
        · subst e9
          refine ⟨lv, (mW a1), (mH a1), ka, ta, (mSX a1), (mSY a1), (mFX a1), (mFY a1), (mWY a1), (mOP a1), K, tq, tp, ti, LN, HF, FI, hf, hQk, zD_re hGk rfl, ?_⟩
          exact hT
        · exact lLev_keep (lFk hG0 hGk) hS9 (hLv i hi) (by omega) (fun _ _ => rfl) rfl lSame_rf
      exact hc H9 ls9 ⟨own, sf, rl, rp, oc, hx9, hy9, hl9, rln, rhf, tx, ty, tl, qd, s1, s2, qx, qy, ql, RI, DD, FF, QQ, OU, mn, mp, mon, mrx, mry, mrl, mrs, mrf, mx, my, ml, mst, la_4, mW, mH, mC, mSX, mSY, mFX, mFY, mWY, mOP, mRE, mKI, mIN, mSE, mHE, mNE, lS_tr hS0 hS9 (lG_of hDf hS0), hQ0, zD_re hG0 rfl, hM, ⟨hDD, hFF, hSE⟩, hRn, hLv1, hNo⟩ hlz
  ·
    have hPf := hP0
    have hDf := lD0 hG0
    refine k_setFlag_xa l C1 hS0 hcc hss hj ha1 ha2 ha3 hPf hDf hl (by first | assumption | omega) (by exact lNo hNo c1) (by first | assumption | omega) (by first | assumption | omega) (by first | assumption | omega) (by first | assumption | omega) (by first | assumption | omega) (by first | assumption | omega) (by first | assumption | omega) (by intros; omega) ?_
    intro la_4 H9 k9 ls9 po_5 hQ0 hS9 hlz
    have hLv1 : ∀ i : Nat, (i : Int) < mn → lLev (dC, dI) cI cT s H9 own sf mW mH mC mSX mSY mFX mFY mWY mOP mRE mKI i := fun i hi => lLev_keep (lF0 hG0) hS9 (hLv i hi) (by omega) (fun _ _ => rfl) rfl lSame_rf
    exact hc H9 ls9 ⟨own, sf, rl, rp, oc, hx9, hy9, hl9, rln, rhf, tx, ty, tl, qd, s1, s2, qx, qy, ql, RI, DD, FF, QQ, OU, mn, mp, mon, mrx, mry, mrl, mrs, mrf, mx, my, ml, mst, la_4, mW, mH, mC, mSX, mSY, mFX, mFY, mWY, mOP, mRE, mKI, mIN, mSE, mHE, mNE, lS_tr hS0 hS9 (lG_of hDf hS0), hQ0, zD_re hG0 rfl, hM, ⟨hDD, hFF, hSE⟩, hRn, hLv1, hNo⟩ hlz
set_option maxHeartbeats 4000000 in
set_option maxRecDepth 100000 in
theorem s_grow (l : Launch) {p : Program} {e : Env} {s : State} {m : MethodId} {below : List Frame} {meth : Method} {c : Code} {Z : State → Prop} {b nL : Nat} {xs : Nat → Int32} {dC : Nat → ClassId} {dI : Nat → Nat → Nat} {cI cZ cL cT cJ : ClassId} (C1 : lC l p s m meth c b nL xs dC dI cI cZ cL cT cJ) {Hc : Heap} {cells slots : Nat} (hcc : cells + 11 ≤ room_1.cells) (hss : slots + 522 ≤ room_1.slots) {ls : Array Slot} {jj : Int} (hj : 0 ≤ jj ∧ jj + 5 ≤ (nL : Int)) {sl sh ru tr se rh rt ri de fi qu pr ou mo : Nat} {ad : Nat → Nat} (hR : lRel s (dC, dI) cI cZ cL cT cJ sl sh ru tr se rh rt ri de fi qu pr ou mo ad Hc) (hl : lv_has ls 7 [(0, .ref b), (1, .ref sl), (2, .ref mo), (3, .ref ou), (4, .int (zI jj))]) (hc : ∀ (H9 : Heap) (ls9 : Array Slot), lRel s (dC, dI) cI cZ cL cT cJ sl sh ru tr se rh rt ri de fi qu pr ou mo ad H9 → lv_has ls9 7 [(0, .ref b), (1, .ref sl), (2, .ref mo), (3, .ref ou), (4, .int (zI jj))] → W p l e room_1 s m #[Value.ref b] below meth c H9 [] (cells + 11) (slots + 522) Z (F0 m 1319 ls9 [])) : W p l e room_1 s m #[Value.ref b] below meth c Hc [] cells slots Z (F0 m 432 ls []) := by
  obtain ⟨own, sf, rl, rp, oc, hx9, hy9, hl9, rln, rhf, tx, ty, tl, qd, s1, s2, qx, qy, ql, RI, DD, FF, QQ, OU, mn, mp, mon, mrx, mry, mrl, mrs, mrf, mx, my, ml, mst, mla, mW, mH, mC, mSX, mSY, mFX, mFY, mWY, mOP, mRE, mKI, mIN, mSE, mHE, mNE, hS0, hP0, hG0, hM, ⟨hDD, hFF, hSE⟩, hRn, hLv, hNo⟩ := hR
  obtain ⟨gn, go, gp, grs, gf, gW, gH, gC, gC0, gsX, gsY, gfX, gfY, gWY, gOP, gRE, gKI, gIN⟩ := id hM
  obtain ⟨a1, ha1, r1⟩ := zI_ex (xs (jj + 1).toNat)
  obtain ⟨a2, ha2, r2⟩ := zI_ex (xs (jj + 2).toNat)
  by_cases c1 : 0 ≤ a1 ∧ a1 < mn
  ·
    obtain ⟨k, hk⟩ : ∃ k : Nat, a1 = (k : Int) := ⟨a1.toNat, by omega⟩
    obtain ⟨lv, w, h, ka, ta, sx, sy, fx, fy, lf, un, K, tq, tp, ti, LN, HF, FI, hf, hPk, hGk, hT⟩ := hLv k (by omega)
    have hT1 := hT
    rw [← hk] at hT1
    have hTa := hT1
    obtain ⟨⟨rfl, rfl, rfl, rfl, rfl, rfl, rfl, rfl⟩, b1, b2, b3, b4, b5, b6, b7, b8, b9, b10, b11, b12⟩ := hT1
    have hPf := hP0.app hPk
    have hDf := lDk hG0 hGk
    by_cases c2 : 0 ≤ a2 ∧ a2 ≤ 65535
    ·
      refine k_grow (k := k) l C1 hS0 hcc hss hj ha1 ha2 hPf hDf hl (by first | assumption | omega) (by first | assumption | omega) (by first | assumption | omega) (by first | assumption | omega) (by first | assumption | omega) (by first | assumption | omega) (by first | assumption | omega) (by first | assumption | omega) (by first | assumption | omega) (by first | assumption | omega) (by first | assumption | omega) (by first | assumption | omega) (by first | assumption | omega) (by first | assumption | omega) (by first | assumption | omega) (by first | assumption | omega) (by first | assumption | omega) (by first | assumption | omega) (by first | assumption | omega) (by first | assumption | omega) (by first | assumption | omega) (by intros; omega) (fun rl1_2 K1_3 rr_4 OU1_5 la_8 on1_9 rr_10 C1_11 po_6 po_12 => (by
                  obtain ⟨⟨c3, ⟨c4, c5⟩, c6⟩, _⟩ := po_6
                  obtain ⟨_, d1, d2, d3, d4, d5⟩ := po_12
                  rw [c6, d2]
                  exact ctt_congr _ (fun y x y0 y1 x0 x1 => c5 x y x0 (by omega) y0 (by omega)))) ?_
      intro rl1_2 K1_3 rr_4 OU1_5 la_8 on1_9 rr_10 C1_11 H9 k9 ls9 po_6 po_12 hQ0 hQk hS9 hlz
      obtain ⟨⟨c3, ⟨c4, c5⟩, c6⟩, _⟩ := po_6
      obtain ⟨_, d1, d2, d3, d4, d5⟩ := po_12
      have hLv1 : ∀ i : Nat, (i : Int) < mn → lLev (dC, dI) cI cT s H9 own sf mW mH C1_11 mSX mSY mFX mFY (zu mWY a1 (-1)) (zu mOP a1 0) (zu (zu (zu (zu mRE (4 * a1) (-1)) (4 * a1 + 1) (-1)) (4 * a1 + 2) (-1)) (4 * a1 + 3) (-1)) mKI i := by
        intro i hi
        by_cases e9 : i = k
        · subst e9
          refine ⟨lv, (mW a1), (mH a1), ka, ta, (mSX a1), (mSY a1), (mFX a1), (mFY a1), -1, 0, K1_3, tq, tp, ti, fun _ => -1, fun _ => -1, FI, hf, hQk, zD_re hGk rfl, ?_⟩
          exact lTie_void hk.symm (congrArg mW hk) (congrArg mH hk) (congrArg mSX hk) (congrArg mSY hk) (congrArg mFX hk) (congrArg mFY hk) b1 b2 b3 b4 b5 b6 c4 b8 (fun x y x0 x1 y0 y1 => (c5 x y x0 x1 y0 y1).trans ((d4 y x y0 y1 x0 x1).symm.trans (by show C1_11 _ = C1_11 _; congr 1; omega)))
        · exact lLev_keep (lFk hG0 hGk) hS9 (hLv i hi) (by omega) (fun _ _ => rfl) rfl (lSame_ed (by omega) rfl rfl rfl rfl rfl rfl (fun j j0 j1 => d5 _ (by omega)))
      exact hc H9 ls9 ⟨own, sf, rl1_2, rp, oc, hx9, hy9, hl9, rln, rhf, tx, ty, tl, qd, s1, s2, qx, qy, ql, RI, DD, FF, QQ, OU1_5, mn, mp, on1_9, mrx, mry, mrl, mrs, mrf, mx, my, ml, mst, la_8, mW, mH, C1_11, mSX, mSY, mFX, mFY, zu mWY a1 (-1), zu mOP a1 0, zu (zu (zu (zu mRE (4 * a1) (-1)) (4 * a1 + 1) (-1)) (4 * a1 + 2) (-1)) (4 * a1 + 3) (-1), mKI, mIN, mSE, mHE, mNE, lS_tr hS0 hS9 (lG_of hDf hS0), hQ0, zD_re hG0 rfl, ⟨gn, (by rw [d1]; split <;> omega), gp, grs, gf, gW, gH, d3, (fun j hj => (d5 j (by omega)).trans (gC0 j hj)), gsX, gsY, gfX, gfY, Din_zu gWY (by omega), B01_zu gOP (by omega), Din_RE4 gRE, gKI, gIN⟩, ⟨hDD, hFF, hSE⟩, lRun_edit (mWY := mWY) (mOP := mOP) (mRE := mRE) (mKI := mKI) hk hf (fun i hi hs => by have a := lLev_own (hLv i (by omega)) hs; have b : own lv = k + 1 := (hGk.2 0 _ rfl).2; omega) c3 d1 (fun h => ⟨(gW mon h go.2).2, (gH mon h go.2).2⟩) (fun h hne => lSame_ed (by omega) rfl rfl rfl rfl rfl rfl (fun j j0 j1 => d5 _ (by omega))) hRn, hLv1, hNo⟩ hlz
    ·
      refine k_grow_xb (k := k) l C1 hS0 hcc hss hj ha1 ha2 hPf hDf hl (by first | assumption | omega) (by first | assumption | omega) (by first | assumption | omega) (by first | assumption | omega) (by first | assumption | omega) (by first | assumption | omega) (by first | assumption | omega) (by intros; omega) ?_
      intro la_4 H9 k9 ls9 po_5 hQ0 hQk hS9 hlz
      have hLv1 : ∀ i : Nat, (i : Int) < mn → lLev (dC, dI) cI cT s H9 own sf mW mH mC mSX mSY mFX mFY mWY mOP mRE mKI i := by
        intro i hi
        by_cases e9 : i = k
        · subst e9
          refine ⟨lv, (mW a1), (mH a1), ka, ta, (mSX a1), (mSY a1), (mFX a1), (mFY a1), (mWY a1), (mOP a1), K, tq, tp, ti, LN, HF, FI, hf, hQk, zD_re hGk rfl, ?_⟩
          exact hT
        · exact lLev_keep (lFk hG0 hGk) hS9 (hLv i hi) (by omega) (fun _ _ => rfl) rfl lSame_rf
      exact hc H9 ls9 ⟨own, sf, rl, rp, oc, hx9, hy9, hl9, rln, rhf, tx, ty, tl, qd, s1, s2, qx, qy, ql, RI, DD, FF, QQ, OU, mn, mp, mon, mrx, mry, mrl, mrs, mrf, mx, my, ml, mst, la_4, mW, mH, mC, mSX, mSY, mFX, mFY, mWY, mOP, mRE, mKI, mIN, mSE, mHE, mNE, lS_tr hS0 hS9 (lG_of hDf hS0), hQ0, zD_re hG0 rfl, hM, ⟨hDD, hFF, hSE⟩, hRn, hLv1, hNo⟩ hlz
  ·
    have hPf := hP0
    have hDf := lD0 hG0
    refine k_grow_xa l C1 hS0 hcc hss hj ha1 ha2 hPf hDf hl (by first | assumption | omega) (by exact lNo hNo c1) (by first | assumption | omega) (by first | assumption | omega) (by first | assumption | omega) (by intros; omega) ?_
    intro la_4 H9 k9 ls9 po_5 hQ0 hS9 hlz
    have hLv1 : ∀ i : Nat, (i : Int) < mn → lLev (dC, dI) cI cT s H9 own sf mW mH mC mSX mSY mFX mFY mWY mOP mRE mKI i := fun i hi => lLev_keep (lF0 hG0) hS9 (hLv i hi) (by omega) (fun _ _ => rfl) rfl lSame_rf
    exact hc H9 ls9 ⟨own, sf, rl, rp, oc, hx9, hy9, hl9, rln, rhf, tx, ty, tl, qd, s1, s2, qx, qy, ql, RI, DD, FF, QQ, OU, mn, mp, mon, mrx, mry, mrl, mrs, mrf, mx, my, ml, mst, la_4, mW, mH, mC, mSX, mSY, mFX, mFY, mWY, mOP, mRE, mKI, mIN, mSE, mHE, mNE, lS_tr hS0 hS9 (lG_of hDf hS0), hQ0, zD_re hG0 rfl, hM, ⟨hDD, hFF, hSE⟩, hRn, hLv1, hNo⟩ hlz
set_option maxHeartbeats 4000000 in
set_option maxRecDepth 100000 in
theorem s_addLevel (l : Launch) {p : Program} {e : Env} {s : State} {m : MethodId} {below : List Frame} {meth : Method} {c : Code} {Z : State → Prop} {b nL : Nat} {xs : Nat → Int32} {dC : Nat → ClassId} {dI : Nat → Nat → Nat} {cI cZ cL cT cJ : ClassId} (C1 : lC l p s m meth c b nL xs dC dI cI cZ cL cT cJ) {Hc : Heap} {cells slots : Nat} (hcc : cells + 11 ≤ room_1.cells) (hss : slots + 522 ≤ room_1.slots) {ls : Array Slot} {jj : Int} (hj : 0 ≤ jj ∧ jj + 5 ≤ (nL : Int)) {sl sh ru tr se rh rt ri de fi qu pr ou mo : Nat} {ad : Nat → Nat} (hR : lRel s (dC, dI) cI cZ cL cT cJ sl sh ru tr se rh rt ri de fi qu pr ou mo ad Hc) (hl : lv_has ls 7 [(0, .ref b), (1, .ref sl), (2, .ref mo), (3, .ref ou), (4, .int (zI jj))]) (hc : ∀ (H9 : Heap) (ls9 : Array Slot), lRel s (dC, dI) cI cZ cL cT cJ sl sh ru tr se rh rt ri de fi qu pr ou mo ad H9 → lv_has ls9 7 [(0, .ref b), (1, .ref sl), (2, .ref mo), (3, .ref ou), (4, .int (zI jj))] → W p l e room_1 s m #[Value.ref b] below meth c H9 [] (cells + 11) (slots + 522) Z (F0 m 1319 ls9 [])) : W p l e room_1 s m #[Value.ref b] below meth c Hc [] cells slots Z (F0 m 152 ls []) := by
  obtain ⟨own, sf, rl, rp, oc, hx9, hy9, hl9, rln, rhf, tx, ty, tl, qd, s1, s2, qx, qy, ql, RI, DD, FF, QQ, OU, mn, mp, mon, mrx, mry, mrl, mrs, mrf, mx, my, ml, mst, mla, mW, mH, mC, mSX, mSY, mFX, mFY, mWY, mOP, mRE, mKI, mIN, mSE, mHE, mNE, hS0, hP0, hG0, hM, ⟨hDD, hFF, hSE⟩, hRn, hLv, hNo⟩ := hR
  obtain ⟨gn, go, gp, grs, gf, gW, gH, gC, gC0, gsX, gsY, gfX, gfY, gWY, gOP, gRE, gKI, gIN⟩ := id hM
  obtain ⟨a1, ha1, r1⟩ := zI_ex (xs (jj + 1).toNat)
  obtain ⟨a2, ha2, r2⟩ := zI_ex (xs (jj + 2).toNat)
  by_cases c1 : 2 ≤ a1 ∧ a1 ≤ 12 ∧ 2 ≤ a2 ∧ a2 ≤ 8
  ·
    by_cases c2 : mn < 6
    ·
      obtain ⟨k, hk⟩ : ∃ k : Nat, mn = (k : Int) := ⟨mn.toNat, by omega⟩
      have hPf := hP0
      have hDf := lD0 hG0
      refine k_addLevel2 (k := k) l C1 hS0 hcc hss hj ha1 ha2 hPf hDf hl (by first | assumption | omega) (by first | assumption | omega) (by first | assumption | omega) (by first | assumption | omega) (by first | assumption | omega) (by first | assumption | omega) (by intros; omega) (fun lv_2 ka_3 ta_4 t0_5 t1_6 t2_7 t3_8 j0_9 j1_10 j2_11 j3_12 K1_13 tq_14 OU1_15 la_18 on1_19 C1_20 po_16 po_21 => (by omega)) ?_
      intro lv_2 ka_3 ta_4 t0_5 t1_6 t2_7 t3_8 j0_9 j1_10 j2_11 j3_12 K1_13 tq_14 OU1_15 la_18 on1_19 C1_20 H9 k9 ls9 po_16 po_21 hQ0 hQk hQd hS9 hlz
      obtain ⟨⟨t1, t2, t3, t4, t5, t6⟩, _⟩ := po_16
      obtain ⟨_, d1, d3, d4, d5⟩ := po_21
      have d1 := d1.symm
      subst d1
      have ho : ∀ q, q < Hc.size → (fun q9 => if q9 < Hc.size then own q9 else k + 1) q = own q := fun q hq => if_pos hq
      have hsf : ∀ i, i ≠ k → (va_up sf k (some lv_2)) i = sf i := fun i hi => if_neg hi
      have hGn := lOwn (own2 := (fun q9 => if q9 < Hc.size then own q9 else k + 1)) hP0 hG0 ho
      have hQk : va_P (dC, dI) vwCl (lGL cI cT lv_2 a1 a2 ka_3 ta_4 0 (a2 - 2) (a1 - 1) (a2 - 2) (-1) 0 K1_13 tq_14 (fun q9 => if q9 = 0 then t0_5 else if q9 = 1 then t1_6 else if q9 = 2 then t2_7 else t3_8) (fun q9 => if q9 = 0 then j0_9 else if q9 = 1 then j1_10 else if q9 = 2 then j2_11 else j3_12) (fun _ => -1) (fun _ => -1) (fun _ _ => 0)) H9 := hQk
      have hnew := lNew (W0 := (lW0 cI cZ cL cT cJ sl sh ru tr se rh rt ri de fi qu pr ou mo ad (va_up sf k (some lv_2)) rl rp oc hx9 hy9 hl9 rln rhf tx ty tl qd s1 s2 qx qy ql RI DD FF QQ OU1_15 (mn + 1) mp mon mrx mry mrl mrs mrf mx my ml mst la_18 (zu mW mn a1) (zu mH mn a2) C1_20 (zu mSX mn 0) (zu mSY mn (a2 - 2)) (zu mFX mn (a1 - 1)) (zu mFY mn (a2 - 2)) (zu mWY mn (-1)) (zu mOP mn 0) (zu (zu (zu (zu mRE (4 * mn) (-1)) (4 * mn + 1) (-1)) (4 * mn + 2) (-1)) (4 * mn + 3) (-1)) mKI mIN mSE mHE mNE)) (W1 := (lGL cI cT lv_2 a1 a2 ka_3 ta_4 0 (a2 - 2) (a1 - 1) (a2 - 2) (-1) 0 K1_13 tq_14 (fun q9 => if q9 = 0 then t0_5 else if q9 = 1 then t1_6 else if q9 = 2 then t2_7 else t3_8) (fun q9 => if q9 = 0 then j0_9 else if q9 = 1 then j1_10 else if q9 = 2 then j2_11 else j3_12) (fun _ => -1) (fun _ => -1) (fun _ _ => 0))) hQd rfl
      have hQd : va_D _ ((lW0 cI cZ cL cT cJ sl sh ru tr se rh rt ri de fi qu pr ou mo ad (va_up sf k (some lv_2)) rl rp oc hx9 hy9 hl9 rln rhf tx ty tl qd s1 s2 qx qy ql RI DD FF QQ OU1_15 (mn + 1) mp mon mrx mry mrl mrs mrf mx my ml mst la_18 (zu mW mn a1) (zu mH mn a2) C1_20 (zu mSX mn 0) (zu mSY mn (a2 - 2)) (zu mFX mn (a1 - 1)) (zu mFY mn (a2 - 2)) (zu mWY mn (-1)) (zu mOP mn 0) (zu (zu (zu (zu mRE (4 * mn) (-1)) (4 * mn + 1) (-1)) (4 * mn + 2) (-1)) (4 * mn + 3) (-1)) mKI mIN mSE mHE mNE) ++ (lGL cI cT lv_2 a1 a2 ka_3 ta_4 0 (a2 - 2) (a1 - 1) (a2 - 2) (-1) 0 K1_13 tq_14 (fun q9 => if q9 = 0 then t0_5 else if q9 = 1 then t1_6 else if q9 = 2 then t2_7 else t3_8) (fun q9 => if q9 = 0 then j0_9 else if q9 = 1 then j1_10 else if q9 = 2 then j2_11 else j3_12) (fun _ => -1) (fun _ => -1) (fun _ _ => 0))) := hQd
      have hGk : va_D (fun q => lG s q ∧ (fun q9 => if q9 < Hc.size then own q9 else k + 1) q = k + 1) (lGL cI cT lv_2 a1 a2 ka_3 ta_4 0 (a2 - 2) (a1 - 1) (a2 - 2) (-1) 0 K1_13 tq_14 (fun q9 => if q9 = 0 then t0_5 else if q9 = 1 then t1_6 else if q9 = 2 then t2_7 else t3_8) (fun q9 => if q9 = 0 then j0_9 else if q9 = 1 then j1_10 else if q9 = 2 then j2_11 else j3_12) (fun _ => -1) (fun _ => -1) (fun _ _ => 0)) := lNewD hQd (fun j q hq => ⟨Nat.le_trans hS0.1 (hnew j q hq), if_neg (Nat.not_lt.mpr (hnew j q hq))⟩)
      have hLv1 : ∀ i : Nat, (i : Int) < mn + 1 → lLev (dC, dI) cI cT s H9 (fun q9 => if q9 < Hc.size then own q9 else k + 1) (va_up sf k (some lv_2)) (zu mW mn a1) (zu mH mn a2) C1_20 (zu mSX mn 0) (zu mSY mn (a2 - 2)) (zu mFX mn (a1 - 1)) (zu mFY mn (a2 - 2)) (zu mWY mn (-1)) (zu mOP mn 0) (zu (zu (zu (zu mRE (4 * mn) (-1)) (4 * mn + 1) (-1)) (4 * mn + 2) (-1)) (4 * mn + 3) (-1)) mKI i := by
        intro i hi
        by_cases e9 : i = k
        · subst e9
          refine ⟨lv_2, a1, a2, ka_3, ta_4, 0, a2 - 2, a1 - 1, a2 - 2, -1, 0, K1_13, tq_14, fun q9 => if q9 = 0 then t0_5 else if q9 = 1 then t1_6 else if q9 = 2 then t2_7 else t3_8, fun q9 => if q9 = 0 then j0_9 else if q9 = 1 then j1_10 else if q9 = 2 then j2_11 else j3_12, fun _ => -1, fun _ => -1, fun _ _ => 0, if_pos rfl, hQk, hGk, ?_⟩
          refine lTie_void hk.symm (zu_at hk.symm).symm (zu_at hk.symm).symm (zu_at hk.symm).symm (zu_at hk.symm).symm (zu_at hk.symm).symm (zu_at hk.symm).symm (by omega) (by omega) (by omega) (by omega) (by omega) (by omega) t1 (fun q hq => ?_) (fun x y x0 x1 y0 y1 => ?_)
          · rcases (show q = 0 ∨ q = 1 ∨ q = 2 ∨ q = 3 by omega) with rfl | rfl | rfl | rfl
            · exact t3
            · exact t4
            · exact t5
            · exact t6
          · rw [t2 x y x0 x1 y0 y1]
            show _ = C1_20 (96 * (i : Int) + (y * 12 + x))
            by_cases c : y = a2 - 1
            · rw [if_pos c, show 96 * (i : Int) + (y * 12 + x) = 96 * mn + 12 * (a2 - 1) + x by omega]
              exact (d4 x x0 x1).symm
            · rw [if_neg c, d5 _ (by omega)]
              exact (gC0 _ (by omega)).symm
        · exact lLev_keep (lF0 hG0) hS9 (hLv i (by omega)) (by omega) ho (hsf i e9) (lSame_ed (L := mn) (by omega) (zu_ne _ _ (by omega)) (zu_ne _ _ (by omega)) (zu_ne _ _ (by omega)) (zu_ne _ _ (by omega)) (zu_ne _ _ (by omega)) (zu_ne _ _ (by omega)) (fun j j0 j1 => d5 _ (by omega)))
      exact hc H9 ls9 ⟨(fun q9 => if q9 < Hc.size then own q9 else k + 1), va_up sf k (some lv_2), rl, rp, oc, hx9, hy9, hl9, rln, rhf, tx, ty, tl, qd, s1, s2, qx, qy, ql, RI, DD, FF, QQ, OU1_15, mn + 1, mp, mon, mrx, mry, mrl, mrs, mrf, mx, my, ml, mst, la_18, zu mW mn a1, zu mH mn a2, C1_20, zu mSX mn 0, zu mSY mn (a2 - 2), zu mFX mn (a1 - 1), zu mFY mn (a2 - 2), zu mWY mn (-1), zu mOP mn 0, zu (zu (zu (zu mRE (4 * mn) (-1)) (4 * mn + 1) (-1)) (4 * mn + 2) (-1)) (4 * mn + 3) (-1), mKI, mIN, mSE, mHE, mNE, lS_tr hS0 hS9 (lG_of hDf hS0), hQ0, zD_re hGn rfl, ⟨⟨by omega, by omega⟩, ⟨go.1, by omega⟩, gp, grs, gf, (fun i i0 i1 => by
                by_cases c : i = mn
                · rw [zu_at c]; omega
                · rw [zu_ne _ _ c]; exact gW i i0 (by omega)), (fun i i0 i1 => by
                by_cases c : i = mn
                · rw [zu_at c]; omega
                · rw [zu_ne _ _ c]; exact gH i i0 (by omega)), d3, (fun j hj => (d5 j (by omega)).trans (gC0 j (by omega))), Z32_zu gsX (by omega), Z32_zu gsY (by omega), Z32_zu gfX (by omega), Z32_zu gfY (by omega), Din_zu gWY (by omega), B01_zu gOP (by omega), Din_RE4 gRE, gKI, gIN⟩, ⟨hDD, hFF, hSE⟩, lRun_same (mWY := mWY) (mOP := mOP) (mRE := mRE) (mKI := mKI) (fun h => ⟨(gW mon h go.2).2, (gH mon h go.2).2⟩) (fun h => lSame_ed (L := mn) (by omega) (zu_ne _ _ (by omega)) (zu_ne _ _ (by omega)) (zu_ne _ _ (by omega)) (zu_ne _ _ (by omega)) (zu_ne _ _ (by omega)) (zu_ne _ _ (by omega)) (fun j j0 j1 => d5 _ (by omega))) (fun h => hsf mon.toNat (by omega)) hRn, hLv1, (fun i hi => (hsf i (by omega)).trans (hNo i (by omega)))⟩ hlz
    ·
      have hPf := hP0
      have hDf := lD0 hG0
      refine k_addLevel_xb l C1 hS0 hcc hss hj ha1 ha2 hPf hDf hl (by first | assumption | omega) (by first | assumption | omega) (by first | assumption | omega) (by first | assumption | omega) (by first | assumption | omega) (by first | assumption | omega) (by first | assumption | omega) (by intros; omega) ?_
      intro la_4 H9 k9 ls9 po_5 hQ0 hS9 hlz
      have hLv1 : ∀ i : Nat, (i : Int) < mn → lLev (dC, dI) cI cT s H9 own sf mW mH mC mSX mSY mFX mFY mWY mOP mRE mKI i := fun i hi => lLev_keep (lF0 hG0) hS9 (hLv i hi) (by omega) (fun _ _ => rfl) rfl lSame_rf
      exact hc H9 ls9 ⟨own, sf, rl, rp, oc, hx9, hy9, hl9, rln, rhf, tx, ty, tl, qd, s1, s2, qx, qy, ql, RI, DD, FF, QQ, OU, mn, mp, mon, mrx, mry, mrl, mrs, mrf, mx, my, ml, mst, la_4, mW, mH, mC, mSX, mSY, mFX, mFY, mWY, mOP, mRE, mKI, mIN, mSE, mHE, mNE, lS_tr hS0 hS9 (lG_of hDf hS0), hQ0, zD_re hG0 rfl, hM, ⟨hDD, hFF, hSE⟩, hRn, hLv1, hNo⟩ hlz
  ·
    have hPf := hP0
    have hDf := lD0 hG0
    refine k_addLevel_xa l C1 hS0 hcc hss hj ha1 ha2 hPf hDf hl (by first | assumption | omega) (by first | assumption | omega) (by first | assumption | omega) (by first | assumption | omega) (by first | assumption | omega) (by intros; omega) ?_
    intro la_4 H9 k9 ls9 po_5 hQ0 hS9 hlz
    have hLv1 : ∀ i : Nat, (i : Int) < mn → lLev (dC, dI) cI cT s H9 own sf mW mH mC mSX mSY mFX mFY mWY mOP mRE mKI i := fun i hi => lLev_keep (lF0 hG0) hS9 (hLv i hi) (by omega) (fun _ _ => rfl) rfl lSame_rf
    exact hc H9 ls9 ⟨own, sf, rl, rp, oc, hx9, hy9, hl9, rln, rhf, tx, ty, tl, qd, s1, s2, qx, qy, ql, RI, DD, FF, QQ, OU, mn, mp, mon, mrx, mry, mrl, mrs, mrf, mx, my, ml, mst, la_4, mW, mH, mC, mSX, mSY, mFX, mFY, mWY, mOP, mRE, mKI, mIN, mSE, mHE, mNE, lS_tr hS0 hS9 (lG_of hDf hS0), hQ0, zD_re hG0 rfl, hM, ⟨hDD, hFF, hSE⟩, hRn, hLv1, hNo⟩ hlz
