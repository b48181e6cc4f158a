set_option maxHeartbeats 4000000 in
set_option maxRecDepth 100000 in
theorem s_ghost (l : Launch) {p : Program} {e : Env} {s : State} {m : MethodId} {below : List Frame} {meth : Method} {c : Code} {Z : State → Prop} {b nL : Nat} {xs : Nat → Int32} {dC : Nat → ClassId} {dI : Nat → Nat → Nat} {cI cZ cL cT cJ : ClassId} (C1 : lC l p s m meth c b nL xs dC dI cI cZ cL cT cJ) {Hc : Heap} {cells slots : Nat} (hcc : cells + 11 ≤ room_1.cells) (hss : slots + 522 ≤ room_1.slots) {ls : Array Slot} {jj : Int} (hj : 0 ≤ jj ∧ jj + 5 ≤ (nL : Int)) {sl sh ru tr se rh rt ri de fi qu pr ou mo : Nat} {ad : Nat → Nat} (hR : lRel s (dC, dI) cI cZ cL cT cJ sl sh ru tr se rh rt ri de fi qu pr ou mo ad Hc) (hl : lv_has ls 7 [(0, .ref b), (1, .ref sl), (2, .ref mo), (3, .ref ou), (4, .int (zI jj))]) (hc : ∀ (H9 : Heap) (ls9 : Array Slot), lRel s (dC, dI) cI cZ cL cT cJ sl sh ru tr se rh rt ri de fi qu pr ou mo ad H9 → lv_has ls9 7 [(0, .ref b), (1, .ref sl), (2, .ref mo), (3, .ref ou), (4, .int (zI jj))] → W p l e room_1 s m #[Value.ref b] below meth c H9 [] (cells + 11) (slots + 522) Z (F0 m 1319 ls9 [])) : W p l e room_1 s m #[Value.ref b] below meth c Hc [] cells slots Z (F0 m 1238 ls []) := by
  obtain ⟨own, sf, rl, rp, oc, hx9, hy9, hl9, rln, rhf, tx, ty, tl, qd, s1, s2, qx, qy, ql, RI, DD, FF, QQ, OU, mn, mp, mon, mrx, mry, mrl, mrs, mrf, mx, my, ml, mst, mla, mW, mH, mC, mSX, mSY, mFX, mFY, mWY, mOP, mRE, mKI, mIN, mSE, mHE, mNE, hS0, hP0, hG0, hM, ⟨hDD, hFF, hSE⟩, hRn, hLv, hNo⟩ := hR
  obtain ⟨gn, go, gp, grs, gf, gW, gH, gC, gC0, gsX, gsY, gfX, gfY, gWY, gOP, gRE, gKI, gIN⟩ := id hM
  rcases id hRn with ⟨m1, rfl⟩ | ⟨m1, m2, ⟨rfl, rfl, rfl, rfl, rfl, rfl⟩, m4, m5⟩
  ·
    have hPf := hP0
    have hDf := lD0 hG0
    refine k_ghost_a (rl := none) l C1 hS0 hcc hss hj  hPf hDf hl (by first | assumption | omega) (by omega) ?_
    intro  H9 k9 ls9  hQ0 hS9 hlz
    have hLv1 : ∀ i : Nat, (i : Int) < mn → lLev (dC, dI) cI cT s H9 own sf mW mH mC mSX mSY mFX mFY mWY mOP mRE mKI i := fun i hi => lLev_keep (lF0 hG0) hS9 (hLv i hi) (by omega) (fun _ _ => rfl) rfl lSame_rf
    exact hc H9 ls9 ⟨own, sf, none, rp, oc, hx9, hy9, hl9, rln, rhf, tx, ty, tl, qd, s1, s2, qx, qy, ql, RI, DD, FF, QQ, OU, mn, mp, mon, mrx, mry, mrl, mrs, mrf, mx, my, ml, mst, 0, mW, mH, mC, mSX, mSY, mFX, mFY, mWY, mOP, mRE, mKI, mIN, mSE, mHE, mNE, lS_tr hS0 hS9 (lG_of hDf hS0), hQ0, zD_re hG0 rfl, hM, ⟨hDD, hFF, hSE⟩, hRn, hLv1, hNo⟩ hlz
  ·
    obtain ⟨k, hk⟩ : ∃ k : Nat, mon = (k : Int) := ⟨mon.toNat, by omega⟩
    obtain ⟨lv, w, h, ka, ta, sx, sy, fx, fy, lf, un, K, tq, tp, ti, LN, HF, FI, hf, hPk, hGk, hT⟩ := hLv k (by omega)
    have hT1 := hT
    rw [← hk] at hT1
    have hTa := hT1
    obtain ⟨⟨rfl, rfl, rfl, rfl, rfl, rfl, rfl, rfl⟩, b1, b2, b3, b4, b5, b6, b7, b8, b9, b10, b11, b12⟩ := hT1
    have hPf := hP0.app hPk
    have hDf := lDk hG0 hGk
    obtain rfl : rl = some lv := m2.trans (by rw [show mon.toNat = k by omega]; exact hf)
    have gb := lTie_bp gRE hTa
    have gr := mb4_rng (R := mRE) (L := mon)
    by_cases c1 : mb4 mRE mon = -1
    ·
      refine k_ghost_b (k := k) (rl := none) l C1 hS0 hcc hss hj  hPf hDf hl (by first | assumption | omega) (by exact fun q9 hq => by have := lTap_rng (b11 q9 hq); omega) (by first | assumption | omega) (by first | assumption | omega) (by first | assumption | omega) (by first | assumption | omega) (by first | assumption | omega) (by first | assumption | omega) (by first | assumption | omega) (by first | assumption | omega) (by first | assumption | omega) (by first | assumption | omega) (by first | assumption | omega) (by first | assumption | omega) (by first | assumption | omega) (by exact lTie_gO hTa) (fun rr_4 x1_5 y1_6 l1_7 o1_8 po_9 => (by rcases po_9 with ⟨z1, z2⟩ | ⟨z1, z2⟩ <;> omega)) ?_
      intro rr_4 x1_5 y1_6 l1_7 o1_8 H9 k9 ls9 po_9 hQ0 hQk hS9 hlz
      have hLv1 : ∀ i : Nat, (i : Int) < mn → lLev (dC, dI) cI cT s H9 own sf mW mH mC mSX mSY mFX mFY mWY mOP mRE mKI i := by
        intro i hi
        by_cases e9 : i = k
        · subst e9
          refine ⟨lv, (mW mon), (mH mon), ka, ta, (mSX mon), (mSY mon), (mFX mon), (mFY mon), (mWY mon), (mOP mon), K, tq, tp, ti, LN, HF, FI, hf, hQk, zD_re hGk rfl, ?_⟩
          exact hT
        · exact lLev_keep (lFk hG0 hGk) hS9 (hLv i hi) (by omega) (fun _ _ => rfl) rfl lSame_rf
      exact hc H9 ls9 ⟨own, sf, some lv, mp, mrs, mrx, mry, mrl, mrf, rhf, tx, ty, tl, qd, s1, s2, qx, qy, ql, RI, DD, FF, QQ, OU, mn, mp, mon, mrx, mry, mrl, mrs, mrf, x1_5, y1_6, l1_7, o1_8, 0, mW, mH, mC, mSX, mSY, mFX, mFY, mWY, mOP, mRE, mKI, mIN, mSE, mHE, mNE, lS_tr hS0 hS9 (lG_of hDf hS0), hQ0, zD_re hG0 rfl, hM, ⟨hDD, hFF, hSE⟩, hRn, hLv1, hNo⟩ hlz
    ·
      obtain e2 | e2 | e2 | e2 : mb4 mRE mon = 0 ∨ mb4 mRE mon = 1 ∨ mb4 mRE mon = 2 ∨ mb4 mRE mon = 3 := by omega
      ·
        have gl := lTie_ln hTa 0 (by decide) e2
        have gl2 := gb.2 c1
        rcases b11 0 (by decide) with ⟨z1, z2⟩ | ⟨z1, z2, z3, z4, z5⟩
        · exact absurd (gl.symm.trans z1) gl2
        ·
          refine k_ghost_0 (k := k) (rl := none) l C1 hS0 hcc hss hj  hPf hDf hl (by first | assumption | omega) (by first | assumption | omega) (by first | assumption | omega) (by first | assumption | omega) (by first | assumption | omega) (by first | assumption | omega) (by first | assumption | omega) (by first | assumption | omega) (by exact fun q9 hq => by have := lTap_rng (b11 q9 hq); omega) (by first | assumption | omega) (by first | assumption | omega) (by first | assumption | omega) (by first | assumption | omega) (by first | assumption | omega) (by first | assumption | omega) (by first | assumption | omega) (by first | assumption | omega) (by first | assumption | omega) (by first | assumption | omega) (by first | assumption | omega) (by first | assumption | omega) (by first | assumption | omega) (by first | assumption | omega) (by first | assumption | omega) (by first | assumption | omega) (by first | assumption | omega) (by first | assumption | omega) (by exact lTie_gO hTa) (fun x1_2 y1_3 l1_4 rr_5 rr_8 x1_9 y1_10 l1_11 o1_12 po_6 po_13 => (by
                          rcases po_13 with ⟨z7, z8⟩ | ⟨z7, z8⟩
                          · exact absurd z7 c1
                          · rw [po_6, z8, lTie_gh hTa 0 (by decide) e2 (show mrf = mrf from rfl)])) ?_
          intro x1_2 y1_3 l1_4 rr_5 rr_8 x1_9 y1_10 l1_11 o1_12 H9 k9 ls9 po_6 po_13 hQ0 hQk hS9 hlz
          have hLv1 : ∀ i : Nat, (i : Int) < mn → lLev (dC, dI) cI cT s H9 own sf mW mH mC mSX mSY mFX mFY mWY mOP mRE mKI i := by
            intro i hi
            by_cases e9 : i = k
            · subst e9
              refine ⟨lv, (mW mon), (mH mon), ka, ta, (mSX mon), (mSY mon), (mFX mon), (mFY mon), (mWY mon), (mOP mon), K, tq, tp, ti, LN, HF, FI, hf, hQk, zD_re hGk rfl, ?_⟩
              exact hT
            · exact lLev_keep (lFk hG0 hGk) hS9 (hLv i hi) (by omega) (fun _ _ => rfl) rfl lSame_rf
          exact hc H9 ls9 ⟨own, sf, some lv, mp, mrs, mrx, mry, mrl, mrf, rhf, x1_2, y1_3, l1_4, qd, s1, s2, qx, qy, ql, RI, DD, FF, QQ, OU, mn, mp, mon, mrx, mry, mrl, mrs, mrf, x1_9, y1_10, l1_11, o1_12, 0, mW, mH, mC, mSX, mSY, mFX, mFY, mWY, mOP, mRE, mKI, mIN, mSE, mHE, mNE, lS_tr hS0 hS9 (lG_of hDf hS0), hQ0, zD_re hG0 rfl, hM, ⟨hDD, hFF, hSE⟩, hRn, hLv1, hNo⟩ hlz
      ·
        have gl := lTie_ln hTa 1 (by decide) e2
        have gl2 := gb.2 c1
        rcases b11 1 (by decide) with ⟨z1, z2⟩ | ⟨z1, z2, z3, z4, z5⟩
        · exact absurd (gl.symm.trans z1) gl2
        ·
          refine k_ghost_1 (k := k) (rl := none) l C1 hS0 hcc hss hj  hPf hDf hl (by first | assumption | omega) (by first | assumption | omega) (by first | assumption | omega) (by first | assumption | omega) (by first | assumption | omega) (by first | assumption | omega) (by first | assumption | omega) (by first | assumption | omega) (by exact fun q9 hq => by have := lTap_rng (b11 q9 hq); omega) (by first | assumption | omega) (by first | assumption | omega) (by first | assumption | omega) (by first | assumption | omega) (by first | assumption | omega) (by first | assumption | omega) (by first | assumption | omega) (by first | assumption | omega) (by first | assumption | omega) (by first | assumption | omega) (by first | assumption | omega) (by first | assumption | omega) (by first | assumption | omega) (by first | assumption | omega) (by first | assumption | omega) (by first | assumption | omega) (by first | assumption | omega) (by first | assumption | omega) (by exact lTie_gO hTa) (fun x1_2 y1_3 l1_4 rr_5 rr_8 x1_9 y1_10 l1_11 o1_12 po_6 po_13 => (by
                          rcases po_13 with ⟨z7, z8⟩ | ⟨z7, z8⟩
                          · exact absurd z7 c1
                          · rw [po_6, z8, lTie_gh hTa 1 (by decide) e2 (show mrf = mrf from rfl)])) ?_
          intro x1_2 y1_3 l1_4 rr_5 rr_8 x1_9 y1_10 l1_11 o1_12 H9 k9 ls9 po_6 po_13 hQ0 hQk hS9 hlz
          have hLv1 : ∀ i : Nat, (i : Int) < mn → lLev (dC, dI) cI cT s H9 own sf mW mH mC mSX mSY mFX mFY mWY mOP mRE mKI i := by
            intro i hi
            by_cases e9 : i = k
            · subst e9
              refine ⟨lv, (mW mon), (mH mon), ka, ta, (mSX mon), (mSY mon), (mFX mon), (mFY mon), (mWY mon), (mOP mon), K, tq, tp, ti, LN, HF, FI, hf, hQk, zD_re hGk rfl, ?_⟩
              exact hT
            · exact lLev_keep (lFk hG0 hGk) hS9 (hLv i hi) (by omega) (fun _ _ => rfl) rfl lSame_rf
          exact hc H9 ls9 ⟨own, sf, some lv, mp, mrs, mrx, mry, mrl, mrf, rhf, x1_2, y1_3, l1_4, qd, s1, s2, qx, qy, ql, RI, DD, FF, QQ, OU, mn, mp, mon, mrx, mry, mrl, mrs, mrf, x1_9, y1_10, l1_11, o1_12, 0, mW, mH, mC, mSX, mSY, mFX, mFY, mWY, mOP, mRE, mKI, mIN, mSE, mHE, mNE, lS_tr hS0 hS9 (lG_of hDf hS0), hQ0, zD_re hG0 rfl, hM, ⟨hDD, hFF, hSE⟩, hRn, hLv1, hNo⟩ hlz
      ·
        have gl := lTie_ln hTa 2 (by decide) e2
        have gl2 := gb.2 c1
        rcases b11 2 (by decide) with ⟨z1, z2⟩ | ⟨z1, z2, z3, z4, z5⟩
        · exact absurd (gl.symm.trans z1) gl2
        ·
          refine k_ghost_2 (k := k) (rl := none) l C1 hS0 hcc hss hj  hPf hDf hl (by first | assumption | omega) (by first | assumption | omega) (by first | assumption | omega) (by first | assumption | omega) (by first | assumption | omega) (by first | assumption | omega) (by first | assumption | omega) (by first | assumption | omega) (by exact fun q9 hq => by have := lTap_rng (b11 q9 hq); omega) (by first | assumption | omega) (by first | assumption | omega) (by first | assumption | omega) (by first | assumption | omega) (by first | assumption | omega) (by first | assumption | omega) (by first | assumption | omega) (by first | assumption | omega) (by first | assumption | omega) (by first | assumption | omega) (by first | assumption | omega) (by first | assumption | omega) (by first | assumption | omega) (by first | assumption | omega) (by first | assumption | omega) (by first | assumption | omega) (by first | assumption | omega) (by first | assumption | omega) (by exact lTie_gO hTa) (fun x1_2 y1_3 l1_4 rr_5 rr_8 x1_9 y1_10 l1_11 o1_12 po_6 po_13 => (by
                          rcases po_13 with ⟨z7, z8⟩ | ⟨z7, z8⟩
                          · exact absurd z7 c1
                          · rw [po_6, z8, lTie_gh hTa 2 (by decide) e2 (show mrf = mrf from rfl)])) ?_
          intro x1_2 y1_3 l1_4 rr_5 rr_8 x1_9 y1_10 l1_11 o1_12 H9 k9 ls9 po_6 po_13 hQ0 hQk hS9 hlz
          have hLv1 : ∀ i : Nat, (i : Int) < mn → lLev (dC, dI) cI cT s H9 own sf mW mH mC mSX mSY mFX mFY mWY mOP mRE mKI i := by
            intro i hi
            by_cases e9 : i = k
            · subst e9
              refine ⟨lv, (mW mon), (mH mon), ka, ta, (mSX mon), (mSY mon), (mFX mon), (mFY mon), (mWY mon), (mOP mon), K, tq, tp, ti, LN, HF, FI, hf, hQk, zD_re hGk rfl, ?_⟩
              exact hT
            · exact lLev_keep (lFk hG0 hGk) hS9 (hLv i hi) (by omega) (fun _ _ => rfl) rfl lSame_rf
          exact hc H9 ls9 ⟨own, sf, some lv, mp, mrs, mrx, mry, mrl, mrf, rhf, x1_2, y1_3, l1_4, qd, s1, s2, qx, qy, ql, RI, DD, FF, QQ, OU, mn, mp, mon, mrx, mry, mrl, mrs, mrf, x1_9, y1_10, l1_11, o1_12, 0, mW, mH, mC, mSX, mSY, mFX, mFY, mWY, mOP, mRE, mKI, mIN, mSE, mHE, mNE, lS_tr hS0 hS9 (lG_of hDf hS0), hQ0, zD_re hG0 rfl, hM, ⟨hDD, hFF, hSE⟩, hRn, hLv1, hNo⟩ hlz
      ·
        have gl := lTie_ln hTa 3 (by decide) e2
        have gl2 := gb.2 c1
        rcases b11 3 (by decide) with ⟨z1, z2⟩ | ⟨z1, z2, z3, z4, z5⟩
        · exact absurd (gl.symm.trans z1) gl2
        ·
          refine k_ghost_3 (k := k) (rl := none) l C1 hS0 hcc hss hj  hPf hDf hl (by first | assumption | omega) (by first | assumption | omega) (by first | assumption | omega) (by first | assumption | omega) (by first | assumption | omega) (by first | assumption | omega) (by first | assumption | omega) (by first | assumption | omega) (by exact fun q9 hq => by have := lTap_rng (b11 q9 hq); omega) (by first | assumption | omega) (by first | assumption | omega) (by first | assumption | omega) (by first | assumption | omega) (by first | assumption | omega) (by first | assumption | omega) (by first | assumption | omega) (by first | assumption | omega) (by first | assumption | omega) (by first | assumption | omega) (by first | assumption | omega) (by first | assumption | omega) (by first | assumption | omega) (by first | assumption | omega) (by first | assumption | omega) (by first | assumption | omega) (by first | assumption | omega) (by first | assumption | omega) (by exact lTie_gO hTa) (fun x1_2 y1_3 l1_4 rr_5 rr_8 x1_9 y1_10 l1_11 o1_12 po_6 po_13 => (by
                          rcases po_13 with ⟨z7, z8⟩ | ⟨z7, z8⟩
                          · exact absurd z7 c1
                          · rw [po_6, z8, lTie_gh hTa 3 (by decide) e2 (show mrf = mrf from rfl)])) ?_
          intro x1_2 y1_3 l1_4 rr_5 rr_8 x1_9 y1_10 l1_11 o1_12 H9 k9 ls9 po_6 po_13 hQ0 hQk hS9 hlz
          have hLv1 : ∀ i : Nat, (i : Int) < mn → lLev (dC, dI) cI cT s H9 own sf mW mH mC mSX mSY mFX mFY mWY mOP mRE mKI i := by
            intro i hi
            by_cases e9 : i = k
            · subst e9
              refine ⟨lv, (mW mon), (mH mon), ka, ta, (mSX mon), (mSY mon), (mFX mon), (mFY mon), (mWY mon), (mOP mon), K, tq, tp, ti, LN, HF, FI, hf, hQk, zD_re hGk rfl, ?_⟩
              exact hT
            · exact lLev_keep (lFk hG0 hGk) hS9 (hLv i hi) (by omega) (fun _ _ => rfl) rfl lSame_rf
          exact hc H9 ls9 ⟨own, sf, some lv, mp, mrs, mrx, mry, mrl, mrf, rhf, x1_2, y1_3, l1_4, qd, s1, s2, qx, qy, ql, RI, DD, FF, QQ, OU, mn, mp, mon, mrx, mry, mrl, mrs, mrf, x1_9, y1_10, l1_11, o1_12, 0, mW, mH, mC, mSX, mSY, mFX, mFY, mWY, mOP, mRE, mKI, mIN, mSE, mHE, mNE, lS_tr hS0 hS9 (lG_of hDf hS0), hQ0, zD_re hG0 rfl, hM, ⟨hDD, hFF, hSE⟩, hRn, hLv1, hNo⟩ hlz
set_option maxHeartbeats 4000000 in
set_option maxRecDepth 100000 in
theorem s_open (l : Launch) {p : Program} {e : Env} {s : State} {m : MethodId} {below : List Frame} {meth : Method} {c : Code} {Z : State → Prop} {b nL : Nat} {xs : Nat → Int32} {dC : Nat → ClassId} {dI : Nat → Nat → Nat} {cI cZ cL cT cJ : ClassId} (C1 : lC l p s m meth c b nL xs dC dI cI cZ cL cT cJ) {Hc : Heap} {cells slots : Nat} (hcc : cells + 11 ≤ room_1.cells) (hss : slots + 522 ≤ room_1.slots) {ls : Array Slot} {jj : Int} (hj : 0 ≤ jj ∧ jj + 5 ≤ (nL : Int)) {sl sh ru tr se rh rt ri de fi qu pr ou mo : Nat} {ad : Nat → Nat} (hR : lRel s (dC, dI) cI cZ cL cT cJ sl sh ru tr se rh rt ri de fi qu pr ou mo ad Hc) (hl : lv_has ls 7 [(0, .ref b), (1, .ref sl), (2, .ref mo), (3, .ref ou), (4, .int (zI jj))]) (hc : ∀ (H9 : Heap) (ls9 : Array Slot), lRel s (dC, dI) cI cZ cL cT cJ sl sh ru tr se rh rt ri de fi qu pr ou mo ad H9 → lv_has ls9 7 [(0, .ref b), (1, .ref sl), (2, .ref mo), (3, .ref ou), (4, .int (zI jj))] → W p l e room_1 s m #[Value.ref b] below meth c H9 [] (cells + 11) (slots + 522) Z (F0 m 1319 ls9 [])) : W p l e room_1 s m #[Value.ref b] below meth c Hc [] cells slots Z (F0 m 705 ls []) := by
  obtain ⟨own, sf, rl, rp, oc, hx9, hy9, hl9, rln, rhf, tx, ty, tl, qd, s1, s2, qx, qy, ql, RI, DD, FF, QQ, OU, mn, mp, mon, mrx, mry, mrl, mrs, mrf, mx, my, ml, mst, mla, mW, mH, mC, mSX, mSY, mFX, mFY, mWY, mOP, mRE, mKI, mIN, mSE, mHE, mNE, hS0, hP0, hG0, hM, ⟨hDD, hFF, hSE⟩, hRn, hLv, hNo⟩ := hR
  obtain ⟨gn, go, gp, grs, gf, gW, gH, gC, gC0, gsX, gsY, gfX, gfY, gWY, gOP, gRE, gKI, gIN⟩ := id hM
  obtain ⟨a1, ha1, r1⟩ := zI_ex (xs (jj + 1).toNat)
  by_cases c1 : 0 ≤ a1 ∧ a1 < mn
  ·
    obtain ⟨k, hk⟩ : ∃ k : Nat, a1 = (k : Int) := ⟨a1.toNat, by omega⟩
    obtain ⟨lv, w, h, ka, ta, sx, sy, fx, fy, lf, un, K, tq, tp, ti, LN, HF, FI, hf, hPk, hGk, hT⟩ := hLv k (by omega)
    have hT1 := hT
    rw [← hk] at hT1
    have hTa := hT1
    obtain ⟨⟨rfl, rfl, rfl, rfl, rfl, rfl, rfl, rfl⟩, b1, b2, b3, b4, b5, b6, b7, b8, b9, b10, b11, b12⟩ := hT1
    have hPf := hP0.app hPk
    have hDf := lDk hG0 hGk
    have e8 := gWY a1
    have e7 := gOP a1
    by_cases c2 : mWY a1 = -1
    ·
      refine k_open_xb (k := k) l C1 hS0 hcc hss hj ha1 hPf hDf hl (by first | assumption | omega) (by first | assumption | omega) (by first | assumption | omega) (by first | assumption | omega) (by first | assumption | omega) (by first | assumption | omega) (by first | assumption | omega) (by intros; omega) ?_
      intro la_4 H9 k9 ls9 po_5 hQ0 hQk hS9 hlz
      have hLv1 : ∀ i : Nat, (i : Int) < mn → lLev (dC, dI) cI cT s H9 own sf mW mH mC mSX mSY mFX mFY mWY mOP mRE mKI i := by
        intro i hi
        by_cases e9 : i = k
        · subst e9
          refine ⟨lv, (mW a1), (mH a1), ka, ta, (mSX a1), (mSY a1), (mFX a1), (mFY a1), (mWY a1), (mOP a1), K, tq, tp, ti, LN, HF, FI, hf, hQk, zD_re hGk rfl, ?_⟩
          exact hT
        · exact lLev_keep (lFk hG0 hGk) hS9 (hLv i hi) (by omega) (fun _ _ => rfl) rfl lSame_rf
      exact hc H9 ls9 ⟨own, sf, rl, rp, oc, hx9, hy9, hl9, rln, rhf, tx, ty, tl, qd, s1, s2, qx, qy, ql, RI, DD, FF, QQ, OU, mn, mp, mon, mrx, mry, mrl, mrs, mrf, mx, my, ml, mst, la_4, mW, mH, mC, mSX, mSY, mFX, mFY, mWY, mOP, mRE, mKI, mIN, mSE, mHE, mNE, lS_tr hS0 hS9 (lG_of hDf hS0), hQ0, zD_re hG0 rfl, hM, ⟨hDD, hFF, hSE⟩, hRn, hLv1, hNo⟩ hlz
    ·
      refine k_open (k := k) l C1 hS0 hcc hss hj ha1 hPf hDf hl (by first | assumption | omega) (by first | assumption | omega) (by first | assumption | omega) (by first | assumption | omega) (by first | assumption | omega) (by first | assumption | omega) (by first | assumption | omega) (by first | assumption | omega) (by first | assumption | omega) (by first | assumption | omega) (by intros; omega) (fun OU1_2 la_5 rr_6 po_3 po_7 => (by omega)) ?_
      intro OU1_2 la_5 rr_6 H9 k9 ls9 po_3 po_7 hQ0 hQk hS9 hlz
      have hLv1 : ∀ i : Nat, (i : Int) < mn → lLev (dC, dI) cI cT s H9 own sf mW mH mC mSX mSY mFX mFY mWY (zu mOP a1 1) mRE mKI i := by
        intro i hi
        by_cases e9 : i = k
        · subst e9
          refine ⟨lv, (mW a1), (mH a1), ka, ta, (mSX a1), (mSY a1), (mFX a1), (mFY a1), (mWY a1), 1, K, tq, tp, ti, LN, HF, FI, hf, hQk, zD_re hGk rfl, ?_⟩
          exact lTie_wo hT (by rw [← hk]) (zu_at hk.symm).symm
        · exact lLev_keep (lFk hG0 hGk) hS9 (hLv i hi) (by omega) (fun _ _ => rfl) rfl (lSame_wo rfl (zu_ne _ _ (by omega)))
      exact hc H9 ls9 ⟨own, sf, rl, rp, oc, hx9, hy9, hl9, rln, rhf, tx, ty, tl, qd, s1, s2, qx, qy, ql, RI, DD, FF, QQ, OU1_2, mn, mp, mon, mrx, mry, mrl, mrs, mrf, mx, my, ml, mst, la_5, mW, mH, mC, mSX, mSY, mFX, mFY, mWY, zu mOP a1 1, mRE, mKI, mIN, mSE, mHE, mNE, lS_tr hS0 hS9 (lG_of hDf hS0), hQ0, zD_re hG0 rfl, ⟨gn, go, gp, grs, gf, gW, gH, gC, gC0, gsX, gsY, gfX, gfY, gWY, B01_zu gOP (by omega), gRE, gKI, gIN⟩, ⟨hDD, hFF, hSE⟩, hRn, hLv1, hNo⟩ hlz
  ·
    have hPf := hP0
    have hDf := lD0 hG0
    refine k_open_xa l C1 hS0 hcc hss hj ha1 hPf hDf hl (by first | assumption | omega) (by exact lNo hNo c1) (by first | assumption | omega) (by first | assumption | omega) (by first | assumption | omega) (by intros; omega) ?_
    intro la_4 H9 k9 ls9 po_5 hQ0 hS9 hlz
    have hLv1 : ∀ i : Nat, (i : Int) < mn → lLev (dC, dI) cI cT s H9 own sf mW mH mC mSX mSY mFX mFY mWY mOP mRE mKI i := fun i hi => lLev_keep (lF0 hG0) hS9 (hLv i hi) (by omega) (fun _ _ => rfl) rfl lSame_rf
    exact hc H9 ls9 ⟨own, sf, rl, rp, oc, hx9, hy9, hl9, rln, rhf, tx, ty, tl, qd, s1, s2, qx, qy, ql, RI, DD, FF, QQ, OU, mn, mp, mon, mrx, mry, mrl, mrs, mrf, mx, my, ml, mst, la_4, mW, mH, mC, mSX, mSY, mFX, mFY, mWY, mOP, mRE, mKI, mIN, mSE, mHE, mNE, lS_tr hS0 hS9 (lG_of hDf hS0), hQ0, zD_re hG0 rfl, hM, ⟨hDD, hFF, hSE⟩, hRn, hLv1, hNo⟩ hlz
set_option maxHeartbeats 4000000 in
set_option maxRecDepth 100000 in
theorem s_solve (l : Launch) {p : Program} {e : Env} {s : State} {m : MethodId} {below : List Frame} {meth : Method} {c : Code} {Z : State → Prop} {b nL : Nat} {xs : Nat → Int32} {dC : Nat → ClassId} {dI : Nat → Nat → Nat} {cI cZ cL cT cJ : ClassId} (C1 : lC l p s m meth c b nL xs dC dI cI cZ cL cT cJ) {Hc : Heap} {cells slots : Nat} (hcc : cells + 11 ≤ room_1.cells) (hss : slots + 522 ≤ room_1.slots) {ls : Array Slot} {jj : Int} (hj : 0 ≤ jj ∧ jj + 5 ≤ (nL : Int)) {sl sh ru tr se rh rt ri de fi qu pr ou mo : Nat} {ad : Nat → Nat} (hR : lRel s (dC, dI) cI cZ cL cT cJ sl sh ru tr se rh rt ri de fi qu pr ou mo ad Hc) (hl : lv_has ls 7 [(0, .ref b), (1, .ref sl), (2, .ref mo), (3, .ref ou), (4, .int (zI jj))]) (hc : ∀ (H9 : Heap) (ls9 : Array Slot), lRel s (dC, dI) cI cZ cL cT cJ sl sh ru tr se rh rt ri de fi qu pr ou mo ad H9 → lv_has ls9 7 [(0, .ref b), (1, .ref sl), (2, .ref mo), (3, .ref ou), (4, .int (zI jj))] → W p l e room_1 s m #[Value.ref b] below meth c H9 [] (cells + 11) (slots + 522) Z (F0 m 1319 ls9 [])) : W p l e room_1 s m #[Value.ref b] below meth c Hc [] cells slots Z (F0 m 593 ls []) := by
  obtain ⟨own, sf, rl, rp, oc, hx9, hy9, hl9, rln, rhf, tx, ty, tl, qd, s1, s2, qx, qy, ql, RI, DD, FF, QQ, OU, mn, mp, mon, mrx, mry, mrl, mrs, mrf, mx, my, ml, mst, mla, mW, mH, mC, mSX, mSY, mFX, mFY, mWY, mOP, mRE, mKI, mIN, mSE, mHE, mNE, hS0, hP0, hG0, hM, ⟨hDD, hFF, hSE⟩, hRn, hLv, hNo⟩ := hR
  obtain ⟨gn, go, gp, grs, gf, gW, gH, gC, gC0, gsX, gsY, gfX, gfY, gWY, gOP, gRE, gKI, gIN⟩ := id hM
  obtain ⟨a1, ha1, r1⟩ := zI_ex (xs (jj + 1).toNat)
  by_cases c1 : 0 ≤ a1 ∧ a1 < mn
  ·
    obtain ⟨k, hk⟩ : ∃ k : Nat, a1 = (k : Int) := ⟨a1.toNat, by omega⟩
    obtain ⟨lv, w, h, ka, ta, sx, sy, fx, fy, lf, un, K, tq, tp, ti, LN, HF, FI, hf, hPk, hGk, hT⟩ := hLv k (by omega)
    have hT1 := hT
    rw [← hk] at hT1
    have hTa := hT1
    obtain ⟨⟨rfl, rfl, rfl, rfl, rfl, rfl, rfl, rfl⟩, b1, b2, b3, b4, b5, b6, b7, b8, b9, b10, b11, b12⟩ := hT1
    have hPf := hP0.app hPk
    have hDf := lDk hG0 hGk
    refine k_solve (k := k) l C1 hS0 hcc hss hj ha1 hPf hDf hl (by first | assumption | omega) (by first | assumption | omega) (by first | assumption | omega) (by first | assumption | omega) (by first | assumption | omega) (by first | assumption | omega) (by first | assumption | omega) (by first | assumption | omega) (by first | assumption | omega) (by first | assumption | omega) (by first | assumption | omega) (by first | assumption | omega) (by first | assumption | omega) (by first | assumption | omega) (by first | assumption | omega) (by first | assumption | omega) (by first | assumption | omega) (by first | assumption | omega) (by first | assumption | omega) (by first | assumption | omega) (by first | assumption | omega) (by intros; omega) (fun n1_2 s11_3 s21_4 D1_5 F1_6 Q1_7 qx1_8 qy1_9 ql1_10 OU1_11 r_14 la_15 x1_16 y1_17 l1_18 o1_19 S1_20 E1_21 N1_22 po_12 po_23 => (by
              obtain ⟨D0, F0, Q0, _, _, z3, z4⟩ := po_12.1.2.2
              obtain ⟨S0, E0, N0, _, z5, z6⟩ := po_23.2.2
              exact (show s11_3 = _ from congrArg Prod.fst z4).trans ((both_least (by omega) (by omega) (vld_plc (by omega) (by omega) b3 b4 (by omega)) (by omega) b9 z3 z5).trans z6.symm))) ?_
    intro n1_2 s11_3 s21_4 D1_5 F1_6 Q1_7 qx1_8 qy1_9 ql1_10 OU1_11 r_14 la_15 x1_16 y1_17 l1_18 o1_19 S1_20 E1_21 N1_22 H9 k9 ls9 po_12 po_23 hQ0 hQk hS9 hlz
    have hq9 : s11_3 = r_14 := by
      obtain ⟨D0, F0, Q0, _, _, z3, z4⟩ := po_12.1.2.2
      obtain ⟨S0, E0, N0, _, z5, z6⟩ := po_23.2.2
      exact (show s11_3 = _ from congrArg Prod.fst z4).trans ((both_least (by omega) (by omega) (vld_plc (by omega) (by omega) b3 b4 (by omega)) (by omega) b9 z3 z5).trans z6.symm)
    have hr9 : -1 ≤ r_14 ∧ r_14 ≤ 100 := by
      obtain ⟨S0, E0, N0, _, z5, z6⟩ := po_23.2.2
      rw [z6]
      exact isL_rng (ltT_isL (by omega) (by omega) (vld_plc (by omega) (by omega) b3 b4 (by omega)) (by omega) z5) (by omega)
    have hLv1 : ∀ i : Nat, (i : Int) < mn → lLev (dC, dI) cI cT s H9 own sf mW mH mC mSX mSY mFX mFY (zu mWY a1 r_14) mOP mRE mKI i := by
      intro i hi
      by_cases e9 : i = k
      · subst e9
        refine ⟨lv, (mW a1), (mH a1), ka, ta, (mSX a1), (mSY a1), (mFX a1), (mFY a1), s11_3, (mOP a1), K, tq, tp, ti, LN, HF, FI, hf, hQk, zD_re hGk rfl, ?_⟩
        exact lTie_wo hT (hq9.trans (zu_at hk.symm).symm) (by rw [← hk])
      · exact lLev_keep (lFk hG0 hGk) hS9 (hLv i hi) (by omega) (fun _ _ => rfl) rfl (lSame_wo (zu_ne _ _ (by omega)) rfl)
    exact hc H9 ls9 ⟨own, sf, rl, rp, oc, hx9, hy9, hl9, rln, rhf, (mSX a1), (mSY a1), 0, n1_2, s11_3, s21_4, qx1_8, qy1_9, ql1_10, RI, D1_5, F1_6, Q1_7, OU1_11, mn, mp, mon, mrx, mry, mrl, mrs, mrf, x1_16, y1_17, l1_18, o1_19, la_15, mW, mH, mC, mSX, mSY, mFX, mFY, zu mWY a1 r_14, mOP, mRE, mKI, mIN, S1_20, E1_21, N1_22, lS_tr hS0 hS9 (lG_of hDf hS0), hQ0, zD_re hG0 rfl, ⟨gn, go, gp, grs, gf, gW, gH, gC, gC0, gsX, gsY, gfX, gfY, Din_zu gWY hr9, gOP, gRE, gKI, gIN⟩, ⟨po_12.1.1, po_12.1.2.1, po_23.2.1⟩, hRn, hLv1, hNo⟩ hlz
  ·
    have hPf := hP0
    have hDf := lD0 hG0
    refine k_solve_xa l C1 hS0 hcc hss hj ha1 hPf hDf hl (by first | assumption | omega) (by exact lNo hNo c1) (by first | assumption | omega) (by first | assumption | omega) (by intros; omega) ?_
    intro la_4 H9 k9 ls9 po_5 hQ0 hS9 hlz
    have hLv1 : ∀ i : Nat, (i : Int) < mn → lLev (dC, dI) cI cT s H9 own sf mW mH mC mSX mSY mFX mFY mWY mOP mRE mKI i := fun i hi => lLev_keep (lF0 hG0) hS9 (hLv i hi) (by omega) (fun _ _ => rfl) rfl lSame_rf
    exact hc H9 ls9 ⟨own, sf, rl, rp, oc, hx9, hy9, hl9, rln, rhf, tx, ty, tl, qd, s1, s2, qx, qy, ql, RI, DD, FF, QQ, OU, mn, mp, mon, mrx, mry, mrl, mrs, mrf, mx, my, ml, mst, la_4, mW, mH, mC, mSX, mSY, mFX, mFY, mWY, mOP, mRE, mKI, mIN, mSE, mHE, mNE, lS_tr hS0 hS9 (lG_of hDf hS0), hQ0, zD_re hG0 rfl, hM, ⟨hDD, hFF, hSE⟩, hRn, hLv1, hNo⟩ hlz
set_option maxHeartbeats 4000000 in
set_option maxRecDepth 100000 in
theorem s_begin (l : Launch) {p : Program} {e : Env} {s : State} {m : MethodId} {below : List Frame} {meth : Method} {c : Code} {Z : State → Prop} {b nL : Nat} {xs : Nat → Int32} {dC : Nat → ClassId} {dI : Nat → Nat → Nat} {cI cZ cL cT cJ : ClassId} (C1 : lC l p s m meth c b nL xs dC dI cI cZ cL cT cJ) {Hc : Heap} {cells slots : Nat} (hcc : cells + 11 ≤ room_1.cells) (hss : slots + 522 ≤ room_1.slots) {ls : Array Slot} {jj : Int} (hj : 0 ≤ jj ∧ jj + 5 ≤ (nL : Int)) {sl sh ru tr se rh rt ri de fi qu pr ou mo : Nat} {ad : Nat → Nat} (hR : lRel s (dC, dI) cI cZ cL cT cJ sl sh ru tr se rh rt ri de fi qu pr ou mo ad Hc) (hl : lv_has ls 7 [(0, .ref b), (1, .ref sl), (2, .ref mo), (3, .ref ou), (4, .int (zI jj))]) (hc : ∀ (H9 : Heap) (ls9 : Array Slot), lRel s (dC, dI) cI cZ cL cT cJ sl sh ru tr se rh rt ri de fi qu pr ou mo ad H9 → lv_has ls9 7 [(0, .ref b), (1, .ref sl), (2, .ref mo), (3, .ref ou), (4, .int (zI jj))] → W p l e room_1 s m #[Value.ref b] below meth c H9 [] (cells + 11) (slots + 522) Z (F0 m 1319 ls9 [])) : W p l e room_1 s m #[Value.ref b] below meth c Hc [] cells slots Z (F0 m 831 ls []) := by
  obtain ⟨own, sf, rl, rp, oc, hx9, hy9, hl9, rln, rhf, tx, ty, tl, qd, s1, s2, qx, qy, ql, RI, DD, FF, QQ, OU, mn, mp, mon, mrx, mry, mrl, mrs, mrf, mx, my, ml, mst, mla, mW, mH, mC, mSX, mSY, mFX, mFY, mWY, mOP, mRE, mKI, mIN, mSE, mHE, mNE, hS0, hP0, hG0, hM, ⟨hDD, hFF, hSE⟩, hRn, hLv, hNo⟩ := hR
  obtain ⟨gn, go, gp, grs, gf, gW, gH, gC, gC0, gsX, gsY, gfX, gfY, gWY, gOP, gRE, gKI, gIN⟩ := id hM
  obtain ⟨a1, ha1, r1⟩ := zI_ex (xs (jj + 1).toNat)
  obtain ⟨a2, ha2, r2⟩ := zI_ex (xs (jj + 2).toNat)
  by_cases c0 : 0 ≤ a1 ∧ a1 ≤ 3
  ·
    by_cases c1 : 0 ≤ a2 ∧ a2 < mn
    ·
      obtain ⟨k, hk⟩ : ∃ k : Nat, a2 = (k : Int) := ⟨a2.toNat, by omega⟩
      obtain ⟨lv, w, h, ka, ta, sx, sy, fx, fy, lf, un, K, tq, tp, ti, LN, HF, FI, hf, hPk, hGk, hT⟩ := hLv k (by omega)
      have hT1 := hT
      rw [← hk] at hT1
      have hTa := hT1
      obtain ⟨⟨rfl, rfl, rfl, rfl, rfl, rfl, rfl, rfl⟩, b1, b2, b3, b4, b5, b6, b7, b8, b9, b10, b11, b12⟩ := hT1
      have hPf := hP0.app hPk
      have hDf := lDk hG0 hGk
      have e7 := gOP a2
      by_cases c2 : mOP a2 = 1
      ·
        refine k_begin (k := k) l C1 hS0 hcc hss hj ha1 ha2 hPf hDf hl (by first | assumption | omega) (by first | assumption | omega) (by first | assumption | omega) (by first | assumption | omega) (by first | assumption | omega) (by first | assumption | omega) (by first | assumption | omega) (by first | assumption | omega) (by first | assumption | omega) (by intros; omega) (fun h1_2 OU1_3 la_6 rr_7 po_4 po_8 => (by exact po_8.2.symm)) ?_
        intro h1_2 OU1_3 la_6 rr_7 H9 k9 ls9 po_4 po_8 hQ0 hQk hS9 hlz
        have hLv1 : ∀ i : Nat, (i : Int) < mn → lLev (dC, dI) cI cT s H9 own sf mW mH mC mSX mSY mFX mFY mWY mOP mRE mKI i := by
          intro i hi
          by_cases e9 : i = k
          · subst e9
            refine ⟨lv, (mW a2), (mH a2), ka, ta, (mSX a2), (mSY a2), (mFX a2), (mFY a2), (mWY a2), (mOP a2), K, tq, tp, ti, LN, HF, FI, hf, hQk, zD_re hGk rfl, ?_⟩
            exact hT
          · exact lLev_keep (lFk hG0 hGk) hS9 (hLv i hi) (by omega) (fun _ _ => rfl) rfl lSame_rf
        exact hc H9 ls9 ⟨own, sf, some lv, a1, 0, (mSX a2), (mSY a2), 0, 0, h1_2, tx, ty, tl, qd, s1, s2, qx, qy, ql, RI, DD, FF, QQ, OU1_3, mn, a1, a2, mSX a2, mSY a2, 0, 0, 0, mx, my, ml, mst, la_6, mW, mH, mC, mSX, mSY, mFX, mFY, mWY, mOP, mRE, mKI, mIN, mSE, mHE, mNE, lS_tr hS0 hS9 (lG_of hDf hS0), hQ0, zD_re hG0 rfl, ⟨gn, ⟨by omega, c1.2⟩, c0, (by decide), (by decide), gW, gH, gC, gC0, gsX, gsY, gfX, gfY, gWY, gOP, gRE, gKI, gIN⟩, ⟨hDD, hFF, hSE⟩, Or.inr ⟨c1.1, by rw [show a2.toNat = k by omega]; exact hf.symm, ⟨rfl, rfl, rfl, rfl, rfl, rfl⟩, fun j j0 j1 => absurd j1 (by omega), fun _ => ⟨by decide, rfl, fun j hj => absurd hj (by omega), by rw [po_4.1]; exact hlP_first⟩⟩, hLv1, hNo⟩ hlz
      ·
        refine k_begin_xc (k := k) l C1 hS0 hcc hss hj ha1 ha2 hPf hDf hl (by first | assumption | omega) (by first | assumption | omega) (by first | assumption | omega) (by first | assumption | omega) (by first | assumption | omega) (by first | assumption | omega) (by first | assumption | omega) (by first | assumption | omega) (by first | assumption | omega) (by intros; omega) ?_
        intro la_4 H9 k9 ls9 po_5 hQ0 hQk hS9 hlz
        have hLv1 : ∀ i : Nat, (i : Int) < mn → lLev (dC, dI) cI cT s H9 own sf mW mH mC mSX mSY mFX mFY mWY mOP mRE mKI i := by
          intro i hi
          by_cases e9 : i = k
          · subst e9
            refine ⟨lv, (mW a2), (mH a2), ka, ta, (mSX a2), (mSY a2), (mFX a2), (mFY a2), (mWY a2), (mOP a2), K, tq, tp, ti, LN, HF, FI, hf, hQk, zD_re hGk rfl, ?_⟩
            exact hT
          · exact lLev_keep (lFk hG0 hGk) hS9 (hLv i hi) (by omega) (fun _ _ => rfl) rfl lSame_rf
        exact hc H9 ls9 ⟨own, sf, rl, rp, oc, hx9, hy9, hl9, rln, rhf, tx, ty, tl, qd, s1, s2, qx, qy, ql, RI, DD, FF, QQ, OU, mn, mp, mon, mrx, mry, mrl, mrs, mrf, mx, my, ml, mst, la_4, mW, mH, mC, mSX, mSY, mFX, mFY, mWY, mOP, mRE, mKI, mIN, mSE, mHE, mNE, lS_tr hS0 hS9 (lG_of hDf hS0), hQ0, zD_re hG0 rfl, hM, ⟨hDD, hFF, hSE⟩, hRn, hLv1, hNo⟩ hlz
    ·
      have hPf := hP0
      have hDf := lD0 hG0
      refine k_begin_xb l C1 hS0 hcc hss hj ha1 ha2 hPf hDf hl (by first | assumption | omega) (by exact lNo hNo c1) (by first | assumption | omega) (by first | assumption | omega) (by first | assumption | omega) (by first | assumption | omega) (by first | assumption | omega) (by intros; omega) ?_
      intro la_4 H9 k9 ls9 po_5 hQ0 hS9 hlz
      have hLv1 : ∀ i : Nat, (i : Int) < mn → lLev (dC, dI) cI cT s H9 own sf mW mH mC mSX mSY mFX mFY mWY mOP mRE mKI i := fun i hi => lLev_keep (lF0 hG0) hS9 (hLv i hi) (by omega) (fun _ _ => rfl) rfl lSame_rf
      exact hc H9 ls9 ⟨own, sf, rl, rp, oc, hx9, hy9, hl9, rln, rhf, tx, ty, tl, qd, s1, s2, qx, qy, ql, RI, DD, FF, QQ, OU, mn, mp, mon, mrx, mry, mrl, mrs, mrf, mx, my, ml, mst, la_4, mW, mH, mC, mSX, mSY, mFX, mFY, mWY, mOP, mRE, mKI, mIN, mSE, mHE, mNE, lS_tr hS0 hS9 (lG_of hDf hS0), hQ0, zD_re hG0 rfl, hM, ⟨hDD, hFF, hSE⟩, hRn, hLv1, hNo⟩ hlz
  ·
    have hPf := hP0
    have hDf := lD0 hG0
    refine k_begin_xa l C1 hS0 hcc hss hj ha1 ha2 hPf hDf hl (by first | assumption | omega) (by first | assumption | omega) (by first | assumption | omega) (by first | assumption | omega) (by first | assumption | omega) (by first | assumption | omega) (by intros; omega) ?_
    intro la_4 H9 k9 ls9 po_5 hQ0 hS9 hlz
    have hLv1 : ∀ i : Nat, (i : Int) < mn → lLev (dC, dI) cI cT s H9 own sf mW mH mC mSX mSY mFX mFY mWY mOP mRE mKI i := fun i hi => lLev_keep (lF0 hG0) hS9 (hLv i hi) (by omega) (fun _ _ => rfl) rfl lSame_rf
    exact hc H9 ls9 ⟨own, sf, rl, rp, oc, hx9, hy9, hl9, rln, rhf, tx, ty, tl, qd, s1, s2, qx, qy, ql, RI, DD, FF, QQ, OU, mn, mp, mon, mrx, mry, mrl, mrs, mrf, mx, my, ml, mst, la_4, mW, mH, mC, mSX, mSY, mFX, mFY, mWY, mOP, mRE, mKI, mIN, mSE, mHE, mNE, lS_tr hS0 hS9 (lG_of hDf hS0), hQ0, zD_re hG0 rfl, hM, ⟨hDD, hFF, hSE⟩, hRn, hLv1, hNo⟩ hlz
