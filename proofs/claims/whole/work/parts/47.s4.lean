set_option maxHeartbeats 4000000 in
set_option maxRecDepth 100000 in
theorem s_play (l : Launch) {p : Program} {e : Env} {s : State} {m : MethodId} {below : List Frame} {meth : Method} {c : Code} {Z : State → Prop} {b nL : Nat} {xs : Nat → Int32} {dC : Nat → ClassId} {dI : Nat → Nat → Nat} {cI cZ cL cT cJ : ClassId} (C1 : lC l p s m meth c b nL xs dC dI cI cZ cL cT cJ) {Hc : Heap} {cells slots : Nat} (hcc : cells + 11 ≤ room_1.cells) (hss : slots + 522 ≤ room_1.slots) {ls : Array Slot} {jj : Int} (hj : 0 ≤ jj ∧ jj + 5 ≤ (nL : Int)) {sl sh ru tr se rh rt ri de fi qu pr ou mo : Nat} {ad : Nat → Nat} (hR : lRel s (dC, dI) cI cZ cL cT cJ sl sh ru tr se rh rt ri de fi qu pr ou mo ad Hc) (hl : lv_has ls 7 [(0, .ref b), (1, .ref sl), (2, .ref mo), (3, .ref ou), (4, .int (zI jj))]) (hc : ∀ (H9 : Heap) (ls9 : Array Slot), lRel s (dC, dI) cI cZ cL cT cJ sl sh ru tr se rh rt ri de fi qu pr ou mo ad H9 → lv_has ls9 7 [(0, .ref b), (1, .ref sl), (2, .ref mo), (3, .ref ou), (4, .int (zI jj))] → W p l e room_1 s m #[Value.ref b] below meth c H9 [] (cells + 11) (slots + 522) Z (F0 m 1319 ls9 [])) : W p l e room_1 s m #[Value.ref b] below meth c Hc [] cells slots Z (F0 m 899 ls []) := by
  obtain ⟨own, sf, rl, rp, oc, hx9, hy9, hl9, rln, rhf, tx, ty, tl, qd, s1, s2, qx, qy, ql, RI, DD, FF, QQ, OU, mn, mp, mon, mrx, mry, mrl, mrs, mrf, mx, my, ml, mst, mla, mW, mH, mC, mSX, mSY, mFX, mFY, mWY, mOP, mRE, mKI, mIN, mSE, mHE, mNE, hS0, hP0, hG0, hM, ⟨hDD, hFF, hSE⟩, hRn, hLv, hNo⟩ := hR
  obtain ⟨gn, go, gp, grs, gf, gW, gH, gC, gC0, gsX, gsY, gfX, gfY, gWY, gOP, gRE, gKI, gIN⟩ := id hM
  obtain ⟨a1, ha1, r1⟩ := zI_ex (xs (jj + 1).toNat)
  by_cases c0 : 0 ≤ a1 ∧ a1 ≤ 5
  ·
    rcases id hRn with ⟨m1, rfl⟩ | ⟨m1, m2, ⟨rfl, rfl, rfl, rfl, rfl, rfl⟩, m4, m5⟩
    ·
      have hPf := hP0
      have hDf := lD0 hG0
      refine k_play_xb (rl := none) l C1 hS0 hcc hss hj ha1 hPf hDf hl (by first | assumption | omega) (by first | assumption | omega) (by first | assumption | omega) (by first | assumption | omega) (by first | assumption | omega) (by intros; omega) ?_
      intro la_4 H9 k9 ls9 po_5 hQ0 hS9 hlz
      have hLv1 : ∀ i : Nat, (i : Int) < mn → lLev (dC, dI) cI cT s H9 own sf mW mH mC mSX mSY mFX mFY mWY mOP mRE mKI i := fun i hi => lLev_keep (lF0 hG0) hS9 (hLv i hi) (by omega) (fun _ _ => rfl) rfl lSame_rf
      exact hc H9 ls9 ⟨own, sf, none, rp, oc, hx9, hy9, hl9, rln, rhf, tx, ty, tl, qd, s1, s2, qx, qy, ql, RI, DD, FF, QQ, OU, mn, mp, mon, mrx, mry, mrl, mrs, mrf, mx, my, ml, mst, la_4, mW, mH, mC, mSX, mSY, mFX, mFY, mWY, mOP, mRE, mKI, mIN, mSE, mHE, mNE, lS_tr hS0 hS9 (lG_of hDf hS0), hQ0, zD_re hG0 rfl, hM, ⟨hDD, hFF, hSE⟩, hRn, hLv1, hNo⟩ hlz
    ·
      obtain ⟨k, hk⟩ : ∃ k : Nat, mon = (k : Int) := ⟨mon.toNat, by omega⟩
      obtain ⟨lv, w, h, ka, ta, sx, sy, fx, fy, lf, un, K, tq, tp, ti, LN, HF, FI, hf, hPk, hGk, hT⟩ := hLv k (by omega)
      have hT1 := hT
      rw [← hk] at hT1
      have hTa := hT1
      obtain ⟨⟨rfl, rfl, rfl, rfl, rfl, rfl, rfl, rfl⟩, b1, b2, b3, b4, b5, b6, b7, b8, b9, b10, b11, b12⟩ := hT1
      have hPf := hP0.app hPk
      have hDf := lDk hG0 hGk
      obtain rfl : rl = some lv := m2.trans (by rw [show mon.toNat = k by omega]; exact hf)
      by_cases c1 : mrs = 0
      ·
        have m6 := m5 c1
        have g6 := lRnP_rng b3 b4 gf.1 m6
        have gm := m6.1
        have g7 : -1 ≤ rhf ∧ rhf ≤ 100 := by
          rcases m6.2.2.2 with ⟨a, _⟩ | ⟨a, a', _⟩ <;> omega
        have z := mvO_congr b9 (mFX mon) (mFY mon) mrx mry mrl a1
        have zr := (mv_rng (K := K) (fx := mFX mon) (fy := mFY mon) (i := a1) g6.1 g6.2.1 g6.2.2).2.2.2.1
        have m7 : lRnP K (mW mon) (mH mon) (mSX mon) (mSY mon) (mFX mon) (mFY mon) mIN mrf rhf mrx mry mrl := lRnP_congr (fun x y x0 x1 y0 y1 => (b9 x y x0 x1 y0 y1).symm) (fun _ _ _ => rfl) m6
        obtain e2 | e2 | e2 | e2 : mp = 0 ∨ mp = 1 ∨ mp = 2 ∨ mp = 3 := by omega
        ·
          have g8 := lTap_rng (b11 0 (by decide))
          have gl := lTie_ln hTa 0 (by decide) e2
          refine k_play_0 (k := k) (rl := none) l C1 hS0 hcc hss hj ha1 hPf hDf hl (by first | assumption | omega) (by first | assumption | omega) (by first | assumption | omega) (by first | assumption | omega) (by first | assumption | omega) (by first | assumption | omega) (by first | assumption | omega) (by first | assumption | omega) (by first | assumption | omega) (by first | assumption | omega) (by first | assumption | omega) (by first | assumption | omega) (by first | assumption | omega) (by first | assumption | omega) (by first | assumption | omega) (by first | assumption | omega) (by first | assumption | omega) (by first | assumption | omega) (by first | assumption | omega) (by first | assumption | omega) (by first | assumption | omega) (by first | assumption | omega) (by first | assumption | omega) (by first | assumption | omega) (by first | assumption | omega) (by first | assumption | omega) (by first | assumption | omega) (by first | assumption | omega) (by first | assumption | omega) (by first | assumption | omega) (by first | assumption | omega) (by intros; omega) (fun x1_2 y1_3 l1_4 o1_5 h1_6 ln1_7 hf1_8 F1_9 OU1_10 la_13 x1_14 y1_15 l1_16 o1_17 rs1_18 RE1_19 KI1_20 po_11 po_21 => (by
                          obtain ⟨⟨c3, c4, c5, c6, c7, c8⟩, _⟩ := po_11
                          obtain ⟨_, d1, d2, d3, d4, d5, d6⟩ := po_21
                          have o9 := lPlay_o c6 d5 (d4.trans z.2.2.2.symm) gm zr
                          have d9 := d4.trans z.2.2.2.symm
                          exact o9.1)) ?_
          intro x1_2 y1_3 l1_4 o1_5 h1_6 ln1_7 hf1_8 F1_9 OU1_10 la_13 x1_14 y1_15 l1_16 o1_17 rs1_18 RE1_19 KI1_20 H9 k9 ls9 po_11 po_21 hQ0 hQk hS9 hlz
          obtain ⟨⟨c3, c4, c5, c6, c7, c8⟩, _⟩ := po_11
          obtain ⟨_, d1, d2, d3, d4, d5, d6⟩ := po_21
          have o9 := lPlay_o c6 d5 (d4.trans z.2.2.2.symm) gm zr
          have d9 := d4.trans z.2.2.2.symm
          have x9 := c3.trans (z.1.trans d1.symm)
          have y9 := c4.trans (z.2.1.trans d2.symm)
          have l9 := c5.trans (z.2.2.1.trans d3.symm)
          rcases c8 with ⟨p1, p2, p3, p4, p5⟩ | ⟨p1, p2, p3, p4⟩
          · rcases d6 with ⟨q1, q2, q3, q4, q5⟩ | ⟨q1, q2, q3⟩
            ·
              have p4 := p4.symm
              subst p4
              subst p3
              subst q3
              have hA9 := lTap_win (F1 := F1_9) gf.1 gm c0 gIN m7 c3 c4 c5 (o9.2.2.2.1 p1) (fun j j0 j1 => (p5 j j0 (by omega)).trans (zu_agree m4 j j0 j1)) c7
              have hTn := lTie_rec (mRE2 := zu mRE (4 * mon + mp) (mrf + 1)) (mKI2 := KI1_20) (kk := 0) hT (by decide) hA9 (fun q hq => by
                  by_cases c : q = 0
                  · rw [if_pos c, zu_at (by omega)]
                  · rw [if_neg c, zu_ne _ _ (by omega)]) (fun j j0 j1 => by
                  rw [p5 j j0 (by omega), show 100 * (4 * (k : Int) + ((0 : Nat) : Int)) + j = 100 * (4 * mon + mp) + j by omega, q4 j j0 j1]
                  exact zu_agree m4 j j0 j1) (fun q hq hne j j0 j1 => q5 _ (by omega))
              have hLv1 : ∀ i : Nat, (i : Int) < mn → lLev (dC, dI) cI cT s H9 own sf mW mH mC mSX mSY mFX mFY mWY mOP (zu mRE (4 * mon + mp) (mrf + 1)) KI1_20 i := by
                intro i hi
                by_cases e9 : i = k
                · subst e9
                  refine ⟨lv, (mW mon), (mH mon), ka, ta, (mSX mon), (mSY mon), (mFX mon), (mFY mon), (mWY mon), (mOP mon), K, tq, tp, ti, fun q9 => if q9 = 0 then (mrf + 1) else LN q9, fun q9 => if q9 = 0 then h1_6 else HF q9, fun q9 => if q9 = 0 then F1_9 else FI q9, hf, hQk, zD_re hGk rfl, ?_⟩
                  exact hTn
                · exact lLev_keep (lFk hG0 hGk) hS9 (hLv i hi) (by omega) (fun _ _ => rfl) rfl (lSame_re (fun q hq => zu_ne _ _ (by omega)) (fun q hq j j0 j1 => q5 _ (by omega)))
              exact hc H9 ls9 ⟨own, sf, some lv, mp, o1_5, x1_2, y1_3, l1_4, mrf + 1, h1_6, tx, ty, tl, qd, s1, s2, qx, qy, ql, zu RI mrf a1, DD, FF, QQ, OU1_10, mn, mp, mon, x1_14, y1_15, l1_16, rs1_18, mrf + 1, x1_14, y1_15, l1_16, o1_17, la_13, mW, mH, mC, mSX, mSY, mFX, mFY, mWY, mOP, (zu mRE (4 * mon + mp) (mrf + 1)), KI1_20, zu mIN mrf a1, mSE, mHE, mNE, lS_tr hS0 hS9 (lG_of hDf hS0), hQ0, zD_re hG0 rfl, ⟨gn, go, gp, o9.2.1, ⟨by omega, by omega⟩, gW, gH, gC, gC0, gsX, gsY, gfX, gfY, gWY, gOP, Din_zu gRE (by omega), Kin5_ki gKI (Kin5_zu gIN c0) q4 q5, Kin5_zu gIN c0⟩, ⟨hDD, hFF, hSE⟩, Or.inr ⟨m1, m2, ⟨rfl, o9.1.symm, rfl, x9.symm, y9.symm, l9.symm⟩, zu_agree m4, fun h0 => lRnP_step gf.1 m6 d1 d2 d3 (z.2.2.2.symm.trans (o9.2.2.1 h0).1) (o9.2.2.1 h0).2 (by rw [c7, x9])⟩, hLv1, hNo⟩ hlz
            · exact absurd ⟨d9.trans (o9.2.2.2.1 p1), by omega⟩ q1
          · rcases d6 with ⟨q1, q2, q3, q4, q5⟩ | ⟨q1, q2, q3⟩
            · exact absurd ⟨o9.2.2.2.2 (d9.symm.trans q1), by omega⟩ p1
            ·
              have q2 := q2.symm
              have q3 := q3.symm
              subst q2
              subst q3
              subst p2
              subst p3
              subst p4
              have hLv1 : ∀ i : Nat, (i : Int) < mn → lLev (dC, dI) cI cT s H9 own sf mW mH mC mSX mSY mFX mFY mWY mOP mRE mKI i := by
                intro i hi
                by_cases e9 : i = k
                · subst e9
                  refine ⟨lv, (mW mon), (mH mon), ka, ta, (mSX mon), (mSY mon), (mFX mon), (mFY mon), (mWY mon), (mOP mon), K, tq, tp, ti, LN, HF, FI, hf, hQk, zD_re hGk rfl, ?_⟩
                  exact hT
                · exact lLev_keep (lFk hG0 hGk) hS9 (hLv i hi) (by omega) (fun _ _ => rfl) rfl lSame_rf
              exact hc H9 ls9 ⟨own, sf, some lv, mp, o1_5, x1_2, y1_3, l1_4, mrf + 1, h1_6, tx, ty, tl, qd, s1, s2, qx, qy, ql, zu RI mrf a1, DD, FF, QQ, OU1_10, mn, mp, mon, x1_14, y1_15, l1_16, rs1_18, mrf + 1, x1_14, y1_15, l1_16, o1_17, la_13, mW, mH, mC, mSX, mSY, mFX, mFY, mWY, mOP, mRE, mKI, zu mIN mrf a1, mSE, mHE, mNE, lS_tr hS0 hS9 (lG_of hDf hS0), hQ0, zD_re hG0 rfl, ⟨gn, go, gp, o9.2.1, ⟨by omega, by omega⟩, gW, gH, gC, gC0, gsX, gsY, gfX, gfY, gWY, gOP, gRE, gKI, Kin5_zu gIN c0⟩, ⟨hDD, hFF, hSE⟩, Or.inr ⟨m1, m2, ⟨rfl, o9.1.symm, rfl, x9.symm, y9.symm, l9.symm⟩, zu_agree m4, fun h0 => lRnP_step gf.1 m6 d1 d2 d3 (z.2.2.2.symm.trans (o9.2.2.1 h0).1) (o9.2.2.1 h0).2 (by rw [c7, x9])⟩, hLv1, hNo⟩ hlz
        ·
          have g8 := lTap_rng (b11 1 (by decide))
          have gl := lTie_ln hTa 1 (by decide) e2
          refine k_play_1 (k := k) (rl := none) l C1 hS0 hcc hss hj ha1 hPf hDf hl (by first | assumption | omega) (by first | assumption | omega) (by first | assumption | omega) (by first | assumption | omega) (by first | assumption | omega) (by first | assumption | omega) (by first | assumption | omega) (by first | assumption | omega) (by first | assumption | omega) (by first | assumption | omega) (by first | assumption | omega) (by first | assumption | omega) (by first | assumption | omega) (by first | assumption | omega) (by first | assumption | omega) (by first | assumption | omega) (by first | assumption | omega) (by first | assumption | omega) (by first | assumption | omega) (by first | assumption | omega) (by first | assumption | omega) (by first | assumption | omega) (by first | assumption | omega) (by first | assumption | omega) (by first | assumption | omega) (by first | assumption | omega) (by first | assumption | omega) (by first | assumption | omega) (by first | assumption | omega) (by first | assumption | omega) (by first | assumption | omega) (by intros; omega) (fun x1_2 y1_3 l1_4 o1_5 h1_6 ln1_7 hf1_8 F1_9 OU1_10 la_13 x1_14 y1_15 l1_16 o1_17 rs1_18 RE1_19 KI1_20 po_11 po_21 => (by
                          obtain ⟨⟨c3, c4, c5, c6, c7, c8⟩, _⟩ := po_11
                          obtain ⟨_, d1, d2, d3, d4, d5, d6⟩ := po_21
                          have o9 := lPlay_o c6 d5 (d4.trans z.2.2.2.symm) gm zr
                          have d9 := d4.trans z.2.2.2.symm
                          exact o9.1)) ?_
          intro x1_2 y1_3 l1_4 o1_5 h1_6 ln1_7 hf1_8 F1_9 OU1_10 la_13 x1_14 y1_15 l1_16 o1_17 rs1_18 RE1_19 KI1_20 H9 k9 ls9 po_11 po_21 hQ0 hQk hS9 hlz
          obtain ⟨⟨c3, c4, c5, c6, c7, c8⟩, _⟩ := po_11
          obtain ⟨_, d1, d2, d3, d4, d5, d6⟩ := po_21
          have o9 := lPlay_o c6 d5 (d4.trans z.2.2.2.symm) gm zr
          have d9 := d4.trans z.2.2.2.symm
          have x9 := c3.trans (z.1.trans d1.symm)
          have y9 := c4.trans (z.2.1.trans d2.symm)
          have l9 := c5.trans (z.2.2.1.trans d3.symm)
          rcases c8 with ⟨p1, p2, p3, p4, p5⟩ | ⟨p1, p2, p3, p4⟩
          · rcases d6 with ⟨q1, q2, q3, q4, q5⟩ | ⟨q1, q2, q3⟩
            ·
              have p4 := p4.symm
              subst p4
              subst p3
              subst q3
              have hA9 := lTap_win (F1 := F1_9) gf.1 gm c0 gIN m7 c3 c4 c5 (o9.2.2.2.1 p1) (fun j j0 j1 => (p5 j j0 (by omega)).trans (zu_agree m4 j j0 j1)) c7
              have hTn := lTie_rec (mRE2 := zu mRE (4 * mon + mp) (mrf + 1)) (mKI2 := KI1_20) (kk := 1) hT (by decide) hA9 (fun q hq => by
                  by_cases c : q = 1
                  · rw [if_pos c, zu_at (by omega)]
                  · rw [if_neg c, zu_ne _ _ (by omega)]) (fun j j0 j1 => by
                  rw [p5 j j0 (by omega), show 100 * (4 * (k : Int) + ((1 : Nat) : Int)) + j = 100 * (4 * mon + mp) + j by omega, q4 j j0 j1]
                  exact zu_agree m4 j j0 j1) (fun q hq hne j j0 j1 => q5 _ (by omega))
              have hLv1 : ∀ i : Nat, (i : Int) < mn → lLev (dC, dI) cI cT s H9 own sf mW mH mC mSX mSY mFX mFY mWY mOP (zu mRE (4 * mon + mp) (mrf + 1)) KI1_20 i := by
                intro i hi
                by_cases e9 : i = k
                · subst e9
                  refine ⟨lv, (mW mon), (mH mon), ka, ta, (mSX mon), (mSY mon), (mFX mon), (mFY mon), (mWY mon), (mOP mon), K, tq, tp, ti, fun q9 => if q9 = 1 then (mrf + 1) else LN q9, fun q9 => if q9 = 1 then h1_6 else HF q9, fun q9 => if q9 = 1 then F1_9 else FI q9, hf, hQk, zD_re hGk rfl, ?_⟩
                  exact hTn
                · exact lLev_keep (lFk hG0 hGk) hS9 (hLv i hi) (by omega) (fun _ _ => rfl) rfl (lSame_re (fun q hq => zu_ne _ _ (by omega)) (fun q hq j j0 j1 => q5 _ (by omega)))
              exact hc H9 ls9 ⟨own, sf, some lv, mp, o1_5, x1_2, y1_3, l1_4, mrf + 1, h1_6, tx, ty, tl, qd, s1, s2, qx, qy, ql, zu RI mrf a1, DD, FF, QQ, OU1_10, mn, mp, mon, x1_14, y1_15, l1_16, rs1_18, mrf + 1, x1_14, y1_15, l1_16, o1_17, la_13, mW, mH, mC, mSX, mSY, mFX, mFY, mWY, mOP, (zu mRE (4 * mon + mp) (mrf + 1)), KI1_20, zu mIN mrf a1, mSE, mHE, mNE, lS_tr hS0 hS9 (lG_of hDf hS0), hQ0, zD_re hG0 rfl, ⟨gn, go, gp, o9.2.1, ⟨by omega, by omega⟩, gW, gH, gC, gC0, gsX, gsY, gfX, gfY, gWY, gOP, Din_zu gRE (by omega), Kin5_ki gKI (Kin5_zu gIN c0) q4 q5, Kin5_zu gIN c0⟩, ⟨hDD, hFF, hSE⟩, Or.inr ⟨m1, m2, ⟨rfl, o9.1.symm, rfl, x9.symm, y9.symm, l9.symm⟩, zu_agree m4, fun h0 => lRnP_step gf.1 m6 d1 d2 d3 (z.2.2.2.symm.trans (o9.2.2.1 h0).1) (o9.2.2.1 h0).2 (by rw [c7, x9])⟩, hLv1, hNo⟩ hlz
            · exact absurd ⟨d9.trans (o9.2.2.2.1 p1), by omega⟩ q1
          · rcases d6 with ⟨q1, q2, q3, q4, q5⟩ | ⟨q1, q2, q3⟩
            · exact absurd ⟨o9.2.2.2.2 (d9.symm.trans q1), by omega⟩ p1
            ·
              have q2 := q2.symm
              have q3 := q3.symm
              subst q2
              subst q3
              subst p2
              subst p3
              subst p4
              have hLv1 : ∀ i : Nat, (i : Int) < mn → lLev (dC, dI) cI cT s H9 own sf mW mH mC mSX mSY mFX mFY mWY mOP mRE mKI i := by
                intro i hi
                by_cases e9 : i = k
                · subst e9
                  refine ⟨lv, (mW mon), (mH mon), ka, ta, (mSX mon), (mSY mon), (mFX mon), (mFY mon), (mWY mon), (mOP mon), K, tq, tp, ti, LN, HF, FI, hf, hQk, zD_re hGk rfl, ?_⟩
                  exact hT
                · exact lLev_keep (lFk hG0 hGk) hS9 (hLv i hi) (by omega) (fun _ _ => rfl) rfl lSame_rf
              exact hc H9 ls9 ⟨own, sf, some lv, mp, o1_5, x1_2, y1_3, l1_4, mrf + 1, h1_6, tx, ty, tl, qd, s1, s2, qx, qy, ql, zu RI mrf a1, DD, FF, QQ, OU1_10, mn, mp, mon, x1_14, y1_15, l1_16, rs1_18, mrf + 1, x1_14, y1_15, l1_16, o1_17, la_13, mW, mH, mC, mSX, mSY, mFX, mFY, mWY, mOP, mRE, mKI, zu mIN mrf a1, mSE, mHE, mNE, lS_tr hS0 hS9 (lG_of hDf hS0), hQ0, zD_re hG0 rfl, ⟨gn, go, gp, o9.2.1, ⟨by omega, by omega⟩, gW, gH, gC, gC0, gsX, gsY, gfX, gfY, gWY, gOP, gRE, gKI, Kin5_zu gIN c0⟩, ⟨hDD, hFF, hSE⟩, Or.inr ⟨m1, m2, ⟨rfl, o9.1.symm, rfl, x9.symm, y9.symm, l9.symm⟩, zu_agree m4, fun h0 => lRnP_step gf.1 m6 d1 d2 d3 (z.2.2.2.symm.trans (o9.2.2.1 h0).1) (o9.2.2.1 h0).2 (by rw [c7, x9])⟩, hLv1, hNo⟩ hlz
        ·
          have g8 := lTap_rng (b11 2 (by decide))
          have gl := lTie_ln hTa 2 (by decide) e2
          refine k_play_2 (k := k) (rl := none) l C1 hS0 hcc hss hj ha1 hPf hDf hl (by first | assumption | omega) (by first | assumption | omega) (by first | assumption | omega) (by first | assumption | omega) (by first | assumption | omega) (by first | assumption | omega) (by first | assumption | omega) (by first | assumption | omega) (by first | assumption | omega) (by first | assumption | omega) (by first | assumption | omega) (by first | assumption | omega) (by first | assumption | omega) (by first | assumption | omega) (by first | assumption | omega) (by first | assumption | omega) (by first | assumption | omega) (by first | assumption | omega) (by first | assumption | omega) (by first | assumption | omega) (by first | assumption | omega) (by first | assumption | omega) (by first | assumption | omega) (by first | assumption | omega) (by first | assumption | omega) (by first | assumption | omega) (by first | assumption | omega) (by first | assumption | omega) (by first | assumption | omega) (by first | assumption | omega) (by first | assumption | omega) (by intros; omega) (fun x1_2 y1_3 l1_4 o1_5 h1_6 ln1_7 hf1_8 F1_9 OU1_10 la_13 x1_14 y1_15 l1_16 o1_17 rs1_18 RE1_19 KI1_20 po_11 po_21 => (by
                          obtain ⟨⟨c3, c4, c5, c6, c7, c8⟩, _⟩ := po_11
                          obtain ⟨_, d1, d2, d3, d4, d5, d6⟩ := po_21
                          have o9 := lPlay_o c6 d5 (d4.trans z.2.2.2.symm) gm zr
                          have d9 := d4.trans z.2.2.2.symm
                          exact o9.1)) ?_
          intro x1_2 y1_3 l1_4 o1_5 h1_6 ln1_7 hf1_8 F1_9 OU1_10 la_13 x1_14 y1_15 l1_16 o1_17 rs1_18 RE1_19 KI1_20 H9 k9 ls9 po_11 po_21 hQ0 hQk hS9 hlz
          obtain ⟨⟨c3, c4, c5, c6, c7, c8⟩, _⟩ := po_11
          obtain ⟨_, d1, d2, d3, d4, d5, d6⟩ := po_21
          have o9 := lPlay_o c6 d5 (d4.trans z.2.2.2.symm) gm zr
          have d9 := d4.trans z.2.2.2.symm
          have x9 := c3.trans (z.1.trans d1.symm)
          have y9 := c4.trans (z.2.1.trans d2.symm)
          have l9 := c5.trans (z.2.2.1.trans d3.symm)
          rcases c8 with ⟨p1, p2, p3, p4, p5⟩ | ⟨p1, p2, p3, p4⟩
          · rcases d6 with ⟨q1, q2, q3, q4, q5⟩ | ⟨q1, q2, q3⟩
            ·
              have p4 := p4.symm
              subst p4
              subst p3
              subst q3
              have hA9 := lTap_win (F1 := F1_9) gf.1 gm c0 gIN m7 c3 c4 c5 (o9.2.2.2.1 p1) (fun j j0 j1 => (p5 j j0 (by omega)).trans (zu_agree m4 j j0 j1)) c7
              have hTn := lTie_rec (mRE2 := zu mRE (4 * mon + mp) (mrf + 1)) (mKI2 := KI1_20) (kk := 2) hT (by decide) hA9 (fun q hq => by
                  by_cases c : q = 2
                  · rw [if_pos c, zu_at (by omega)]
                  · rw [if_neg c, zu_ne _ _ (by omega)]) (fun j j0 j1 => by
                  rw [p5 j j0 (by omega), show 100 * (4 * (k : Int) + ((2 : Nat) : Int)) + j = 100 * (4 * mon + mp) + j by omega, q4 j j0 j1]
                  exact zu_agree m4 j j0 j1) (fun q hq hne j j0 j1 => q5 _ (by omega))
              have hLv1 : ∀ i : Nat, (i : Int) < mn → lLev (dC, dI) cI cT s H9 own sf mW mH mC mSX mSY mFX mFY mWY mOP (zu mRE (4 * mon + mp) (mrf + 1)) KI1_20 i := by
                intro i hi
                by_cases e9 : i = k
                · subst e9
                  refine ⟨lv, (mW mon), (mH mon), ka, ta, (mSX mon), (mSY mon), (mFX mon), (mFY mon), (mWY mon), (mOP mon), K, tq, tp, ti, fun q9 => if q9 = 2 then (mrf + 1) else LN q9, fun q9 => if q9 = 2 then h1_6 else HF q9, fun q9 => if q9 = 2 then F1_9 else FI q9, hf, hQk, zD_re hGk rfl, ?_⟩
                  exact hTn
                · exact lLev_keep (lFk hG0 hGk) hS9 (hLv i hi) (by omega) (fun _ _ => rfl) rfl (lSame_re (fun q hq => zu_ne _ _ (by omega)) (fun q hq j j0 j1 => q5 _ (by omega)))
              exact hc H9 ls9 ⟨own, sf, some lv, mp, o1_5, x1_2, y1_3, l1_4, mrf + 1, h1_6, tx, ty, tl, qd, s1, s2, qx, qy, ql, zu RI mrf a1, DD, FF, QQ, OU1_10, mn, mp, mon, x1_14, y1_15, l1_16, rs1_18, mrf + 1, x1_14, y1_15, l1_16, o1_17, la_13, mW, mH, mC, mSX, mSY, mFX, mFY, mWY, mOP, (zu mRE (4 * mon + mp) (mrf + 1)), KI1_20, zu mIN mrf a1, mSE, mHE, mNE, lS_tr hS0 hS9 (lG_of hDf hS0), hQ0, zD_re hG0 rfl, ⟨gn, go, gp, o9.2.1, ⟨by omega, by omega⟩, gW, gH, gC, gC0, gsX, gsY, gfX, gfY, gWY, gOP, Din_zu gRE (by omega), Kin5_ki gKI (Kin5_zu gIN c0) q4 q5, Kin5_zu gIN c0⟩, ⟨hDD, hFF, hSE⟩, Or.inr ⟨m1, m2, ⟨rfl, o9.1.symm, rfl, x9.symm, y9.symm, l9.symm⟩, zu_agree m4, fun h0 => lRnP_step gf.1 m6 d1 d2 d3 (z.2.2.2.symm.trans (o9.2.2.1 h0).1) (o9.2.2.1 h0).2 (by rw [c7, x9])⟩, hLv1, hNo⟩ hlz
            · exact absurd ⟨d9.trans (o9.2.2.2.1 p1), by omega⟩ q1
          · rcases d6 with ⟨q1, q2, q3, q4, q5⟩ | ⟨q1, q2, q3⟩
            · exact absurd ⟨o9.2.2.2.2 (d9.symm.trans q1), by omega⟩ p1
            ·
              have q2 := q2.symm
              have q3 := q3.symm
              subst q2
              subst q3
              subst p2
              subst p3
              subst p4
              have hLv1 : ∀ i : Nat, (i : Int) < mn → lLev (dC, dI) cI cT s H9 own sf mW mH mC mSX mSY mFX mFY mWY mOP mRE mKI i := by
                intro i hi
                by_cases e9 : i = k
                · subst e9
                  refine ⟨lv, (mW mon), (mH mon), ka, ta, (mSX mon), (mSY mon), (mFX mon), (mFY mon), (mWY mon), (mOP mon), K, tq, tp, ti, LN, HF, FI, hf, hQk, zD_re hGk rfl, ?_⟩
                  exact hT
                · exact lLev_keep (lFk hG0 hGk) hS9 (hLv i hi) (by omega) (fun _ _ => rfl) rfl lSame_rf
              exact hc H9 ls9 ⟨own, sf, some lv, mp, o1_5, x1_2, y1_3, l1_4, mrf + 1, h1_6, tx, ty, tl, qd, s1, s2, qx, qy, ql, zu RI mrf a1, DD, FF, QQ, OU1_10, mn, mp, mon, x1_14, y1_15, l1_16, rs1_18, mrf + 1, x1_14, y1_15, l1_16, o1_17, la_13, mW, mH, mC, mSX, mSY, mFX, mFY, mWY, mOP, mRE, mKI, zu mIN mrf a1, mSE, mHE, mNE, lS_tr hS0 hS9 (lG_of hDf hS0), hQ0, zD_re hG0 rfl, ⟨gn, go, gp, o9.2.1, ⟨by omega, by omega⟩, gW, gH, gC, gC0, gsX, gsY, gfX, gfY, gWY, gOP, gRE, gKI, Kin5_zu gIN c0⟩, ⟨hDD, hFF, hSE⟩, Or.inr ⟨m1, m2, ⟨rfl, o9.1.symm, rfl, x9.symm, y9.symm, l9.symm⟩, zu_agree m4, fun h0 => lRnP_step gf.1 m6 d1 d2 d3 (z.2.2.2.symm.trans (o9.2.2.1 h0).1) (o9.2.2.1 h0).2 (by rw [c7, x9])⟩, hLv1, hNo⟩ hlz
        ·
          have g8 := lTap_rng (b11 3 (by decide))
          have gl := lTie_ln hTa 3 (by decide) e2
          refine k_play_3 (k := k) (rl := none) l C1 hS0 hcc hss hj ha1 hPf hDf hl (by first | assumption | omega) (by first | assumption | omega) (by first | assumption | omega) (by first | assumption | omega) (by first | assumption | omega) (by first | assumption | omega) (by first | assumption | omega) (by first | assumption | omega) (by first | assumption | omega) (by first | assumption | omega) (by first | assumption | omega) (by first | assumption | omega) (by first | assumption | omega) (by first | assumption | omega) (by first | assumption | omega) (by first | assumption | omega) (by first | assumption | omega) (by first | assumption | omega) (by first | assumption | omega) (by first | assumption | omega) (by first | assumption | omega) (by first | assumption | omega) (by first | assumption | omega) (by first | assumption | omega) (by first | assumption | omega) (by first | assumption | omega) (by first | assumption | omega) (by first | assumption | omega) (by first | assumption | omega) (by first | assumption | omega) (by first | assumption | omega) (by intros; omega) (fun x1_2 y1_3 l1_4 o1_5 h1_6 ln1_7 hf1_8 F1_9 OU1_10 la_13 x1_14 y1_15 l1_16 o1_17 rs1_18 RE1_19 KI1_20 po_11 po_21 => (by
                          obtain ⟨⟨c3, c4, c5, c6, c7, c8⟩, _⟩ := po_11
                          obtain ⟨_, d1, d2, d3, d4, d5, d6⟩ := po_21
                          have o9 := lPlay_o c6 d5 (d4.trans z.2.2.2.symm) gm zr
                          have d9 := d4.trans z.2.2.2.symm
                          exact o9.1)) ?_
          intro x1_2 y1_3 l1_4 o1_5 h1_6 ln1_7 hf1_8 F1_9 OU1_10 la_13 x1_14 y1_15 l1_16 o1_17 rs1_18 RE1_19 KI1_20 H9 k9 ls9 po_11 po_21 hQ0 hQk hS9 hlz
          obtain ⟨⟨c3, c4, c5, c6, c7, c8⟩, _⟩ := po_11
          obtain ⟨_, d1, d2, d3, d4, d5, d6⟩ := po_21
          have o9 := lPlay_o c6 d5 (d4.trans z.2.2.2.symm) gm zr
          have d9 := d4.trans z.2.2.2.symm
          have x9 := c3.trans (z.1.trans d1.symm)
          have y9 := c4.trans (z.2.1.trans d2.symm)
          have l9 := c5.trans (z.2.2.1.trans d3.symm)
          rcases c8 with ⟨p1, p2, p3, p4, p5⟩ | ⟨p1, p2, p3, p4⟩
          · rcases d6 with ⟨q1, q2, q3, q4, q5⟩ | ⟨q1, q2, q3⟩
            ·
              have p4 := p4.symm
              subst p4
              subst p3
              subst q3
              have hA9 := lTap_win (F1 := F1_9) gf.1 gm c0 gIN m7 c3 c4 c5 (o9.2.2.2.1 p1) (fun j j0 j1 => (p5 j j0 (by omega)).trans (zu_agree m4 j j0 j1)) c7
              have hTn := lTie_rec (mRE2 := zu mRE (4 * mon + mp) (mrf + 1)) (mKI2 := KI1_20) (kk := 3) hT (by decide) hA9 (fun q hq => by
                  by_cases c : q = 3
                  · rw [if_pos c, zu_at (by omega)]
                  · rw [if_neg c, zu_ne _ _ (by omega)]) (fun j j0 j1 => by
                  rw [p5 j j0 (by omega), show 100 * (4 * (k : Int) + ((3 : Nat) : Int)) + j = 100 * (4 * mon + mp) + j by omega, q4 j j0 j1]
                  exact zu_agree m4 j j0 j1) (fun q hq hne j j0 j1 => q5 _ (by omega))
              have hLv1 : ∀ i : Nat, (i : Int) < mn → lLev (dC, dI) cI cT s H9 own sf mW mH mC mSX mSY mFX mFY mWY mOP (zu mRE (4 * mon + mp) (mrf + 1)) KI1_20 i := by
                intro i hi
                by_cases e9 : i = k
                · subst e9
                  refine ⟨lv, (mW mon), (mH mon), ka, ta, (mSX mon), (mSY mon), (mFX mon), (mFY mon), (mWY mon), (mOP mon), K, tq, tp, ti, fun q9 => if q9 = 3 then (mrf + 1) else LN q9, fun q9 => if q9 = 3 then h1_6 else HF q9, fun q9 => if q9 = 3 then F1_9 else FI q9, hf, hQk, zD_re hGk rfl, ?_⟩
                  exact hTn
                · exact lLev_keep (lFk hG0 hGk) hS9 (hLv i hi) (by omega) (fun _ _ => rfl) rfl (lSame_re (fun q hq => zu_ne _ _ (by omega)) (fun q hq j j0 j1 => q5 _ (by omega)))
              exact hc H9 ls9 ⟨own, sf, some lv, mp, o1_5, x1_2, y1_3, l1_4, mrf + 1, h1_6, tx, ty, tl, qd, s1, s2, qx, qy, ql, zu RI mrf a1, DD, FF, QQ, OU1_10, mn, mp, mon, x1_14, y1_15, l1_16, rs1_18, mrf + 1, x1_14, y1_15, l1_16, o1_17, la_13, mW, mH, mC, mSX, mSY, mFX, mFY, mWY, mOP, (zu mRE (4 * mon + mp) (mrf + 1)), KI1_20, zu mIN mrf a1, mSE, mHE, mNE, lS_tr hS0 hS9 (lG_of hDf hS0), hQ0, zD_re hG0 rfl, ⟨gn, go, gp, o9.2.1, ⟨by omega, by omega⟩, gW, gH, gC, gC0, gsX, gsY, gfX, gfY, gWY, gOP, Din_zu gRE (by omega), Kin5_ki gKI (Kin5_zu gIN c0) q4 q5, Kin5_zu gIN c0⟩, ⟨hDD, hFF, hSE⟩, Or.inr ⟨m1, m2, ⟨rfl, o9.1.symm, rfl, x9.symm, y9.symm, l9.symm⟩, zu_agree m4, fun h0 => lRnP_step gf.1 m6 d1 d2 d3 (z.2.2.2.symm.trans (o9.2.2.1 h0).1) (o9.2.2.1 h0).2 (by rw [c7, x9])⟩, hLv1, hNo⟩ hlz
            · exact absurd ⟨d9.trans (o9.2.2.2.1 p1), by omega⟩ q1
          · rcases d6 with ⟨q1, q2, q3, q4, q5⟩ | ⟨q1, q2, q3⟩
            · exact absurd ⟨o9.2.2.2.2 (d9.symm.trans q1), by omega⟩ p1
            ·
              have q2 := q2.symm
              have q3 := q3.symm
              subst q2
              subst q3
              subst p2
              subst p3
              subst p4
              have hLv1 : ∀ i : Nat, (i : Int) < mn → lLev (dC, dI) cI cT s H9 own sf mW mH mC mSX mSY mFX mFY mWY mOP mRE mKI i := by
                intro i hi
                by_cases e9 : i = k
                · subst e9
                  refine ⟨lv, (mW mon), (mH mon), ka, ta, (mSX mon), (mSY mon), (mFX mon), (mFY mon), (mWY mon), (mOP mon), K, tq, tp, ti, LN, HF, FI, hf, hQk, zD_re hGk rfl, ?_⟩
                  exact hT
                · exact lLev_keep (lFk hG0 hGk) hS9 (hLv i hi) (by omega) (fun _ _ => rfl) rfl lSame_rf
              exact hc H9 ls9 ⟨own, sf, some lv, mp, o1_5, x1_2, y1_3, l1_4, mrf + 1, h1_6, tx, ty, tl, qd, s1, s2, qx, qy, ql, zu RI mrf a1, DD, FF, QQ, OU1_10, mn, mp, mon, x1_14, y1_15, l1_16, rs1_18, mrf + 1, x1_14, y1_15, l1_16, o1_17, la_13, mW, mH, mC, mSX, mSY, mFX, mFY, mWY, mOP, mRE, mKI, zu mIN mrf a1, mSE, mHE, mNE, lS_tr hS0 hS9 (lG_of hDf hS0), hQ0, zD_re hG0 rfl, ⟨gn, go, gp, o9.2.1, ⟨by omega, by omega⟩, gW, gH, gC, gC0, gsX, gsY, gfX, gfY, gWY, gOP, gRE, gKI, Kin5_zu gIN c0⟩, ⟨hDD, hFF, hSE⟩, Or.inr ⟨m1, m2, ⟨rfl, o9.1.symm, rfl, x9.symm, y9.symm, l9.symm⟩, zu_agree m4, fun h0 => lRnP_step gf.1 m6 d1 d2 d3 (z.2.2.2.symm.trans (o9.2.2.1 h0).1) (o9.2.2.1 h0).2 (by rw [c7, x9])⟩, hLv1, hNo⟩ hlz
      ·
        refine k_play_xc (k := k) (rl := none) l C1 hS0 hcc hss hj ha1 hPf hDf hl (by first | assumption | omega) (by first | assumption | omega) (by first | assumption | omega) (by first | assumption | omega) (by first | assumption | omega) (by first | assumption | omega) (by first | assumption | omega) (by intros; omega) ?_
        intro la_4 H9 k9 ls9 po_5 hQ0 hQk hS9 hlz
        have hLv1 : ∀ i : Nat, (i : Int) < mn → lLev (dC, dI) cI cT s H9 own sf mW mH mC mSX mSY mFX mFY mWY mOP mRE mKI i := by
          intro i hi
          by_cases e9 : i = k
          · subst e9
            refine ⟨lv, (mW mon), (mH mon), ka, ta, (mSX mon), (mSY mon), (mFX mon), (mFY mon), (mWY mon), (mOP mon), K, tq, tp, ti, LN, HF, FI, hf, hQk, zD_re hGk rfl, ?_⟩
            exact hT
          · exact lLev_keep (lFk hG0 hGk) hS9 (hLv i hi) (by omega) (fun _ _ => rfl) rfl lSame_rf
        exact hc H9 ls9 ⟨own, sf, some lv, mp, mrs, mrx, mry, mrl, mrf, rhf, tx, ty, tl, qd, s1, s2, qx, qy, ql, RI, DD, FF, QQ, OU, mn, mp, mon, mrx, mry, mrl, mrs, mrf, mx, my, ml, mst, la_4, mW, mH, mC, mSX, mSY, mFX, mFY, mWY, mOP, mRE, mKI, mIN, mSE, mHE, mNE, lS_tr hS0 hS9 (lG_of hDf hS0), hQ0, zD_re hG0 rfl, hM, ⟨hDD, hFF, hSE⟩, hRn, hLv1, hNo⟩ hlz
  ·
    have hPf := hP0
    have hDf := lD0 hG0
    refine k_play_xa l C1 hS0 hcc hss hj ha1 hPf hDf hl (by first | assumption | omega) (by first | assumption | omega) (by first | assumption | omega) (by first | assumption | omega) (by first | assumption | omega) (by intros; omega) ?_
    intro la_4 H9 k9 ls9 po_5 hQ0 hS9 hlz
    have hLv1 : ∀ i : Nat, (i : Int) < mn → lLev (dC, dI) cI cT s H9 own sf mW mH mC mSX mSY mFX mFY mWY mOP mRE mKI i := fun i hi => lLev_keep (lF0 hG0) hS9 (hLv i hi) (by omega) (fun _ _ => rfl) rfl lSame_rf
    exact hc H9 ls9 ⟨own, sf, rl, rp, oc, hx9, hy9, hl9, rln, rhf, tx, ty, tl, qd, s1, s2, qx, qy, ql, RI, DD, FF, QQ, OU, mn, mp, mon, mrx, mry, mrl, mrs, mrf, mx, my, ml, mst, la_4, mW, mH, mC, mSX, mSY, mFX, mFY, mWY, mOP, mRE, mKI, mIN, mSE, mHE, mNE, lS_tr hS0 hS9 (lG_of hDf hS0), hQ0, zD_re hG0 rfl, hM, ⟨hDD, hFF, hSE⟩, hRn, hLv1, hNo⟩ hlz
