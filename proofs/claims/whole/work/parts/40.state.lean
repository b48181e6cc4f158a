/-! the state of both sides between two calls -/
abbrev lW0 (cI cZ cL cT cJ : ClassId) (sl : Nat) (sh : Nat) (ru : Nat) (tr : Nat) (se : Nat) (rh : Nat) (rt : Nat) (ri : Nat) (de : Nat) (fi : Nat) (qu : Nat) (pr : Nat) (ou : Nat) (mo : Nat) (ad : Nat → Nat) (sf : Nat → Option Nat) (rl : Option Nat) (rp : Int) (oc : Int) (hx9 : Int) (hy9 : Int) (hl9 : Int) (rln : Int) (rhf : Int) (tx : Int) (ty : Int) (tl : Int) (qd : Int) (s1 : Int) (s2 : Int) (qx : Int) (qy : Int) (ql : Int) (RI : Int → Int) (DD : Int → Int) (FF : Int → Int) (QQ : Int → Int) (OU : Nat → Int64) (mn : Int) (mp : Int) (mon : Int) (mrx : Int) (mry : Int) (mrl : Int) (mrs : Int) (mrf : Int) (mx : Int) (my : Int) (ml : Int) (mst : Int) (mla : Int) (mW : Int → Int) (mH : Int → Int) (mC : Int → Int) (mSX : Int → Int) (mSY : Int → Int) (mFX : Int → Int) (mFY : Int → Int) (mWY : Int → Int) (mOP : Int → Int) (mRE : Int → Int) (mKI : Int → Int) (mIN : Int → Int) (mSE : Int → Int) (mHE : Int → Int) (mNE : Int → Int) : va_W := [(sl, .inr (5, [.ref sh, .int (zI mn), .ref ru, .ref tr, .ref se])), zQ cL sh 6 sf, (ru, .inr (2, [.ref rh, .ref rt, va_rf rl, .int (zI rp), .int (zI oc)])), (rh, .inr (0, [.int (zI hx9), .int (zI hy9), .int (zI hl9)])), (rt, .inr (4, [.ref ri, .int (zI rln), .int (zI rhf)])), zA cI ri 100 RI, (tr, .inr (0, [.int (zI tx), .int (zI ty), .int (zI tl)])), (se, .inr (3, [.ref de, .ref fi, .ref qu, .ref pr, .int (zI qd), .int (zI s1), .int (zI s2)])), (pr, .inr (0, [.int (zI qx), .int (zI qy), .int (zI ql)])), zA cI de 480 DD, zA cI fi 480 FF, zA cI qu 480 QQ, (ou, .inl (cJ, 1, .inr (.inl OU))), (mo, .inr (6, [.ref (ad 0), .ref (ad 1), .ref (ad 2), .ref (ad 3), .ref (ad 4), .ref (ad 5), .ref (ad 6), .ref (ad 7), .ref (ad 8), .int (zI mn), .ref (ad 10), .ref (ad 11), .int (zI mp), .int (zI mon), .int (zI mrx), .int (zI mry), .int (zI mrl), .int (zI mrs), .int (zI mrf), .ref (ad 19), .int (zI mx), .int (zI my), .int (zI ml), .int (zI mst), .ref (ad 24), .ref (ad 25), .ref (ad 26), .int (zI mla)])), zA cI (ad 0) 6 mW, zA cI (ad 1) 6 mH, zA cI (ad 2) 576 mC, zA cI (ad 3) 6 mSX, zA cI (ad 4) 6 mSY, zA cI (ad 5) 6 mFX, zA cI (ad 6) 6 mFY, zA cI (ad 7) 6 mWY, zA cZ (ad 8) 6 mOP, zA cI (ad 10) 24 mRE, zA cI (ad 11) 2400 mKI, zA cI (ad 19) 100 mIN, zA cZ (ad 24) 480 mSE, zA cI (ad 25) 480 mHE, zA cI (ad 26) 480 mNE]
abbrev lGL (cI cT : ClassId) (lv : Nat) (w : Int) (h : Int) (ka : Nat) (ta : Nat) (sx : Int) (sy : Int) (fx : Int) (fy : Int) (lf : Int) (un : Int) (K : Int → Int) (tq : Nat → Option Nat) (tp : Nat → Nat) (ti : Nat → Nat) (LN : Nat → Int) (HF : Nat → Int) (FI : Nat → Int → Int) : va_W := [(lv, .inr (1, [.int (zI w), .int (zI h), .ref ka, .ref ta, .int (zI sx), .int (zI sy), .int (zI fx), .int (zI fy), .int (zI lf), .int (zI un)])), zA cI ka 96 K, zQ cT ta 4 tq, (tp 0, .inr (4, [.ref (ti 0), .int (zI (LN 0)), .int (zI (HF 0))])), (tp 1, .inr (4, [.ref (ti 1), .int (zI (LN 1)), .int (zI (HF 1))])), (tp 2, .inr (4, [.ref (ti 2), .int (zI (LN 2)), .int (zI (HF 2))])), (tp 3, .inr (4, [.ref (ti 3), .int (zI (LN 3)), .int (zI (HF 3))])), zA cI (ti 0) 100 (FI 0), zA cI (ti 1) 100 (FI 1), zA cI (ti 2) 100 (FI 2), zA cI (ti 3) 100 (FI 3)]
def lTap (K : Int → Int) (w h sx sy fx fy : Int) (FI : Int → Int) (n hf : Int) : Prop := (n = -1 ∧ hf = -1) ∨ ((1 ≤ n ∧ n ≤ 100) ∧ (∀ j, 0 ≤ j → j < n → 0 ≤ FI j ∧ FI j ≤ 5) ∧ (∀ j : Nat, (j : Int) < n - 1 → smO K w h fx fy sx sy FI j = 0) ∧ smO K w h fx fy sx sy FI (n - 1).toNat = 2 ∧ hlP K w h sx sy FI n hf)
def lTie (mW mH mC mSX mSY mFX mFY mWY mOP mRE mKI : Int → Int) (i : Int) (w : Int) (h : Int) (sx : Int) (sy : Int) (fx : Int) (fy : Int) (lf : Int) (un : Int) (K : Int → Int) (tq : Nat → Option Nat) (tp : Nat → Nat) (LN : Nat → Int) (HF : Nat → Int) (FI : Nat → Int → Int) : Prop := (w = mW i ∧ h = mH i ∧ sx = mSX i ∧ sy = mSY i ∧ fx = mFX i ∧ fy = mFY i ∧ lf = mWY i ∧ un = mOP i) ∧ (2 ≤ w ∧ w ≤ 12) ∧ (2 ≤ h ∧ h ≤ 8) ∧ (0 ≤ sx ∧ sx < w) ∧ (0 ≤ sy ∧ sy < h) ∧ (0 ≤ fx ∧ fx < w) ∧ (0 ≤ fy ∧ fy < h) ∧ Kin K ∧ (∀ k, k < 4 → tq k = some (tp k)) ∧ (∀ x y, 0 ≤ x → x < w → 0 ≤ y → y < h → K (y * 12 + x) = Kof mC i (y * 12 + x)) ∧ (∀ k : Nat, k < 4 → LN k = mRE (4 * i + (k : Int))) ∧ (∀ k : Nat, k < 4 → lTap K w h sx sy fx fy (FI k) (LN k) (HF k)) ∧ ∀ k : Nat, k < 4 → ∀ j, 0 ≤ j → j < LN k → FI k j = mKI (100 * (4 * i + (k : Int)) + j)
def lSame (i : Int) (mW mH mC mSX mSY mFX mFY mWY mOP mRE mKI : Int → Int) (mW2 mH2 mC2 mSX2 mSY2 mFX2 mFY2 mWY2 mOP2 mRE2 mKI2 : Int → Int) : Prop := (mW2 i = mW i ∧ mH2 i = mH i ∧ mSX2 i = mSX i ∧ mSY2 i = mSY i ∧ mFX2 i = mFX i ∧ mFY2 i = mFY i ∧ mWY2 i = mWY i ∧ mOP2 i = mOP i) ∧ (∀ j, 0 ≤ j → j < 96 → mC2 (96 * i + j) = mC (96 * i + j)) ∧ (∀ k : Nat, k < 4 → mRE2 (4 * i + (k : Int)) = mRE (4 * i + (k : Int))) ∧ ∀ k : Nat, k < 4 → ∀ j, 0 ≤ j → j < 100 → mKI2 (100 * (4 * i + (k : Int)) + j) = mKI (100 * (4 * i + (k : Int)) + j)
theorem lSame_rf {i : Int} {mW mH mC mSX mSY mFX mFY mWY mOP mRE mKI : Int → Int} : lSame i mW mH mC mSX mSY mFX mFY mWY mOP mRE mKI mW mH mC mSX mSY mFX mFY mWY mOP mRE mKI := ⟨⟨rfl, rfl, rfl, rfl, rfl, rfl, rfl, rfl⟩, fun _ _ _ => rfl, fun _ _ => rfl, fun _ _ _ _ _ => rfl⟩
theorem lTap_rng {K : Int → Int} {w h sx sy fx fy n hf : Int} {FI : Int → Int} (h1 : lTap K w h sx sy fx fy FI n hf) : -1 ≤ n ∧ n ≤ 100 ∧ -1 ≤ hf ∧ hf ≤ 100 := by
  rcases h1 with ⟨a, b⟩ | ⟨a, _, _, _, b⟩
  · omega
  · rcases b with ⟨b, _⟩ | ⟨b, b2, _⟩ <;> omega
theorem lTie_same {mW mH mC mSX mSY mFX mFY mWY mOP mRE mKI : Int → Int} {mW2 mH2 mC2 mSX2 mSY2 mFX2 mFY2 mWY2 mOP2 mRE2 mKI2 : Int → Int} {i : Int} {w : Int} {h : Int} {sx : Int} {sy : Int} {fx : Int} {fy : Int} {lf : Int} {un : Int} {K : Int → Int} {tq : Nat → Option Nat} {tp : Nat → Nat} {LN : Nat → Int} {HF : Nat → Int} {FI : Nat → Int → Int} (hT : lTie mW mH mC mSX mSY mFX mFY mWY mOP mRE mKI i w h sx sy fx fy lf un K tq tp LN HF FI) (hs : lSame i mW mH mC mSX mSY mFX mFY mWY mOP mRE mKI mW2 mH2 mC2 mSX2 mSY2 mFX2 mFY2 mWY2 mOP2 mRE2 mKI2) : lTie mW2 mH2 mC2 mSX2 mSY2 mFX2 mFY2 mWY2 mOP2 mRE2 mKI2 i w h sx sy fx fy lf un K tq tp LN HF FI := by
  obtain ⟨⟨e1, e2, e3, e4, e5, e6, e7, e8⟩, b1, b2, b3, b4, b5, b6, b7, b8, b9, b10, b11, b12⟩ := hT
  obtain ⟨⟨f1, f2, f3, f4, f5, f6, f7, f8⟩, g1, g2, g3⟩ := hs
  refine ⟨⟨by rw [f1]; exact e1, by rw [f2]; exact e2, by rw [f3]; exact e3, by rw [f4]; exact e4, by rw [f5]; exact e5, by rw [f6]; exact e6, by rw [f7]; exact e7, by rw [f8]; exact e8⟩, b1, b2, b3, b4, b5, b6, b7, b8, fun x y x0 x1 y0 y1 => ?_, fun k hk => ?_, b11, fun k hk j j0 j1 => ?_⟩
  · rw [b9 x y x0 x1 y0 y1]
    exact (g1 (y * 12 + x) (by omega) (by omega)).symm
  · rw [g2 k hk]; exact b10 k hk
  · have h1 := lTap_rng (b11 k hk)
    rw [g3 k hk j j0 (by omega)]
    exact b12 k hk j j0 j1
def lLev (D : va_G) (cI cT : ClassId) (s : State) (H : Heap) (own : Nat → Nat) (sf : Nat → Option Nat) (mW mH mC mSX mSY mFX mFY mWY mOP mRE mKI : Int → Int) (i : Nat) : Prop := ∃ (lv : Nat) (w : Int) (h : Int) (ka : Nat) (ta : Nat) (sx : Int) (sy : Int) (fx : Int) (fy : Int) (lf : Int) (un : Int) (K : Int → Int) (tq : Nat → Option Nat) (tp : Nat → Nat) (ti : Nat → Nat) (LN : Nat → Int) (HF : Nat → Int) (FI : Nat → Int → Int), sf i = some lv ∧ va_P D vwCl (lGL cI cT lv w h ka ta sx sy fx fy lf un K tq tp ti LN HF FI) H ∧ va_D (fun q => lG s q ∧ own q = i + 1) (lGL cI cT lv w h ka ta sx sy fx fy lf un K tq tp ti LN HF FI) ∧ lTie mW mH mC mSX mSY mFX mFY mWY mOP mRE mKI (i : Int) w h sx sy fx fy lf un K tq tp LN HF FI
theorem lLev_own {D : va_G} {cI cT : ClassId} {s : State} {H : Heap} {own : Nat → Nat} {sf : Nat → Option Nat} {mW mH mC mSX mSY mFX mFY mWY mOP mRE mKI : Int → Int} {i q : Nat} (hL : lLev D cI cT s H own sf mW mH mC mSX mSY mFX mFY mWY mOP mRE mKI i) (hq : sf i = some q) : own q = i + 1 := by
  obtain ⟨lv, w, h, ka, ta, sx, sy, fx, fy, lf, un, K, tq, tp, ti, LN, HF, FI, h1, h2, h3, h4⟩ := hL
  rw [h1] at hq
  rw [← Option.some.inj hq]
  exact (h3.2 0 _ rfl).2
theorem lKeep {D : va_G} {ws gs : va_W} {Hc H : Heap} {k9 : List Loc} {s : State} {own : Nat → Nat} {g g2 : Nat} (hF : ∀ (j : Nat) (q : Nat × va_E), ws[j]? = some q → own q.1 = 0 ∨ own q.1 = g) (hS : va_S (va_A ws Hc.size) Hc H k9) (hP : va_P D vwCl gs Hc) (hG : va_D (fun q => lG s q ∧ own q = g2 + 1) gs) (hg : g2 + 1 ≠ g) : va_P D vwCl gs H := by
  refine hP.kept (fun k q hk => hS.2.1 q.1 (hP k q hk).lt ?_)
  rintro (⟨j, e, hj⟩ | hge)
  · have a := hF j (q.1, e) hj
    have b := (hG.2 k q hk).2
    have a : own q.1 = 0 ∨ own q.1 = g := a
    omega
  · exact absurd (hP k q hk).lt (Nat.not_lt.mpr hge)
theorem lLev_keep {D : va_G} {cI cT : ClassId} {s : State} {Hc H : Heap} {own own2 : Nat → Nat} {sf sf2 : Nat → Option Nat} {mW mH mC mSX mSY mFX mFY mWY mOP mRE mKI : Int → Int} {mW2 mH2 mC2 mSX2 mSY2 mFX2 mFY2 mWY2 mOP2 mRE2 mKI2 : Int → Int} {ws : va_W} {k9 : List Loc} {g i : Nat} (hF : ∀ (j : Nat) (q : Nat × va_E), ws[j]? = some q → own q.1 = 0 ∨ own q.1 = g) (hS : va_S (va_A ws Hc.size) Hc H k9) (hL : lLev D cI cT s Hc own sf mW mH mC mSX mSY mFX mFY mWY mOP mRE mKI i) (hg : i + 1 ≠ g) (ho : ∀ q, q < Hc.size → own2 q = own q) (hsf : sf2 i = sf i) (hs : lSame (i : Int) mW mH mC mSX mSY mFX mFY mWY mOP mRE mKI mW2 mH2 mC2 mSX2 mSY2 mFX2 mFY2 mWY2 mOP2 mRE2 mKI2) : lLev D cI cT s H own2 sf2 mW2 mH2 mC2 mSX2 mSY2 mFX2 mFY2 mWY2 mOP2 mRE2 mKI2 i := by
  obtain ⟨lv, w, h, ka, ta, sx, sy, fx, fy, lf, un, K, tq, tp, ti, LN, HF, FI, h1, h2, h3, h4⟩ := hL
  refine ⟨lv, w, h, ka, ta, sx, sy, fx, fy, lf, un, K, tq, tp, ti, LN, HF, FI, by rw [hsf]; exact h1, lKeep hF hS h2 h3 hg, ⟨h3.1, fun k q hk => ⟨(h3.2 k q hk).1, ?_⟩⟩, lTie_same h4 hs⟩
  rw [ho q.1 (h2 k q hk).lt]
  exact (h3.2 k q hk).2
theorem lF0 {s : State} {own : Nat → Nat} {ws : va_W} (hG : va_D (fun q => lG s q ∧ own q = 0) ws) : ∀ (j : Nat) (q : Nat × va_E), ws[j]? = some q → own q.1 = 0 ∨ own q.1 = 0 := fun j q hj => Or.inl (hG.2 j q hj).2
theorem lFk {s : State} {own : Nat → Nat} {w1 w2 : va_W} {g : Nat} (hG : va_D (fun q => lG s q ∧ own q = 0) w1) (h2 : va_D (fun q => lG s q ∧ own q = g) w2) : ∀ (j : Nat) (q : Nat × va_E), (w1 ++ w2)[j]? = some q → own q.1 = 0 ∨ own q.1 = g := fun j q hj => by
  rcases List.mem_append.mp (List.mem_of_getElem? hj) with h | h
  · obtain ⟨t, ht⟩ := List.getElem?_of_mem h
    exact Or.inl (hG.2 t q ht).2
  · obtain ⟨t, ht⟩ := List.getElem?_of_mem h
    exact Or.inr (h2.2 t q ht).2
theorem lDk {s : State} {own : Nat → Nat} {w1 w2 : va_W} {g : Nat} (hG : va_D (fun q => lG s q ∧ own q = 0) w1) (h2 : va_D (fun q => lG s q ∧ own q = g + 1) w2) : va_D (lG s) (w1 ++ w2) := gD_app (A := lG s) (own := own) (g := 0) (g2 := g + 1) hG h2 (by omega)
theorem lD0 {s : State} {own : Nat → Nat} {w1 : va_W} (hG : va_D (fun q => lG s q ∧ own q = 0) w1) : va_D (lG s) w1 := hG.weaken (fun _ _ _ h => h.1)
def lPure (mn mp mon mrs mrf : Int) (mW mH mC mSX mSY mFX mFY mWY mOP mRE mKI mIN : Int → Int) : Prop := (0 ≤ mn ∧ mn ≤ 6) ∧ (-1 ≤ mon ∧ mon < mn) ∧ (0 ≤ mp ∧ mp ≤ 3) ∧ (0 ≤ mrs ∧ mrs ≤ 2) ∧ (0 ≤ mrf ∧ mrf ≤ 100) ∧ (∀ i, 0 ≤ i → i < mn → 2 ≤ mW i ∧ mW i ≤ 12) ∧ (∀ i, 0 ≤ i → i < mn → 2 ≤ mH i ∧ mH i ≤ 8) ∧ Kin mC ∧ (∀ j, 96 * mn ≤ j → mC j = 0) ∧ Z32 mSX ∧ Z32 mSY ∧ Z32 mFX ∧ Z32 mFY ∧ Din mWY ∧ B01 mOP ∧ Din mRE ∧ Kin5 mKI ∧ Kin5 mIN
def lRnP (K : Int → Int) (w h sx sy fx fy : Int) (IN : Int → Int) (n r x y z : Int) : Prop := n < 100 ∧ (x, y, z) = smS K w h sx sy IN n.toNat ∧ (∀ j : Nat, (j : Int) < n → smO K w h fx fy sx sy IN j = 0) ∧ hlP K w h sx sy IN n r
theorem hlP_congr {K K2 : Int → Int} {w h sx sy n r : Int} {IN IN2 : Int → Int} (hK : ∀ x y, 0 ≤ x → x < w → 0 ≤ y → y < h → K (y * 12 + x) = K2 (y * 12 + x)) (hI : ∀ j, 0 ≤ j → j < n → IN j = IN2 j) (hr : hlP K w h sx sy IN n r) : hlP K2 w h sx sy IN2 n r := by
  have e : ∀ k : Nat, (k : Int) ≤ n → smS K w h sx sy IN k = smS K2 w h sx sy IN2 k := fun k hk => smS_congr hK k (fun j hj => hI j (by omega) (by omega))
  rcases hr with ⟨a, b⟩ | ⟨a, b, c, d⟩
  · exact Or.inl ⟨a, fun k hk => by rw [← e k hk]; exact b k hk⟩
  · exact Or.inr ⟨a, b, by rw [← e r.toNat (by omega)]; exact c, fun k hk => by rw [← e k (by omega)]; exact d k hk⟩
theorem lRnP_congr {K K2 : Int → Int} {w h sx sy fx fy n r x y z : Int} {IN IN2 : Int → Int} (hK : ∀ x y, 0 ≤ x → x < w → 0 ≤ y → y < h → K (y * 12 + x) = K2 (y * 12 + x)) (hI : ∀ j, 0 ≤ j → j < n → IN j = IN2 j) (hr : lRnP K w h sx sy fx fy IN n r x y z) : lRnP K2 w h sx sy fx fy IN2 n r x y z := by
  obtain ⟨a, b, c, d⟩ := hr
  refine ⟨a, by rw [b]; exact smS_congr hK _ (fun j hj => hI j (by omega) (by omega)), fun j hj => ?_, hlP_congr hK hI d⟩
  rw [← smO_congr (K := K) (K2 := K2) (IN := IN) (IN2 := IN2) hK j (fun q hq => hI q (by omega) (by omega))]
  exact c j hj
def lRun (sf : Nat → Option Nat) (rl : Option Nat) (rp oc hx9 hy9 hl9 rln rhf : Int) (RI : Int → Int) (mp mon mrx mry mrl mrs mrf : Int) (mW mH mC mSX mSY mFX mFY mIN : Int → Int) : Prop := (mon = -1 ∧ rl = none) ∨ (0 ≤ mon ∧ rl = sf mon.toNat ∧ (mp = rp ∧ mrs = oc ∧ mrf = rln ∧ mrx = hx9 ∧ mry = hy9 ∧ mrl = hl9) ∧ (∀ j, 0 ≤ j → j < mrf → RI j = mIN j) ∧ (mrs = 0 → lRnP (Kof mC mon) (mW mon) (mH mon) (mSX mon) (mSY mon) (mFX mon) (mFY mon) mIN mrf rhf mrx mry mrl))
theorem lRun_same {sf sf2 : Nat → Option Nat} {rl : Option Nat} {rp oc hx9 hy9 hl9 rln rhf : Int} {RI : Int → Int} {mp mon mrx mry mrl mrs mrf : Int} {mIN : Int → Int} {mW mH mC mSX mSY mFX mFY mWY mOP mRE mKI : Int → Int} {mW2 mH2 mC2 mSX2 mSY2 mFX2 mFY2 mWY2 mOP2 mRE2 mKI2 : Int → Int} (hw : 0 ≤ mon → mW mon ≤ 12 ∧ mH mon ≤ 8) (hs : 0 ≤ mon → lSame mon mW mH mC mSX mSY mFX mFY mWY mOP mRE mKI mW2 mH2 mC2 mSX2 mSY2 mFX2 mFY2 mWY2 mOP2 mRE2 mKI2) (hsf : 0 ≤ mon → sf2 mon.toNat = sf mon.toNat) (hR : lRun sf rl rp oc hx9 hy9 hl9 rln rhf RI mp mon mrx mry mrl mrs mrf mW mH mC mSX mSY mFX mFY mIN) : lRun sf2 rl rp oc hx9 hy9 hl9 rln rhf RI mp mon mrx mry mrl mrs mrf mW2 mH2 mC2 mSX2 mSY2 mFX2 mFY2 mIN := by
  rcases hR with hR | ⟨a, b, c, d, f⟩
  · exact Or.inl hR
  · obtain ⟨⟨f1, f2, f3, f4, f5, f6, f7, f8⟩, g1, g2, g3⟩ := hs a
    have hb := hw a
    refine Or.inr ⟨a, by rw [hsf a]; exact b, c, d, fun h0 => ?_⟩
    rw [f1, f2, f3, f4, f5, f6]
    exact lRnP_congr (fun x y x0 x1 y0 y1 => (g1 (y * 12 + x) (by omega) (by omega)).symm) (fun _ _ _ => rfl) (f h0)
theorem lRun_edit {sf : Nat → Option Nat} {rl rl1 : Option Nat} {rp oc hx9 hy9 hl9 rln rhf : Int} {RI : Int → Int} {mp mon mrx mry mrl mrs mrf on1 L : Int} {mIN : Int → Int} {k lv : Nat} {mW mH mC mSX mSY mFX mFY mWY mOP mRE mKI : Int → Int} {mW2 mH2 mC2 mSX2 mSY2 mFX2 mFY2 mWY2 mOP2 mRE2 mKI2 : Int → Int} (hk : L = (k : Int)) (hf : sf k = some lv) (hinj : ∀ i : Nat, (i : Int) = mon → sf i = some lv → i = k) (h1 : rl1 = if rl = some lv then none else rl) (h2 : on1 = if mon = L then -1 else mon) (hw : 0 ≤ mon → mW mon ≤ 12 ∧ mH mon ≤ 8) (hs : 0 ≤ mon → mon ≠ L → lSame mon mW mH mC mSX mSY mFX mFY mWY mOP mRE mKI mW2 mH2 mC2 mSX2 mSY2 mFX2 mFY2 mWY2 mOP2 mRE2 mKI2) (hR : lRun sf rl rp oc hx9 hy9 hl9 rln rhf RI mp mon mrx mry mrl mrs mrf mW mH mC mSX mSY mFX mFY mIN) : lRun sf rl1 rp oc hx9 hy9 hl9 rln rhf RI mp on1 mrx mry mrl mrs mrf mW2 mH2 mC2 mSX2 mSY2 mFX2 mFY2 mIN := by
  by_cases c1 : mon = L
  · rw [if_pos c1] at h2
    refine Or.inl ⟨h2, ?_⟩
    rcases hR with ⟨a, b⟩ | ⟨a, b, _⟩
    · omega
    · rw [h1, if_pos (by rw [b, show mon.toNat = k by omega, hf])]
  · rw [if_neg c1] at h2
    have hrl : rl1 = rl := by
      rcases hR with ⟨a, b⟩ | ⟨a, b, _⟩
      · rw [h1, b]; split <;> rfl
      · rw [h1, if_neg (fun h => c1 (by have := hinj mon.toNat (by omega) (by rw [← b]; exact h); omega))]
    rw [hrl, h2]
    exact lRun_same hw (fun h => hs h c1) (fun _ => rfl) hR
def lRel (s : State) (D : va_G) (cI cZ cL cT cJ : ClassId) (sl : Nat) (sh : Nat) (ru : Nat) (tr : Nat) (se : Nat) (rh : Nat) (rt : Nat) (ri : Nat) (de : Nat) (fi : Nat) (qu : Nat) (pr : Nat) (ou : Nat) (mo : Nat) (ad : Nat → Nat) (H : Heap) : Prop := ∃ (own : Nat → Nat) (sf : Nat → Option Nat) (rl : Option Nat) (rp : Int) (oc : Int) (hx9 : Int) (hy9 : Int) (hl9 : Int) (rln : Int) (rhf : Int) (tx : Int) (ty : Int) (tl : Int) (qd : Int) (s1 : Int) (s2 : Int) (qx : Int) (qy : Int) (ql : Int) (RI : Int → Int) (DD : Int → Int) (FF : Int → Int) (QQ : Int → Int) (OU : Nat → Int64) (mn : Int) (mp : Int) (mon : Int) (mrx : Int) (mry : Int) (mrl : Int) (mrs : Int) (mrf : Int) (mx : Int) (my : Int) (ml : Int) (mst : Int) (mla : Int) (mW : Int → Int) (mH : Int → Int) (mC : Int → Int) (mSX : Int → Int) (mSY : Int → Int) (mFX : Int → Int) (mFY : Int → Int) (mWY : Int → Int) (mOP : Int → Int) (mRE : Int → Int) (mKI : Int → Int) (mIN : Int → Int) (mSE : Int → Int) (mHE : Int → Int) (mNE : Int → Int), va_S (lG s) s.heap H [] ∧ va_P D vwCl (lW0 cI cZ cL cT cJ sl sh ru tr se rh rt ri de fi qu pr ou mo ad sf rl rp oc hx9 hy9 hl9 rln rhf tx ty tl qd s1 s2 qx qy ql RI DD FF QQ OU mn mp mon mrx mry mrl mrs mrf mx my ml mst mla mW mH mC mSX mSY mFX mFY mWY mOP mRE mKI mIN mSE mHE mNE) H ∧ va_D (fun q => lG s q ∧ own q = 0) (lW0 cI cZ cL cT cJ sl sh ru tr se rh rt ri de fi qu pr ou mo ad sf rl rp oc hx9 hy9 hl9 rln rhf tx ty tl qd s1 s2 qx qy ql RI DD FF QQ OU mn mp mon mrx mry mrl mrs mrf mx my ml mst mla mW mH mC mSX mSY mFX mFY mWY mOP mRE mKI mIN mSE mHE mNE) ∧ lPure mn mp mon mrs mrf mW mH mC mSX mSY mFX mFY mWY mOP mRE mKI mIN ∧ (Din DD ∧ Fin6 FF ∧ B01 mSE) ∧ lRun sf rl rp oc hx9 hy9 hl9 rln rhf RI mp mon mrx mry mrl mrs mrf mW mH mC mSX mSY mFX mFY mIN ∧ (∀ i : Nat, (i : Int) < mn → lLev D cI cT s H own sf mW mH mC mSX mSY mFX mFY mWY mOP mRE mKI i) ∧ ∀ i : Nat, mn ≤ (i : Int) → sf i = none
theorem lNo {sf : Nat → Option Nat} {mn L : Int} (h : ∀ i : Nat, mn ≤ (i : Int) → sf i = none) (hL : ¬ (0 ≤ L ∧ L < mn)) : L < 0 ∨ 6 ≤ L ∨ ∃ k : Nat, L = (k : Int) ∧ k < 6 ∧ sf k = none := by
  by_cases c1 : L < 0
  · exact Or.inl c1
  · by_cases c2 : 6 ≤ L
    · exact Or.inr (Or.inl c2)
    · exact Or.inr (Or.inr ⟨L.toNat, by omega, by omega, h _ (by omega)⟩)
theorem kd_congr {K K2 : Int → Int} {w h : Int} (hK : ∀ x y, 0 ≤ x → x < w → 0 ≤ y → y < h → K (y * 12 + x) = K2 (y * 12 + x)) (x y : Int) : kd K w h x y = kd K2 w h x y := by
  unfold kd
  by_cases c : 0 ≤ x ∧ x < w ∧ 0 ≤ y ∧ y < h
  · rw [if_pos c, if_pos c, hK x y c.1 c.2.1 c.2.2.1 c.2.2.2]
  · rw [if_neg c, if_neg c]
theorem zu_at {F : Int → Int} {k v i : Int} (h : i = k) : zu F k v i = v := by rw [h, zu_same]
theorem Z32_zu {F : Int → Int} {k v : Int} (h : Z32 F) (hv : -2147483648 ≤ v ∧ v < 2147483648) : Z32 (zu F k v) := fun i => by
  unfold zu
  split
  · exact hv
  · exact h i
theorem lTap_gO {K K2 : Int → Int} {w h sx sy fx fy n hf : Int} {FI IN : Int → Int} (hT : lTap K w h sx sy fx fy FI n hf) (hK : ∀ x y, 0 ≤ x → x < w → 0 ≤ y → y < h → K (y * 12 + x) = K2 (y * 12 + x)) (hI : ∀ j, 0 ≤ j → j < n → FI j = IN j) : ∀ k : Nat, (k : Int) < n → ¬ smO K2 w h fx fy sx sy IN k = 1 := by
  intro k hk
  rw [← smO_congr (K := K) (K2 := K2) (IN := FI) (IN2 := IN) hK k (fun j hj => hI j (by omega) (by omega))]
  rcases hT with ⟨a, _⟩ | ⟨_, _, c, d, _⟩
  · omega
  · rcases Int.lt_or_le (k : Int) (n - 1) with q | q
    · rw [c k q]; decide
    · rw [show k = (n - 1).toNat by omega, d]; decide
