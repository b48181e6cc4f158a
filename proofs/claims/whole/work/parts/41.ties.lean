/-! what editing, records and frames do to the tie -/
theorem RE4_ne {R : Int → Int} {L j : Int} (h : ¬ (4 * L ≤ j ∧ j < 4 * L + 4)) : (zu (zu (zu (zu R (4 * L) (-1)) (4 * L + 1) (-1)) (4 * L + 2) (-1)) (4 * L + 3) (-1)) j = R j := by
  rw [zu_ne _ _ (by omega), zu_ne _ _ (by omega), zu_ne _ _ (by omega), zu_ne _ _ (by omega)]
theorem RE4_eq {R : Int → Int} {L j : Int} (h : 4 * L ≤ j ∧ j < 4 * L + 4) : (zu (zu (zu (zu R (4 * L) (-1)) (4 * L + 1) (-1)) (4 * L + 2) (-1)) (4 * L + 3) (-1)) j = -1 := by
  unfold zu
  by_cases c1 : j = 4 * L + 3
  · rw [if_pos c1]
  · rw [if_neg c1]
    by_cases c2 : j = 4 * L + 2
    · rw [if_pos c2]
    · rw [if_neg c2]
      by_cases c3 : j = 4 * L + 1
      · rw [if_pos c3]
      · rw [if_neg c3, if_pos (by omega)]
theorem Din_RE4 {R : Int → Int} {L : Int} (h : Din R) : Din (zu (zu (zu (zu R (4 * L) (-1)) (4 * L + 1) (-1)) (4 * L + 2) (-1)) (4 * L + 3) (-1)) := Din_zu (Din_zu (Din_zu (Din_zu h (by omega)) (by omega)) (by omega)) (by omega)
theorem lSame_ed {i L : Int} {mW mH mC mSX mSY mFX mFY mWY mOP mRE mKI : Int → Int} {mW2 mH2 mC2 mSX2 mSY2 mFX2 mFY2 : Int → Int} (hi : i ≠ L) (e1 : mW2 i = mW i) (e2 : mH2 i = mH i) (e3 : mSX2 i = mSX i) (e4 : mSY2 i = mSY i) (e5 : mFX2 i = mFX i) (e6 : mFY2 i = mFY i) (hC : ∀ j, 0 ≤ j → j < 96 → mC2 (96 * i + j) = mC (96 * i + j)) : lSame i mW mH mC mSX mSY mFX mFY mWY mOP mRE mKI mW2 mH2 mC2 mSX2 mSY2 mFX2 mFY2 (zu mWY L (-1)) (zu mOP L 0) (zu (zu (zu (zu mRE (4 * L) (-1)) (4 * L + 1) (-1)) (4 * L + 2) (-1)) (4 * L + 3) (-1)) mKI :=
  ⟨⟨e1, e2, e3, e4, e5, e6, zu_ne _ _ hi, zu_ne _ _ hi⟩, hC, fun k hk => RE4_ne (by omega), fun _ _ _ _ _ => rfl⟩
theorem lSame_wo {i : Int} {mW mH mC mSX mSY mFX mFY mWY mOP mRE mKI : Int → Int} {mWY2 mOP2 : Int → Int} (e1 : mWY2 i = mWY i) (e2 : mOP2 i = mOP i) : lSame i mW mH mC mSX mSY mFX mFY mWY mOP mRE mKI mW mH mC mSX mSY mFX mFY mWY2 mOP2 mRE mKI :=
  ⟨⟨rfl, rfl, rfl, rfl, rfl, rfl, e1, e2⟩, fun _ _ _ => rfl, fun _ _ => rfl, fun _ _ _ _ _ => rfl⟩
theorem lSame_re {i : Int} {mW mH mC mSX mSY mFX mFY mWY mOP mRE mKI : Int → Int} {mRE2 mKI2 : Int → Int} (e1 : ∀ k : Nat, k < 4 → mRE2 (4 * i + (k : Int)) = mRE (4 * i + (k : Int))) (e2 : ∀ k : Nat, k < 4 → ∀ j, 0 ≤ j → j < 100 → mKI2 (100 * (4 * i + (k : Int)) + j) = mKI (100 * (4 * i + (k : Int)) + j)) : lSame i mW mH mC mSX mSY mFX mFY mWY mOP mRE mKI mW mH mC mSX mSY mFX mFY mWY mOP mRE2 mKI2 :=
  ⟨⟨rfl, rfl, rfl, rfl, rfl, rfl, rfl, rfl⟩, fun _ _ _ => rfl, e1, e2⟩
theorem lTie_void {mW mH mC mSX mSY mFX mFY mWY mOP mRE mKI : Int → Int} {i L : Int} {w h sx sy fx fy : Int} {K : Int → Int} {tq : Nat → Option Nat} {tp : Nat → Nat} {FI : Nat → Int → Int} (hi : i = L) (e1 : w = mW i) (e2 : h = mH i) (e3 : sx = mSX i) (e4 : sy = mSY i) (e5 : fx = mFX i) (e6 : fy = mFY i) (b1 : 2 ≤ w ∧ w ≤ 12) (b2 : 2 ≤ h ∧ h ≤ 8) (b3 : 0 ≤ sx ∧ sx < w) (b4 : 0 ≤ sy ∧ sy < h) (b5 : 0 ≤ fx ∧ fx < w) (b6 : 0 ≤ fy ∧ fy < h) (b7 : Kin K) (b8 : ∀ k, k < 4 → tq k = some (tp k)) (b9 : ∀ x y, 0 ≤ x → x < w → 0 ≤ y → y < h → K (y * 12 + x) = Kof mC i (y * 12 + x)) : lTie mW mH mC mSX mSY mFX mFY (zu mWY L (-1)) (zu mOP L 0) (zu (zu (zu (zu mRE (4 * L) (-1)) (4 * L + 1) (-1)) (4 * L + 2) (-1)) (4 * L + 3) (-1)) mKI i w h sx sy fx fy (-1) 0 K tq tp (fun _ => -1) (fun _ => -1) FI :=
  ⟨⟨e1, e2, e3, e4, e5, e6, (zu_at hi).symm, (zu_at hi).symm⟩, b1, b2, b3, b4, b5, b6, b7, b8, b9, fun k hk => (RE4_eq (by omega)).symm, fun _ _ => Or.inl ⟨rfl, rfl⟩, fun _ _ j j0 j1 => absurd j1 (by show ¬ j < -1; omega)⟩
theorem lTie_wo {mW mH mC mSX mSY mFX mFY mWY mOP mRE mKI : Int → Int} {mWY2 mOP2 : Int → Int} {i lf2 un2 : Int} {w : Int} {h : Int} {sx : Int} {sy : Int} {fx : Int} {fy : Int} {lf : Int} {un : Int} {K : Int → Int} {tq : Nat → Option Nat} {tp : Nat → Nat} {LN : Nat → Int} {HF : Nat → Int} {FI : Nat → Int → Int} (hT : lTie mW mH mC mSX mSY mFX mFY mWY mOP mRE mKI i w h sx sy fx fy lf un K tq tp LN HF FI) (e1 : lf2 = mWY2 i) (e2 : un2 = mOP2 i) : lTie mW mH mC mSX mSY mFX mFY mWY2 mOP2 mRE mKI i w h sx sy fx fy lf2 un2 K tq tp LN HF FI := by
  obtain ⟨⟨a1, a2, a3, a4, a5, a6, a7, a8⟩, b⟩ := hT
  exact ⟨⟨a1, a2, a3, a4, a5, a6, e1, e2⟩, b⟩
theorem lTie_rec {mW mH mC mSX mSY mFX mFY mWY mOP mRE mKI : Int → Int} {mRE2 mKI2 : Int → Int} {i n hf : Int} {F1 : Int → Int} {kk : Nat} {w : Int} {h : Int} {sx : Int} {sy : Int} {fx : Int} {fy : Int} {lf : Int} {un : Int} {K : Int → Int} {tq : Nat → Option Nat} {tp : Nat → Nat} {LN : Nat → Int} {HF : Nat → Int} {FI : Nat → Int → Int} (hT : lTie mW mH mC mSX mSY mFX mFY mWY mOP mRE mKI i w h sx sy fx fy lf un K tq tp LN HF FI) (hk : kk < 4) (hA : lTap K w h sx sy fx fy F1 n hf) (hR : ∀ k : Nat, k < 4 → mRE2 (4 * i + (k : Int)) = if k = kk then n else mRE (4 * i + (k : Int))) (hK1 : ∀ j, 0 ≤ j → j < n → F1 j = mKI2 (100 * (4 * i + (kk : Int)) + j)) (hK2 : ∀ k : Nat, k < 4 → k ≠ kk → ∀ j, 0 ≤ j → j < 100 → mKI2 (100 * (4 * i + (k : Int)) + j) = mKI (100 * (4 * i + (k : Int)) + j)) : lTie mW mH mC mSX mSY mFX mFY mWY mOP mRE2 mKI2 i w h sx sy fx fy lf un K tq tp (fun q9 => if q9 = kk then n else LN q9) (fun q9 => if q9 = kk then hf else HF q9) (fun q9 => if q9 = kk then F1 else FI q9) := by
  obtain ⟨a, b1, b2, b3, b4, b5, b6, b7, b8, b9, b10, b11, b12⟩ := hT
  refine ⟨a, b1, b2, b3, b4, b5, b6, b7, b8, b9, fun k h4 => ?_, fun k h4 => ?_, fun k h4 j j0 j1 => ?_⟩
  · show (if k = kk then n else LN k) = _
    rw [hR k h4, b10 k h4]
  · show lTap K w h sx sy fx fy (if k = kk then F1 else FI k) (if k = kk then n else LN k) (if k = kk then hf else HF k)
    by_cases c : k = kk
    · rw [if_pos c, if_pos c, if_pos c]; exact hA
    · rw [if_neg c, if_neg c, if_neg c]; exact b11 k h4
  · have j1 : j < (if k = kk then n else LN k) := j1
    show (if k = kk then F1 else FI k) j = _
    by_cases c : k = kk
    · rw [if_pos c] at j1 ⊢
      rw [c]
      exact hK1 j j0 j1
    · rw [if_neg c] at j1 ⊢
      have h1 := lTap_rng (b11 k h4)
      rw [hK2 k h4 c j j0 (by omega)]
      exact b12 k h4 j j0 j1
theorem lTie_gO {mW mH mC mSX mSY mFX mFY mWY mOP mRE mKI : Int → Int} {i : Int} {w : Int} {h : Int} {sx : Int} {sy : Int} {fx : Int} {fy : Int} {lf : Int} {un : Int} {K : Int → Int} {tq : Nat → Option Nat} {tp : Nat → Nat} {LN : Nat → Int} {HF : Nat → Int} {FI : Nat → Int → Int} (hT : lTie mW mH mC mSX mSY mFX mFY mWY mOP mRE mKI i w h sx sy fx fy lf un K tq tp LN HF FI) (q : Int) (h0 : 0 ≤ q) (h1 : q ≤ 3) : ∀ k : Nat, (k : Int) < mRE (4 * i + q) → ¬ smO (Kof mC i) (mW i) (mH i) (mFX i) (mFY i) (mSX i) (mSY i) (fun kz => mKI (100 * (4 * i + q) + kz)) k = 1 := by
  obtain ⟨⟨rfl, rfl, rfl, rfl, rfl, rfl, a7, a8⟩, b1, b2, b3, b4, b5, b6, b7, b8, b9, b10, b11, b12⟩ := hT
  obtain ⟨kk, rfl⟩ : ∃ kk : Nat, q = (kk : Int) := ⟨q.toNat, by omega⟩
  rw [← b10 kk (by omega)]
  exact lTap_gO (b11 kk (by omega)) b9 (fun j j0 j1 => b12 kk (by omega) j j0 j1)
theorem lTap_hf {K K2 : Int → Int} {w h sx sy fx fy n hf rr : Int} {FI IN : Int → Int} (hT : lTap K w h sx sy fx fy FI n hf) (hK : ∀ x y, 0 ≤ x → x < w → 0 ≤ y → y < h → K (y * 12 + x) = K2 (y * 12 + x)) (hI : ∀ j, 0 ≤ j → j < n → FI j = IN j) (hr : hlP K2 w h sx sy IN n rr) : hf = rr := by
  rcases hT with ⟨a, b⟩ | ⟨_, _, _, _, b⟩
  · rcases hr with ⟨c, _⟩ | ⟨c, d, _⟩
    · omega
    · omega
  · exact hlP_uniq (hlP_congr hK hI b) hr
theorem lTie_hf {mW mH mC mSX mSY mFX mFY mWY mOP mRE mKI : Int → Int} {i q rr : Int} {w : Int} {h : Int} {sx : Int} {sy : Int} {fx : Int} {fy : Int} {lf : Int} {un : Int} {K : Int → Int} {tq : Nat → Option Nat} {tp : Nat → Nat} {LN : Nat → Int} {HF : Nat → Int} {FI : Nat → Int → Int} (hT : lTie mW mH mC mSX mSY mFX mFY mWY mOP mRE mKI i w h sx sy fx fy lf un K tq tp LN HF FI) (k : Nat) (hk : k < 4) (hq : q = (k : Int)) (hr : hlP (Kof mC i) (mW i) (mH i) (mSX i) (mSY i) (fun kz => mKI (100 * (4 * i + q) + kz)) (mRE (4 * i + q)) rr) : HF k = rr := by
  obtain ⟨⟨rfl, rfl, rfl, rfl, rfl, rfl, a7, a8⟩, b1, b2, b3, b4, b5, b6, b7, b8, b9, b10, b11, b12⟩ := hT
  subst hq
  rw [← b10 k hk] at hr
  exact lTap_hf (b11 k hk) b9 (fun j j0 j1 => b12 k hk j j0 j1) hr
theorem lTie_ln {mW mH mC mSX mSY mFX mFY mWY mOP mRE mKI : Int → Int} {i q : Int} {w : Int} {h : Int} {sx : Int} {sy : Int} {fx : Int} {fy : Int} {lf : Int} {un : Int} {K : Int → Int} {tq : Nat → Option Nat} {tp : Nat → Nat} {LN : Nat → Int} {HF : Nat → Int} {FI : Nat → Int → Int} (hT : lTie mW mH mC mSX mSY mFX mFY mWY mOP mRE mKI i w h sx sy fx fy lf un K tq tp LN HF FI) (k : Nat) (hk : k < 4) (hq : q = (k : Int)) : LN k = mRE (4 * i + q) := by
  rw [hq]
  exact hT.2.2.2.2.2.2.2.2.2.2.1 k hk
theorem lTie_gh {mW mH mC mSX mSY mFX mFY mWY mOP mRE mKI : Int → Int} {i q n1 n2 : Int} {w : Int} {h : Int} {sx : Int} {sy : Int} {fx : Int} {fy : Int} {lf : Int} {un : Int} {K : Int → Int} {tq : Nat → Option Nat} {tp : Nat → Nat} {LN : Nat → Int} {HF : Nat → Int} {FI : Nat → Int → Int} (hT : lTie mW mH mC mSX mSY mFX mFY mWY mOP mRE mKI i w h sx sy fx fy lf un K tq tp LN HF FI) (k : Nat) (hk : k < 4) (hq : q = (k : Int)) (hn : n1 = n2) : smS K w h sx sy (FI k) (min n1 (LN k)).toNat = smS (Kof mC i) (mW i) (mH i) (mSX i) (mSY i) (fun kz => mKI (100 * (4 * i + q) + kz)) (min (mRE (4 * i + q)) n2).toNat := by
  have hl := lTie_ln hT k hk hq
  obtain ⟨⟨rfl, rfl, rfl, rfl, rfl, rfl, a7, a8⟩, b1, b2, b3, b4, b5, b6, b7, b8, b9, b10, b11, b12⟩ := hT
  rw [← hl, show min n1 (LN k) = min (LN k) n2 by omega]
  refine smS_congr b9 _ (fun j hj => ?_)
  rw [hq]
  exact b12 k hk j (by omega) (by omega)
theorem mbt_rng {v u n b : Int} (hb : -1 ≤ b ∧ b ≤ 3) (hn : 0 ≤ n ∧ n ≤ 3) : -1 ≤ mbt v u n b ∧ mbt v u n b ≤ 3 := by
  unfold mbt
  split <;> omega
theorem mb4_rng {R : Int → Int} {L : Int} : -1 ≤ mb4 R L ∧ mb4 R L ≤ 3 := by
  have h1 : -1 ≤ mb1 R L ∧ mb1 R L ≤ 3 := mbt_rng (by decide) (by decide)
  have h2 : -1 ≤ mb2 R L ∧ mb2 R L ≤ 3 := mbt_rng h1 (by decide)
  have h3 : -1 ≤ mb3 R L ∧ mb3 R L ≤ 3 := mbt_rng h2 (by decide)
  exact mbt_rng h3 (by decide)
theorem lTie_bp {mW mH mC mSX mSY mFX mFY mWY mOP mRE mKI : Int → Int} {i : Int} {w : Int} {h : Int} {sx : Int} {sy : Int} {fx : Int} {fy : Int} {lf : Int} {un : Int} {K : Int → Int} {tq : Nat → Option Nat} {tp : Nat → Nat} {LN : Nat → Int} {HF : Nat → Int} {FI : Nat → Int → Int} (gR : Din mRE) (hT : lTie mW mH mC mSX mSY mFX mFY mWY mOP mRE mKI i w h sx sy fx fy lf un K tq tp LN HF FI) : (bp4 LN).1 = mb4 mRE i ∧ (¬ mb4 mRE i = -1 → ¬ mRE (4 * i + mb4 mRE i) = -1) :=
  bp4_mb4 gR ((lTie_ln hT 0 (by decide) (q := 0) rfl).trans (congrArg mRE (by omega))) (lTie_ln hT 1 (by decide) (q := 1) rfl) (lTie_ln hT 2 (by decide) (q := 2) rfl) (lTie_ln hT 3 (by decide) (q := 3) rfl)
theorem lRnP_rng {K : Int → Int} {w h sx sy fx fy n r x y z : Int} {IN : Int → Int} (b3 : 0 ≤ sx ∧ sx < w) (b4 : 0 ≤ sy ∧ sy < h) (h0 : 0 ≤ n) (hr : lRnP K w h sx sy fx fy IN n r x y z) : (0 ≤ x ∧ x < w) ∧ (0 ≤ y ∧ y < h) ∧ (0 ≤ z ∧ z ≤ 4) := by
  obtain ⟨a, b, c, d⟩ := hr
  have q := smS_rng (fx := fx) (fy := fy) (IN := IN) (K := K) b3 b4 n.toNat (fun j hj => by rw [c j (by omega)]; decide)
  rw [← b] at q
  exact q
theorem lRnP_next {K : Int → Int} {w h sx sy fx fy n r x y z i x1 y1 l1 : Int} {IN : Int → Int} (h0 : 0 ≤ n) (hr : lRnP K w h sx sy fx fy IN n r x y z) (e1 : x1 = mvX K w h x y i) (e2 : y1 = mvY K w h x y z i) (e3 : l1 = mvL K w h x y z i) :
    (∀ j : Nat, (j : Int) < n → smO K w h fx fy sx sy (zu IN n i) j = 0) ∧ smO K w h fx fy sx sy (zu IN n i) n.toNat = mvO K w h fx fy x y z i ∧ (x1, y1, l1) = smS K w h sx sy (zu IN n i) (n + 1).toNat ∧ hlP K w h sx sy (zu IN n i) (n + 1) (ncF r (n + 1) x1 w) := by
  obtain ⟨a, b, c, d⟩ := hr
  have hI : ∀ j : Int, 0 ≤ j → j < n → IN j = zu IN n i j := fun j _ hj => (zu_ne _ _ (by omega)).symm
  have s0 : smS K w h sx sy (zu IN n i) n.toNat = (x, y, z) := by
    rw [b]
    exact (smS_congr (fun _ _ _ _ _ _ => rfl) _ (fun j hj => hI j (by omega) (by omega))).symm
  have s1 : (x1, y1, l1) = smS K w h sx sy (zu IN n i) (n + 1).toNat := by
    rw [show (n + 1).toNat = n.toNat + 1 by omega, smS, s0, Int.toNat_of_nonneg h0, zu_same, e1, e2, e3]
  refine ⟨fun j hj => ?_, ?_, s1, ?_⟩
  · rw [← smO_congr (K := K) (K2 := K) (IN := IN) (IN2 := zu IN n i) (fun _ _ _ _ _ _ => rfl) j (fun q hq => hI q (by omega) (by omega))]
    exact c j hj
  · unfold smO
    rw [s0, Int.toNat_of_nonneg h0, zu_same]
  · have hx : x1 = (smS K w h sx sy (zu IN n i) (n + 1).toNat).1 := congrArg Prod.fst s1
    rw [hx]
    exact hlP_next h0 (hlP_congr (fun _ _ _ _ _ _ => rfl) hI d)
theorem Kin5_ki {mKI mKI2 IN : Int → Int} {a n : Int} (h1 : Kin5 mKI) (h2 : Kin5 IN) (e1 : ∀ k, 0 ≤ k → k < n → mKI2 (a + k) = IN k) (e2 : ∀ j, ¬ (a ≤ j ∧ j < a + n) → mKI2 j = mKI j) : Kin5 mKI2 := fun j => by
  by_cases c : a ≤ j ∧ j < a + n
  · have := e1 (j - a) (by omega) (by omega)
    rw [show a + (j - a) = j by omega] at this
    rw [this]
    exact h2 _
  · rw [e2 j c]
    exact h1 j
theorem zu_agree {F G : Int → Int} {n v : Int} (h : ∀ j, 0 ≤ j → j < n → F j = G j) : ∀ j, 0 ≤ j → j < n + 1 → zu F n v j = zu G n v j := fun j j0 j1 => by
  by_cases c : j = n
  · rw [zu_at c, zu_at c]
  · rw [zu_ne _ _ c, zu_ne _ _ c]
    exact h j j0 (by omega)
theorem lPlay_o {X n o1 o2 rs : Int} (h1 : o1 = if X = 0 ∧ 100 ≤ n + 1 then 1 else X) (h2 : rs = if o2 = 0 ∧ n + 1 = 100 then 1 else o2) (h3 : o2 = X) (hn : n < 100) (hX : 0 ≤ X ∧ X ≤ 2) : o1 = rs ∧ (0 ≤ rs ∧ rs ≤ 2) ∧ (rs = 0 → X = 0 ∧ n + 1 < 100) ∧ (o1 = 2 → X = 2) ∧ (X = 2 → o1 = 2) := by
  by_cases c : X = 0 ∧ n + 1 = 100
  · rw [if_pos (by omega)] at h1
    rw [h3, if_pos c] at h2
    exact ⟨by omega, by omega, fun _ => by omega, fun _ => by omega, fun _ => by omega⟩
  · rw [if_neg (by omega)] at h1
    rw [h3, if_neg c] at h2
    exact ⟨by omega, by omega, fun _ => by omega, fun _ => by omega, fun _ => by omega⟩
theorem lRnP_step {K : Int → Int} {w h sx sy fx fy n r r2 x y z i x1 y1 l1 : Int} {IN : Int → Int} (h0 : 0 ≤ n) (hr : lRnP K w h sx sy fx fy IN n r x y z) (e1 : x1 = mvX K w h x y i) (e2 : y1 = mvY K w h x y z i) (e3 : l1 = mvL K w h x y z i) (hX : mvO K w h fx fy x y z i = 0) (hn : n + 1 < 100) (hh : r2 = ncF r (n + 1) x1 w) : lRnP K w h sx sy fx fy (zu IN n i) (n + 1) r2 x1 y1 l1 := by
  obtain ⟨p1, p2, p3, p4⟩ := lRnP_next h0 hr e1 e2 e3
  refine ⟨hn, p3, fun j hj => ?_, by rw [hh]; exact p4⟩
  by_cases c : (j : Int) < n
  · exact p1 j c
  · rw [show j = n.toNat by omega, p2]
    exact hX
theorem lTap_win {K : Int → Int} {w h sx sy fx fy n r hf x y z i x1 y1 l1 : Int} {IN F1 : Int → Int} (h0 : 0 ≤ n) (hn : n < 100) (hi : 0 ≤ i ∧ i ≤ 5) (hIN : Kin5 IN) (hr : lRnP K w h sx sy fx fy IN n r x y z) (e1 : x1 = mvX K w h x y i) (e2 : y1 = mvY K w h x y z i) (e3 : l1 = mvL K w h x y z i) (hX : mvO K w h fx fy x y z i = 2) (hF : ∀ j, 0 ≤ j → j < n + 1 → F1 j = zu IN n i j) (hh : hf = ncF r (n + 1) x1 w) : lTap K w h sx sy fx fy F1 (n + 1) hf := by
  obtain ⟨p1, p2, p3, p4⟩ := lRnP_next h0 hr e1 e2 e3
  have cO : ∀ j : Nat, (j : Int) < n + 1 → smO K w h fx fy sx sy F1 j = smO K w h fx fy sx sy (zu IN n i) j := fun j hj => smO_congr (fun _ _ _ _ _ _ => rfl) j (fun q hq => hF q (by omega) (by omega))
  refine Or.inr ⟨⟨by omega, by omega⟩, fun j j0 j1 => ?_, fun j hj => ?_, ?_, ?_⟩
  · rw [hF j j0 j1]
    exact Kin5_zu hIN hi j
  · rw [cO j (by omega)]
    exact p1 j (by omega)
  · rw [show (n + 1 - 1).toNat = n.toNat by omega, cO n.toNat (by omega), p2]
    exact hX
  · rw [hh]
    exact hlP_congr (fun _ _ _ _ _ _ => rfl) (fun j j0 j1 => (hF j j0 j1).symm) p4
theorem lCell {K mC : Int → Int} {L i w h cx cy v : Int} (hi : i = L) (gx : 0 ≤ cx ∧ cx < 12) (hw : w ≤ 12) (hK : ∀ x y, 0 ≤ x → x < w → 0 ≤ y → y < h → K (y * 12 + x) = Kof mC L (y * 12 + x)) : ∀ x y, 0 ≤ x → x < w → 0 ≤ y → y < h → zu K (cy * 12 + cx) v (y * 12 + x) = Kof (zu mC (96 * L + 12 * cy + cx) v) i (y * 12 + x) := fun x y x0 x1 y0 y1 => by
  show _ = zu mC (96 * L + 12 * cy + cx) v (96 * i + (y * 12 + x))
  rw [hi]
  by_cases c : y * 12 + x = cy * 12 + cx
  · rw [zu_at c, zu_at (by omega)]
  · rw [zu_ne _ _ c, zu_ne _ _ (by omega)]
    exact hK x y x0 x1 y0 y1
theorem lNew {ws W0 W1 : va_W} {sz : Nat} (hD : va_D (va_A ws sz) (W0 ++ W1)) (he : ws.map Prod.fst = W0.map Prod.fst) : ∀ (j : Nat) (q : Nat × va_E), W1[j]? = some q → sz ≤ q.1 := by
  intro j q hj
  have h1 : (W0 ++ W1)[W0.length + j]? = some q := by
    rw [List.getElem?_append_right (by omega), show W0.length + j - W0.length = j by omega]
    exact hj
  rcases hD.2 _ q h1 with ⟨k, e, hk⟩ | h
  · exfalso
    have h2 : (W0.map Prod.fst)[k]? = some q.1 := by
      rw [← he, List.getElem?_map, hk]
      rfl
    rw [List.getElem?_map] at h2
    cases hw : W0[k]? with
    | none => rw [hw] at h2; cases h2
    | some p =>
      rw [hw] at h2
      have h3 : p.1 = q.1 := Option.some.inj h2
      have h4 := (List.getElem?_eq_some_iff.mp hw).1
      have h5 := hD.1 k (W0.length + j) p q (by rw [List.getElem?_append_left h4]; exact hw) h1 h3
      omega
  · exact h
theorem lNewD {A B : Nat → Prop} {W0 W1 : va_W} (hD : va_D A (W0 ++ W1)) (hB : ∀ (j : Nat) (q : Nat × va_E), W1[j]? = some q → B q.1) : va_D B W1 := by
  have key : ∀ (j : Nat) (q : Nat × va_E), W1[j]? = some q → (W0 ++ W1)[W0.length + j]? = some q := fun j q hj => by
    rw [List.getElem?_append_right (by omega), show W0.length + j - W0.length = j by omega]
    exact hj
  refine ⟨fun i j p q hp hq e => ?_, hB⟩
  have := hD.1 (W0.length + i) (W0.length + j) p q (key i p hp) (key j q hq) e
  omega
theorem lOwn {D : va_G} {ws : va_W} {Hc : Heap} {s : State} {own own2 : Nat → Nat} {g : Nat} (hP : va_P D vwCl ws Hc) (hG : va_D (fun q => lG s q ∧ own q = g) ws) (ho : ∀ q, q < Hc.size → own2 q = own q) : va_D (fun q => lG s q ∧ own2 q = g) ws :=
  hG.weaken (fun k q hk h => ⟨h.1, (ho q.1 (hP k q hk).lt).trans h.2⟩)
