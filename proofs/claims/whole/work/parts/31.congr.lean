/-! two rows of kinds that agree within the level give the same frames, ways and inputs -/
theorem ocP_congr {K K2 : Int → Int} {w h : Int} (hK : ∀ x y, 0 ≤ x → x < w → 0 ≤ y → y < h → K (y * 12 + x) = K2 (y * 12 + x)) (fx fy p i : Int) : ocP K w h fx fy p i = ocP K2 w h fx fy p i := (mvO_congr hK fx fy _ _ _ _).2.2.2
theorem nxP_congr {K K2 : Int → Int} {w h : Int} (hK : ∀ x y, 0 ≤ x → x < w → 0 ≤ y → y < h → K (y * 12 + x) = K2 (y * 12 + x)) (p i : Int) : nxP K w h p i = nxP K2 w h p i := by
  have hm := mvO_congr hK 0 0 (p / 5 % 12) (p / 5 / 12) (p % 5) i
  unfold nxP
  rw [hm.1, hm.2.1, hm.2.2.1]
theorem rcP_congr {K K2 : Int → Int} {w h : Int} (hK : ∀ x y, 0 ≤ x → x < w → 0 ≤ y → y < h → K (y * 12 + x) = K2 (y * 12 + x)) (fx fy p : Int) : ∀ (n : Nat) (q : Int), rcP K w h fx fy p n q ↔ rcP K2 w h fx fy p n q := by
  intro n
  induction n with
  | zero => intro q; exact Iff.rfl
  | succ n ih =>
    intro q
    constructor
    · rintro ⟨q1, i, b1, b2, b3, b4, b5⟩
      exact ⟨q1, i, (ih q1).mp b1, b2, b3, by rw [← ocP_congr hK]; exact b4, by rw [← nxP_congr hK]; exact b5⟩
    · rintro ⟨q1, i, b1, b2, b3, b4, b5⟩
      exact ⟨q1, i, (ih q1).mpr b1, b2, b3, by rw [ocP_congr hK]; exact b4, by rw [nxP_congr hK]; exact b5⟩
theorem wnP_congr {K K2 : Int → Int} {w h : Int} (hK : ∀ x y, 0 ≤ x → x < w → 0 ≤ y → y < h → K (y * 12 + x) = K2 (y * 12 + x)) (fx fy p : Int) (d : Nat) : wnP K w h fx fy p d ↔ wnP K2 w h fx fy p d := by
  constructor
  · rintro ⟨q, i, b1, b2, b3, b4⟩
    exact ⟨q, i, (rcP_congr hK fx fy p d q).mp b1, b2, b3, by rw [← ocP_congr hK]; exact b4⟩
  · rintro ⟨q, i, b1, b2, b3, b4⟩
    exact ⟨q, i, (rcP_congr hK fx fy p d q).mpr b1, b2, b3, by rw [ocP_congr hK]; exact b4⟩
theorem isL_congr {K K2 : Int → Int} {w h : Int} (hK : ∀ x y, 0 ≤ x → x < w → 0 ≤ y → y < h → K (y * 12 + x) = K2 (y * 12 + x)) {fx fy p mm r : Int} (hL : isL K w h fx fy p mm r) : isL K2 w h fx fy p mm r := by
  rcases hL with ⟨a1, a2⟩ | ⟨a1, a2, a3, a4⟩
  · exact Or.inl ⟨a1, fun d hd hw => a2 d hd ((wnP_congr hK fx fy p d).mpr hw)⟩
  · exact Or.inr ⟨a1, a2, (wnP_congr hK fx fy p _).mp a3, fun d hd hw => a4 d hd ((wnP_congr hK fx fy p d).mpr hw)⟩
theorem gdP_congr {K K2 : Int → Int} {w h : Int} (hK : ∀ x y, 0 ≤ x → x < w → 0 ≤ y → y < h → K (y * 12 + x) = K2 (y * 12 + x)) (fx fy p r j : Int) : gdP K w h fx fy p r j ↔ gdP K2 w h fx fy p r j := by
  unfold gdP
  rw [ocP_congr hK, nxP_congr hK, wnP_congr hK]
theorem goF_congr {K K2 : Int → Int} {w h : Int} (hK : ∀ x y, 0 ≤ x → x < w → 0 ≤ y → y < h → K (y * 12 + x) = K2 (y * 12 + x)) {fx fy p r f : Int} (hg : goF K w h fx fy p r f) : goF K2 w h fx fy p r f := by
  obtain ⟨a1, a2, a3, a4⟩ := hg
  exact ⟨a1, a2, (gdP_congr hK fx fy p r f).mp a3, fun j j0 j1 hj => a4 j j0 j1 ((gdP_congr hK fx fy p r j).mpr hj)⟩
theorem smO_congr {K K2 : Int → Int} {w h sx sy fx fy : Int} {IN IN2 : Int → Int} (hK : ∀ x y, 0 ≤ x → x < w → 0 ≤ y → y < h → K (y * 12 + x) = K2 (y * 12 + x)) (n : Nat) (hj : ∀ j : Nat, j ≤ n → IN (j : Int) = IN2 (j : Int)) : smO K w h fx fy sx sy IN n = smO K2 w h fx fy sx sy IN2 n := by
  unfold smO
  rw [smS_congr hK n (fun j h => hj j (by omega)), hj n (Nat.le_refl n)]
  exact (mvO_congr hK fx fy _ _ _ _).2.2.2
/-- both searches, one answer -/
theorem both_least {K K2 : Int → Int} {w h fx fy p lim : Int} (gw : 0 < w ∧ w ≤ 12) (gh : 0 < h ∧ h ≤ 8) (hp : vld w h p) (hl : 0 ≤ lim) (hK : ∀ x y, 0 ≤ x → x < w → 0 ≤ y → y < h → K (y * 12 + x) = K2 (y * 12 + x)) {D F Q E S N : Int → Int} (hD : ∀ j, 0 ≤ j → j < 480 → D j = -1) (hS : ∀ j, 0 ≤ j → j < 480 → S j = 0) : (fwT K w h fx fy lim p D F Q).1 = ltT K2 w h fx fy lim p E S N :=
  isL_uniq (isL_congr hK (fwT_sp gw gh hp hD).1) (ltT_isL gw gh hp hl hS)
theorem both_first {K K2 : Int → Int} {w h fx fy p lim r rr : Int} (gw : 0 < w ∧ w ≤ 12) (gh : 0 < h ∧ h ≤ 8) (hp : vld w h p) (hK : ∀ x y, 0 ≤ x → x < w → 0 ≤ y → y < h → K (y * 12 + x) = K2 (y * 12 + x)) {D F Q : Int → Int} (hD : ∀ j, 0 ≤ j → j < 480 → D j = -1) (hr : isL K2 w h fx fy p lim r) (h2 : (r = -1 ∧ rr = -1) ∨ (¬ r = -1 ∧ goF K2 w h fx fy p r rr)) : (fwT K w h fx fy lim p D F Q).2 = rr := by
  have h1 := fwT_sp (K := K) (fx := fx) (fy := fy) (lim := lim) (F := F) (Q := Q) gw gh hp hD
  have e := isL_uniq (isL_congr hK h1.1) hr
  rcases h1.2 with ⟨a1, a2⟩ | ⟨a1, a2⟩ <;> rcases h2 with ⟨b1, b2⟩ | ⟨b1, b2⟩
  · rw [a2, b2]
  · omega
  · omega
  · rw [e] at a2
    exact goF_uniq (goF_congr hK a2) b2
