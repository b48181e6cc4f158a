/-! the least number of frames: what it is, and that both searches find it -/
def ocP (K : Int → Int) (w h fx fy p i : Int) : Int := mvO K w h fx fy (p / 5 % 12) (p / 5 / 12) (p % 5) i
def nxP (K : Int → Int) (w h p i : Int) : Int := plc (mvX K w h (p / 5 % 12) (p / 5 / 12) i) (mvY K w h (p / 5 % 12) (p / 5 / 12) (p % 5) i) (mvL K w h (p / 5 % 12) (p / 5 / 12) (p % 5) i)
def rcP (K : Int → Int) (w h fx fy p : Int) : Nat → Int → Prop
  | 0, q => q = p
  | n + 1, q => ∃ q1 i, rcP K w h fx fy p n q1 ∧ 0 ≤ i ∧ i ≤ 5 ∧ ocP K w h fx fy q1 i = 0 ∧ nxP K w h q1 i = q
def wnP (K : Int → Int) (w h fx fy p : Int) (d : Nat) : Prop := ∃ q i, rcP K w h fx fy p d q ∧ 0 ≤ i ∧ i ≤ 5 ∧ ocP K w h fx fy q i = 2
def isL (K : Int → Int) (w h fx fy p mm r : Int) : Prop := (r = -1 ∧ ∀ d : Nat, (d : Int) < mm → ¬ wnP K w h fx fy p d) ∨ (1 ≤ r ∧ r ≤ mm ∧ wnP K w h fx fy p (r - 1).toNat ∧ ∀ d : Nat, (d : Int) < r - 1 → ¬ wnP K w h fx fy p d)
def gdP (K : Int → Int) (w h fx fy p r j : Int) : Prop := (r = 1 ∧ ocP K w h fx fy p j = 2) ∨ (1 < r ∧ ocP K w h fx fy p j = 0 ∧ wnP K w h fx fy (nxP K w h p j) (r - 2).toNat)
def goF (K : Int → Int) (w h fx fy p r f : Int) : Prop := 0 ≤ f ∧ f ≤ 5 ∧ gdP K w h fx fy p r f ∧ ∀ j, 0 ≤ j → j < f → ¬ gdP K w h fx fy p r j
theorem isL_uniq {K : Int → Int} {w h fx fy p mm r r' : Int} (h1 : isL K w h fx fy p mm r) (h2 : isL K w h fx fy p mm r') : r = r' := by
  rcases h1 with ⟨a1, a2⟩ | ⟨a1, a2, a3, a4⟩ <;> rcases h2 with ⟨b1, b2⟩ | ⟨b1, b2, b3, b4⟩
  · omega
  · exact absurd b3 (a2 _ (by omega))
  · exact absurd a3 (b2 _ (by omega))
  · rcases Int.lt_trichotomy r r' with q | q | q
    · exact absurd a3 (b4 _ (by omega))
    · exact q
    · exact absurd b3 (a4 _ (by omega))
theorem plc_of {w h p : Int} (hp : vld w h p) : plc (p / 5 % 12) (p / 5 / 12) (p % 5) = p := by
  obtain ⟨h1, h2, h3, h4⟩ := hp
  unfold plc
  omega
theorem plc_x {x y li : Int} (gx : 0 ≤ x ∧ x < 12) (gy : 0 ≤ y) (gl : 0 ≤ li ∧ li ≤ 4) : plc x y li / 5 % 12 = x ∧ plc x y li / 5 / 12 = y ∧ plc x y li % 5 = li := by
  unfold plc
  refine ⟨by omega, by omega, by omega⟩
theorem vld_nx {K : Int → Int} {w h fx fy p i : Int} (gw : 0 < w ∧ w ≤ 12) (gh : 0 < h ∧ h ≤ 8) (hp : vld w h p) (ho : ocP K w h fx fy p i = 0) : vld w h (nxP K w h p i) := by
  obtain ⟨h1, h2, h3, h4⟩ := hp
  have hv := mv_rng (K := K) (w := w) (h := h) (fx := fx) (fy := fy) (x := p / 5 % 12) (y := p / 5 / 12) (li := p % 5) (i := i) (by omega) (by omega) (by omega)
  unfold ocP at ho
  exact vld_plc gw gh hv.1 ⟨hv.2.1.1, hv.2.2.2.2 (by omega)⟩ hv.2.2.1
theorem vld_rc {K : Int → Int} {w h fx fy p : Int} (gw : 0 < w ∧ w ≤ 12) (gh : 0 < h ∧ h ≤ 8) (hp : vld w h p) : ∀ (n : Nat) (q : Int), rcP K w h fx fy p n q → vld w h q := by
  intro n
  induction n with
  | zero => intro q hq; rw [show q = p from hq]; exact hp
  | succ n ih =>
    intro q hq
    obtain ⟨q1, i, h1, h2, h3, h4, h5⟩ := hq
    rw [← h5]
    exact vld_nx gw gh (ih q1 h1) h4
theorem rc_head {K : Int → Int} {w h fx fy : Int} : ∀ (n : Nat) (p q : Int), rcP K w h fx fy p (n + 1) q ↔ ∃ i, 0 ≤ i ∧ i ≤ 5 ∧ ocP K w h fx fy p i = 0 ∧ rcP K w h fx fy (nxP K w h p i) n q := by
  intro n
  induction n with
  | zero =>
    intro p q
    constructor
    · rintro ⟨q1, i, h1, h2, h3, h4, h5⟩
      have h1 : q1 = p := h1
      subst h1
      exact ⟨i, h2, h3, h4, h5.symm⟩
    · rintro ⟨i, h2, h3, h4, h5⟩
      exact ⟨p, i, rfl, h2, h3, h4, Eq.symm h5⟩
  | succ n ih =>
    intro p q
    constructor
    · rintro ⟨q1, i, h1, h2, h3, h4, h5⟩
      obtain ⟨j, a1, a2, a3, a4⟩ := (ih p q1).mp h1
      exact ⟨j, a1, a2, a3, q1, i, a4, h2, h3, h4, h5⟩
    · rintro ⟨j, a1, a2, a3, q1, i, a4, h2, h3, h4, h5⟩
      exact ⟨q1, i, (ih p q1).mpr ⟨j, a1, a2, a3, a4⟩, h2, h3, h4, h5⟩
-- the reference's inner loop
theorem ltI_sp {K : Int → Int} {w h fx fy p : Int} : ∀ (n : Nat) (i : Int) (S N : Int → Int) (mr : Int), 0 ≤ mr →
    ((ltI K w h fx fy (p / 5 % 12) (p / 5 / 12) (p % 5) n i S N mr).2.2.2 = 1 ∧ ∃ j, i ≤ j ∧ j < i + n ∧ ocP K w h fx fy p j = 2) ∨
    ((ltI K w h fx fy (p / 5 % 12) (p / 5 / 12) (p % 5) n i S N mr).2.2.2 = 0 ∧ (∀ j, i ≤ j → j < i + n → ¬ ocP K w h fx fy p j = 2) ∧
      (∀ q, ¬ (ltI K w h fx fy (p / 5 % 12) (p / 5 / 12) (p % 5) n i S N mr).1 q = 0 ↔ ¬ S q = 0 ∨ ∃ j, i ≤ j ∧ j < i + n ∧ ocP K w h fx fy p j = 0 ∧ nxP K w h p j = q) ∧
      0 ≤ (ltI K w h fx fy (p / 5 % 12) (p / 5 / 12) (p % 5) n i S N mr).2.2.1 ∧
      (∀ q, (∃ k, 0 ≤ k ∧ k < (ltI K w h fx fy (p / 5 % 12) (p / 5 / 12) (p % 5) n i S N mr).2.2.1 ∧ (ltI K w h fx fy (p / 5 % 12) (p / 5 / 12) (p % 5) n i S N mr).2.1 k = q) ↔ (∃ k, 0 ≤ k ∧ k < mr ∧ N k = q) ∨ (S q = 0 ∧ ∃ j, i ≤ j ∧ j < i + n ∧ ocP K w h fx fy p j = 0 ∧ nxP K w h p j = q))) := by
  intro n
  induction n with
  | zero =>
    intro i S N mr h0
    refine Or.inr ⟨rfl, fun j a b => by omega, fun q => ⟨Or.inl, fun hh => ?_⟩, h0, fun q => ⟨Or.inl, fun hh => ?_⟩⟩
    · rcases hh with hh | ⟨j, a, b, _⟩
      · exact hh
      · omega
    · rcases hh with hh | ⟨_, j, a, b, _⟩
      · exact hh
      · omega
  | succ n ih =>
    intro i S N mr h0
    rw [ltI]
    by_cases c1 : mvO K w h fx fy (p / 5 % 12) (p / 5 / 12) (p % 5) i = 2
    · rw [if_pos c1]
      exact Or.inl ⟨rfl, i, by omega, by omega, c1⟩
    · rw [if_neg c1]
      by_cases c2 : mvO K w h fx fy (p / 5 % 12) (p / 5 / 12) (p % 5) i = 0 ∧ S (plc (mvX K w h (p / 5 % 12) (p / 5 / 12) i) (mvY K w h (p / 5 % 12) (p / 5 / 12) (p % 5) i) (mvL K w h (p / 5 % 12) (p / 5 / 12) (p % 5) i)) = 0
      · rw [if_pos c2]
        have c4 : S (nxP K w h p i) = 0 := c2.2
        rcases ih (i + 1) (zu S (nxP K w h p i) 1) (zu N mr (nxP K w h p i)) (mr + 1) (by omega) with ⟨a1, j, a2, a3, a4⟩ | ⟨a1, a2, a3, a4, a5⟩
        · exact Or.inl ⟨a1, j, by omega, by omega, a4⟩
        · refine Or.inr ⟨a1, fun j b1 b2 => ?_, fun q => ?_, a4, fun q => ?_⟩
          · by_cases e : j = i
            · rw [e]; exact c1
            · exact a2 j (by omega) (by omega)
          · refine (a3 q).trans ⟨fun hh => ?_, fun hh => ?_⟩
            · rcases hh with hh | ⟨j, b1, b2, b3, b4⟩
              · by_cases e : q = nxP K w h p i
                · exact Or.inr ⟨i, by omega, by omega, c2.1, e.symm⟩
                · rw [zu_ne _ _ e] at hh
                  exact Or.inl hh
              · exact Or.inr ⟨j, by omega, by omega, b3, b4⟩
            · rcases hh with hh | ⟨j, b1, b2, b3, b4⟩
              · refine Or.inl ?_
                by_cases e : q = nxP K w h p i
                · rw [e] at hh
                  exact absurd c4 hh
                · rw [zu_ne _ _ e]
                  exact hh
              · by_cases e : j = i
                · refine Or.inl ?_
                  rw [← b4, e, zu_same]
                  decide
                · exact Or.inr ⟨j, by omega, by omega, b3, b4⟩
          · refine (a5 q).trans ⟨fun hh => ?_, fun hh => ?_⟩
            · rcases hh with ⟨k, b1, b2, b3⟩ | ⟨b0, j, b1, b2, b3, b4⟩
              · by_cases e : k = mr
                · rw [e, zu_same] at b3
                  refine Or.inr ⟨by rw [← b3]; exact c4, i, by omega, by omega, c2.1, b3⟩
                · rw [zu_ne _ _ e] at b3
                  exact Or.inl ⟨k, b1, by omega, b3⟩
              · refine Or.inr ⟨?_, j, by omega, by omega, b3, b4⟩
                by_cases e : q = nxP K w h p i
                · rw [e]; exact c4
                · rw [zu_ne _ _ e] at b0
                  exact b0
            · rcases hh with ⟨k, b1, b2, b3⟩ | ⟨b0, j, b1, b2, b3, b4⟩
              · exact Or.inl ⟨k, b1, by omega, by rw [zu_ne _ _ (by omega)]; exact b3⟩
              · by_cases e : q = nxP K w h p i
                · exact Or.inl ⟨mr, h0, by omega, by rw [zu_same]; exact e.symm⟩
                · by_cases e2 : j = i
                  · exact absurd (by rw [← b4, e2]) e
                  · exact Or.inr ⟨by rw [zu_ne _ _ e]; exact b0, j, by omega, by omega, b3, b4⟩
      · rw [if_neg c2]
        have c3 : mvO K w h fx fy (p / 5 % 12) (p / 5 / 12) (p % 5) i = 0 → ¬ S (nxP K w h p i) = 0 := fun a b => c2 ⟨a, b⟩
        rcases ih (i + 1) S N mr h0 with ⟨a1, j, a2, a3, a4⟩ | ⟨a1, a2, a3, a4, a5⟩
        · exact Or.inl ⟨a1, j, by omega, by omega, a4⟩
        · refine Or.inr ⟨a1, fun j b1 b2 => ?_, fun q => ?_, a4, fun q => ?_⟩
          · by_cases e : j = i
            · rw [e]; exact c1
            · exact a2 j (by omega) (by omega)
          · refine (a3 q).trans ⟨fun hh => ?_, fun hh => ?_⟩
            · rcases hh with hh | ⟨j, b1, b2, b3, b4⟩
              · exact Or.inl hh
              · exact Or.inr ⟨j, by omega, by omega, b3, b4⟩
            · rcases hh with hh | ⟨j, b1, b2, b3, b4⟩
              · exact Or.inl hh
              · by_cases e : j = i
                · refine Or.inl ?_
                  rw [← b4, e]
                  exact c3 (by rw [← e]; exact b3)
                · exact Or.inr ⟨j, by omega, by omega, b3, b4⟩
          · refine (a5 q).trans ⟨fun hh => ?_, fun hh => ?_⟩
            · rcases hh with hh | ⟨b0, j, b1, b2, b3, b4⟩
              · exact Or.inl hh
              · exact Or.inr ⟨b0, j, by omega, by omega, b3, b4⟩
            · rcases hh with hh | ⟨b0, j, b1, b2, b3, b4⟩
              · exact Or.inl hh
              · by_cases e : j = i
                · exact absurd b0 (by rw [← b4, e]; exact c3 (by rw [← e]; exact b3))
                · exact Or.inr ⟨b0, j, by omega, by omega, b3, b4⟩
theorem ltK_sp {K : Int → Int} {w h fx fy : Int} {E : Int → Int} : ∀ (n : Nat) (k : Int) (S N : Int → Int) (mr : Int), 0 ≤ mr →
    ((ltK K w h fx fy E n k S N mr).2.2.2 = 1 ∧ ∃ e j, k ≤ e ∧ e < k + n ∧ 0 ≤ j ∧ j ≤ 5 ∧ ocP K w h fx fy (E e) j = 2) ∨
    ((ltK K w h fx fy E n k S N mr).2.2.2 = 0 ∧ (∀ e j, k ≤ e → e < k + n → 0 ≤ j → j ≤ 5 → ¬ ocP K w h fx fy (E e) j = 2) ∧
      (∀ q, ¬ (ltK K w h fx fy E n k S N mr).1 q = 0 ↔ ¬ S q = 0 ∨ ∃ e j, k ≤ e ∧ e < k + n ∧ 0 ≤ j ∧ j ≤ 5 ∧ ocP K w h fx fy (E e) j = 0 ∧ nxP K w h (E e) j = q) ∧
      0 ≤ (ltK K w h fx fy E n k S N mr).2.2.1 ∧
      (∀ q, (∃ k2, 0 ≤ k2 ∧ k2 < (ltK K w h fx fy E n k S N mr).2.2.1 ∧ (ltK K w h fx fy E n k S N mr).2.1 k2 = q) ↔ (∃ k2, 0 ≤ k2 ∧ k2 < mr ∧ N k2 = q) ∨ (S q = 0 ∧ ∃ e j, k ≤ e ∧ e < k + n ∧ 0 ≤ j ∧ j ≤ 5 ∧ ocP K w h fx fy (E e) j = 0 ∧ nxP K w h (E e) j = q))) := by
  intro n
  induction n with
  | zero =>
    intro k S N mr h0
    refine Or.inr ⟨rfl, fun e j a b => by omega, fun q => ⟨Or.inl, fun hh => ?_⟩, h0, fun q => ⟨Or.inl, fun hh => ?_⟩⟩
    · rcases hh with hh | ⟨e, j, a, b, _⟩
      · exact hh
      · omega
    · rcases hh with hh | ⟨_, e, j, a, b, _⟩
      · exact hh
      · omega
  | succ n ih =>
    intro k S N mr h0
    rw [ltK]
    have hI := ltI_sp (K := K) (w := w) (h := h) (fx := fx) (fy := fy) (p := E k) 6 0 S N mr h0
    generalize ltI K w h fx fy (E k / 5 % 12) (E k / 5 / 12) (E k % 5) 6 0 S N mr = R at hI ⊢
    rcases hI with ⟨a1, j, a2, a3, a4⟩ | ⟨a1, a2, a3, a4, a5⟩
    · rw [if_pos a1]
      exact Or.inl ⟨a1, k, j, by omega, by omega, by omega, by omega, a4⟩
    · rw [if_neg (by omega)]
      rcases ih (k + 1) R.1 R.2.1 R.2.2.1 a4 with ⟨b1, e, j, b2, b3, b4, b5, b6⟩ | ⟨b1, b2, b3, b4, b5⟩
      · exact Or.inl ⟨b1, e, j, by omega, by omega, b4, b5, b6⟩
      · refine Or.inr ⟨b1, fun e j d1 d2 d3 d4 => ?_, fun q => ?_, b4, fun q => ?_⟩
        · by_cases g : e = k
          · rw [g]; exact a2 j d3 (by omega)
          · exact b2 e j (by omega) (by omega) d3 d4
        · refine (b3 q).trans ⟨fun hh => ?_, fun hh => ?_⟩
          · rcases hh with hh | ⟨e, j, d1, d2, d3, d4, d5, d6⟩
            · rcases (a3 q).mp hh with hh | ⟨j, d1, d2, d3, d4⟩
              · exact Or.inl hh
              · exact Or.inr ⟨k, j, by omega, by omega, d1, by omega, d3, d4⟩
            · exact Or.inr ⟨e, j, by omega, by omega, d3, d4, d5, d6⟩
          · rcases hh with hh | ⟨e, j, d1, d2, d3, d4, d5, d6⟩
            · exact Or.inl ((a3 q).mpr (Or.inl hh))
            · by_cases g : e = k
              · rw [g] at d5 d6
                exact Or.inl ((a3 q).mpr (Or.inr ⟨j, d3, by omega, d5, d6⟩))
              · exact Or.inr ⟨e, j, by omega, by omega, d3, d4, d5, d6⟩
        · refine (b5 q).trans ⟨fun hh => ?_, fun hh => ?_⟩
          · rcases hh with hh | ⟨d0, e, j, d1, d2, d3, d4, d5, d6⟩
            · rcases (a5 q).mp hh with hh | ⟨g0, j, d1, d2, d3, d4⟩
              · exact Or.inl hh
              · exact Or.inr ⟨g0, k, j, by omega, by omega, d1, by omega, d3, d4⟩
            · refine Or.inr ⟨?_, e, j, by omega, by omega, d3, d4, d5, d6⟩
              rcases Classical.em (S q = 0) with g | g
              · exact g
              · exact absurd d0 ((a3 q).mpr (Or.inl g))
          · rcases hh with hh | ⟨d0, e, j, d1, d2, d3, d4, d5, d6⟩
            · exact Or.inl ((a5 q).mpr (Or.inl hh))
            · rcases Classical.em (R.1 q = 0) with g | g
              · by_cases g2 : e = k
                · rw [g2] at d5 d6
                  exact Or.inl ((a5 q).mpr (Or.inr ⟨d0, j, d3, by omega, d5, d6⟩))
                · exact Or.inr ⟨g, e, j, by omega, by omega, d3, d4, d5, d6⟩
              · rcases (a3 q).mp g with g3 | ⟨j2, x1, x2, x3, x4⟩
                · exact absurd d0 g3
                · exact Or.inl ((a5 q).mpr (Or.inr ⟨d0, j2, x1, x2, x3, x4⟩))
theorem ltF_sp {K : Int → Int} {w h fx fy p : Int} (gw : 0 < w ∧ w ≤ 12) (gh : 0 < h ∧ h ≤ 8) (hp : vld w h p) : ∀ (n d : Nat) (E S N : Int → Int) (many : Int),
    (∀ q, 0 ≤ q → q < 480 → (¬ S q = 0 ↔ ∃ e : Nat, e ≤ d ∧ rcP K w h fx fy p e q)) → (∀ q, (∃ k, 0 ≤ k ∧ k < many ∧ E k = q) ↔ rcP K w h fx fy p d q ∧ ∀ e : Nat, e < d → ¬ rcP K w h fx fy p e q) → (∀ e : Nat, e < d → ¬ wnP K w h fx fy p e) →
    isL K w h fx fy p ((d : Int) + n) (ltF K w h fx fy n ((d : Int) + 1) E S N many) := by
  intro n
  induction n with
  | zero =>
    intro d E S N many h1 h2 h3
    exact Or.inl ⟨rfl, fun e he => h3 e (by omega)⟩
  | succ n ih =>
    intro d E S N many h1 h2 h3
    have hone : ∀ q, rcP K w h fx fy p d q → (∃ k, 0 ≤ k ∧ k < many ∧ E k = q) ∨ ∃ e : Nat, e < d ∧ rcP K w h fx fy p e q := by
      intro q hq
      rcases Classical.em (∃ e : Nat, e < d ∧ rcP K w h fx fy p e q) with g | g
      · exact Or.inr g
      · exact Or.inl ((h2 q).mpr ⟨hq, fun e he hr => g ⟨e, he, hr⟩⟩)
    rw [ltF]
    by_cases c1 : 0 < many
    · rw [if_pos c1]
      have hK := ltK_sp (K := K) (w := w) (h := h) (fx := fx) (fy := fy) (E := E) many.toNat 0 S N 0 (by omega)
      generalize ltK K w h fx fy E many.toNat 0 S N 0 = R at hK ⊢
      rcases hK with ⟨a1, e, j, a2, a3, a4, a5, a6⟩ | ⟨a1, a2, a3, a4, a5⟩
      · rw [if_pos a1]
        refine Or.inr ⟨by omega, by omega, ?_, fun e2 he2 => h3 e2 (by omega)⟩
        rw [show ((d : Int) + 1 - 1).toNat = d by omega]
        exact ⟨E e, j, ((h2 (E e)).mp ⟨e, a2, by omega, rfl⟩).1, a4, a5, a6⟩
      · rw [if_neg (by omega)]
        have h3' : ¬ wnP K w h fx fy p d := by
          rintro ⟨q, i, b1, b2, b3, b4⟩
          rcases hone q b1 with ⟨k, g1, g2, g3⟩ | ⟨e, g1, g2⟩
          · exact a2 k i g1 (by omega) b2 b3 (by rw [g3]; exact b4)
          · exact h3 e g1 ⟨q, i, g2, b2, b3, b4⟩
        have hnew : ∀ q, rcP K w h fx fy p (d + 1) q → (∃ e j, 0 ≤ e ∧ e < many ∧ 0 ≤ j ∧ j ≤ 5 ∧ ocP K w h fx fy (E e) j = 0 ∧ nxP K w h (E e) j = q) ∨ ∃ e : Nat, e ≤ d ∧ rcP K w h fx fy p e q := by
          rintro q ⟨q1, i, b1, b2, b3, b4, b5⟩
          rcases hone q1 b1 with ⟨k, g1, g2, g3⟩ | ⟨e, g1, g2⟩
          · exact Or.inl ⟨k, i, g1, g2, b2, b3, by rw [g3]; exact b4, by rw [g3]; exact b5⟩
          · exact Or.inr ⟨e + 1, by omega, q1, i, g2, b2, b3, b4, b5⟩
        have hstep : ∀ e j q, 0 ≤ e → e < many → 0 ≤ j → j ≤ 5 → ocP K w h fx fy (E e) j = 0 → nxP K w h (E e) j = q → rcP K w h fx fy p (d + 1) q := by
          intro e j q b1 b2 b3 b4 b5 b6
          exact ⟨E e, j, ((h2 (E e)).mp ⟨e, b1, b2, rfl⟩).1, b3, b4, b5, b6⟩
        have hr := ih (d + 1) (cpE R.2.1 E R.2.2.1) R.1 R.2.1 R.2.2.1 ?_ ?_ ?_
        · rw [show ((d + 1 : Nat) : Int) + (n : Int) = (d : Int) + ((n + 1 : Nat) : Int) by omega, show ((d + 1 : Nat) : Int) + 1 = (d : Int) + 1 + 1 by omega] at hr
          exact hr
        · intro q q0 q1
          refine (a3 q).trans ⟨fun hh => ?_, fun hh => ?_⟩
          · rcases hh with hh | ⟨e, j, b1, b2, b3, b4, b5, b6⟩
            · obtain ⟨e, g1, g2⟩ := (h1 q q0 q1).mp hh
              exact ⟨e, by omega, g2⟩
            · exact ⟨d + 1, by omega, hstep e j q b1 (by omega) b3 b4 b5 b6⟩
          · obtain ⟨e, g1, g2⟩ := hh
            by_cases g : e = d + 1
            · rw [g] at g2
              rcases hnew q g2 with ⟨e2, j, b1, b2, b3, b4, b5, b6⟩ | ⟨e2, b1, b2⟩
              · exact Or.inr ⟨e2, j, b1, by omega, b3, b4, b5, b6⟩
              · exact Or.inl ((h1 q q0 q1).mpr ⟨e2, b1, b2⟩)
            · exact Or.inl ((h1 q q0 q1).mpr ⟨e, by omega, g2⟩)
        · intro q
          have hcp : (∃ k, 0 ≤ k ∧ k < R.2.2.1 ∧ cpE R.2.1 E R.2.2.1 k = q) ↔ ∃ k, 0 ≤ k ∧ k < R.2.2.1 ∧ R.2.1 k = q := by
            constructor
            · rintro ⟨k, b1, b2, b3⟩
              refine ⟨k, b1, b2, ?_⟩
              rw [← b3]
              unfold cpE
              rw [if_pos ⟨b1, b2⟩]
            · rintro ⟨k, b1, b2, b3⟩
              refine ⟨k, b1, b2, ?_⟩
              rw [← b3]
              unfold cpE
              rw [if_pos ⟨b1, b2⟩]
          refine (hcp.trans (a5 q)).trans ⟨fun hh => ?_, fun hh => ?_⟩
          · rcases hh with ⟨k, b1, b2, _⟩ | ⟨b0, e, j, b1, b2, b3, b4, b5, b6⟩
            · omega
            · have hq := hstep e j q b1 (by omega) b3 b4 b5 b6
              have hv := vld_rc gw gh hp _ _ hq
              refine ⟨hq, fun e2 he2 hr2 => ?_⟩
              exact (h1 q hv.1 hv.2.1).mpr ⟨e2, by omega, hr2⟩ b0
          · have hv := vld_rc gw gh hp _ _ hh.1
            have hz : S q = 0 := by
              rcases Classical.em (S q = 0) with g | g
              · exact g
              · obtain ⟨e, g1, g2⟩ := (h1 q hv.1 hv.2.1).mp g
                exact absurd g2 (hh.2 e (by omega))
            rcases hnew q hh.1 with ⟨e2, j, b1, b2, b3, b4, b5, b6⟩ | ⟨e2, b1, b2⟩
            · exact Or.inr ⟨hz, e2, j, b1, by omega, b3, b4, b5, b6⟩
            · exact absurd b2 (hh.2 e2 (by omega))
        · intro e he
          by_cases g : e = d
          · rw [g]; exact h3'
          · exact h3 e (by omega)
    · rw [if_neg c1]
      have hno : ∀ (m : Nat) (q : Int), rcP K w h fx fy p (d + m) q → ∃ e : Nat, e < d ∧ rcP K w h fx fy p e q := by
        intro m
        induction m with
        | zero =>
          intro q hq
          rcases hone q hq with ⟨k, g1, g2, g3⟩ | g
          · omega
          · exact g
        | succ m ihm =>
          rintro q ⟨q1, i, b1, b2, b3, b4, b5⟩
          obtain ⟨e, g1, g2⟩ := ihm q1 b1
          by_cases g : e + 1 = d
          · rcases hone q (by rw [← g]; exact ⟨q1, i, g2, b2, b3, b4, b5⟩) with ⟨k, x1, x2, x3⟩ | x
            · omega
            · exact x
          · exact ⟨e + 1, by omega, q1, i, g2, b2, b3, b4, b5⟩
      refine Or.inl ⟨rfl, fun e he hw => ?_⟩
      obtain ⟨q, i, b1, b2, b3, b4⟩ := hw
      by_cases g : e < d
      · exact h3 e g ⟨q, i, b1, b2, b3, b4⟩
      · obtain ⟨e2, g1, g2⟩ := hno (e - d) q (by rw [show d + (e - d) = e by omega]; exact b1)
        exact h3 e2 g1 ⟨q, i, g2, b2, b3, b4⟩
theorem ltT_isL {K : Int → Int} {w h fx fy p mm : Int} (gw : 0 < w ∧ w ≤ 12) (gh : 0 < h ∧ h ≤ 8) (hp : vld w h p) (hm : 0 ≤ mm) {E S N : Int → Int} (hS : ∀ j, 0 ≤ j → j < 480 → S j = 0) : isL K w h fx fy p mm (ltT K w h fx fy mm p E S N) := by
  have hr := ltF_sp (K := K) (fx := fx) (fy := fy) gw gh hp mm.toNat 0 (zu E 0 p) (zu S p 1) N 1 ?_ ?_ ?_
  · rw [show ((0 : Nat) : Int) + (mm.toNat : Int) = mm by omega] at hr
    exact hr
  · intro q q0 q1
    by_cases e : q = p
    · rw [e, zu_same]
      exact ⟨fun _ => ⟨0, Nat.le_refl 0, rfl⟩, fun _ => by decide⟩
    · rw [zu_ne _ _ e, hS q q0 q1]
      refine ⟨fun hh => absurd rfl hh, fun hh => ?_⟩
      obtain ⟨e2, g1, g2⟩ := hh
      rw [show e2 = 0 by omega] at g2
      exact absurd g2 e
  · intro q
    constructor
    · rintro ⟨k, b1, b2, b3⟩
      rw [show k = 0 by omega, zu_same] at b3
      exact ⟨b3.symm, fun e he => by omega⟩
    · rintro ⟨b1, _⟩
      exact ⟨0, by omega, by omega, by rw [zu_same]; exact Eq.symm b1⟩
  · intro e he
    omega
