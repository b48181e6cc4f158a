theorem goF_uniq {K : Int → Int} {w h fx fy p r f f2 : Int} (h1 : goF K w h fx fy p r f) (h2 : goF K w h fx fy p r f2) : f = f2 := by
  obtain ⟨a1, a2, a3, a4⟩ := h1
  obtain ⟨b1, b2, b3, b4⟩ := h2
  rcases Int.lt_trichotomy f f2 with q | q | q
  · exact absurd a3 (b4 f a1 q)
  · exact q
  · exact absurd b3 (a4 f2 b1 q)
theorem gd_some {K : Int → Int} {w h fx fy p mm r : Int} (hL : isL K w h fx fy p mm r) (hr : ¬ r = -1) : ∃ j, 0 ≤ j ∧ j ≤ 5 ∧ gdP K w h fx fy p r j := by
  rcases hL with ⟨a, _⟩ | ⟨a1, a2, ⟨q, i, b1, b2, b3, b4⟩, a4⟩
  · exact absurd a hr
  · by_cases g : r = 1
    · rw [g] at b1
      have b1 : q = p := b1
      exact ⟨i, b2, b3, Or.inl ⟨g, by rw [← b1]; exact b4⟩⟩
    · rw [show (r - 1).toNat = (r - 2).toNat + 1 by omega] at b1
      obtain ⟨j, c1, c2, c3, c4⟩ := (rc_head _ _ _).mp b1
      exact ⟨j, c1, c2, Or.inr ⟨by omega, c3, q, i, c4, b2, b3, b4⟩⟩
theorem gd_least {K : Int → Int} {w h fx fy p mm r r2 j : Int} (hL : isL K w h fx fy p mm r) (hr : 1 < r) (hj : 0 ≤ j ∧ j ≤ 5) (ho : ocP K w h fx fy p j = 0) (h2 : isL K w h fx fy (nxP K w h p j) (r - 1) r2) : gdP K w h fx fy p r j ↔ r2 = r - 1 := by
  constructor
  · intro hg
    rcases hg with ⟨a, _⟩ | ⟨a, b, c⟩
    · omega
    · rcases h2 with ⟨d1, d2⟩ | ⟨d1, d2, d3, d4⟩
      · exact absurd c (d2 _ (by omega))
      · rcases Int.lt_or_le r2 (r - 1) with x | x
        · exfalso
          obtain ⟨q, i, e1, e2, e3, e4⟩ := d3
          rcases hL with ⟨f1, _⟩ | ⟨f1, f2, f3, f4⟩
          · omega
          · refine f4 r2.toNat (by omega) ⟨q, i, ?_, e2, e3, e4⟩
            rw [show r2.toNat = (r2 - 1).toNat + 1 by omega]
            exact (rc_head _ _ _).mpr ⟨j, hj.1, hj.2, ho, e1⟩
        · omega
  · intro hg
    rcases h2 with ⟨d1, d2⟩ | ⟨d1, d2, d3, d4⟩
    · omega
    · rw [hg, show (r - 1 - 1).toNat = (r - 2).toNat by omega] at d3
      exact Or.inr ⟨hr, ho, d3⟩
theorem isL_rng {K : Int → Int} {w h fx fy p mm r : Int} (hL : isL K w h fx fy p mm r) (hm : mm ≤ 100) : -1 ≤ r ∧ r ≤ 100 := by
  rcases hL with ⟨a, _⟩ | ⟨a, b, _, _⟩ <;> omega
