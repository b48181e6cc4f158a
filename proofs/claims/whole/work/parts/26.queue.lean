/-! the class's search: its queue -/
def fiP (K : Int → Int) (w h fx fy p : Int) (d : Nat) (q f : Int) : Prop := 0 ≤ f ∧ f ≤ 5 ∧ ocP K w h fx fy p f = 0 ∧ rcP K w h fx fy (nxP K w h p f) (d - 1) q ∧ ∀ j, 0 ≤ j → j < f → ocP K w h fx fy p j = 0 → ¬ rcP K w h fx fy (nxP K w h p j) (d - 1) q
def JIP (K : Int → Int) (w h fx fy p : Int) (D F Q : Int → Int) (qd : Int) : Prop :=
  (0 < qd ∧ qd = cn (fun q => D q + 1) 480) ∧
  (∀ q, 0 ≤ q → q < 480 → (¬ D q = -1 ↔ ∃ k, 0 ≤ k ∧ k < qd ∧ Q k = q)) ∧
  (∀ k, 0 ≤ k → k < qd → vld w h (Q k) ∧ 0 ≤ D (Q k) ∧ rcP K w h fx fy p (D (Q k)).toNat (Q k) ∧ ∀ e : Nat, (e : Int) < D (Q k) → ¬ rcP K w h fx fy p e (Q k)) ∧
  (∀ k k', 0 ≤ k → k ≤ k' → k' < qd → D (Q k) ≤ D (Q k')) ∧
  (Q 0 = p ∧ F p = -1 ∧ ∀ k, 1 ≤ k → k < qd → 1 ≤ D (Q k)) ∧
  (∀ k, 0 ≤ k → k < qd → 1 ≤ D (Q k) → fiP K w h fx fy p (D (Q k)).toNat (Q k) (F (Q k))) ∧
  (∀ k k', 0 ≤ k → k ≤ k' → k' < qd → 1 ≤ D (Q k) → D (Q k) = D (Q k') → F (Q k) ≤ F (Q k'))
def exP (K : Int → Int) (w h fx fy : Int) (D : Int → Int) (u i : Int) : Prop := ∀ j, 0 ≤ j → j < i → ¬ ocP K w h fx fy u j = 2 ∧ (ocP K w h fx fy u j = 0 → ¬ D (nxP K w h u j) = -1)
def JJP (K : Int → Int) (w h fx fy p nx i : Int) (D F Q : Int → Int) (qd : Int) : Prop :=
  (0 ≤ nx ∧ nx < qd) ∧ JIP K w h fx fy p D F Q qd ∧ (∀ k, 0 ≤ k → k < nx → exP K w h fx fy D (Q k) 6) ∧ exP K w h fx fy D (Q nx) i ∧
  (∀ k, 0 ≤ k → k < qd → D (Q k) ≤ D (Q nx) + 1) ∧ (∀ k, 0 ≤ k → k < qd → D (Q k) = D (Q nx) + 1 → F (Q k) ≤ (if D (Q nx) = 0 then i - 1 else F (Q nx)))
theorem cn_same {S T : Int → Int} (hs : ∀ q, S q = 0 ↔ T q = 0) : ∀ k : Nat, cn S k = cn T k := by
  intro k
  induction k with
  | zero => rfl
  | succ k ih =>
    show cn S k + (if S (k : Int) = 0 then 0 else 1) = cn T k + (if T (k : Int) = 0 then 0 else 1)
    rw [ih]
    by_cases g : S (k : Int) = 0
    · rw [if_pos g, if_pos ((hs _).mp g)]
    · rw [if_neg g, if_neg (fun x => g ((hs _).mpr x))]
theorem JI_root {K : Int → Int} {w h fx fy p : Int} {D F Q : Int → Int} {qd : Int} (hJ : JIP K w h fx fy p D F Q qd) : D p = 0 := by
  obtain ⟨⟨a0, a1⟩, hb, hc, hd, ⟨r1, r2, r3⟩, hf, hs⟩ := hJ
  obtain ⟨c1, c2, c3, c4⟩ := hc 0 (by omega) a0
  rw [r1] at c2 c4
  rcases Int.lt_or_le 0 (D p) with g | g
  · exact absurd rfl (c4 0 (by omega))
  · omega
/-- every place that is no farther than the one at nx stands in the queue -/
theorem JI_reach {K : Int → Int} {w h fx fy p nx : Int} {D F Q : Int → Int} {qd : Int} (gw : 0 < w ∧ w ≤ 12) (gh : 0 < h ∧ h ≤ 8) (hJ : JIP K w h fx fy p D F Q qd) (hn : 0 ≤ nx ∧ nx < qd) (hE : ∀ k, 0 ≤ k → k < nx → exP K w h fx fy D (Q k) 6) : ∀ (e : Nat) (q : Int), rcP K w h fx fy p e q → (e : Int) ≤ D (Q nx) → ∃ k, 0 ≤ k ∧ k < qd ∧ Q k = q ∧ D q ≤ e := by
  have hroot := JI_root hJ
  obtain ⟨⟨a0, a1⟩, hb, hc, hd, ⟨r1, r2, r3⟩, hf, hs⟩ := hJ
  have hp : vld w h p := by
    have := (hc 0 (by omega) a0).1
    rw [r1] at this
    exact this
  intro e
  induction e with
  | zero =>
    intro q hq _
    have hq : q = p := hq
    rw [hq]
    exact ⟨0, by omega, a0, r1, by omega⟩
  | succ e ih =>
    intro q hq he
    have hv := vld_rc gw gh hp _ _ hq
    have hq0 := hq
    obtain ⟨q1, i, b1, b2, b3, b4, b5⟩ := hq
    obtain ⟨k1, g1, g2, g3, g4⟩ := ih q1 b1 (by omega)
    have hlt : k1 < nx := by
      rcases Int.lt_or_le k1 nx with x | x
      · exact x
      · have := hd nx k1 hn.1 x g2
        rw [g3] at this
        omega
    have h1 := (hE k1 g1 hlt i b2 (by omega)).2
    rw [g3, b5] at h1
    obtain ⟨k, x1, x2, x3⟩ := (hb q hv.1 hv.2.1).mp (h1 b4)
    refine ⟨k, x1, x2, x3, ?_⟩
    obtain ⟨_, _, _, y4⟩ := hc k x1 x2
    rw [x3] at y4
    rcases Int.lt_or_le ((e + 1 : Nat) : Int) (D q) with x | x
    · exact absurd hq0 (y4 (e + 1) x)
    · exact x
/-- a new place comes -/
theorem JJ_new {K : Int → Int} {w h fx fy p nx i : Int} {D F Q : Int → Int} {qd : Int} (gw : 0 < w ∧ w ≤ 12) (gh : 0 < h ∧ h ≤ 8) (hJ : JJP K w h fx fy p nx i D F Q qd) (hi : 0 ≤ i ∧ i ≤ 5) (ho : ocP K w h fx fy (Q nx) i = 0) (hq : D (nxP K w h (Q nx) i) = -1) :
    qd < 480 ∧ JJP K w h fx fy p nx (i + 1) (zu D (nxP K w h (Q nx) i) (D (Q nx) + 1)) (zu F (nxP K w h (Q nx) i) (if F (Q nx) = -1 then i else F (Q nx))) (zu Q qd (nxP K w h (Q nx) i)) (qd + 1) := by
  obtain ⟨hn, hJI, hE, hB, hU, hFb⟩ := hJ
  have hreach := JI_reach gw gh hJI hn hE
  have hroot := JI_root hJI
  have hJ0 := hJI
  obtain ⟨⟨a0, a1⟩, hb, hc, hd, ⟨r1, r2, r3⟩, hf, hs⟩ := hJI
  obtain ⟨u1, u2, u3, u4⟩ := hc nx hn.1 hn.2
  have hvq : vld w h (nxP K w h (Q nx) i) := vld_nx gw gh u1 ho
  have hp : vld w h p := by
    have := (hc 0 (by omega) a0).1
    rw [r1] at this
    exact this
  have hrq : rcP K w h fx fy p ((D (Q nx)).toNat + 1) (nxP K w h (Q nx) i) := ⟨Q nx, i, u3, hi.1, hi.2, ho, rfl⟩
  -- a place before q has not been expanded
  have hpre : ∀ q1 i1, rcP K w h fx fy p (D (Q nx)).toNat q1 → 0 ≤ i1 → i1 ≤ 5 → ocP K w h fx fy q1 i1 = 0 → nxP K w h q1 i1 = nxP K w h (Q nx) i → ∃ k, nx ≤ k ∧ k < qd ∧ Q k = q1 ∧ D q1 = D (Q nx) := by
    intro q1 i1 b1 b2 b3 b4 b5
    obtain ⟨k, g1, g2, g3, g4⟩ := hreach _ q1 b1 (by omega)
    have hnx : nx ≤ k := by
      rcases Int.lt_or_le k nx with x | x
      · have h1 := (hE k g1 x i1 b2 (by omega)).2
        rw [g3, b5] at h1
        exact absurd hq (h1 b4)
      · exact x
    have := hd nx k hn.1 hnx g2
    rw [g3] at this
    exact ⟨k, hnx, g2, g3, by omega⟩
  have hmin : ∀ e : Nat, (e : Int) < D (Q nx) + 1 → ¬ rcP K w h fx fy p e (nxP K w h (Q nx) i) := by
    intro e he hr
    obtain ⟨k, g1, g2, g3, g4⟩ := hreach e _ hr (by omega)
    exact (hb _ hvq.1 hvq.2.1).mpr ⟨k, g1, g2, g3⟩ hq
  have hlt : qd < 480 := by
    have := cn_lt (S := fun q => D q + 1) (p := nxP K w h (Q nx) i) 480 hvq.1 hvq.2.1 (by show D _ + 1 = 0; omega)
    omega
  generalize hqe : nxP K w h (Q nx) i = q at *
  have hQk : ∀ k, 0 ≤ k → k < qd → ¬ Q k = q := by
    intro k k0 k1 e
    have := (hc k k0 k1).2.1
    rw [e] at this
    omega
  have hQ' : ∀ k, k < qd → zu Q qd q k = Q k := fun k k1 => zu_ne _ _ (by omega)
  have hQq : zu Q qd q qd = q := zu_same _ _ _
  have hD' : ∀ k, 0 ≤ k → k < qd → zu D q (D (Q nx) + 1) (Q k) = D (Q k) := fun k k0 k1 => zu_ne _ _ (hQk k k0 k1)
  have hF' : ∀ k, 0 ≤ k → k < qd → zu F q (if F (Q nx) = -1 then i else F (Q nx)) (Q k) = F (Q k) := fun k k0 k1 => zu_ne _ _ (hQk k k0 k1)
  have hDq : zu D q (D (Q nx) + 1) q = D (Q nx) + 1 := zu_same _ _ _
  have hFq : zu F q (if F (Q nx) = -1 then i else F (Q nx)) q = (if F (Q nx) = -1 then i else F (Q nx)) := zu_same _ _ _
  -- what F holds of the place at nx
  have hFu : (D (Q nx) = 0 ∧ F (Q nx) = -1 ∧ Q nx = p) ∨ (1 ≤ D (Q nx) ∧ 0 ≤ F (Q nx) ∧ fiP K w h fx fy p (D (Q nx)).toNat (Q nx) (F (Q nx))) := by
    rcases Int.lt_or_le 0 (D (Q nx)) with g | g
    · have := hf nx hn.1 hn.2 (by omega)
      exact Or.inr ⟨by omega, this.1, this⟩
    · have h0 : nx = 0 := by
        rcases Int.lt_or_le nx 1 with x | x
        · omega
        · have := r3 nx x hn.2
          omega
      have hQn : Q nx = p := by rw [h0]; exact r1
      exact Or.inl ⟨by omega, by rw [hQn]; exact r2, hQn⟩
  have hnew : fiP K w h fx fy p (D (Q nx) + 1).toNat q (if F (Q nx) = -1 then i else F (Q nx)) := by
    rw [show (D (Q nx) + 1).toNat = (D (Q nx)).toNat + 1 by omega]
    rcases hFu with ⟨f1, f2, f3⟩ | ⟨f1, f2, f3⟩
    · rw [if_pos f2]
      refine ⟨hi.1, hi.2, by rw [← f3]; exact ho, ?_, fun j j0 j1 j2 hr => ?_⟩
      · rw [show (D (Q nx)).toNat + 1 - 1 = 0 by omega, ← f3]
        exact hqe.symm
      · rw [show (D (Q nx)).toNat + 1 - 1 = 0 by omega] at hr
        have hr : q = nxP K w h p j := hr
        have h1 := (hB j j0 j1).2 (by rw [f3]; exact j2)
        rw [f3, ← hr] at h1
        exact h1 hq
    · rw [if_neg (by omega)]
      obtain ⟨x1, x2, x3, x4, x5⟩ := f3
      obtain ⟨m, hm⟩ : ∃ m, (D (Q nx)).toNat = m + 1 := ⟨(D (Q nx)).toNat - 1, by omega⟩
      refine ⟨x1, x2, x3, ?_, fun j j0 j1 j2 hr => ?_⟩
      · rw [show (D (Q nx)).toNat + 1 - 1 = (m + 1) by omega]
        rw [show (D (Q nx)).toNat - 1 = m by omega] at x4
        exact ⟨Q nx, i, x4, hi.1, hi.2, ho, hqe⟩
      · rw [show (D (Q nx)).toNat + 1 - 1 = (m + 1) by omega] at hr
        obtain ⟨q1, i1, y1, y2, y3, y4, y5⟩ := hr
        have hr1 : rcP K w h fx fy p (D (Q nx)).toNat q1 := by
          rw [hm]
          exact (rc_head m p q1).mpr ⟨j, j0, by omega, j2, y1⟩
        obtain ⟨k, g1, g2, g3, g4⟩ := hpre q1 i1 hr1 y2 y3 y4 y5
        have hk := hf k (by omega) g2 (by rw [g3, g4]; exact f1)
        have hle := hs nx k hn.1 g1 g2 f1 (by rw [g3, g4])
        rw [g3, g4] at hk
        rw [g3] at hle
        exact hk.2.2.2.2 j j0 (by omega) j2 (by rw [show (D (Q nx)).toNat - 1 = m by omega]; exact y1)
  refine ⟨hlt, ⟨hn.1, by omega⟩, ⟨⟨by omega, ?_⟩, ?_, ?_, ?_, ⟨?_, ?_, ?_⟩, ?_, ?_⟩, ?_, ?_, ?_, ?_⟩
  · have h1 := cn_zu (S := fun q => D q + 1) (p := q) (by show D q + 1 = 0; omega) 480
    rw [if_pos ⟨hvq.1, hvq.2.1⟩] at h1
    rw [cn_same (S := fun x => zu D q (D (Q nx) + 1) x + 1) (T := zu (fun q => D q + 1) q 1) ?_ 480, h1, ← a1]
    intro x
    by_cases g : x = q
    · rw [g, hDq, zu_same]
      exact ⟨fun a => by omega, fun a => by omega⟩
    · rw [zu_ne _ _ g, zu_ne _ _ g]
  · intro x x0 x1
    by_cases g : x = q
    · rw [g, hDq]
      exact ⟨fun _ => ⟨qd, by omega, by omega, hQq⟩, fun _ => by omega⟩
    · rw [zu_ne _ _ g]
      refine (hb x x0 x1).trans ⟨fun ⟨k, k0, k1, k2⟩ => ⟨k, k0, by omega, by rw [hQ' k k1]; exact k2⟩, fun ⟨k, k0, k1, k2⟩ => ?_⟩
      by_cases g2 : k = qd
      · rw [g2, hQq] at k2
        exact absurd k2.symm g
      · exact ⟨k, k0, by omega, by rw [← hQ' k (by omega)]; exact k2⟩
  · intro k k0 k1
    by_cases g : k = qd
    · rw [g, hQq, hDq, show (D (Q nx) + 1).toNat = (D (Q nx)).toNat + 1 by omega]
      exact ⟨hvq, by omega, hrq, hmin⟩
    · rw [hQ' k (by omega), hD' k k0 (by omega)]
      exact hc k k0 (by omega)
  · intro k k' k0 k1 k2
    by_cases g : k' = qd
    · rw [g, hQq, hDq]
      by_cases g2 : k = qd
      · rw [g2, hQq, hDq]
        omega
      · rw [hQ' k (by omega), hD' k k0 (by omega)]
        exact hU k k0 (by omega)
    · rw [hQ' k (by omega), hQ' k' (by omega), hD' k k0 (by omega), hD' k' (by omega) (by omega)]
      exact hd k k' k0 k1 (by omega)
  · rw [hQ' 0 a0]; exact r1
  · have := hF' 0 (by omega) a0
    rw [r1] at this
    rw [this]; exact r2
  · intro k k0 k1
    by_cases g : k = qd
    · rw [g, hQq, hDq]
      omega
    · rw [hQ' k (by omega), hD' k (by omega) (by omega)]
      exact r3 k k0 (by omega)
  · intro k k0 k1 k2
    by_cases g : k = qd
    · rw [g, hQq, hDq, hFq]
      exact hnew
    · rw [hQ' k (by omega), hD' k k0 (by omega)] at k2 ⊢
      rw [hF' k k0 (by omega)]
      exact hf k k0 (by omega) k2
  · intro k k' k0 k1 k2 k3 k4
    by_cases g : k' = qd
    · by_cases g2 : k = qd
      · rw [g, g2]
        exact Int.le_refl _
      · rw [g, hQq, hDq, hQ' k (by omega), hD' k k0 (by omega)] at k4
        rw [g, hQq, hFq, hQ' k (by omega), hF' k k0 (by omega)]
        have := hFb k k0 (by omega) k4
        rcases hFu with ⟨f1, f2, f3⟩ | ⟨f1, f2, f3⟩
        · rw [if_pos f1] at this
          rw [if_pos f2]
          omega
        · rw [if_neg (by omega)] at this
          rw [if_neg (by omega)]
          exact this
    · rw [hQ' k (by omega), hD' k k0 (by omega)] at k3
      rw [hQ' k (by omega), hD' k k0 (by omega), hQ' k' (by omega), hD' k' (by omega) (by omega)] at k4
      rw [hQ' k (by omega), hQ' k' (by omega), hF' k k0 (by omega), hF' k' (by omega) (by omega)]
      exact hs k k' k0 k1 (by omega) k3 k4
  · intro k k0 k1 j j0 j1
    rw [hQ' k (by omega)]
    refine ⟨(hE k k0 k1 j j0 j1).1, fun ho2 hz => (hE k k0 k1 j j0 j1).2 ho2 ?_⟩
    by_cases g : nxP K w h (Q k) j = q
    · rw [g, hDq] at hz
      omega
    · rw [zu_ne _ _ g] at hz
      exact hz
  · intro j j0 j1
    rw [hQ' nx hn.2]
    by_cases gj : j = i
    · rw [gj, hqe, hDq]
      exact ⟨by omega, fun _ => by omega⟩
    · refine ⟨(hB j j0 (by omega)).1, fun ho2 hz => (hB j j0 (by omega)).2 ho2 ?_⟩
      by_cases g : nxP K w h (Q nx) j = q
      · rw [g, hDq] at hz
        omega
      · rw [zu_ne _ _ g] at hz
        exact hz
  · intro k k0 k1
    rw [hQ' nx hn.2, hD' nx hn.1 hn.2]
    by_cases g : k = qd
    · rw [g, hQq, hDq]
      omega
    · rw [hQ' k (by omega), hD' k k0 (by omega)]
      exact hU k k0 (by omega)
  · intro k k0 k1 k2
    rw [hQ' nx hn.2, hD' nx hn.1 hn.2] at k2 ⊢
    rw [hF' nx hn.1 hn.2]
    by_cases g : k = qd
    · rw [g, hQq, hFq]
      rcases hFu with ⟨f1, f2, f3⟩ | ⟨f1, f2, f3⟩
      · rw [if_pos f1, if_pos f2]
        omega
      · rw [if_neg (by omega), if_neg (by omega)]
        exact Int.le_refl _
    · rw [hQ' k (by omega), hD' k k0 (by omega)] at k2
      rw [hQ' k (by omega), hF' k k0 (by omega)]
      have := hFb k k0 (by omega) k2
      rcases hFu with ⟨f1, f2, f3⟩ | ⟨f1, f2, f3⟩
      · rw [if_pos f1] at this ⊢
        omega
      · rw [if_neg (by omega)] at this ⊢
        exact this
theorem JJ_old {K : Int → Int} {w h fx fy p nx i : Int} {D F Q : Int → Int} {qd : Int} (hJ : JJP K w h fx fy p nx i D F Q qd) (h2 : ¬ ocP K w h fx fy (Q nx) i = 2) (ho : ocP K w h fx fy (Q nx) i = 0 → ¬ D (nxP K w h (Q nx) i) = -1) : JJP K w h fx fy p nx (i + 1) D F Q qd := by
  obtain ⟨hn, hJI, hE, hB, hU, hFb⟩ := hJ
  refine ⟨hn, hJI, hE, fun j j0 j1 => ?_, hU, fun k k0 k1 k2 => ?_⟩
  · by_cases g : j = i
    · rw [g]; exact ⟨h2, ho⟩
    · exact hB j j0 (by omega)
  · have := hFb k k0 k1 k2
    split at this <;> split <;> omega
theorem tiR_sp {K : Int → Int} {w h fx fy p nx u dep bw : Int} (gw : 0 < w ∧ w ≤ 12) (gh : 0 < h ∧ h ≤ 8) : ∀ (n : Nat) (i : Int) (D F Q : Int → Int) (qd : Int), 0 ≤ i → i + n = 6 → JJP K w h fx fy p nx i D F Q qd → Q nx = u → D u + 1 = dep → F u = bw →
    (∃ D9 F9 Q9 qd9 i9, JJP K w h fx fy p nx i9 D9 F9 Q9 qd9 ∧ Q9 nx = u ∧ D9 u + 1 = dep ∧ F9 u = bw ∧ 0 ≤ i9 ∧ i9 ≤ 5 ∧ ocP K w h fx fy u i9 = 2 ∧ (tiR K w h fx fy (u / 5 % 12) (u / 5 / 12) (u % 5) dep bw n i D F Q qd).2.2.2.2 = if bw = -1 then i9 else bw) ∨
    ((tiR K w h fx fy (u / 5 % 12) (u / 5 / 12) (u % 5) dep bw n i D F Q qd).2.2.2.2 = -1 ∧ JJP K w h fx fy p nx 6 (tiR K w h fx fy (u / 5 % 12) (u / 5 / 12) (u % 5) dep bw n i D F Q qd).1 (tiR K w h fx fy (u / 5 % 12) (u / 5 / 12) (u % 5) dep bw n i D F Q qd).2.1 (tiR K w h fx fy (u / 5 % 12) (u / 5 / 12) (u % 5) dep bw n i D F Q qd).2.2.1 (tiR K w h fx fy (u / 5 % 12) (u / 5 / 12) (u % 5) dep bw n i D F Q qd).2.2.2.1) := by
  intro n
  induction n with
  | zero =>
    intro i D F Q qd h0 h1 hJ hu hd hb
    rw [show i = 6 by omega] at hJ
    exact Or.inr ⟨rfl, hJ⟩
  | succ n ih =>
    intro i D F Q qd h0 h1 hJ hu hd hb
    rw [tiR]
    by_cases c1 : mvO K w h fx fy (u / 5 % 12) (u / 5 / 12) (u % 5) i = 2
    · rw [if_pos c1]
      exact Or.inl ⟨D, F, Q, qd, i, hJ, hu, hd, hb, h0, by omega, c1, rfl⟩
    · rw [if_neg c1]
      by_cases c2 : mvO K w h fx fy (u / 5 % 12) (u / 5 / 12) (u % 5) i = 0
      · rw [if_pos c2]
        have c2' : ocP K w h fx fy (Q nx) i = 0 := by rw [hu]; exact c2
        by_cases c3 : D (nxP K w h (Q nx) i) = -1
        · obtain ⟨hlt, hJ2⟩ := JJ_new gw gh hJ ⟨h0, by omega⟩ c2' c3
          have hcell : plc (mvX K w h (u / 5 % 12) (u / 5 / 12) i) (mvY K w h (u / 5 % 12) (u / 5 / 12) (u % 5) i) (mvL K w h (u / 5 % 12) (u / 5 / 12) (u % 5) i) = nxP K w h (Q nx) i := by rw [hu]; rfl
          rw [hcell]
          have hcond : qd < 480 ∧ D (nxP K w h (Q nx) i) = -1 := ⟨hlt, c3⟩
          rw [rcD, rcF, rcQ, rcN, if_pos hcond, if_pos hcond, if_pos hcond, if_pos hcond]
          have hne : ¬ u = nxP K w h (Q nx) i := by
            intro e
            have := (hJ.2.1.2.2.1 nx hJ.1.1 hJ.1.2).2.1
            rw [hu, e, c3] at this
            omega
          rw [hu, hd, hb] at hJ2
          rw [hu] at hne ⊢
          refine ih (i + 1) _ _ _ _ (by omega) (by omega) hJ2 ?_ ?_ ?_
          · rw [zu_ne _ _ (by have := hJ.1.2; omega)]
            exact hu
          · rw [zu_ne _ _ hne]
            exact hd
          · rw [zu_ne _ _ hne]
            exact hb
        · have hcell : plc (mvX K w h (u / 5 % 12) (u / 5 / 12) i) (mvY K w h (u / 5 % 12) (u / 5 / 12) (u % 5) i) (mvL K w h (u / 5 % 12) (u / 5 / 12) (u % 5) i) = nxP K w h (Q nx) i := by rw [hu]; rfl
          rw [hcell]
          have hcond : ¬ (qd < 480 ∧ D (nxP K w h (Q nx) i) = -1) := fun x => c3 x.2
          rw [rcD, rcF, rcQ, rcN, if_neg hcond, if_neg hcond, if_neg hcond, if_neg hcond]
          exact ih (i + 1) D F Q qd (by omega) (by omega) (JJ_old hJ (by rw [c2']; decide) (fun _ => c3)) hu hd hb
      · rw [if_neg c2]
        exact ih (i + 1) D F Q qd (by omega) (by omega) (JJ_old hJ (by rw [hu]; exact c1) (fun x => absurd (by rw [hu] at x; exact x) c2)) hu hd hb
/-- where a win is met -/
theorem JJ_win {K : Int → Int} {w h fx fy p nx i lim : Int} {D F Q : Int → Int} {qd : Int} (gw : 0 < w ∧ w ≤ 12) (gh : 0 < h ∧ h ≤ 8) (hJ : JJP K w h fx fy p nx i D F Q qd) (hi : 0 ≤ i ∧ i ≤ 5) (ho : ocP K w h fx fy (Q nx) i = 2) (hl : D (Q nx) < lim) :
    isL K w h fx fy p lim (D (Q nx) + 1) ∧ goF K w h fx fy p (D (Q nx) + 1) (if F (Q nx) = -1 then i else F (Q nx)) := by
  obtain ⟨hn, hJI, hE, hB, hU, hFb⟩ := hJ
  have hreach := JI_reach gw gh hJI hn hE
  have hroot := JI_root hJI
  obtain ⟨⟨a0, a1⟩, hb, hc, hd, ⟨r1, r2, r3⟩, hf, hs⟩ := hJI
  obtain ⟨u1, u2, u3, u4⟩ := hc nx hn.1 hn.2
  have hnear : ∀ (e : Nat) (q1 i1 : Int), rcP K w h fx fy p e q1 → (e : Int) ≤ D (Q nx) → 0 ≤ i1 → i1 ≤ 5 → ocP K w h fx fy q1 i1 = 2 → (e : Int) = D (Q nx) ∧ ∃ k, nx ≤ k ∧ k < qd ∧ Q k = q1 ∧ D q1 = D (Q nx) := by
    intro e q1 i1 b1 b2 b3 b4 b5
    obtain ⟨k, g1, g2, g3, g4⟩ := hreach e q1 b1 b2
    have hnx : nx ≤ k := by
      rcases Int.lt_or_le k nx with x | x
      · have h1 := (hE k g1 x i1 b3 (by omega)).1
        rw [g3] at h1
        exact absurd b5 h1
      · exact x
    have := hd nx k hn.1 hnx g2
    rw [g3] at this
    exact ⟨by omega, k, hnx, g2, g3, by omega⟩
  refine ⟨Or.inr ⟨by omega, by omega, ?_, fun e he hw => ?_⟩, ?_⟩
  · rw [show (D (Q nx) + 1 - 1).toNat = (D (Q nx)).toNat by omega]
    exact ⟨Q nx, i, u3, hi.1, hi.2, ho⟩
  · obtain ⟨q1, i1, b1, b2, b3, b4⟩ := hw
    have := (hnear e q1 i1 b1 (by omega) b2 b3 b4).1
    omega
  · rcases Int.lt_or_le 0 (D (Q nx)) with g | g
    · have hfi := hf nx hn.1 hn.2 (by omega)
      obtain ⟨x1, x2, x3, x4, x5⟩ := hfi
      rw [if_neg (by omega)]
      refine ⟨x1, x2, Or.inr ⟨by omega, x3, Q nx, i, ?_, hi.1, hi.2, ho⟩, fun j j0 j1 hg => ?_⟩
      · rw [show (D (Q nx) + 1 - 2).toNat = (D (Q nx)).toNat - 1 by omega]
        exact x4
      · rcases hg with ⟨y1, _⟩ | ⟨y1, y2, q1, i1, y3, y4, y5, y6⟩
        · omega
        · obtain ⟨m, hm⟩ : ∃ m, (D (Q nx)).toNat = m + 1 := ⟨(D (Q nx)).toNat - 1, by omega⟩
          rw [show (D (Q nx) + 1 - 2).toNat = m by omega] at y3
          have hr1 : rcP K w h fx fy p (m + 1) q1 := (rc_head m p q1).mpr ⟨j, j0, by omega, y2, y3⟩
          obtain ⟨_, k, g1, g2, g3, g4⟩ := hnear (m + 1) q1 i1 hr1 (by omega) y4 y5 y6
          have hk := hf k (by omega) g2 (by rw [g3, g4]; omega)
          have hle := hs nx k hn.1 g1 g2 (by omega) (by rw [g3, g4])
          rw [g3, g4] at hk
          rw [g3] at hle
          exact hk.2.2.2.2 j j0 (by omega) y2 (by rw [show (D (Q nx)).toNat - 1 = m by omega]; exact y3)
    · have h0 : nx = 0 := by
        rcases Int.lt_or_le nx 1 with x | x
        · omega
        · have := r3 nx x hn.2
          omega
      have hQn : Q nx = p := by rw [h0]; exact r1
      rw [hQn] at ho ⊢
      rw [if_pos r2, hroot]
      refine ⟨hi.1, hi.2, Or.inl ⟨rfl, ho⟩, fun j j0 j1 hg => ?_⟩
      rcases hg with ⟨_, y2⟩ | ⟨y1, _⟩
      · have h1 := (hB j j0 j1).1
        rw [hQn] at h1
        exact h1 y2
      · omega
theorem JJ_next {K : Int → Int} {w h fx fy p nx : Int} {D F Q : Int → Int} {qd : Int} (hJ : JJP K w h fx fy p nx 6 D F Q qd) (hn2 : nx + 1 < qd) : JJP K w h fx fy p (nx + 1) 0 D F Q qd := by
  obtain ⟨hn, hJI, hE, hB, hU, hFb⟩ := hJ
  have hJ0 := hJI
  obtain ⟨⟨a0, a1⟩, hb, hc, hd, ⟨r1, r2, r3⟩, hf, hs⟩ := hJI
  have hm := hd nx (nx + 1) hn.1 (by omega) hn2
  have h1 := r3 (nx + 1) (by omega) hn2
  refine ⟨⟨by omega, hn2⟩, hJ0, fun k k0 k1 => ?_, fun j j0 j1 => by omega, fun k k0 k1 => ?_, fun k k0 k1 k2 => ?_⟩
  · by_cases g : k = nx
    · rw [g]; exact hB
    · exact hE k k0 (by omega)
  · have := hU k k0 k1
    omega
  · rw [if_neg (by omega)]
    have h3 := hU k k0 k1
    have h4 : D (Q (nx + 1)) = D (Q nx) := by
      have := hU (nx + 1) (by omega) hn2
      omega
    have h5 := hFb k k0 k1 (by omega)
    rw [if_neg (by omega)] at h5
    have h6 := hs nx (nx + 1) hn.1 (by omega) hn2 (by omega) h4.symm
    omega
/-- behind the last place there is no win -/
theorem JI_done {K : Int → Int} {w h fx fy p : Int} {D F Q : Int → Int} {qd : Int} (gw : 0 < w ∧ w ≤ 12) (gh : 0 < h ∧ h ≤ 8) (hJ : JIP K w h fx fy p D F Q qd) (hE : ∀ k, 0 ≤ k → k < qd → exP K w h fx fy D (Q k) 6) (lim : Int) : isL K w h fx fy p lim (-1) := by
  obtain ⟨⟨a0, a1⟩, hb, hc, hd, ⟨r1, r2, r3⟩, hf, hs⟩ := hJ
  have hp : vld w h p := by
    have := (hc 0 (by omega) a0).1
    rw [r1] at this
    exact this
  have hall : ∀ (e : Nat) (q : Int), rcP K w h fx fy p e q → ∃ k, 0 ≤ k ∧ k < qd ∧ Q k = q := by
    intro e
    induction e with
    | zero => intro q hq; exact ⟨0, by omega, a0, by rw [r1]; exact Eq.symm hq⟩
    | succ e ih =>
      intro q hq
      have hv := vld_rc gw gh hp _ _ hq
      obtain ⟨q1, i, b1, b2, b3, b4, b5⟩ := hq
      obtain ⟨k, g1, g2, g3⟩ := ih q1 b1
      have h1 := (hE k g1 g2 i b2 (by omega)).2
      rw [g3, b5] at h1
      exact (hb q hv.1 hv.2.1).mp (h1 b4)
  refine Or.inl ⟨rfl, fun e _ hw => ?_⟩
  obtain ⟨q, i, b1, b2, b3, b4⟩ := hw
  obtain ⟨k, g1, g2, g3⟩ := hall e q b1
  have h1 := (hE k g1 g2 i b2 (by omega)).1
  rw [g3] at h1
  exact h1 b4
theorem fwR_sp {K : Int → Int} {w h fx fy p lim : Int} (gw : 0 < w ∧ w ≤ 12) (gh : 0 < h ∧ h ≤ 8) : ∀ (n : Nat) (nx : Int) (D F Q : Int → Int) (qd : Int), (n : Int) + nx = 480 → JJP K w h fx fy p nx 0 D F Q qd →
    isL K w h fx fy p lim (fwR K w h fx fy lim n nx D F Q qd).1 ∧ (((fwR K w h fx fy lim n nx D F Q qd).1 = -1 ∧ (fwR K w h fx fy lim n nx D F Q qd).2 = -1) ∨ (¬ (fwR K w h fx fy lim n nx D F Q qd).1 = -1 ∧ goF K w h fx fy p (fwR K w h fx fy lim n nx D F Q qd).1 (fwR K w h fx fy lim n nx D F Q qd).2)) := by
  intro n
  induction n with
  | zero =>
    intro nx D F Q qd h1 hJ
    have h2 := cn_le (fun q => D q + 1) 480
    have h3 := hJ.1
    have h4 := hJ.2.1.1
    omega
  | succ n ih =>
    intro nx D F Q qd h1 hJ
    rw [fwR, if_pos hJ.1.2]
    by_cases c1 : lim ≤ D (Q nx)
    · rw [if_pos c1]
      refine ⟨Or.inl ⟨rfl, fun e he hw => ?_⟩, Or.inl ⟨rfl, rfl⟩⟩
      obtain ⟨q, i, b1, b2, b3, b4⟩ := hw
      obtain ⟨hn, hJI, hE, hB, hU, hFb⟩ := hJ
      obtain ⟨k, g1, g2, g3, g4⟩ := JI_reach gw gh hJI hn hE e q b1 (by omega)
      have hlt : k < nx := by
        rcases Int.lt_or_le k nx with x | x
        · exact x
        · have := hJI.2.2.2.1 nx k hn.1 x g2
          rw [g3] at this
          omega
      have h5 := (hE k g1 hlt i b2 (by omega)).1
      rw [g3] at h5
      exact h5 b4
    · rw [if_neg c1]
      have hT := tiR_sp (K := K) (fx := fx) (fy := fy) (p := p) (nx := nx) (u := Q nx) (dep := D (Q nx) + 1) (bw := F (Q nx)) gw gh 6 0 D F Q qd (by omega) (by omega) hJ rfl rfl rfl
      generalize tiR K w h fx fy (Q nx / 5 % 12) (Q nx / 5 / 12) (Q nx % 5) (D (Q nx) + 1) (F (Q nx)) 6 0 D F Q qd = R at hT ⊢
      rcases hT with ⟨D9, F9, Q9, qd9, i9, t1, t2, t3, t4, t5, t6, t7, t8⟩ | ⟨t1, t2⟩
      · have hw := JJ_win (lim := lim) gw gh t1 ⟨t5, t6⟩ (by rw [t2]; exact t7) (by rw [t2]; omega)
        rw [t2, t3, t4, ← t8] at hw
        have hne : ¬ R.2.2.2.2 = -1 := by
          have := hw.2.1
          omega
        rw [if_neg hne]
        exact ⟨hw.1, Or.inr ⟨by have := (hJ.2.1.2.2.1 nx hJ.1.1 hJ.1.2).2.1; show ¬ D (Q nx) + 1 = -1; omega, hw.2⟩⟩
      · rw [if_pos t1]
        rcases Int.lt_or_le (nx + 1) R.2.2.2.1 with g | g
        · exact ih (nx + 1) R.1 R.2.1 R.2.2.1 R.2.2.2.1 (by omega) (JJ_next t2 g)
        · have hd := JI_done gw gh t2.2.1 (fun k k0 k1 => by
            by_cases x : k = nx
            · rw [x]; exact t2.2.2.2.1
            · exact t2.2.2.1 k k0 (by omega)) lim
          cases n with
          | zero => exact ⟨hd, Or.inl ⟨rfl, rfl⟩⟩
          | succ n =>
            rw [fwR, if_neg (by omega)]
            exact ⟨hd, Or.inl ⟨rfl, rfl⟩⟩
theorem fwT_sp {K : Int → Int} {w h fx fy p lim : Int} (gw : 0 < w ∧ w ≤ 12) (gh : 0 < h ∧ h ≤ 8) (hp : vld w h p) {D F Q : Int → Int} (hD : ∀ j, 0 ≤ j → j < 480 → D j = -1) :
    isL K w h fx fy p lim (fwT K w h fx fy lim p D F Q).1 ∧ (((fwT K w h fx fy lim p D F Q).1 = -1 ∧ (fwT K w h fx fy lim p D F Q).2 = -1) ∨ (¬ (fwT K w h fx fy lim p D F Q).1 = -1 ∧ goF K w h fx fy p (fwT K w h fx fy lim p D F Q).1 (fwT K w h fx fy lim p D F Q).2)) := by
  have hQ0 : ∀ k : Int, 0 ≤ k → k < 1 → zu Q 0 p k = p := fun k k0 k1 => by rw [show k = 0 by omega, zu_same]
  have hDp : zu D p 0 p = 0 := zu_same _ _ _
  refine fwR_sp gw gh 480 0 _ _ _ _ (by omega) ⟨⟨by omega, by omega⟩, ⟨⟨by omega, ?_⟩, ?_, ?_, ?_, ⟨hQ0 0 (by omega) (by omega), zu_same _ _ _, fun k k0 k1 => by omega⟩, ?_, ?_⟩, fun k k0 k1 => by omega, fun j j0 j1 => by omega, ?_, ?_⟩
  · have h0 : ∀ k : Nat, (k : Int) ≤ 480 → cn (fun q => D q + 1) k = 0 := by
      intro k
      induction k with
      | zero => intro _; rfl
      | succ k ih =>
        intro hk
        show cn (fun q => D q + 1) k + (if D (k : Int) + 1 = 0 then 0 else 1) = 0
        rw [ih (by omega), hD (k : Int) (by omega) (by omega)]
        rfl
    have h1 := cn_zu (S := fun q => D q + 1) (p := p) (by show D p + 1 = 0; rw [hD p hp.1 hp.2.1]; rfl) 480
    rw [if_pos ⟨hp.1, hp.2.1⟩, h0 480 (by omega)] at h1
    rw [cn_same (S := fun x => zu D p 0 x + 1) (T := zu (fun q => D q + 1) p 1) ?_ 480, h1]
    · rfl
    · intro x
      by_cases g : x = p
      · rw [g, hDp, zu_same]
        exact ⟨fun a => by omega, fun a => by omega⟩
      · rw [zu_ne _ _ g, zu_ne _ _ g]
  · intro q q0 q1
    by_cases g : q = p
    · rw [g, hDp]
      exact ⟨fun _ => ⟨0, by omega, by omega, hQ0 0 (by omega) (by omega)⟩, fun _ => by omega⟩
    · rw [zu_ne _ _ g, hD q q0 q1]
      refine ⟨fun x => absurd rfl x, fun ⟨k, k0, k1, k2⟩ => ?_⟩
      rw [hQ0 k k0 k1] at k2
      exact absurd k2.symm g
  · intro k k0 k1
    rw [hQ0 k k0 k1, hDp]
    exact ⟨hp, by omega, rfl, fun e he => by omega⟩
  · intro k k' k0 k1 k2
    rw [hQ0 k k0 (by omega), hQ0 k' (by omega) k2]
    exact Int.le_refl _
  · intro k k0 k1 k2
    rw [hQ0 k k0 k1, hDp] at k2
    omega
  · intro k k' k0 k1 k2 k3
    rw [hQ0 k k0 (by omega), hDp] at k3
    omega
  · intro k k0 k1
    rw [hQ0 k k0 k1, hQ0 0 (by omega) (by omega)]
    omega
  · intro k k0 k1 k2
    rw [hQ0 k k0 k1, hQ0 0 (by omega) (by omega), hDp] at k2
    omega
