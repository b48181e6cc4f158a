/-! what ties the two sides -/
theorem bp_step {R : Int → Int} {L : Int} {v n fa fe b : Int} (h1 : fa = b) (h2 : b = -1 → fe = 101) (h3 : ¬ b = -1 → fe = R (4 * L + b)) (hv : v ≤ 100) (hn : ¬ n = -1) (hR : R (4 * L + n) = v) :
    (bpt v n (fa, fe)).1 = mbt v (R (4 * L + b)) n b ∧ (mbt v (R (4 * L + b)) n b = -1 → (bpt v n (fa, fe)).2 = 101) ∧ (¬ mbt v (R (4 * L + b)) n b = -1 → (bpt v n (fa, fe)).2 = R (4 * L + mbt v (R (4 * L + b)) n b)) := by
  unfold bpt mbt
  by_cases c1 : v = -1
  · rw [if_neg (by omega), if_neg (by omega)]
    exact ⟨h1, h2, h3⟩
  · by_cases c2 : b = -1
    · have := h2 c2
      rw [if_pos ⟨c1, by show v < fe; omega⟩, if_pos ⟨c1, Or.inl c2⟩]
      exact ⟨rfl, fun x => absurd x hn, fun _ => hR.symm⟩
    · have h4 := h3 c2
      by_cases c3 : v < fe
      · rw [if_pos ⟨c1, c3⟩, if_pos ⟨c1, Or.inr (by omega)⟩]
        exact ⟨rfl, fun x => absurd x hn, fun _ => hR.symm⟩
      · rw [if_neg (fun x => c3 x.2), if_neg (fun x => by rcases x.2 with y | y <;> omega)]
        exact ⟨h1, h2, h3⟩
theorem bp4_mb4 {R : Int → Int} {L : Int} {LN : Nat → Int} (hR : Din R) (h0 : LN 0 = R (4 * L)) (h1 : LN 1 = R (4 * L + 1)) (h2 : LN 2 = R (4 * L + 2)) (h3 : LN 3 = R (4 * L + 3)) : (bp4 LN).1 = mb4 R L ∧ (¬ mb4 R L = -1 → ¬ R (4 * L + mb4 R L) = -1) := by
  have r0 := hR (4 * L)
  have r1 := hR (4 * L + 1)
  have r2 := hR (4 * L + 2)
  have r3 := hR (4 * L + 3)
  have s0 := bp_step (R := R) (L := L) (v := LN 0) (n := 0) (fa := -1) (fe := 101) (b := -1) rfl (fun _ => rfl) (fun x => absurd rfl x) (by omega) (by decide) (by rw [show 4 * L + 0 = 4 * L by omega]; exact h0.symm)
  have e0 : mbt (LN 0) (R (4 * L + -1)) 0 (-1) = mb1 R L := by rw [h0]; rfl
  rw [e0] at s0
  have s1 := bp_step (R := R) (L := L) (v := LN 1) (n := 1) (fa := (bpt (LN 0) 0 (-1, 101)).1) (fe := (bpt (LN 0) 0 (-1, 101)).2) s0.1 s0.2.1 s0.2.2 (by omega) (by decide) h1.symm
  have e1 : mbt (LN 1) (R (4 * L + mb1 R L)) 1 (mb1 R L) = mb2 R L := by rw [h1]; rfl
  rw [e1] at s1
  have s2 := bp_step (R := R) (L := L) (v := LN 2) (n := 2) (fa := (bpt (LN 1) 1 (bpt (LN 0) 0 (-1, 101))).1) (fe := (bpt (LN 1) 1 (bpt (LN 0) 0 (-1, 101))).2) s1.1 s1.2.1 s1.2.2 (by omega) (by decide) h2.symm
  have e2 : mbt (LN 2) (R (4 * L + mb2 R L)) 2 (mb2 R L) = mb3 R L := by rw [h2]; rfl
  rw [e2] at s2
  have s3 := bp_step (R := R) (L := L) (v := LN 3) (n := 3) (fa := (bpt (LN 2) 2 (bpt (LN 1) 1 (bpt (LN 0) 0 (-1, 101)))).1) (fe := (bpt (LN 2) 2 (bpt (LN 1) 1 (bpt (LN 0) 0 (-1, 101)))).2) s2.1 s2.2.1 s2.2.2 (by omega) (by decide) h3.symm
  have e3 : mbt (LN 3) (R (4 * L + mb3 R L)) 3 (mb3 R L) = mb4 R L := by rw [h3]; rfl
  rw [e3] at s3
  refine ⟨s3.1, fun hne => ?_⟩
  -- the best has a record
  have k : ∀ v u n b : Int, mbt v u n b = b ∨ (mbt v u n b = n ∧ ¬ v = -1) := by
    intro v u n b
    unfold mbt
    split
    · rename_i hc; exact Or.inr ⟨rfl, hc.1⟩
    · exact Or.inl rfl
  have k1 : ¬ mb1 R L = -1 → ¬ R (4 * L + mb1 R L) = -1 := fun x => by
    rcases k (R (4 * L)) (R (4 * L + -1)) 0 (-1) with y | ⟨y1, y2⟩
    · exact absurd y x
    · rw [show mb1 R L = 0 from y1, show 4 * L + 0 = 4 * L by omega]; exact y2
  have k2 : ¬ mb2 R L = -1 → ¬ R (4 * L + mb2 R L) = -1 := fun x => by
    rcases k (R (4 * L + 1)) (R (4 * L + mb1 R L)) 1 (mb1 R L) with y | ⟨y1, y2⟩
    · rw [show mb2 R L = mb1 R L from y] at x ⊢; exact k1 x
    · rw [show mb2 R L = 1 from y1]; exact y2
  have k3 : ¬ mb3 R L = -1 → ¬ R (4 * L + mb3 R L) = -1 := fun x => by
    rcases k (R (4 * L + 2)) (R (4 * L + mb2 R L)) 2 (mb2 R L) with y | ⟨y1, y2⟩
    · rw [show mb3 R L = mb2 R L from y] at x ⊢; exact k2 x
    · rw [show mb3 R L = 2 from y1]; exact y2
  rcases k (R (4 * L + 3)) (R (4 * L + mb3 R L)) 3 (mb3 R L) with y | ⟨y1, y2⟩
  · rw [show mb4 R L = mb3 R L from y] at hne ⊢; exact k3 hne
  · rw [show mb4 R L = 3 from y1]; exact y2
/-- the half of a run of n frames -/
def hlP (K : Int → Int) (w h sx sy : Int) (IN : Int → Int) (n r : Int) : Prop := (r = -1 ∧ ∀ k : Nat, (k : Int) ≤ n → 2 * (smS K w h sx sy IN k).1 < w) ∨ (0 ≤ r ∧ r ≤ n ∧ w ≤ 2 * (smS K w h sx sy IN r.toNat).1 ∧ ∀ k : Nat, (k : Int) < r → 2 * (smS K w h sx sy IN k).1 < w)
theorem hlP_uniq {K : Int → Int} {w h sx sy : Int} {IN : Int → Int} {n r r2 : Int} (h1 : hlP K w h sx sy IN n r) (h2 : hlP K w h sx sy IN n r2) : r = r2 := by
  rcases h1 with ⟨a1, a2⟩ | ⟨a1, a2, a3, a4⟩ <;> rcases h2 with ⟨b1, b2⟩ | ⟨b1, b2, b3, b4⟩
  · omega
  · have := a2 r2.toNat (by omega)
    omega
  · have := b2 r.toNat (by omega)
    omega
  · rcases Int.lt_trichotomy r r2 with q | q | q
    · have := b4 r.toNat (by omega)
      omega
    · exact q
    · have := a4 r2.toNat (by omega)
      omega
theorem smS_congr {K K2 : Int → Int} {w h sx sy : Int} {IN IN2 : Int → Int} (hK : ∀ x y, 0 ≤ x → x < w → 0 ≤ y → y < h → K (y * 12 + x) = K2 (y * 12 + x)) : ∀ n : Nat, (∀ j : Nat, j < n → IN (j : Int) = IN2 (j : Int)) → smS K w h sx sy IN n = smS K2 w h sx sy IN2 n := by
  have hkd : ∀ x y, kd K w h x y = kd K2 w h x y := by
    intro x y
    unfold kd
    by_cases c : 0 ≤ x ∧ x < w ∧ 0 ≤ y ∧ y < h
    · rw [if_pos c, if_pos c, hK x y c.1 c.2.1 c.2.2.1 c.2.2.2]
    · rw [if_neg c, if_neg c]
  have e : kd K w h = kd K2 w h := funext (fun x => funext (fun y => hkd x y))
  have hX : ∀ x y i, mvX K w h x y i = mvX K2 w h x y i := fun x y i => by unfold mvX wk; rw [e]
  have hY : ∀ x y l i, mvY K w h x y l i = mvY K2 w h x y l i := fun x y l i => by unfold mvY upY riY faY juL mvX wk; rw [e]
  have hL : ∀ x y l i, mvL K w h x y l i = mvL K2 w h x y l i := fun x y l i => by unfold mvL lkL mvY upL upY riL riY faY juL mvX wk; rw [e]
  intro n
  induction n with
  | zero => intro _; rfl
  | succ n ih =>
    intro hj
    have h1 := ih (fun j h => hj j (by omega))
    have h2 := hj n (by omega)
    rw [smS, smS, h1, h2, hX, hY, hL]
theorem mvO_congr {K K2 : Int → Int} {w h : Int} (hK : ∀ x y, 0 ≤ x → x < w → 0 ≤ y → y < h → K (y * 12 + x) = K2 (y * 12 + x)) (fx fy x y l i : Int) : mvX K w h x y i = mvX K2 w h x y i ∧ mvY K w h x y l i = mvY K2 w h x y l i ∧ mvL K w h x y l i = mvL K2 w h x y l i ∧ mvO K w h fx fy x y l i = mvO K2 w h fx fy x y l i := by
  have hkd : ∀ x y, kd K w h x y = kd K2 w h x y := by
    intro x y
    unfold kd
    by_cases c : 0 ≤ x ∧ x < w ∧ 0 ≤ y ∧ y < h
    · rw [if_pos c, if_pos c, hK x y c.1 c.2.1 c.2.2.1 c.2.2.2]
    · rw [if_neg c, if_neg c]
  have e : kd K w h = kd K2 w h := funext (fun x => funext (fun y => hkd x y))
  have hX : ∀ x y i, mvX K w h x y i = mvX K2 w h x y i := fun x y i => by unfold mvX wk; rw [e]
  have hY : ∀ x y l i, mvY K w h x y l i = mvY K2 w h x y l i := fun x y l i => by unfold mvY upY riY faY juL mvX wk; rw [e]
  have hL : ∀ x y l i, mvL K w h x y l i = mvL K2 w h x y l i := fun x y l i => by unfold mvL lkL mvY upL upY riL riY faY juL mvX wk; rw [e]
  exact ⟨hX x y i, hY x y l i, hL x y l i, by unfold mvO lkO; rw [hX, hY, e]⟩
/-- one frame more: the half that is noted -/
theorem hlP_next {K : Int → Int} {w h sx sy : Int} {IN : Int → Int} {n r : Int} (h0 : 0 ≤ n) (hr : hlP K w h sx sy IN n r) : hlP K w h sx sy IN (n + 1) (ncF r (n + 1) (smS K w h sx sy IN (n + 1).toNat).1 w) := by
  unfold ncF
  rcases hr with ⟨a1, a2⟩ | ⟨a1, a2, a3, a4⟩
  · by_cases c : w ≤ (smS K w h sx sy IN (n + 1).toNat).1 * 2
    · rw [if_pos ⟨a1, c⟩]
      exact Or.inr ⟨by omega, by omega, by omega, fun k hk => a2 k (by omega)⟩
    · rw [if_neg (fun x => c x.2)]
      refine Or.inl ⟨a1, fun k hk => ?_⟩
      by_cases e : (k : Int) = n + 1
      · rw [show k = (n + 1).toNat by omega]
        omega
      · exact a2 k (by omega)
  · rw [if_neg (fun x => by omega)]
    exact Or.inr ⟨a1, by omega, a3, a4⟩
theorem hlP_first {K : Int → Int} {w h sx sy : Int} {IN : Int → Int} : hlP K w h sx sy IN 0 (ncF (-1) 0 sx w) := by
  unfold ncF
  by_cases c : w ≤ sx * 2
  · rw [if_pos ⟨rfl, c⟩]
    exact Or.inr ⟨by omega, by omega, by show w ≤ 2 * sx; omega, fun k hk => by omega⟩
  · rw [if_neg (fun x => c x.2)]
    refine Or.inl ⟨rfl, fun k hk => ?_⟩
    rw [show k = 0 by omega]
    show 2 * sx < w
    omega
/-! cells in groups, each address with its group's number -/
def gD (A : Nat → Prop) (own : Nat → Nat) (g : Nat) (ws : va_W) : Prop := va_D (fun q => A q ∧ own q = g) ws
theorem gD_app {A : Nat → Prop} {own : Nat → Nat} {g g2 : Nat} {w1 w2 : va_W} (h1 : gD A own g w1) (h2 : gD A own g2 w2) (hg : g ≠ g2) : va_D A (w1 ++ w2) :=
  va_D.app (h1.weaken (fun _ _ _ h => h.1)) (h2.weaken (fun _ _ _ h => h.1)) (fun i j p q hp hq e => by
    have a := (h1.2 i p hp).2
    have b := (h2.2 j q hq).2
    rw [e] at a
    exact hg (a.symm.trans b))
