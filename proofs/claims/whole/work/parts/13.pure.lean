/-! the reference's levels in its rows, its search -/
def Kof (C : Int → Int) (L : Int) : Int → Int := fun i => C (96 * L + i)
def Z32 (F : Int → Int) : Prop := ∀ i, -2147483648 ≤ F i ∧ F i < 2147483648
def B01 (F : Int → Int) : Prop := ∀ i, F i = 0 ∨ F i = 1
theorem Kin_of {C : Int → Int} (h : Kin C) (L : Int) : Kin (Kof C L) := fun i => h _
theorem kd_M {C : Int → Int} {L w h c r : Int} (gx : 0 ≤ c ∧ c < w) (gy : 0 ≤ r ∧ r < h) : kd (Kof C L) w h c r = C (96 * L + 12 * r + c) := by
  rw [kd_at gx gy]
  show C _ = C _
  congr 1
  omega
theorem kd_no {K : Int → Int} {w h c r : Int} (g : ¬ (0 ≤ c ∧ c < w ∧ 0 ≤ r ∧ r < h)) : kd K w h c r = -1 := by
  unfold kd
  rw [if_neg g]
theorem B01_zu {D : Int → Int} (hD : B01 D) {k v : Int} (hv : v = 0 ∨ v = 1) : B01 (zu D k v) := fun i => by
  unfold zu
  split
  · exact hv
  · exact hD i
def byF (i : Int) : Int := if i = 1 ∨ i = 4 then -1 else if i = 2 ∨ i = 5 then 1 else 0
theorem wkN_by (x i : Int) : wkN x i = x + byF i := by
  unfold wkN byF
  split
  · omega
  · split <;> omega
theorem wk_by (K : Int → Int) (w h x y i : Int) : wk K w h x y i = if kd K w h (x + byF i) y = -1 ∨ kd K w h (x + byF i) y = 1 then x else x + byF i := by
  unfold wk
  rw [wkN_by]
def cn (S : Int → Int) : Nat → Int
  | 0 => 0
  | k + 1 => cn S k + (if S (k : Int) = 0 then 0 else 1)
theorem cn_le (S : Int → Int) : ∀ k : Nat, 0 ≤ cn S k ∧ cn S k ≤ k := by
  intro k
  induction k with
  | zero => exact ⟨Int.le_refl 0, Int.le_refl 0⟩
  | succ k ih =>
    unfold cn
    split <;> omega
theorem cn_lt {S : Int → Int} {p : Int} : ∀ k : Nat, 0 ≤ p → p < k → S p = 0 → cn S k < k := by
  intro k
  induction k with
  | zero => intro h0 h1; omega
  | succ k ih =>
    intro h0 h1 h2
    unfold cn
    have h3 := cn_le S k
    by_cases h4 : p = k
    · rw [← h4, h2, if_pos rfl]
      omega
    · have h5 := ih h0 (by omega) h2
      split <;> omega
theorem cn_zu {S : Int → Int} {p : Int} (h2 : S p = 0) : ∀ k : Nat, cn (zu S p 1) k = cn S k + (if 0 ≤ p ∧ p < k then 1 else 0) := by
  intro k
  induction k with
  | zero =>
    rw [if_neg (by omega)]
    rfl
  | succ k ih =>
    show cn (zu S p 1) k + (if zu S p 1 (k : Int) = 0 then 0 else 1) = cn S k + (if S (k : Int) = 0 then 0 else 1) + (if 0 ≤ p ∧ p < ((k + 1 : Nat) : Int) then 1 else 0)
    rw [ih]
    by_cases h4 : (k : Int) = p
    · rw [h4, zu_same, h2]
      (repeat' split) <;> omega
    · rw [zu_ne _ _ h4]
      (repeat' split) <;> omega
def ltI (K : Int → Int) (w h fx fy x y li : Int) : Nat → Int → (Int → Int) → (Int → Int) → Int → (Int → Int) × (Int → Int) × Int × Int
  | 0, _, S, N, mr => (S, N, mr, 0)
  | n + 1, i, S, N, mr =>
    if mvO K w h fx fy x y li i = 2 then (S, N, mr, 1)
    else if mvO K w h fx fy x y li i = 0 ∧ S (plc (mvX K w h x y i) (mvY K w h x y li i) (mvL K w h x y li i)) = 0 then
      ltI K w h fx fy x y li n (i + 1) (zu S (plc (mvX K w h x y i) (mvY K w h x y li i) (mvL K w h x y li i)) 1) (zu N mr (plc (mvX K w h x y i) (mvY K w h x y li i) (mvL K w h x y li i))) (mr + 1)
    else ltI K w h fx fy x y li n (i + 1) S N mr
def ltK (K : Int → Int) (w h fx fy : Int) (E : Int → Int) : Nat → Int → (Int → Int) → (Int → Int) → Int → (Int → Int) × (Int → Int) × Int × Int
  | 0, _, S, N, mr => (S, N, mr, 0)
  | n + 1, k, S, N, mr =>
    if (ltI K w h fx fy (E k / 5 % 12) (E k / 5 / 12) (E k % 5) 6 0 S N mr).2.2.2 = 1 then ltI K w h fx fy (E k / 5 % 12) (E k / 5 / 12) (E k % 5) 6 0 S N mr
    else ltK K w h fx fy E n (k + 1) (ltI K w h fx fy (E k / 5 % 12) (E k / 5 / 12) (E k % 5) 6 0 S N mr).1 (ltI K w h fx fy (E k / 5 % 12) (E k / 5 / 12) (E k % 5) 6 0 S N mr).2.1 (ltI K w h fx fy (E k / 5 % 12) (E k / 5 / 12) (E k % 5) 6 0 S N mr).2.2.1
def cpE (N E : Int → Int) (k : Int) : Int → Int := fun j => if 0 ≤ j ∧ j < k then N j else E j
theorem cpE_step {N E : Int → Int} {k : Int} (hk : 0 ≤ k) : zu (cpE N E k) k (N k) = cpE N E (k + 1) := by
  funext j
  unfold zu cpE
  by_cases h : j = k
  · rw [if_pos h, if_pos (by omega), h]
  · rw [if_neg h]
    by_cases h2 : 0 ≤ j ∧ j < k
    · rw [if_pos h2, if_pos (by omega)]
    · rw [if_neg h2, if_neg (by omega)]
theorem cpE_0 {N E : Int → Int} : cpE N E 0 = E := by
  funext j
  unfold cpE
  rw [if_neg (by omega)]
def ltF (K : Int → Int) (w h fx fy : Int) : Nat → Int → (Int → Int) → (Int → Int) → (Int → Int) → Int → Int
  | 0, _, _, _, _, _ => -1
  | n + 1, f, E, S, N, many =>
    if 0 < many then
      if (ltK K w h fx fy E many.toNat 0 S N 0).2.2.2 = 1 then f
      else ltF K w h fx fy n (f + 1) (cpE (ltK K w h fx fy E many.toNat 0 S N 0).2.1 E (ltK K w h fx fy E many.toNat 0 S N 0).2.2.1) (ltK K w h fx fy E many.toNat 0 S N 0).1 (ltK K w h fx fy E many.toNat 0 S N 0).2.1 (ltK K w h fx fy E many.toNat 0 S N 0).2.2.1
    else -1
/-- the reference's least number of frames, over rows of which nothing is known but that nothing was seen -/
def ltT (K : Int → Int) (w h fx fy : Int) (most p : Int) (E S N : Int → Int) : Int := ltF K w h fx fy most.toNat 1 (zu E 0 p) (zu S p 1) N 1
def MOK (w h : Int) (S N : Int → Int) (mr : Int) : Prop := B01 S ∧ (0 ≤ mr ∧ mr ≤ cn S 480) ∧ ∀ k, 0 ≤ k → k < mr → vld w h (N k)
theorem MOK_put {w h : Int} {S N : Int → Int} {mr p : Int} (hm : MOK w h S N mr) (hp : vld w h p) (h0 : S p = 0) : mr < 480 ∧ MOK w h (zu S p 1) (zu N mr p) (mr + 1) := by
  obtain ⟨h1, h2, h3⟩ := hm
  have h4 := cn_lt (S := S) 480 hp.1 hp.2.1 h0
  have h5 := cn_zu h0 480
  rw [if_pos ⟨hp.1, hp.2.1⟩] at h5
  refine ⟨by omega, B01_zu h1 (by omega), by omega, fun k k0 k1 => ?_⟩
  unfold zu
  split
  · exact hp
  · exact h3 k k0 (by omega)
theorem ltI_ok {K : Int → Int} {w h fx fy x y li : Int} (gw : 0 < w ∧ w ≤ 12) (gh : 0 < h ∧ h ≤ 8) (gx : 0 ≤ x ∧ x < w) (gy : 0 ≤ y ∧ y < h) (gl : 0 ≤ li ∧ li ≤ 4) : ∀ (n : Nat) (i : Int) (S N : Int → Int) (mr : Int), MOK w h S N mr → MOK w h (ltI K w h fx fy x y li n i S N mr).1 (ltI K w h fx fy x y li n i S N mr).2.1 (ltI K w h fx fy x y li n i S N mr).2.2.1 ∧ ((ltI K w h fx fy x y li n i S N mr).2.2.2 = 0 ∨ (ltI K w h fx fy x y li n i S N mr).2.2.2 = 1) := by
  intro n
  induction n with
  | zero => intro i S N mr hm; exact ⟨hm, Or.inl rfl⟩
  | succ n ih =>
    intro i S N mr hm
    rw [ltI]
    split
    · exact ⟨hm, Or.inr rfl⟩
    · split
      · rename_i h5 h6
        have hv := mv_rng (K := K) (w := w) (h := h) (fx := fx) (fy := fy) (x := x) (y := y) (li := li) (i := i) gx gy gl
        exact ih _ _ _ _ (MOK_put hm (vld_plc gw gh hv.1 ⟨hv.2.1.1, hv.2.2.2.2 (by omega)⟩ hv.2.2.1) h6.2).2
      · exact ih _ _ _ _ hm
