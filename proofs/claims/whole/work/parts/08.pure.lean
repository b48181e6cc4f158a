/-! tapes, places, the search's inner loop, the growing of a level: in whole numbers -/
def ncF (hf ln x w : Int) : Int := if hf = -1 ∧ w ≤ x * 2 then ln else hf
def plc (x y li : Int) : Int := (y * 12 + x) * 5 + li
def rcD (D : Int → Int) (qd p dep : Int) : Int → Int := if qd < 480 ∧ D p = -1 then zu D p dep else D
def rcF (D F : Int → Int) (qd p b : Int) : Int → Int := if qd < 480 ∧ D p = -1 then zu F p b else F
def rcQ (D Q : Int → Int) (qd p : Int) : Int → Int := if qd < 480 ∧ D p = -1 then zu Q qd p else Q
def rcN (D : Int → Int) (qd p : Int) : Int := if qd < 480 ∧ D p = -1 then qd + 1 else qd
def Din (D : Int → Int) : Prop := ∀ i, -1 ≤ D i ∧ D i ≤ 100
def Fin6 (F : Int → Int) : Prop := ∀ i, -1 ≤ F i ∧ F i ≤ 5
def vld (w h p : Int) : Prop := 0 ≤ p ∧ p < 480 ∧ p / 5 % 12 < w ∧ p / 5 / 12 < h
theorem vld_plc {w h x y li : Int} (gw : 0 < w ∧ w ≤ 12) (gh : 0 < h ∧ h ≤ 8) (gx : 0 ≤ x ∧ x < w) (gy : 0 ≤ y ∧ y < h) (gl : 0 ≤ li ∧ li ≤ 4) : vld w h (plc x y li) := by
  unfold vld plc
  refine ⟨by omega, by omega, by omega, by omega⟩
theorem Din_zu {D : Int → Int} (hD : Din D) {k v : Int} (hv : -1 ≤ v ∧ v ≤ 100) : Din (zu D k v) := fun i => by
  unfold zu
  split
  · exact hv
  · exact hD i
theorem Fin6_zu {D : Int → Int} (hD : Fin6 D) {k v : Int} (hv : -1 ≤ v ∧ v ≤ 5) : Fin6 (zu D k v) := fun i => by
  unfold zu
  split
  · exact hv
  · exact hD i
theorem Kin_zu {D : Int → Int} (hD : Kin D) {k v : Int} (hv : 0 ≤ v ∧ v ≤ 3) : Kin (zu D k v) := fun i => by
  unfold zu
  split
  · exact hv
  · exact hD i
/-- what the search's inner loop does from input i on, n inputs; last: the first input of the way that was found, or -1 -/
def tiR (K : Int → Int) (w h fx fy x y li dep bw : Int) : Nat → Int → (Int → Int) → (Int → Int) → (Int → Int) → Int → (Int → Int) × (Int → Int) × (Int → Int) × Int × Int
  | 0, _, D, F, Q, qd => (D, F, Q, qd, -1)
  | n + 1, i, D, F, Q, qd =>
    if mvO K w h fx fy x y li i = 2 then (D, F, Q, qd, if bw = -1 then i else bw)
    else if mvO K w h fx fy x y li i = 0 then
      tiR K w h fx fy x y li dep bw n (i + 1) (rcD D qd (plc (mvX K w h x y i) (mvY K w h x y li i) (mvL K w h x y li i)) dep) (rcF D F qd (plc (mvX K w h x y i) (mvY K w h x y li i) (mvL K w h x y li i)) (if bw = -1 then i else bw)) (rcQ D Q qd (plc (mvX K w h x y i) (mvY K w h x y li i) (mvL K w h x y li i))) (rcN D qd (plc (mvX K w h x y i) (mvY K w h x y li i) (mvL K w h x y li i)))
    else tiR K w h fx fy x y li dep bw n (i + 1) D F Q qd
def SOK (w h : Int) (D F Q : Int → Int) (qd : Int) : Prop := Din D ∧ Fin6 F ∧ (0 ≤ qd ∧ qd ≤ 480) ∧ ∀ k, 0 ≤ k → k < qd → vld w h (Q k)
theorem SOK_rc {w h : Int} {D F Q : Int → Int} {qd p dep b : Int} (hs : SOK w h D F Q qd) (hp : vld w h p) (hd : -1 ≤ dep ∧ dep ≤ 100) (hb : -1 ≤ b ∧ b ≤ 5) : SOK w h (rcD D qd p dep) (rcF D F qd p b) (rcQ D Q qd p) (rcN D qd p) := by
  obtain ⟨h1, h2, h3, h4⟩ := hs
  unfold rcD rcF rcQ rcN
  by_cases hc : qd < 480 ∧ D p = -1
  · simp only [if_pos hc]
    refine ⟨Din_zu h1 hd, Fin6_zu h2 hb, by omega, fun k k0 k1 => ?_⟩
    unfold zu
    split
    · exact hp
    · exact h4 k k0 (by omega)
  · simp only [if_neg hc]
    exact ⟨h1, h2, h3, h4⟩
theorem tiR_ok {K : Int → Int} {w h fx fy x y li dep bw : Int} (gw : 0 < w ∧ w ≤ 12) (gh : 0 < h ∧ h ≤ 8) (gx : 0 ≤ x ∧ x < w) (gy : 0 ≤ y ∧ y < h) (gl : 0 ≤ li ∧ li ≤ 4) (gd : -1 ≤ dep ∧ dep ≤ 100) (gb : -1 ≤ bw ∧ bw ≤ 5) : ∀ (n : Nat) (i : Int) (D F Q : Int → Int) (qd : Int), 0 ≤ i → i + n ≤ 6 → SOK w h D F Q qd → ∀ D1 F1 Q1 qd1 ff, (D1, F1, Q1, qd1, ff) = tiR K w h fx fy x y li dep bw n i D F Q qd → SOK w h D1 F1 Q1 qd1 ∧ -1 ≤ ff ∧ ff ≤ 5 := by
  intro n
  induction n with
  | zero =>
    intro i D F Q qd h0 h1 hs D1 F1 Q1 qd1 ff he
    simp only [tiR, Prod.mk.injEq] at he
    obtain ⟨rfl, rfl, rfl, rfl, rfl⟩ := he
    exact ⟨hs, by omega, by omega⟩
  | succ n ih =>
    intro i D F Q qd h0 h1 hs D1 F1 Q1 qd1 ff he
    rw [tiR] at he
    split at he
    · simp only [Prod.mk.injEq] at he
      obtain ⟨rfl, rfl, rfl, rfl, rfl⟩ := he
      refine ⟨hs, ?_⟩
      split <;> omega
    · split at he
      · rename_i h5 h6
        have hm := mv_rng (K := K) (w := w) (h := h) (fx := fx) (fy := fy) (x := x) (y := y) (li := li) (i := i) gx gy gl
        refine ih (i + 1) _ _ _ _ (by omega) (by omega) (SOK_rc hs (vld_plc gw gh hm.1 ⟨hm.2.1.1, hm.2.2.2.2 (by omega)⟩ hm.2.2.1) gd ?_) D1 F1 Q1 qd1 ff he
        split <;> omega
      · exact ih (i + 1) D F Q qd (by omega) (by omega) hs D1 F1 Q1 qd1 ff he
/-- the search's outer loop -/
def fwR (K : Int → Int) (w h fx fy lim : Int) : Nat → Int → (Int → Int) → (Int → Int) → (Int → Int) → Int → Int × Int
  | 0, _, _, _, _, _ => (-1, -1)
  | n + 1, nx, D, F, Q, qd =>
    if nx < qd then
      if lim ≤ D (Q nx) then (-1, -1)
      else if (tiR K w h fx fy (Q nx / 5 % 12) (Q nx / 5 / 12) (Q nx % 5) (D (Q nx) + 1) (F (Q nx)) 6 0 D F Q qd).2.2.2.2 = -1 then
        fwR K w h fx fy lim n (nx + 1) (tiR K w h fx fy (Q nx / 5 % 12) (Q nx / 5 / 12) (Q nx % 5) (D (Q nx) + 1) (F (Q nx)) 6 0 D F Q qd).1 (tiR K w h fx fy (Q nx / 5 % 12) (Q nx / 5 / 12) (Q nx % 5) (D (Q nx) + 1) (F (Q nx)) 6 0 D F Q qd).2.1 (tiR K w h fx fy (Q nx / 5 % 12) (Q nx / 5 / 12) (Q nx % 5) (D (Q nx) + 1) (F (Q nx)) 6 0 D F Q qd).2.2.1 (tiR K w h fx fy (Q nx / 5 % 12) (Q nx / 5 / 12) (Q nx % 5) (D (Q nx) + 1) (F (Q nx)) 6 0 D F Q qd).2.2.2.1
      else (D (Q nx) + 1, (tiR K w h fx fy (Q nx / 5 % 12) (Q nx / 5 / 12) (Q nx % 5) (D (Q nx) + 1) (F (Q nx)) 6 0 D F Q qd).2.2.2.2)
    else (-1, -1)
/-- the whole search from a place p, over rows of which nothing is known but that no place was reached -/
def fwT (K : Int → Int) (w h fx fy lim p : Int) (D F Q : Int → Int) : Int × Int := fwR K w h fx fy lim 480 0 (zu D p 0) (zu F p (-1)) (zu Q 0 p) 1
-- growing
def gst (n : Int) : Int := (n * 1103 + 12345) % 65536
def git : Nat → Int → Int
  | 0, n => n
  | k + 1, n => gst (git k n)
def gro (w : Nat) : Nat → Int → Int
  | 0, n => n
  | k + 1, n => git w (gro w k n)
def kg (r : Int) : Int := if r ≤ 3 then 1 else if r = 4 then 2 else if r = 5 then 3 else 0
def kgv (h y n : Int) : Int := if y = h - 1 then 1 else kg (n / 16 % 16)
def gcl (seed w h x y : Int) : Int := kgv h y (git (x + 1).toNat (gro w.toNat y.toNat seed))
theorem git_step {x : Int} (hx : 0 ≤ x) (n : Int) : git (x + 1).toNat n = (git x.toNat n * 1103 + 12345) % 65536 := by
  rw [show (x + 1).toNat = x.toNat + 1 by omega]
  rfl
theorem gro_step {y : Int} (hy : 0 ≤ y) (w : Nat) (n : Int) : gro w (y + 1).toNat n = git w (gro w y.toNat n) := by
  rw [show (y + 1).toNat = y.toNat + 1 by omega]
  rfl
theorem kg_rng (r : Int) : 0 ≤ kg r ∧ kg r ≤ 3 := by
  unfold kg
  split
  · omega
  · split
    · omega
    · split <;> omega
-- counting
def crw (f : Int → Int) : Nat → Int
  | 0 => 0
  | k + 1 => crw f k + (if f (k : Int) = 1 then 1 else 0)
def ctt (f : Int → Int → Int) (w : Nat) : Nat → Int
  | 0 => 0
  | k + 1 => ctt f w k + crw (f (k : Int)) w
theorem crw_step {x : Int} (hx : 0 ≤ x) (f : Int → Int) : crw f (x + 1).toNat = crw f x.toNat + (if f x = 1 then 1 else 0) := by
  rw [show (x + 1).toNat = x.toNat + 1 by omega]
  show crw f x.toNat + (if f ((x.toNat : Nat) : Int) = 1 then 1 else 0) = _
  rw [Int.toNat_of_nonneg hx]
theorem ctt_step {y : Int} (hy : 0 ≤ y) (f : Int → Int → Int) (w : Nat) : ctt f w (y + 1).toNat = ctt f w y.toNat + crw (f y) w := by
  rw [show (y + 1).toNat = y.toNat + 1 by omega]
  show ctt f w y.toNat + crw (f ((y.toNat : Nat) : Int)) w = _
  rw [Int.toNat_of_nonneg hy]
theorem kd_at {K : Int → Int} {w h x y : Int} (gx : 0 ≤ x ∧ x < w) (gy : 0 ≤ y ∧ y < h) : kd K w h x y = K (y * 12 + x) := by
  unfold kd
  rw [if_pos (by omega)]
-- the best player
def bpt (v k : Int) (r : Int × Int) : Int × Int := if ¬ v = -1 ∧ v < r.2 then (k, v) else r
def bp4 (L : Nat → Int) : Int × Int := bpt (L 3) 3 (bpt (L 2) 2 (bpt (L 1) 1 (bpt (L 0) 0 (-1, 101))))
