/-! a run led again from the start; the reference's best -/
def smS (K : Int → Int) (w h sx sy : Int) (IN : Int → Int) : Nat → Int × Int × Int
  | 0 => (sx, sy, 0)
  | k + 1 => (mvX K w h (smS K w h sx sy IN k).1 (smS K w h sx sy IN k).2.1 (IN (k : Int)), mvY K w h (smS K w h sx sy IN k).1 (smS K w h sx sy IN k).2.1 (smS K w h sx sy IN k).2.2 (IN (k : Int)), mvL K w h (smS K w h sx sy IN k).1 (smS K w h sx sy IN k).2.1 (smS K w h sx sy IN k).2.2 (IN (k : Int)))
def smO (K : Int → Int) (w h fx fy sx sy : Int) (IN : Int → Int) (k : Nat) : Int := mvO K w h fx fy (smS K w h sx sy IN k).1 (smS K w h sx sy IN k).2.1 (smS K w h sx sy IN k).2.2 (IN (k : Int))
theorem smS_rng {K : Int → Int} {w h fx fy sx sy : Int} {IN : Int → Int} (gx : 0 ≤ sx ∧ sx < w) (gy : 0 ≤ sy ∧ sy < h) : ∀ k : Nat, (∀ j : Nat, j < k → ¬ smO K w h fx fy sx sy IN j = 1) → (0 ≤ (smS K w h sx sy IN k).1 ∧ (smS K w h sx sy IN k).1 < w) ∧ (0 ≤ (smS K w h sx sy IN k).2.1 ∧ (smS K w h sx sy IN k).2.1 < h) ∧ (0 ≤ (smS K w h sx sy IN k).2.2 ∧ (smS K w h sx sy IN k).2.2 ≤ 4) := by
  intro k
  induction k with
  | zero => intro _; exact ⟨gx, gy, by show (0 : Int) ≤ 0 ∧ (0 : Int) ≤ 4; omega⟩
  | succ k ih =>
    intro hj
    obtain ⟨h1, h2, h3⟩ := ih (fun j h => hj j (by omega))
    have hm := mv_rng (K := K) (w := w) (h := h) (fx := fx) (fy := fy) (i := IN (k : Int)) h1 h2 h3
    exact ⟨hm.1, ⟨hm.2.1.1, hm.2.2.2.2 (hj k (by omega))⟩, hm.2.2.1⟩
def Kin5 (F : Int → Int) : Prop := ∀ i, 0 ≤ F i ∧ F i ≤ 5
theorem Kin5_zu {D : Int → Int} (hD : Kin5 D) {k v : Int} (hv : 0 ≤ v ∧ v ≤ 5) : Kin5 (zu D k v) := fun i => by
  unfold zu
  split
  · exact hv
  · exact hD i
theorem Din_of {D : Int → Int} (hD : Din D) (i : Int) : -1 ≤ D i ∧ D i ≤ 100 := hD i
def mbt (v u k b : Int) : Int := if ¬ v = -1 ∧ (b = -1 ∨ v < u) then k else b
def mb1 (R : Int → Int) (L : Int) : Int := mbt (R (4 * L)) (R (4 * L + -1)) 0 (-1)
def mb2 (R : Int → Int) (L : Int) : Int := mbt (R (4 * L + 1)) (R (4 * L + mb1 R L)) 1 (mb1 R L)
def mb3 (R : Int → Int) (L : Int) : Int := mbt (R (4 * L + 2)) (R (4 * L + mb2 R L)) 2 (mb2 R L)
def mb4 (R : Int → Int) (L : Int) : Int := mbt (R (4 * L + 3)) (R (4 * L + mb3 R L)) 3 (mb3 R L)
theorem ctt_congr {f g : Int → Int → Int} {w : Nat} : ∀ n : Nat, (∀ y x : Int, 0 ≤ y → y < n → 0 ≤ x → x < w → f y x = g y x) → ctt f w n = ctt g w n := by
  have hr : ∀ (p q : Int → Int) (k : Nat), (∀ x : Int, 0 ≤ x → x < k → p x = q x) → crw p k = crw q k := by
    intro p q k
    induction k with
    | zero => intro _; rfl
    | succ k ih =>
      intro hh
      show crw p k + (if p (k : Int) = 1 then 1 else 0) = crw q k + (if q (k : Int) = 1 then 1 else 0)
      rw [ih (fun x x0 x1 => hh x x0 (by omega)), hh (k : Int) (by omega) (by omega)]
  intro n
  induction n with
  | zero => intro _; rfl
  | succ n ih =>
    intro hh
    show ctt f w n + crw (f (n : Int)) w = ctt g w n + crw (g (n : Int)) w
    rw [ih (fun y x y0 y1 x0 x1 => hh y x y0 (by omega) x0 x1), hr (f (n : Int)) (g (n : Int)) w (fun x x0 x1 => hh (n : Int) x (by omega) (by omega) x0 x1)]
