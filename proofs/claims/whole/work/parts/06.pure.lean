/-! the frames in whole numbers -/
def kd (K : Int → Int) (w h x y : Int) : Int := if 0 ≤ x ∧ x < w ∧ 0 ≤ y ∧ y < h then K (y * 12 + x) else -1
def wkN (x i : Int) : Int := if i = 1 ∨ i = 4 then x - 1 else if i = 2 ∨ i = 5 then x + 1 else x
def wk (K : Int → Int) (w h x y i : Int) : Int := if kd K w h (wkN x i) y = -1 ∨ kd K w h (wkN x i) y = 1 then x else wkN x i
def riY (K : Int → Int) (w h x y : Int) : Int := if kd K w h x (y - 1) = -1 ∨ kd K w h x (y - 1) = 1 then y else y - 1
def riL (K : Int → Int) (w h x y li : Int) : Int := if kd K w h x (y - 1) = -1 ∨ kd K w h x (y - 1) = 1 then 0 else li - 1
def faY (K : Int → Int) (w h x y : Int) : Int := if kd K w h x (y + 1) = 1 then y else y + 1
def fgO (fx fy x y : Int) : Int := if x = fx ∧ y = fy then 1 else 0
def lkO (K : Int → Int) (w h fx fy x y : Int) : Int := if kd K w h x y = -1 ∨ kd K w h x y = 2 then 1 else if x = fx ∧ y = fy then 2 else 0
def lkL (K : Int → Int) (w h x y li : Int) : Int := if kd K w h x y = -1 ∨ kd K w h x y = 2 then li else if kd K w h x y = 3 then 4 else li
def juL (K : Int → Int) (w h x y li i : Int) : Int := if 3 ≤ i ∧ kd K w h x (y + 1) = 1 then 2 else li
def upY (K : Int → Int) (w h x y li : Int) : Int := if 0 < li then riY K w h x y else faY K w h x y
def upL (K : Int → Int) (w h x y li : Int) : Int := if 0 < li then riL K w h x y li else li
def mvX (K : Int → Int) (w h x y i : Int) : Int := wk K w h x y i
def mvY (K : Int → Int) (w h x y li i : Int) : Int := upY K w h (mvX K w h x y i) y (juL K w h x y li i)
def mvL (K : Int → Int) (w h x y li i : Int) : Int := lkL K w h (mvX K w h x y i) (mvY K w h x y li i) (upL K w h (mvX K w h x y i) y (juL K w h x y li i))
def mvO (K : Int → Int) (w h fx fy x y li i : Int) : Int := lkO K w h fx fy (mvX K w h x y i) (mvY K w h x y li i)
def Kin (K : Int → Int) : Prop := ∀ i, 0 ≤ K i ∧ K i ≤ 3
theorem kd_rng {K : Int → Int} (hK : Kin K) (w h x y : Int) : -1 ≤ kd K w h x y ∧ kd K w h x y ≤ 3 := by
  unfold kd
  have := hK (y * 12 + x)
  split <;> omega
theorem kd_in {K : Int → Int} {w h x y : Int} (hd : ¬ kd K w h x y = -1) : 0 ≤ x ∧ x < w ∧ 0 ≤ y ∧ y < h := by
  unfold kd at hd
  split at hd
  · assumption
  · omega
theorem kd_out {K : Int → Int} (hK : Kin K) {w h x y : Int} (hd : kd K w h x y = -1) : ¬ (0 ≤ x ∧ x < w ∧ 0 ≤ y ∧ y < h) := by
  intro hc
  unfold kd at hd
  rw [if_pos hc] at hd
  have := hK (y * 12 + x)
  omega
theorem wk_rng {K : Int → Int} {w h x y i : Int} (g1 : 0 ≤ x ∧ x < w) : 0 ≤ wk K w h x y i ∧ wk K w h x y i < w := by
  unfold wk
  split
  · exact g1
  · have := kd_in (K := K) (w := w) (h := h) (x := wkN x i) (y := y) (by omega)
    omega
theorem riY_rng {K : Int → Int} {w h x y : Int} (g1 : 0 ≤ y ∧ y < h) : 0 ≤ riY K w h x y ∧ riY K w h x y < h := by
  unfold riY
  split
  · exact g1
  · have := kd_in (K := K) (w := w) (h := h) (x := x) (y := y - 1) (by omega)
    omega
theorem faY_rng {K : Int → Int} {w h x y : Int} (g1 : 0 ≤ y ∧ y < h) : 0 ≤ faY K w h x y ∧ faY K w h x y ≤ h := by
  unfold faY
  split <;> omega
theorem upY_rng {K : Int → Int} {w h x y li : Int} (g1 : 0 ≤ y ∧ y < h) : 0 ≤ upY K w h x y li ∧ upY K w h x y li ≤ h := by
  unfold upY
  have h1 := riY_rng (K := K) (w := w) (x := x) g1
  have h2 := faY_rng (K := K) (w := w) (x := x) g1
  split <;> omega
theorem juL_rng {K : Int → Int} {w h x y li i : Int} (g1 : 0 ≤ li ∧ li ≤ 4) : 0 ≤ juL K w h x y li i ∧ juL K w h x y li i ≤ 4 := by
  unfold juL
  split <;> omega
theorem upL_rng {K : Int → Int} {w h x y li : Int} (g1 : 0 ≤ li ∧ li ≤ 4) : 0 ≤ upL K w h x y li ∧ upL K w h x y li ≤ 4 := by
  unfold upL riL
  split
  · split <;> omega
  · omega
theorem lkL_rng {K : Int → Int} {w h x y li : Int} (g1 : 0 ≤ li ∧ li ≤ 4) : 0 ≤ lkL K w h x y li ∧ lkL K w h x y li ≤ 4 := by
  unfold lkL
  split
  · omega
  · split <;> omega
theorem lkO_rng {K : Int → Int} {w h fx fy x y : Int} : 0 ≤ lkO K w h fx fy x y ∧ lkO K w h fx fy x y ≤ 2 := by
  unfold lkO
  split
  · omega
  · split <;> omega
theorem lkO_in {K : Int → Int} {w h fx fy x y : Int} (hd : ¬ lkO K w h fx fy x y = 1) : 0 ≤ x ∧ x < w ∧ 0 ≤ y ∧ y < h := by
  unfold lkO at hd
  split at hd
  · omega
  · exact kd_in (K := K) (by omega)
theorem mv_rng {K : Int → Int} {w h fx fy x y li i : Int} (g1 : 0 ≤ x ∧ x < w) (g2 : 0 ≤ y ∧ y < h) (g3 : 0 ≤ li ∧ li ≤ 4) : (0 ≤ mvX K w h x y i ∧ mvX K w h x y i < w) ∧ (0 ≤ mvY K w h x y li i ∧ mvY K w h x y li i ≤ h) ∧ (0 ≤ mvL K w h x y li i ∧ mvL K w h x y li i ≤ 4) ∧ (0 ≤ mvO K w h fx fy x y li i ∧ mvO K w h fx fy x y li i ≤ 2) ∧ (¬ mvO K w h fx fy x y li i = 1 → mvY K w h x y li i < h) := by
  refine ⟨wk_rng g1, upY_rng g2, lkL_rng (upL_rng (juL_rng g3)), lkO_rng, fun hd => (lkO_in hd).2.2.2⟩
