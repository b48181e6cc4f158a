theorem kd_pos {K : Int → Int} (gK : Kin K) {w h x y : Int} (gx : 0 ≤ x ∧ x < w) (gy : 0 ≤ y ∧ y < h) : 0 ≤ kd K w h x y := by
  rw [kd_at gx gy]
  exact (gK _).1
theorem fgO_1 {fx fy x y : Int} (h : ¬ fgO fx fy x y = 0) : x = fx ∧ y = fy := by
  unfold fgO at h
  split at h
  · assumption
  · omega
