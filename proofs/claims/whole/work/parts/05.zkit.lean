/-! ints as whole numbers: zI n is the int n; comparisons and sums in whole numbers -/
def zI (n : Int) : Int32 := Int32.ofInt n
theorem zI_toInt {n : Int} (h : -2147483648 ≤ n ∧ n < 2147483648) : (zI n).toInt = n := by
  show (Int32.ofInt n).toInt = n
  rw [Int32.toInt_ofInt]
  exact Int.bmod_eq_of_le (by have := h.1; simp [Int32.size]; omega) (by have := h.2; simp [Int32.size]; omega)
theorem zI_of (x : Int32) : zI x.toInt = x := Int32.ofInt_toInt x
theorem zI_ex (x : Int32) : ∃ n : Int, x = zI n ∧ -2147483648 ≤ n ∧ n < 2147483648 := ⟨x.toInt, (zI_of x).symm, by have := Int32.le_toInt x; omega, by have := Int32.toInt_lt x; omega⟩
theorem zI_add (a b : Int) : zI a + zI b = zI (a + b) := (Int32.ofInt_add a b).symm
theorem zI_sub (a b : Int) : zI a - zI b = zI (a - b) := (Int32.ofInt_sub a b).symm
theorem zI_mul (a b : Int) : zI a * zI b = zI (a * b) := (Int32.ofInt_mul a b).symm
theorem zI_lt {a b : Int} (ha : -2147483648 ≤ a ∧ a < 2147483648) (hb : -2147483648 ≤ b ∧ b < 2147483648) : zI a < zI b ↔ a < b := by rw [Int32.lt_iff_toInt_lt, zI_toInt ha, zI_toInt hb]
theorem zI_le {a b : Int} (ha : -2147483648 ≤ a ∧ a < 2147483648) (hb : -2147483648 ≤ b ∧ b < 2147483648) : zI a ≤ zI b ↔ a ≤ b := by rw [Int32.le_iff_toInt_le, zI_toInt ha, zI_toInt hb]
theorem zI_eq {a b : Int} (ha : -2147483648 ≤ a ∧ a < 2147483648) (hb : -2147483648 ≤ b ∧ b < 2147483648) : zI a = zI b ↔ a = b := by rw [← Int32.toInt_inj, zI_toInt ha, zI_toInt hb]
theorem zI_0 : (0 : Int32) = zI 0 := rfl
theorem zI_nat (n : Nat) : Int32.ofNat n = zI (n : Int) := rfl
theorem zI_clamp {n : Int} (h0 : 0 ≤ n) (h : n < 2147483648) : (zI n).toNatClampNeg = n.toNat := by
  show (zI n).toInt.toNat = n.toNat
  rw [zI_toInt ⟨by omega, h⟩]
theorem zI_in {n : Int} {N : Nat} (h0 : 0 ≤ n) (h : n < N) (hN : N < 2147483648) : vp_in (zI n) N := vp_in_iff.mpr (by rw [zI_toInt ⟨by omega, by omega⟩]; exact ⟨h0, h⟩)
theorem zI_ofN {n : Int} (h0 : 0 ≤ n) : nI n.toNat = zI n := by
  have h1 := zI_nat n.toNat
  rw [Int.toNat_of_nonneg h0] at h1
  exact h1
theorem zI_div {a b : Int} (ha : 0 ≤ a) (ha2 : a < 2147483648) (hb : 0 < b) (hb2 : b < 2147483648) : zI a / zI b = zI (a / b) := by
  obtain ⟨m, rfl⟩ := Int.eq_ofNat_of_zero_le ha
  obtain ⟨n, rfl⟩ := Int.eq_ofNat_of_zero_le (Int.le_of_lt hb)
  show nI m / nI n = nI (m / n)
  exact pk_div (by omega) (by omega) (by omega)
theorem zI_rem {a b : Int} (ha : 0 ≤ a) (ha2 : a < 2147483648) (hb : 0 < b) (hb2 : b < 2147483648) : zI a - zI a / zI b * zI b = zI (a % b) := by
  rw [zI_div ha ha2 hb hb2, zI_mul, zI_sub]
  congr 1
  have := Int.mul_ediv_add_emod a b
  rw [Int.mul_comm] at this
  omega
def zu (F : Int → Int) (k v : Int) : Int → Int := fun i => if i = k then v else F i
theorem zu_same (F : Int → Int) (k v : Int) : zu F k v k = v := by simp [zu]
theorem zu_ne (F : Int → Int) {k i : Int} (v : Int) (h : i ≠ k) : zu F k v i = F i := by simp [zu, h]
theorem zu_upd {F : Int → Int} {k v : Int} (h0 : 0 ≤ k) (h : k < 2147483648) : upd (fun j : Nat => zI (F (j : Int))) (zI k).toNatClampNeg (zI v) = fun j : Nat => zI (zu F k v (j : Int)) := by
  funext j
  rw [zI_clamp h0 h]
  show (if j = k.toNat then zI v else zI (F j)) = zI (if (j : Int) = k then v else F j)
  by_cases hj : j = k.toNat
  · rw [if_pos hj, if_pos (by omega)]
  · rw [if_neg hj, if_neg (by omega)]
theorem zu_updL {F : Int → Int64} {k : Int} {v : Int64} (h0 : 0 ≤ k) (h : k < 2147483648) : vp_updL (fun j : Nat => F (j : Int)) (zI k).toNatClampNeg v = fun j : Nat => (if (j : Int) = k then v else F (j : Int)) := by
  funext j
  rw [zI_clamp h0 h]
  show (if j = k.toNat then v else F j) = (if (j : Int) = k then v else F j)
  by_cases hj : j = k.toNat
  · rw [if_pos hj, if_pos (by omega)]
  · rw [if_neg hj, if_neg (by omega)]
/-- a row of ints, by a function on whole numbers -/
abbrev zA (cA : ClassId) (a N : Nat) (F : Int → Int) : Nat × va_E := (a, .inl (cA, N, .inl (fun j : Nat => zI (F (j : Int)))))
/-- a row of references -/
abbrev zQ (cA : ClassId) (a N : Nat) (f : Nat → Option Nat) : Nat × va_E := (a, .inl (cA, N, .inr (.inr (.inr (.inr f)))))
/-- the array classes of the system -/
abbrev zT (cI cZ cL cT cJ : ClassId) : List (ClassId × FieldType) := [(cI, .int), (cZ, .boolean), (cL, .object "SpringLevels$Level"), (cT, .object "SpringLevels$Tape"), (cJ, .long)]
/-- a contract's start, and the world behind it -/
abbrev zP (D : va_G) (tys : List (ClassId × FieldType)) (sz : Nat) (av : List Value) (ws : va_W) : Array Value → State → Prop := va_Pc av (fun U => U.heap.size = sz ∧ va_P D vwCl ws U.heap ∧ va_K D vwCl tys U ∧ va_D (fun _ => True) ws)
abbrev zB {S : Type} (D : va_G) (tys : List (ClassId × FieldType)) (A : Nat → Prop) (w : S → va_W) : S → State → Prop := fun u t => va_P D vwCl (w u) t.heap ∧ va_K D vwCl tys t ∧ va_D A (w u)
theorem zP_blind {D : va_G} {tys : List (ClassId × FieldType)} {sz : Nat} {av : List Value} {ws : va_W} : FrameBlind (zP D tys sz av ws) := fun a U g mk q => by obtain ⟨q0, q1, qP, qK, qD⟩ := q; exact ⟨q0, q1, qP, va_K.moved (u := U) (U := U.calling g mk a) (Vm.Alike.refl U.vm) qK, qD⟩
theorem zP_pre {D : va_G} {tys : List (ClassId × FieldType)} {av : List Value} {wc : va_W} {s : State} {H : Heap} {A : Nat → Prop} (hP : va_P D vwCl wc H) (hD : va_D A wc) (hK : va_K D vwCl tys s) : ∀ U : State, U.heap = H → s.WarmedH U.vm → zP D tys H.size av wc av.toArray U := fun U hU hW => ⟨rfl, by rw [hU], by rw [hU]; exact hP, va_K.moved hW.alike hK, hD.weaken (fun _ _ _ _ => trivial)⟩
section ZK
variable {p : Program} {l : Launch} {e : Env} {R : Room} {s : State} {m : MethodId} {args : Array Value} {below : List Frame} {meth : Method} {c : Code} {H : Heap} {locs : List Loc} {cells slots : Nat} {Q : State → Prop}
variable {cc : ByteArray} {pc : Nat} {ls : Array Slot} {rest : List Value}
theorem lz_top {x y : Int32} (h : x = y) (k : W p l e R s m args below meth c H locs cells slots Q (F0 m pc ls (.int y :: rest))) : W p l e R s m args below meth c H locs cells slots Q (F0 m pc ls (.int x :: rest)) := h ▸ k

theorem lz_iadd (hexec : p.tables.exec = Jvm.exec) (hb : c.code = cc) {a b z : Int} (hdg : decode cc pc = .ok (.iadd, 1)) (he : a + b = z) (k : W p l e R s m args below meth c H locs cells slots Q (F0 m (pc + 1) ls (.int (zI z) :: rest))) : W p l e R s m args below meth c H locs cells slots Q (F0 m pc ls (.int (zI b) :: .int (zI a) :: rest)) := lv_iadd hexec hb hdg (by rw [zI_add, he]; exact k)
theorem lz_isub (hexec : p.tables.exec = Jvm.exec) (hb : c.code = cc) {a b z : Int} (hdg : decode cc pc = .ok (.isub, 1)) (he : a - b = z) (k : W p l e R s m args below meth c H locs cells slots Q (F0 m (pc + 1) ls (.int (zI z) :: rest))) : W p l e R s m args below meth c H locs cells slots Q (F0 m pc ls (.int (zI b) :: .int (zI a) :: rest)) := lv_isub hexec hb hdg (by rw [zI_sub, he]; exact k)
theorem lz_imul (hexec : p.tables.exec = Jvm.exec) (hb : c.code = cc) {a b z : Int} (hdg : decode cc pc = .ok (.imul, 1)) (he : a * b = z) (k : W p l e R s m args below meth c H locs cells slots Q (F0 m (pc + 1) ls (.int (zI z) :: rest))) : W p l e R s m args below meth c H locs cells slots Q (F0 m pc ls (.int (zI b) :: .int (zI a) :: rest)) := lv_imul hexec hb hdg (by rw [zI_mul, he]; exact k)
theorem zI_ne0 {b : Int} (h0 : 0 < b) (h2 : b < 2147483648) : ¬ zI b = 0 := fun h => by
  have := (zI_eq (b := 0) ⟨by omega, h2⟩ (by omega)).mp h
  omega
theorem lz_idiv (hexec : p.tables.exec = Jvm.exec) (hb : c.code = cc) {a b : Int} (hdg : decode cc pc = .ok (.idiv, 1)) (ha : 0 ≤ a ∧ a < 2147483648) (hb0 : 0 < b ∧ b < 2147483648) (k : W p l e R s m args below meth c H locs cells slots Q (F0 m (pc + 1) ls (.int (zI (a / b)) :: rest))) : W p l e R s m args below meth c H locs cells slots Q (F0 m pc ls (.int (zI b) :: .int (zI a) :: rest)) := lv_idiv hexec hb hdg (zI_ne0 hb0.1 hb0.2) (by rw [zI_div ha.1 ha.2 hb0.1 hb0.2]; exact k)
theorem lz_irem (hexec : p.tables.exec = Jvm.exec) (hb : c.code = cc) {a b : Int} (hdg : decode cc pc = .ok (.irem, 1)) (ha : 0 ≤ a ∧ a < 2147483648) (hb0 : 0 < b ∧ b < 2147483648) (k : W p l e R s m args below meth c H locs cells slots Q (F0 m (pc + 1) ls (.int (zI (a % b)) :: rest))) : W p l e R s m args below meth c H locs cells slots Q (F0 m pc ls (.int (zI b) :: .int (zI a) :: rest)) := lv_irem hexec hb hdg (zI_ne0 hb0.1 hb0.2) (by rw [zI_rem ha.1 ha.2 hb0.1 hb0.2]; exact k)
theorem lz_icmp_eq (hexec : p.tables.exec = Jvm.exec) (hb : c.code = cc) {a b : Int} {off : Int} {tgt : Nat} (hdg : decode cc pc = .ok (.if_icmp .eq off, 3)) (ht : (pc : Int) + off = (tgt : Int)) (ra : (-2147483648 ≤ a ∧ a < 2147483648)) (rb : (-2147483648 ≤ b ∧ b < 2147483648)) (kt : a = b → W p l e R s m args below meth c H locs cells slots Q (F0 m tgt ls rest)) (kf : ¬ a = b → W p l e R s m args below meth c H locs cells slots Q (F0 m (pc + 3) ls rest)) : W p l e R s m args below meth c H locs cells slots Q (F0 m pc ls (.int (zI b) :: .int (zI a) :: rest)) := lv_icmp_eq hexec hb hdg ht (fun h => kt ((zI_eq ra rb).mp h)) (fun h => kf (fun q => h ((zI_eq ra rb).mpr q)))
theorem lz_if_eq (hexec : p.tables.exec = Jvm.exec) (hb : c.code = cc) {a : Int} {off : Int} {tgt : Nat} (hdg : decode cc pc = .ok (.ifCond .eq off, 3)) (ht : (pc : Int) + off = (tgt : Int)) (ra : (-2147483648 ≤ a ∧ a < 2147483648)) (kt : a = 0 → W p l e R s m args below meth c H locs cells slots Q (F0 m tgt ls rest)) (kf : ¬ a = 0 → W p l e R s m args below meth c H locs cells slots Q (F0 m (pc + 3) ls rest)) : W p l e R s m args below meth c H locs cells slots Q (F0 m pc ls (.int (zI a) :: rest)) := by
  have z0 : -2147483648 ≤ (0 : Int) ∧ (0 : Int) < 2147483648 := by omega
  exact lv_if_eq hexec hb hdg ht (fun h => kt ((zI_eq ra z0).mp h)) (fun h => kf (fun q => h ((zI_eq ra z0).mpr q)))
theorem lz_icmp_lt (hexec : p.tables.exec = Jvm.exec) (hb : c.code = cc) {a b : Int} {off : Int} {tgt : Nat} (hdg : decode cc pc = .ok (.if_icmp .lt off, 3)) (ht : (pc : Int) + off = (tgt : Int)) (ra : (-2147483648 ≤ a ∧ a < 2147483648)) (rb : (-2147483648 ≤ b ∧ b < 2147483648)) (kt : a < b → W p l e R s m args below meth c H locs cells slots Q (F0 m tgt ls rest)) (kf : ¬ a < b → W p l e R s m args below meth c H locs cells slots Q (F0 m (pc + 3) ls rest)) : W p l e R s m args below meth c H locs cells slots Q (F0 m pc ls (.int (zI b) :: .int (zI a) :: rest)) := lv_icmp_lt hexec hb hdg ht (fun h => kt ((zI_lt ra rb).mp h)) (fun h => kf (fun q => h ((zI_lt ra rb).mpr q)))
theorem lz_if_lt (hexec : p.tables.exec = Jvm.exec) (hb : c.code = cc) {a : Int} {off : Int} {tgt : Nat} (hdg : decode cc pc = .ok (.ifCond .lt off, 3)) (ht : (pc : Int) + off = (tgt : Int)) (ra : (-2147483648 ≤ a ∧ a < 2147483648)) (kt : a < 0 → W p l e R s m args below meth c H locs cells slots Q (F0 m tgt ls rest)) (kf : ¬ a < 0 → W p l e R s m args below meth c H locs cells slots Q (F0 m (pc + 3) ls rest)) : W p l e R s m args below meth c H locs cells slots Q (F0 m pc ls (.int (zI a) :: rest)) := by
  have z0 : -2147483648 ≤ (0 : Int) ∧ (0 : Int) < 2147483648 := by omega
  exact lv_if_lt hexec hb hdg ht (fun h => kt ((zI_lt ra z0).mp h)) (fun h => kf (fun q => h ((zI_lt ra z0).mpr q)))
theorem lz_icmp_le (hexec : p.tables.exec = Jvm.exec) (hb : c.code = cc) {a b : Int} {off : Int} {tgt : Nat} (hdg : decode cc pc = .ok (.if_icmp .le off, 3)) (ht : (pc : Int) + off = (tgt : Int)) (ra : (-2147483648 ≤ a ∧ a < 2147483648)) (rb : (-2147483648 ≤ b ∧ b < 2147483648)) (kt : a ≤ b → W p l e R s m args below meth c H locs cells slots Q (F0 m tgt ls rest)) (kf : ¬ a ≤ b → W p l e R s m args below meth c H locs cells slots Q (F0 m (pc + 3) ls rest)) : W p l e R s m args below meth c H locs cells slots Q (F0 m pc ls (.int (zI b) :: .int (zI a) :: rest)) := lv_icmp_le hexec hb hdg ht (fun h => kt ((zI_le ra rb).mp h)) (fun h => kf (fun q => h ((zI_le ra rb).mpr q)))
theorem lz_if_le (hexec : p.tables.exec = Jvm.exec) (hb : c.code = cc) {a : Int} {off : Int} {tgt : Nat} (hdg : decode cc pc = .ok (.ifCond .le off, 3)) (ht : (pc : Int) + off = (tgt : Int)) (ra : (-2147483648 ≤ a ∧ a < 2147483648)) (kt : a ≤ 0 → W p l e R s m args below meth c H locs cells slots Q (F0 m tgt ls rest)) (kf : ¬ a ≤ 0 → W p l e R s m args below meth c H locs cells slots Q (F0 m (pc + 3) ls rest)) : W p l e R s m args below meth c H locs cells slots Q (F0 m pc ls (.int (zI a) :: rest)) := by
  have z0 : -2147483648 ≤ (0 : Int) ∧ (0 : Int) < 2147483648 := by omega
  exact lv_if_le hexec hb hdg ht (fun h => kt ((zI_le ra z0).mp h)) (fun h => kf (fun q => h ((zI_le ra z0).mpr q)))
theorem lz_icmp_ge (hexec : p.tables.exec = Jvm.exec) (hb : c.code = cc) {a b : Int} {off : Int} {tgt : Nat} (hdg : decode cc pc = .ok (.if_icmp .ge off, 3)) (ht : (pc : Int) + off = (tgt : Int)) (ra : (-2147483648 ≤ a ∧ a < 2147483648)) (rb : (-2147483648 ≤ b ∧ b < 2147483648)) (kt : b ≤ a → W p l e R s m args below meth c H locs cells slots Q (F0 m tgt ls rest)) (kf : ¬ b ≤ a → W p l e R s m args below meth c H locs cells slots Q (F0 m (pc + 3) ls rest)) : W p l e R s m args below meth c H locs cells slots Q (F0 m pc ls (.int (zI b) :: .int (zI a) :: rest)) := lv_icmp_ge hexec hb hdg ht (fun h => kt ((zI_le rb ra).mp h)) (fun h => kf (fun q => h ((zI_le rb ra).mpr q)))
theorem lz_if_ge (hexec : p.tables.exec = Jvm.exec) (hb : c.code = cc) {a : Int} {off : Int} {tgt : Nat} (hdg : decode cc pc = .ok (.ifCond .ge off, 3)) (ht : (pc : Int) + off = (tgt : Int)) (ra : (-2147483648 ≤ a ∧ a < 2147483648)) (kt : 0 ≤ a → W p l e R s m args below meth c H locs cells slots Q (F0 m tgt ls rest)) (kf : ¬ 0 ≤ a → W p l e R s m args below meth c H locs cells slots Q (F0 m (pc + 3) ls rest)) : W p l e R s m args below meth c H locs cells slots Q (F0 m pc ls (.int (zI a) :: rest)) := by
  have z0 : -2147483648 ≤ (0 : Int) ∧ (0 : Int) < 2147483648 := by omega
  exact lv_if_ge hexec hb hdg ht (fun h => kt ((zI_le z0 ra).mp h)) (fun h => kf (fun q => h ((zI_le z0 ra).mpr q)))
theorem lz_icmp_gt (hexec : p.tables.exec = Jvm.exec) (hb : c.code = cc) {a b : Int} {off : Int} {tgt : Nat} (hdg : decode cc pc = .ok (.if_icmp .gt off, 3)) (ht : (pc : Int) + off = (tgt : Int)) (ra : (-2147483648 ≤ a ∧ a < 2147483648)) (rb : (-2147483648 ≤ b ∧ b < 2147483648)) (kt : b < a → W p l e R s m args below meth c H locs cells slots Q (F0 m tgt ls rest)) (kf : ¬ b < a → W p l e R s m args below meth c H locs cells slots Q (F0 m (pc + 3) ls rest)) : W p l e R s m args below meth c H locs cells slots Q (F0 m pc ls (.int (zI b) :: .int (zI a) :: rest)) := lv_icmp_gt hexec hb hdg ht (fun h => kt ((zI_lt rb ra).mp h)) (fun h => kf (fun q => h ((zI_lt rb ra).mpr q)))
theorem lz_if_gt (hexec : p.tables.exec = Jvm.exec) (hb : c.code = cc) {a : Int} {off : Int} {tgt : Nat} (hdg : decode cc pc = .ok (.ifCond .gt off, 3)) (ht : (pc : Int) + off = (tgt : Int)) (ra : (-2147483648 ≤ a ∧ a < 2147483648)) (kt : 0 < a → W p l e R s m args below meth c H locs cells slots Q (F0 m tgt ls rest)) (kf : ¬ 0 < a → W p l e R s m args below meth c H locs cells slots Q (F0 m (pc + 3) ls rest)) : W p l e R s m args below meth c H locs cells slots Q (F0 m pc ls (.int (zI a) :: rest)) := by
  have z0 : -2147483648 ≤ (0 : Int) ∧ (0 : Int) < 2147483648 := by omega
  exact lv_if_gt hexec hb hdg ht (fun h => kt ((zI_lt z0 ra).mp h)) (fun h => kf (fun q => h ((zI_lt z0 ra).mpr q)))
theorem lz_icmp_ne (hexec : p.tables.exec = Jvm.exec) (hb : c.code = cc) {a b : Int} {off : Int} {tgt : Nat} (hdg : decode cc pc = .ok (.if_icmp .ne off, 3)) (ht : (pc : Int) + off = (tgt : Int)) (ra : (-2147483648 ≤ a ∧ a < 2147483648)) (rb : (-2147483648 ≤ b ∧ b < 2147483648)) (kt : ¬ a = b → W p l e R s m args below meth c H locs cells slots Q (F0 m tgt ls rest)) (kf : a = b → W p l e R s m args below meth c H locs cells slots Q (F0 m (pc + 3) ls rest)) : W p l e R s m args below meth c H locs cells slots Q (F0 m pc ls (.int (zI b) :: .int (zI a) :: rest)) := lv_icmp_ne hexec hb hdg ht (fun h => kt (fun q => h ((zI_eq ra rb).mpr q))) (fun h => kf ((zI_eq ra rb).mp h))
theorem lz_if_ne (hexec : p.tables.exec = Jvm.exec) (hb : c.code = cc) {a : Int} {off : Int} {tgt : Nat} (hdg : decode cc pc = .ok (.ifCond .ne off, 3)) (ht : (pc : Int) + off = (tgt : Int)) (ra : (-2147483648 ≤ a ∧ a < 2147483648)) (kt : ¬ a = 0 → W p l e R s m args below meth c H locs cells slots Q (F0 m tgt ls rest)) (kf : a = 0 → W p l e R s m args below meth c H locs cells slots Q (F0 m (pc + 3) ls rest)) : W p l e R s m args below meth c H locs cells slots Q (F0 m pc ls (.int (zI a) :: rest)) := lv_if_ne hexec hb hdg ht (fun h => kt (fun q => h (by rw [q]; rfl))) (fun h => kf ((zI_eq (b := 0) ra (by omega)).mp h))
theorem lz_iinc (hexec : p.tables.exec = Jvm.exec) (hb : c.code = cc) {i nL k : Nat} {n a z : Int} {lv lv' : List (Nat × Value)} (hdg : decode cc pc = .ok (.iinc i n, 3)) (h : lv_has ls nL lv) (hk : lv[k]? = some (i, .int (zI a))) (hz : a + n = z) (hn : i < nL) (hl : (i, Value.int (zI z)) :: lv.filter (fun q => !(q.1 == i) && !(q.1 + 1 == i && q.2.category == 2)) = lv') (kk : ∀ ls' : Array Slot, lv_has ls' nL lv' → W p l e R s m args below meth c H locs cells slots Q (F0 m (pc + 3) ls' rest)) : W p l e R s m args below meth c H locs cells slots Q (F0 m pc ls rest) := lv_iinc (v := zI z) hexec hb hdg h hk (by rw [← hz]; exact zI_add a n) hn hl kk
variable {D : va_G} {cl : List vw_C} {A : Nat → Prop} {a : Nat} {tys : List (ClassId × FieldType)} {ws : va_W} {H0 : Heap}
theorem zI_idx {F : Int → Int} {i : Int} (h0 : 0 ≤ i) (h : i < 2147483648) : (fun j : Nat => zI (F (j : Int))) (zI i).toNatClampNeg = zI (F i) := by
  show zI (F _) = _
  rw [zI_clamp h0 h, Int.toNat_of_nonneg h0]
theorem lz_iald (hexec : p.tables.exec = Jvm.exec) (hb : c.code = cc) (hK : va_K D cl tys s) (hP : va_P D cl ws H) (q0 t0 : Nat) {cA : ClassId} {n : Nat} {F : Int → Int} (ha : ws[q0]? = some (zA cA a n F)) (ht : tys[t0]? = some (cA, .int)) {i : Int} (h0 : 0 ≤ i) (h1 : i < n) (hn : n < 2147483648) (hdg : decode cc pc = .ok (.iaload, 1))
    (kk : W p l e R s m args below meth c H locs cells slots Q (F0 m (pc + 1) ls (.int (zI (F i)) :: rest))) : W p l e R s m args below meth c H locs cells slots Q (F0 m pc ls (.int (zI i) :: .ref a :: rest)) :=
  va_iald hexec hb hK hP q0 t0 ha ht (zI_in h0 h1 hn) hdg (by rw [zI_clamp h0 (by omega), Int.toNat_of_nonneg h0]; exact kk)
theorem lz_zald (hexec : p.tables.exec = Jvm.exec) (hb : c.code = cc) (hK : va_K D cl tys s) (hP : va_P D cl ws H) (q0 t0 : Nat) {cA : ClassId} {n : Nat} {F : Int → Int} (ha : ws[q0]? = some (zA cA a n F)) (ht : tys[t0]? = some (cA, .boolean)) {i : Int} (h0 : 0 ≤ i) (h1 : i < n) (hn : n < 2147483648) (hdg : decode cc pc = .ok (.baload, 1))
    (kk : W p l e R s m args below meth c H locs cells slots Q (F0 m (pc + 1) ls (.int (zI (F i)) :: rest))) : W p l e R s m args below meth c H locs cells slots Q (F0 m pc ls (.int (zI i) :: .ref a :: rest)) :=
  va_zald hexec hb hK hP q0 t0 ha ht (zI_in h0 h1 hn) hdg (by rw [zI_clamp h0 (by omega), Int.toNat_of_nonneg h0]; exact kk)
theorem lz_iast (hexec : p.tables.exec = Jvm.exec) (hb : c.code = cc) (hK : va_K D cl tys s) (hP : va_P D cl ws H) (hD : va_D A ws) (hS : va_S A H0 H locs) (q0 t0 : Nat) {cA : ClassId} {n : Nat} {F : Int → Int} (ha : ws[q0]? = some (zA cA a n F)) (ht : tys[t0]? = some (cA, .int)) {i v : Int} (h0 : 0 ≤ i) (h1 : i < n) (hn : n < 2147483648) (hdg : decode cc pc = .ok (.iastore, 1))
    (kk : ∀ (H1 : Heap) (locs1 : List Loc), va_P D cl (ws.set q0 (zA cA a n (zu F i v))) H1 → va_D A (ws.set q0 (zA cA a n (zu F i v))) → va_S A H0 H1 locs1 → W p l e R s m args below meth c H1 locs1 cells slots Q (F0 m (pc + 1) ls rest)) : W p l e R s m args below meth c H locs cells slots Q (F0 m pc ls (.int (zI v) :: .int (zI i) :: .ref a :: rest)) := by
  refine va_iast hexec hb hK hP hD hS q0 t0 ha ht (zI_in h0 h1 hn) hdg (fun H1 locs1 => ?_)
  rw [zu_upd h0 (by omega)]
  exact kk H1 locs1
theorem zI_nar {v : Int} (hv : v = 0 ∨ v = 1) : vp_nar .boolean (zI v) = zI v := by
  rcases hv with rfl | rfl <;> decide
theorem lz_zast (hexec : p.tables.exec = Jvm.exec) (hb : c.code = cc) (hK : va_K D cl tys s) (hP : va_P D cl ws H) (hD : va_D A ws) (hS : va_S A H0 H locs) (q0 t0 : Nat) {cA : ClassId} {n : Nat} {F : Int → Int} (ha : ws[q0]? = some (zA cA a n F)) (ht : tys[t0]? = some (cA, .boolean)) {i v : Int} (h0 : 0 ≤ i) (h1 : i < n) (hn : n < 2147483648) (hv : v = 0 ∨ v = 1) (hdg : decode cc pc = .ok (.bastore, 1))
    (kk : ∀ (H1 : Heap) (locs1 : List Loc), va_P D cl (ws.set q0 (zA cA a n (zu F i v))) H1 → va_D A (ws.set q0 (zA cA a n (zu F i v))) → va_S A H0 H1 locs1 → W p l e R s m args below meth c H1 locs1 cells slots Q (F0 m (pc + 1) ls rest)) : W p l e R s m args below meth c H locs cells slots Q (F0 m pc ls (.int (zI v) :: .int (zI i) :: .ref a :: rest)) := by
  refine va_zast hexec hb hK hP hD hS q0 t0 ha ht (zI_in h0 h1 hn) hdg (fun H1 locs1 => ?_)
  rw [zI_nar hv, zu_upd h0 (by omega)]
  exact kk H1 locs1
end ZK
abbrev zAo (U : State) : Prop := va_AO "SpringLevels$Level" U ∧ va_AO "SpringLevels$Tape" U ∧ va_Nw (.methodLinkNest RX5 28 yX0_init RX5) U ∧ va_Nw (.methodLinkNest RX2 11 yX0_init RX5) U ∧ va_Nw (.methodLinkNest RX3 23 yX0_init RX5) U
abbrev zPo (D : va_G) (tys : List (ClassId × FieldType)) (sz : Nat) (av : List Value) (ws : va_W) : Array Value → State → Prop := va_Pc av (fun U => U.heap.size = sz ∧ va_P D vwCl ws U.heap ∧ va_K D vwCl tys U ∧ va_D (fun _ => True) ws ∧ zAo U)
theorem zPo_blind {D : va_G} {tys : List (ClassId × FieldType)} {sz : Nat} {av : List Value} {ws : va_W} : FrameBlind (zPo D tys sz av ws) := fun a U g mk q => by obtain ⟨q0, q1, qP, qK, qD, qa, qb, qc, qd, qe⟩ := q; exact ⟨q0, q1, qP, va_K.moved (u := U) (U := U.calling g mk a) (Vm.Alike.refl U.vm) qK, qD, va_AO.moved (u := U) (U := U.calling g mk a) (Vm.Alike.refl U.vm) qa, va_AO.moved (u := U) (U := U.calling g mk a) (Vm.Alike.refl U.vm) qb, va_Nw.same rfl rfl qc, va_Nw.same rfl rfl qd, va_Nw.same rfl rfl qe⟩
theorem zPo_pre {D : va_G} {tys : List (ClassId × FieldType)} {av : List Value} {wc : va_W} {s : State} {H : Heap} {A : Nat → Prop} (hP : va_P D vwCl wc H) (hD : va_D A wc) (hK : va_K D vwCl tys s) (hAo : zAo s) : ∀ U : State, U.heap = H → s.WarmedH U.vm → zPo D tys H.size av wc av.toArray U := fun U hU hW => ⟨rfl, by rw [hU], by rw [hU]; exact hP, va_K.moved hW.alike hK, hD.weaken (fun _ _ _ _ => trivial), va_AO.moved hW.alike hAo.1, va_AO.moved hW.alike hAo.2.1, va_Nw.warmM hW hAo.2.2.1, va_Nw.warmM hW hAo.2.2.2.1, va_Nw.warmM hW hAo.2.2.2.2⟩
section ZC
variable {p : Program} {l : Launch} {e : Env} {R : Room} {s : State} {m : MethodId} {args : Array Value} {below : List Frame} {meth : Method} {c : Code} {H : Heap} {locs : List Loc} {cells slots : Nat} {Q : State → Prop}
theorem z_cut {σ : Type} {I : σ → Heap → List Loc → Array Slot → Prop} {fr : σ → Array Slot → JFrame} {g : JFrame} (hJ : ∀ (x : σ) (H1 : Heap) (k1 : List Loc) (ls : Array Slot), I x H1 k1 ls → W p l e R s m args below meth c H1 k1 cells slots Q (fr x ls)) (k : (∀ (x : σ) (H1 : Heap) (k1 : List Loc) (ls : Array Slot), I x H1 k1 ls → W p l e R s m args below meth c H1 k1 cells slots Q (fr x ls)) → W p l e R s m args below meth c H locs cells slots Q g) : W p l e R s m args below meth c H locs cells slots Q g := k hJ
theorem z_loop {σ : Type} (μ : σ → Nat) {I : σ → Heap → List Loc → Array Slot → Prop} {fr : σ → Array Slot → JFrame} (hs : ∀ (x : σ) (H1 : Heap) (k1 : List Loc) (ls : Array Slot), I x H1 k1 ls → (∀ (y : σ) (H2 : Heap) (k2 : List Loc) (ls2 : Array Slot), μ y < μ x → I y H2 k2 ls2 → W p l e R s m args below meth c H2 k2 cells slots Q (fr y ls2)) → W p l e R s m args below meth c H1 k1 cells slots Q (fr x ls)) (x0 : σ) {ls : Array Slot} (h0 : I x0 H locs ls) : W p l e R s m args below meth c H locs cells slots Q (fr x0 ls) := by
  have key : ∀ (n : Nat) (x : σ) (H1 : Heap) (k1 : List Loc) (ls : Array Slot), μ x < n → I x H1 k1 ls → W p l e R s m args below meth c H1 k1 cells slots Q (fr x ls) := by
    intro n
    induction n with
    | zero => intro x H1 k1 ls hlt; omega
    | succ n ih => intro x H1 k1 ls hlt hI; exact hs x H1 k1 ls hI (fun y H2 k2 ls2 hy hI2 => ih y H2 k2 ls2 (by omega) hI2)
  exact key (μ x0 + 1) x0 H locs ls (by omega) h0
end ZC
theorem zI_nz {v : Int} (hv : v = 0 ∨ v = 1) : narrow .boolean (.int (zI v)) = .int (zI v) := by
  rcases hv with rfl | rfl <;> decide
theorem zI_fz {v : Int} (hv : v = 0 ∨ v = 1) : fits .boolean (.int (zI v)) = true := by
  rcases hv with rfl | rfl <;> decide
section ZN
variable {p : Program} {l : Launch} {e : Env} {R : Room} {s : State} {m : MethodId} {args : Array Value} {below : List Frame} {meth : Method} {c : Code} {H : Heap} {locs : List Loc} {cells slots : Nat} {Q : State → Prop}
variable {cc : ByteArray} {pc : Nat} {ls : Array Slot} {rest : List Value} {D : va_G} {cl : List vw_C} {A : Nat → Prop} {a : Nat} {tys : List (ClassId × FieldType)} {ws : va_W} {H0 : Heap}
theorem lz_topv {x y : Value} (h : x = y) (k : W p l e R s m args below meth c H locs cells slots Q (F0 m pc ls (y :: rest))) : W p l e R s m args below meth c H locs cells slots Q (F0 m pc ls (x :: rest)) := h ▸ k
theorem lz_newa (hexec : p.tables.exec = Jvm.exec) (hb : c.code = cc) (harr : (Cond.arrayClass .int).before args s = true) (hK : va_K D cl tys s) (hP : va_P D cl ws H) (hD : va_D A ws) (hS : va_S A H0 H locs) (hA : ∀ q, H0.size ≤ q → A q) (t0 : Nat) {cA : ClassId} (ht : tys[t0]? = some (cA, .int)) {N : Nat} (hN : N ≤ 100000) (hcells : cells + 1 ≤ R.cells) (hslots : slots + N ≤ R.slots) (hdg : decode cc pc = .ok (.newarray .int, 2))
    (kk : ∀ (q : Nat) (H1 : Heap), va_P D cl (ws ++ [zA cA q N (fun _ => 0)]) H1 → va_D A (ws ++ [zA cA q N (fun _ => 0)]) → va_S A H0 H1 locs → W p l e R s m args below meth c H1 locs (cells + 1) (slots + N) Q (F0 m (pc + 2) ls (.ref q :: rest))) : W p l e R s m args below meth c H locs cells slots Q (F0 m pc ls (.int (zI (N : Int)) :: rest)) := by
  refine va_newa (atype := .int) (ty := .int) (a0 := (N, .inl (fun _ => zI 0))) hexec hb harr rfl hK hP hD hS hA (fun _ => rfl) ?_ (by rw [zI_clamp (by omega) (by omega)]; exact Int.toNat_natCast N) (by show N * 4 ≤ _; omega) hcells hslots hdg (fun q cA1 H1 hK1 hP1 hD1 hS1 => ?_)
  · intro h
    have := (zI_lt (a := (N : Int)) (b := 0) (by omega) (by omega)).mp h
    omega
  · have e1 : cA1 = cA := by
      have h1 := (hK1.2 tys.length (cA1, .int) (by simp)).2
      have h2 := (hK.2 t0 _ ht).2
      exact Option.some.inj (h1.symm.trans h2)
    subst e1
    exact kk q H1 hP1 hD1 hS1
theorem lz_newz (hexec : p.tables.exec = Jvm.exec) (hb : c.code = cc) (harr : (Cond.arrayClass .boolean).before args s = true) (hK : va_K D cl tys s) (hP : va_P D cl ws H) (hD : va_D A ws) (hS : va_S A H0 H locs) (hA : ∀ q, H0.size ≤ q → A q) (t0 : Nat) {cA : ClassId} (ht : tys[t0]? = some (cA, .boolean)) {N : Nat} (hN : N ≤ 100000) (hcells : cells + 1 ≤ R.cells) (hslots : slots + N ≤ R.slots) (hdg : decode cc pc = .ok (.newarray .boolean, 2))
    (kk : ∀ (q : Nat) (H1 : Heap), va_P D cl (ws ++ [zA cA q N (fun _ => 0)]) H1 → va_D A (ws ++ [zA cA q N (fun _ => 0)]) → va_S A H0 H1 locs → W p l e R s m args below meth c H1 locs (cells + 1) (slots + N) Q (F0 m (pc + 2) ls (.ref q :: rest))) : W p l e R s m args below meth c H locs cells slots Q (F0 m pc ls (.int (zI (N : Int)) :: rest)) := by
  refine va_newa (atype := .boolean) (ty := .boolean) (a0 := (N, .inl (fun _ => zI 0))) hexec hb harr rfl hK hP hD hS hA (fun _ => rfl) ?_ (by rw [zI_clamp (by omega) (by omega)]; exact Int.toNat_natCast N) (by show N * 1 ≤ _; omega) hcells hslots hdg (fun q cA1 H1 hK1 hP1 hD1 hS1 => ?_)
  · intro h
    have := (zI_lt (a := (N : Int)) (b := 0) (by omega) (by omega)).mp h
    omega
  · have e1 : cA1 = cA := by
      have h1 := (hK1.2 tys.length (cA1, .boolean) (by simp)).2
      have h2 := (hK.2 t0 _ ht).2
      exact Option.some.inj (h1.symm.trans h2)
    subst e1
    exact kk q H1 hP1 hD1 hS1
theorem lz_newq (hexec : p.tables.exec = Jvm.exec) (hb : c.code = cc) {own C : String} {index : Nat} (hown : s.vm.findClass own = some m.cls) (hclink : (Cond.classLink own index C).before args s = true) (hover : va_AO C s) (hK : va_K D cl tys s) (hP : va_P D cl ws H) (hD : va_D A ws) (hS : va_S A H0 H locs) (hA : ∀ q, H0.size ≤ q → A q) (t0 : Nat) {cA : ClassId} (ht : tys[t0]? = some (cA, .object C)) {N : Nat} (hN : N ≤ 100000) (hcells : cells + 1 ≤ R.cells) (hslots : slots + N ≤ R.slots) (hdg : decode cc pc = .ok (.anewarray index, 3))
    (kk : ∀ (q : Nat) (H1 : Heap), va_P D cl (ws ++ [zQ cA q N (fun _ => none)]) H1 → va_D A (ws ++ [zQ cA q N (fun _ => none)]) → va_S A H0 H1 locs → W p l e R s m args below meth c H1 locs (cells + 1) (slots + N) Q (F0 m (pc + 3) ls (.ref q :: rest))) : W p l e R s m args below meth c H locs cells slots Q (F0 m pc ls (.int (zI (N : Int)) :: rest)) := by
  refine va_newq (N' := N) hexec hb hown hclink hover hK hP hD hS hA ?_ (by rw [zI_clamp (by omega) (by omega)]; exact Int.toNat_natCast N) (by omega) hcells hslots hdg (fun q cA1 H1 hK1 hP1 hD1 hS1 => ?_)
  · intro h
    have := (zI_lt (a := (N : Int)) (b := 0) (by omega) (by omega)).mp h
    omega
  · have e1 : cA1 = cA := by
      obtain ⟨_, _, _, _, _, h1⟩ := (hK1.2 tys.length (cA1, .object C) (by simp)).2
      obtain ⟨_, _, _, _, _, h2⟩ := (hK.2 t0 _ ht).2
      exact Option.some.inj (h1.symm.trans h2)
    subst e1
    exact kk q H1 hP1 hD1 hS1
theorem lz_aldq (hexec : p.tables.exec = Jvm.exec) (hb : c.code = cc) (hK : va_K D cl tys s) (hP : va_P D cl ws H) (q0 t0 : Nat) {cA : ClassId} {C : String} {n : Nat} {f : Nat → Option Nat} (ha : ws[q0]? = some (zQ cA a n f)) (ht : tys[t0]? = some (cA, .object C)) {i : Int} {k : Nat} (hi : i = (k : Int)) (hk : k < n) (hn : n < 2147483648) {v : Value} (hv : va_rf (f k) = v) (hdg : decode cc pc = .ok (.aaload, 1))
    (kk : W p l e R s m args below meth c H locs cells slots Q (F0 m (pc + 1) ls (v :: rest))) : W p l e R s m args below meth c H locs cells slots Q (F0 m pc ls (.int (zI i) :: .ref a :: rest)) := by
  subst hi
  refine va_aldq hexec hb hK hP q0 t0 ha ht (zI_in (by omega) (by omega) hn) hdg ?_
  rw [zI_clamp (by omega) (by omega), Int.toNat_natCast, hv]
  exact kk
theorem lz_astq (hexec : p.tables.exec = Jvm.exec) (hb : c.code = cc) (hK : va_K D cl tys s) (hP : va_P D cl ws H) (hD : va_D A ws) (hS : va_S A H0 H locs) (q0 t0 qk ci : Nat) {cA : ClassId} {r : vw_C} {n v : Nat} {vs : List Value} {f : Nat → Option Nat} (ha : ws[q0]? = some (zQ cA a n f)) (ht : tys[t0]? = some (cA, .object r.1)) (hv : ws[qk]? = some (v, .inr (ci, vs))) (hc : cl[ci]? = some r) {i : Int} {k : Nat} (hi : i = (k : Int)) (hk : k < n) (hn : n < 2147483648) (hdg : decode cc pc = .ok (.aastore, 1))
    (kk : ∀ (H1 : Heap) (locs1 : List Loc), va_P D cl (ws.set q0 (zQ cA a n (va_up f k (some v)))) H1 → va_D A (ws.set q0 (zQ cA a n (va_up f k (some v)))) → va_S A H0 H1 locs1 → W p l e R s m args below meth c H1 locs1 cells slots Q (F0 m (pc + 1) ls rest)) : W p l e R s m args below meth c H locs cells slots Q (F0 m pc ls (.ref v :: .int (zI i) :: .ref a :: rest)) := by
  subst hi
  refine va_astq hexec hb hK hP hD hS q0 t0 qk ci ha ht hv hc (zI_in (by omega) (by omega) hn) hdg (fun H1 locs1 => ?_)
  rw [zI_clamp (by omega) (by omega), Int.toNat_natCast]
  exact kk H1 locs1
end ZN
