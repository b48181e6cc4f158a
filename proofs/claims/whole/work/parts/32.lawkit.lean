/-! the law's kit -/
def R_law : String := "SpringLevelsLaw"
def lw_P (b : Addr) (xs : List Int32) (args : Array Value) (s : State) : Prop := args = #[.ref b] ∧ s.IntsAt b xs ∧ xs.length ≤ 2560 ∧ (Jvm.Cond.and given_1 narrow_1).before args s = true
def lw_Q (_ : Array Value) (s : State) (o : Outcome) (t : State) : Prop := o = .returned (some (.int 1)) ∧ Framed s o t [] 601024 7293034
def lw_Z (below : List Frame) (a : Array Value) (s : State) : State → Prop := fun t => ∃ o, t.status = .running ∧ Ended t below o ∧ lw_Q a s o t
/-- the law's own end, with 1 on the stack, nothing written that was there before, its room as the claim has it -/
theorem lw_ret {p : Program} {l : Launch} {e : Env} {s : State} {m : MethodId} {below : List Frame} {meth : Method} {c : Code} {b : Nat} (hx : p.tables.exec = Jvm.exec) (hb : c.code = code) (hr : meth.sig.returnType = ret) (hlocks : meth.locks = false) {pc : Nat} {H : Heap} {ls : Array Slot} (hdg : decode code pc = .ok (.ireturn, 1)) : W p l e room_1 s m #[Value.ref b] below meth c H [] 601024 7293034 (lw_Z below #[Value.ref b] s) (F0 m pc ls [.int 1]) := by
  intro T hT X
  obtain ⟨fs, hret, hrun, hended, hW, hframe⟩ := X.leave (v := some (.int 1)) (hlocks := hlocks) (fun h => by rw [hr] at h; cases h)
  have hmeth' : T.vm.method? m = some meth := X.method'
  refine ⟨T.setFrames fs, ?_, .returned (some (.int 1)), hrun, hended, rfl, ⟨_, rfl⟩, hW, hframe⟩
  jvm_step X.here [X.here.top, hx, hb, hdg, hmeth', hr, ret, narrow_b1]
  (try refine ⟨rfl, ?_⟩); (try refine ⟨rfl, ?_⟩)
  first | (intro acts; rw [hret _ acts rfl rfl rfl]) | rw [hret _ _ rfl rfl rfl]
  exact Steps.refl _
/-- what holds at the law's entry: the machine, the code, the tables' words (any of lw_tbl by 'hts w (by decide +kernel)'), the script of L ints xs at the cell b, what the Statement gives of the start (any of its parts by flat_of_before) -/
def lw_At (p : Program) (s : State) (m : MethodId) (meth : Method) (c : Code) (b L : Nat) (xs : Nat → Int32) : Prop :=
  p.tables.exec = Jvm.exec ∧ c.code = code ∧ meth.sig.returnType = ret ∧ c.maxLocals = 7 ∧ s.vm.findClass R_law = some m.cls ∧ (∀ w ∈ lw_tbl, w.before #[Value.ref b] s = true) ∧ va_X b L xs s s.heap ∧ b < s.heap.size ∧ meth.locks = false ∧ (Jvm.Cond.and given_1 narrow_1).before #[Value.ref b] s = true
/-- the cells that the law may write: those that are newer than its start -/
def lG (s : State) : Nat → Prop := fun q => s.heap.size ≤ q
/-- what the law's walk has at any time -/
def lC (l : Launch) (p : Program) (s : State) (m : MethodId) (meth : Method) (c : Code) (b L : Nat) (xs : Nat → Int32) (dC : Nat → ClassId) (dI : Nat → Nat → Nat) (cI cZ cL cT cJ : ClassId) : Prop := l.stackTraces = false ∧ lw_At p s m meth c b L xs ∧ L ≤ 2560 ∧ va_K (dC, dI) vwCl (zT cI cZ cL cT cJ) s ∧ zEx (lG s) s ∧ zNc s ∧ zAo s
theorem lG_of {s : State} {ws : va_W} {Hc : Heap} (hD : va_D (lG s) ws) (h0 : va_S (lG s) s.heap Hc []) : ∀ q : Nat, va_A ws Hc.size q → lG s q := by
  intro q h
  rcases h with ⟨k, e, h⟩ | h
  · exact hD.2 k (q, e) h
  · exact Nat.le_trans h0.1 h
theorem lS_tr {G A : Nat → Prop} {H0 Hc H : Heap} {k1 k2 : List Loc} (h0 : va_S G H0 Hc k1) (hS : va_S A Hc H k2) (hAG : ∀ q, A q → G q) : va_S G H0 H [] :=
  ⟨Nat.le_trans h0.1 hS.1, fun q h1 h2 => (hS.2.1 q (Nat.lt_of_lt_of_le h1 h0.1) (fun h => h2 (hAG q h))).trans (h0.2.1 q h1 h2), fun _ h => absurd h List.not_mem_nil⟩
theorem zPy_law {D : va_G} {tys : List (ClassId × FieldType)} {av : List Value} {wc : va_W} {s : State} {Hc H : Heap} {A G : Nat → Prop} {locs : List Loc} (hP : va_P D vwCl wc H) (hD : va_D A wc) (hK : va_K D vwCl tys s) (hE : zEx G s) (hN : zNc s) (h0 : va_S G s.heap Hc []) (hS : va_S A Hc H locs) (hAG : ∀ q, A q → G q) (hF : ∀ q, va_A wc H.size q → A q) : ∀ U : State, U.heap = H → s.WarmedH U.vm → zPy D tys H.size av wc av.toArray U :=
  zPy_pre hP (hD.weaken (fun _ _ _ h => hAG _ h)) hK hE hN (lS_tr h0 hS hAG) (fun q h => hAG q (hF q h))
section LK
variable {p : Program} {l : Launch} {e : Env} {R : Room} {s : State} {m : MethodId} {args : Array Value} {below : List Frame} {meth : Method} {c : Code} {H : Heap} {locs : List Loc} {cells slots : Nat} {Q : State → Prop}
variable {cc : ByteArray} {pc : Nat} {ls : Array Slot} {rest : List Value} {A : Nat → Prop} {H0 : Heap} {D : va_G} {cl : List vw_C} {tys : List (ClassId × FieldType)} {ws : va_W} {a : Nat}
theorem lz_sld (hexec : p.tables.exec = Jvm.exec) (hb : c.code = cc) {b L : Nat} {xs : Nat → Int32} (hX : va_X b L xs s H0) (hbl : b < H0.size) (hbA : ¬ A b) (hS : va_S A H0 H locs) {i v : Int} (h0 : 0 ≤ i) (h1 : i < (L : Int)) (hL : L ≤ 2560) (hv : xs i.toNat = zI v) (hdg : decode cc pc = .ok (.iaload, 1))
    (kk : W p l e R s m args below meth c H locs cells slots Q (F0 m (pc + 1) ls (.int (zI v) :: rest))) : W p l e R s m args below meth c H locs cells slots Q (F0 m pc ls (.int (zI i) :: .ref b :: rest)) := by
  have hL2 : (L : Int) ≤ 2560 := by omega
  refine va_sld hexec hb hX hbl hbA hS (zI_in h0 h1 (by omega)) hdg ?_
  rw [zI_clamp h0 (by omega), hv]
  exact kk
theorem lz_same (hexec : p.tables.exec = Jvm.exec) (hb : c.code = cc) {a b : Int} {off : Int} {tgt : Nat} (he : a = b) (hdg : decode cc pc = .ok (.if_icmp .eq off, 3)) (ht : (pc : Int) + off = (tgt : Int)) (kt : W p l e R s m args below meth c H locs cells slots Q (F0 m tgt ls rest)) : W p l e R s m args below meth c H locs cells slots Q (F0 m pc ls (.int (zI b) :: .int (zI a) :: rest)) :=
  lv_icmp_eq hexec hb hdg ht (fun _ => kt) (fun h => absurd (by rw [he]) h)
theorem lz_lald0 (hexec : p.tables.exec = Jvm.exec) (hb : c.code = cc) {cI cZ cL cT cJ : ClassId} (hK : va_K D cl (zT cI cZ cL cT cJ) s) (hP : va_P D cl ws H) (q0 : Nat) {f : Nat → Int64} (ha : ws[q0]? = some (a, .inl (cJ, 1, .inr (.inl f)))) (hdg : decode cc pc = .ok (.laload, 1))
    (kk : W p l e R s m args below meth c H locs cells slots Q (F0 m (pc + 1) ls (.long (f 0) :: rest))) : W p l e R s m args below meth c H locs cells slots Q (F0 m pc ls (.int (zI 0) :: .ref a :: rest)) := by
  refine va_lald hexec hb hK hP q0 4 ha rfl (zI_in (by decide) (by decide) (by decide)) hdg ?_
  rw [zI_clamp (by decide) (by decide)]
  exact kk
theorem lz_lcmp (hexec : p.tables.exec = Jvm.exec) (hb : c.code = cc) {x y : Int64} (hdg : decode cc pc = .ok (.lcmp, 1)) (h : x = y) (k : W p l e R s m args below meth c H locs cells slots Q (F0 m (pc + 1) ls (.int (zI 0) :: rest))) : W p l e R s m args below meth c H locs cells slots Q (F0 m pc ls (.long y :: .long x :: rest)) := by
  refine W.lcmp hexec hb hdg ?_
  rw [show lg_cmp x y = zI 0 from (lg_cmp_eq x y).mpr h]
  exact k
end LK
/-- cells put in the place of others, what is left over behind them -/
def zset (ws : va_W) : List Nat → va_W → va_W
  | [], w1 => ws ++ w1
  | _ :: _, [] => ws
  | i :: is, q :: w1 => (zset ws is w1).set i q
theorem zset_get {ws : va_W} : ∀ (is : List Nat) (w1 : va_W), is.length ≤ w1.length → ∀ (j : Nat) (p : Nat × va_E), (zset ws is w1)[j]? = some p → p ∈ w1 ∨ (ws[j]? = some p ∧ j ∉ is) := by
  intro is
  induction is with
  | nil =>
    intro w1 _ j p h
    have h : (ws ++ w1)[j]? = some p := h
    rcases Nat.lt_or_ge j ws.length with hj | hj
    · rw [List.getElem?_append_left hj] at h
      exact Or.inr ⟨h, List.not_mem_nil⟩
    · rw [List.getElem?_append_right hj] at h
      exact Or.inl (List.mem_of_getElem? h)
  | cons i is ih =>
    intro w1 hl j p h
    cases w1 with
    | nil => exact absurd hl (by simp)
    | cons q w1 =>
      have h : ((zset ws is w1).set i q)[j]? = some p := h
      rw [List.getElem?_set] at h
      by_cases c : i = j
      · rw [if_pos c] at h
        split at h
        · exact Or.inl (by rw [← Option.some.inj h]; exact List.mem_cons_self)
        · cases h
      · rw [if_neg c] at h
        rcases ih w1 (by simpa using hl) j p h with g | ⟨g1, g2⟩
        · exact Or.inl (List.mem_cons_of_mem _ g)
        · exact Or.inr ⟨g1, fun z => by
            rcases List.mem_cons.mp z with y | y
            · exact c y.symm
            · exact g2 y⟩
theorem z_back {A0 : Nat → Prop} {D : va_G} {cl : List vw_C} {ws wc w1 : va_W} {H H1 : Heap} (hP : va_P D cl ws H) (hD : va_D A0 ws) (is : List Nat) (hC : is.map (fun i => ws[i]?) = wc.map some) (hk : ∀ q : Nat, q < H.size → ¬ va_A wc H.size q → H1[q]? = H[q]?) (hP1 : va_P D cl w1 H1) (hl : is.length ≤ w1.length) : va_P D cl (zset ws is w1) H1 := by
  intro j q hj
  rcases zset_get is w1 hl j q hj with h | ⟨h1, h2⟩
  · obtain ⟨t, ht⟩ := List.getElem?_of_mem h
    exact hP1 t q ht
  · have hat := hP j q h1
    refine hat.kept (hk q.1 hat.lt ?_)
    rintro (⟨k, e, hk2⟩ | hge)
    · have g1 : (is.map (fun i => ws[i]?))[k]? = some (some (q.1, e)) := by rw [hC, List.getElem?_map, hk2]; rfl
      rw [List.getElem?_map] at g1
      cases hi : is[k]? with
      | none => rw [hi] at g1; cases g1
      | some i =>
        rw [hi] at g1
        have g2 : ws[i]? = some (q.1, e) := Option.some.inj g1
        have g3 : i = j := hD.1 i j (q.1, e) q g2 h1 rfl
        exact h2 (g3 ▸ List.mem_of_getElem? hi)
    · exact absurd hat.lt (Nat.not_lt.mpr hge)
theorem zD_re {A : Nat → Prop} {ws ws2 : va_W} (hD : va_D A ws) (h : ws.map Prod.fst = ws2.map Prod.fst) : va_D A ws2 := by
  have key : ∀ (i : Nat) (p : Nat × va_E), ws2[i]? = some p → ∃ p2, ws[i]? = some p2 ∧ p2.1 = p.1 := by
    intro i p hp
    have h1 : (ws.map Prod.fst)[i]? = some p.1 := by rw [h, List.getElem?_map, hp]; rfl
    rw [List.getElem?_map] at h1
    cases hw : ws[i]? with
    | none => rw [hw] at h1; cases h1
    | some p2 => rw [hw] at h1; exact ⟨p2, rfl, Option.some.inj h1⟩
  refine ⟨fun i j p q hp hq e => ?_, fun k q hk => ?_⟩
  · obtain ⟨p2, a1, a2⟩ := key i p hp
    obtain ⟨q2, b1, b2⟩ := key j q hq
    exact hD.1 i j p2 q2 a1 b1 (by rw [a2, b2, e])
  · obtain ⟨q2, b1, b2⟩ := key k q hk
    rw [← b2]
    exact hD.2 k q2 b1
