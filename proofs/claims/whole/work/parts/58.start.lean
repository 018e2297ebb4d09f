theorem wj_in0 : Cond.instantiable RX0 2 ∈ lw_gd := gd (List.mem_of_getElem? (i := 22) (by decide +kernel)) rfl
theorem wj_in1 : Cond.instantiable RX1 2 ∈ lw_gd := gd (List.mem_of_getElem? (i := 106) (by decide +kernel)) rfl
theorem wj_in2 : Cond.instantiable RX2 3 ∈ lw_gd := gd (List.mem_of_getElem? (i := 42) (by decide +kernel)) rfl
theorem wj_in3 : Cond.instantiable RX3 2 ∈ lw_gd := gd (List.mem_of_getElem? (i := 93) (by decide +kernel)) rfl
theorem wj_in4 : Cond.instantiable RX4 8 ∈ lw_gd := gd (List.mem_of_getElem? (i := 125) (by decide +kernel)) rfl
theorem wj_in5 : Cond.instantiable RX5 9 ∈ lw_gd := gd (List.mem_of_getElem? (i := 58) (by decide +kernel)) rfl
theorem wj_in6 : Cond.instantiable RX6 10 ∈ lw_gd := gd (List.mem_of_getElem? (i := 14) (by decide +kernel)) rfl
theorem wj_in7 : Cond.instantiable RX7 35 ∈ lw_gd := gd (List.mem_of_getElem? (i := 779) (by decide +kernel)) rfl
theorem wj_int : Cond.arrayClass .int ∈ lw_gd := gd (List.mem_of_getElem? (i := 40) (by decide +kernel)) rfl
theorem wj_long : Cond.arrayClass .long ∈ lw_gd := gd (List.mem_of_getElem? (i := 123) (by decide +kernel)) rfl
theorem wj_boolean : Cond.arrayClass .boolean ∈ lw_gd := gd (List.mem_of_getElem? (i := 91) (by decide +kernel)) rfl
theorem wj_cl0 : Cond.classLink RL 7 RX6 ∈ lw_gd := gd (List.mem_of_getElem? (i := 13) (by decide +kernel)) rfl
theorem wj_ini0 : Cond.initialized RX6 ∈ lw_gd := gd (List.mem_of_getElem? (i := 1) (by decide +kernel)) rfl
theorem wj_ml0 : Cond.methodLink RL 9 yX6_init ∈ lw_gd := gd (List.mem_of_getElem? (i := 15) (by decide +kernel)) rfl
theorem wj_im0 : Cond.instanceMethod yX6_init ∈ lw_gd := gd (List.mem_of_getElem? (i := 16) (by decide +kernel)) rfl
theorem wj_cd0 : Cond.code yX6_init cX6_init 1 none ∈ lw_gd := gd (List.mem_of_getElem? (i := 17) (by decide +kernel)) rfl
theorem wj_cl1 : Cond.classLink RL 10 RX7 ∈ lw_gd := gd (List.mem_of_getElem? (i := 778) (by decide +kernel)) rfl
theorem wj_ini1 : Cond.initialized RX7 ∈ lw_gd := gd (List.mem_of_getElem? (i := 9) (by decide +kernel)) rfl
theorem wj_ml1 : Cond.methodLink RL 12 yX7_init ∈ lw_gd := gd (List.mem_of_getElem? (i := 780) (by decide +kernel)) rfl
theorem wj_im1 : Cond.instanceMethod yX7_init ∈ lw_gd := gd (List.mem_of_getElem? (i := 781) (by decide +kernel)) rfl
theorem wj_cd1 : Cond.code yX7_init cX7_init 1 none ∈ lw_gd := gd (List.mem_of_getElem? (i := 782) (by decide +kernel)) rfl
/-! THE CLAIM OUT OF ONE WALK OF THE LAW'S BODY. Your part is whole_start (and what it stands on); all else here is the same for every law, but numbers. -/
def R_law : String := "LeaningTreesLaw"
def lw_P (b : Addr) (xs : List Int32) (args : Array Value) (s : State) : Prop := args = #[.ref b] ∧ s.IntsAt b xs ∧ xs.length ≤ 2560 ∧ (Jvm.Cond.and given_1 narrow_1).before args s = true
def lw_Q (_ : Array Value) (s : State) (o : Outcome) (t : State) : Prop := o = .returned (some (.int 1)) ∧ Framed s o t [] 600000 7302250
def lw_Z (below : List Frame) (a : Array Value) (s : State) : State → Prop := fun t => ∃ o, t.status = .running ∧ Ended t below o ∧ lw_Q a s o t
/-- the law's own end, with 1 on the stack, nothing written that was there before, its room as the claim has it -/
theorem lw_ret {p : Program} {l : Launch} {e : Env} {s : State} {m : MethodId} {below : List Frame} {meth : Method} {c : Code} {b : Nat} (hx : p.tables.exec = Jvm.exec) (hb : c.code = code) (hr : meth.sig.returnType = ret) (hlocks : meth.locks = false) {pc : Nat} {H : Heap} {ls : Array Slot} (hdg : decode code pc = .ok (.ireturn, 1)) : W p l e room_1 s m #[Value.ref b] below meth c H [] 600000 7302250 (lw_Z below #[Value.ref b] s) (F0 m pc ls [.int 1]) := by
  intro T hT X
  obtain ⟨fs, hret, hrun, hended, hW, hframe⟩ := X.leave (v := some (.int 1)) (hlocks := hlocks) (fun h => by rw [hr] at h; cases h)
  have hmeth' : T.vm.method? m = some meth := X.method'
  refine ⟨T.setFrames fs, ?_, .returned (some (.int 1)), hrun, hended, rfl, ⟨_, rfl⟩, hW, hframe⟩
  jvm_step X.here [X.here.top, hx, hb, hdg, hmeth', hr, ret, narrow_b1]
  (try refine ⟨rfl, ?_⟩); (try refine ⟨rfl, ?_⟩)
  first | (intro acts; rw [hret _ acts rfl rfl rfl]) | rw [hret _ _ rfl rfl rfl]
  exact Steps.refl _
/-- what holds at the law's entry: the machine, the code, the tables' words (any of lw_tbl by 'hts w (by decide +kernel)'), the script of L ints xs at the cell b, what the Statement gives of the start (any of its parts by flat_of_before) -/
def lw_At (p : Program) (s : State) (m : MethodId) (meth : Method) (c : Code) (b L : Nat) (xs : Nat → Int32) : Prop :=
  p.tables.exec = Jvm.exec ∧ c.code = code ∧ meth.sig.returnType = ret ∧ c.maxLocals = 4 ∧ s.vm.findClass R_law = some m.cls ∧ (∀ w ∈ lw_tbl, w.before #[Value.ref b] s = true) ∧ va_X b L xs s s.heap ∧ b < s.heap.size ∧ meth.locks = false ∧ (Jvm.Cond.and given_1 narrow_1).before #[Value.ref b] s = true
def Mc0 (cF sF : Nat → Int32) : Mm := (fun k => if k = 2 then cF else if k = 3 then sF else if k = 21 then fillF 3 (-1 : Int32) (fun _ => nI 0) else (fun _ => nI 0), fun _ _ => 0, fun k => if k = 41 then nI 4 else nI 0)
def Mr0 : Mm := (fun k => if k = 6 then upd (upd (upd (fun _ => nI 0) 0 (-1 : Int32)) 1 (-1 : Int32)) 2 (-1 : Int32) else (fun _ => nI 0), fun _ _ => 0, fun k => if k = 40 then nI 3 else nI 0)
theorem rows3 (a : Nat → Nat) : (fun i => if i < 3 then some ([a 18, a 19, a 20].getD i 0) else none) = (fun i => if i < 3 then some (a (18 + i)) else none) := by
  funext i
  by_cases h : i < 3
  · rcases (show i = 0 ∨ i = 1 ∨ i = 2 by omega) with rfl | rfl | rfl <;> rfl
  · rw [if_neg h, if_neg h]
theorem arr_of {s : State} {c comp : ClassId} {k : Class} {ty : FieldType} (h2 : s.vm.classes[c]? = some k) (h3 : k.kind = .array comp ty) : ArrOfT s c ty := fun n z => ⟨fun q h => (by cases h), k, h2, comp, h3⟩
set_option maxHeartbeats 4000000 in
set_option maxRecDepth 100000 in
theorem start_K {s : State} {args : Array Value} (hts : ∀ w ∈ lw_tbl, w.before args s = true) : ∃ (D : va_G) (ct : Nat → ClassId), va_K D vwCl (tyL ct) s := by
  have hts2 : ∀ w ∈ lw_gd, w.before args s = true := fun w h => hts w (List.mem_filter.mp h).1
  obtain ⟨k0, iS0, hKn0⟩ := u_known (C := RX0) (T := TX0) (N := 2) (n := 2) hts2 inX0 (hts2 _ wj_in0)
  obtain ⟨k1, iS1, hKn1⟩ := u_known (C := RX1) (T := TX1) (N := 2) (n := 2) hts2 inX1 (hts2 _ wj_in1)
  obtain ⟨k2, iS2, hKn2⟩ := u_known (C := RX2) (T := TX2) (N := 3) (n := 3) hts2 inX2 (hts2 _ wj_in2)
  obtain ⟨k3, iS3, hKn3⟩ := u_known (C := RX3) (T := TX3) (N := 2) (n := 2) hts2 inX3 (hts2 _ wj_in3)
  obtain ⟨k4, iS4, hKn4⟩ := u_known (C := RX4) (T := TX4) (N := 8) (n := 8) hts2 inX4 (hts2 _ wj_in4)
  obtain ⟨k5, iS5, hKn5⟩ := u_known (C := RX5) (T := TX5) (N := 9) (n := 9) hts2 inX5 (hts2 _ wj_in5)
  obtain ⟨k6, iS6, hKn6⟩ := u_known (C := RX6) (T := TX6) (N := 10) (n := 10) hts2 inX6 (hts2 _ wj_in6)
  obtain ⟨k7, iS7, hKn7⟩ := u_known (C := RX7) (T := TX7) (N := 35) (n := 35) hts2 inX7 (hts2 _ wj_in7)
  obtain ⟨a0, e0, p0, h01, h02, h03⟩ := Cond.arrayClass_spec (hts2 _ wj_int)
  obtain ⟨a1, e1, p1, h11, h12, h13⟩ := Cond.arrayClass_spec (hts2 _ wj_long)
  obtain ⟨a2, e2, p2, h21, h22, h23⟩ := Cond.arrayClass_spec (hts2 _ wj_boolean)
  obtain ⟨p3, a3, e3, h30, h31, h32, h33, h34⟩ := aoa_spec (va_AOA.of (t := .long) (hts (.arrayOver (.array .long)) (List.mem_append_right _ (List.mem_of_getElem? (i := 112) (by decide +kernel)))))
  refine ⟨(fun k => [k0, k1, k2, k3, k4, k5, k6, k7].getD k k0, fun k => [iS0, iS1, iS2, iS3, iS4, iS5, iS6, iS7].getD k iS0), fun k => [a0, a1, a2, a3].getD k a0, fun k q hq => ?_, fun k q hk => ?_⟩
  · match k, hq with
    | 0, hq => cases hq; exact hKn0
    | 1, hq => cases hq; exact hKn1
    | 2, hq => cases hq; exact hKn2
    | 3, hq => cases hq; exact hKn3
    | 4, hq => cases hq; exact hKn4
    | 5, hq => cases hq; exact hKn5
    | 6, hq => cases hq; exact hKn6
    | 7, hq => cases hq; exact hKn7
    | k + 8, hq => simp [vwCl] at hq
  · match k, hk with
    | 0, hk => cases hk; exact ⟨arr_of h02 h03, h01⟩
    | 1, hk => cases hk; exact ⟨arr_of h12 h13, h11⟩
    | 2, hk => cases hk; exact ⟨arr_of h22 h23, h21⟩
    | 3, hk => cases hk; exact ⟨arr_of h32 h33, h34⟩
    | k + 4, hk => simp [tyL] at hk
set_option maxHeartbeats 4000000 in
set_option maxRecDepth 100000 in
theorem start_FS {s : State} {args : Array Value} (hts : ∀ w ∈ lw_tbl, w.before args s = true) (hgv : (Jvm.Cond.and given_1 narrow_1).before args s = true) {A : Nat → Prop} (hA : ∀ a : Nat, a < s.heap.size → ¬ A a) : ∃ tF : Nat, FS tF A s s.heap := by
  have hs := flat_of_before _ hgv
  have hel : ∀ j : Nat, j < 9 → (Term.elem (.static "LeaningTrees$Forest" "FIRST" "[I") (.int (Int32.ofNat j))).eval args s none [] s = some (.int (fiF j)) := by
    intro j hj
    match j, hj with
    | 0, _ => exact va_eqt (hs (Cond.eq (.elem (.static "LeaningTrees$Forest" "FIRST" "[I") (.int 0)) (.int 0)) (by decide +kernel))
    | 1, _ => exact va_eqt (hs (Cond.eq (.elem (.static "LeaningTrees$Forest" "FIRST" "[I") (.int 1)) (.int 1)) (by decide +kernel))
    | 2, _ => exact va_eqt (hs (Cond.eq (.elem (.static "LeaningTrees$Forest" "FIRST" "[I") (.int 2)) (.int 2)) (by decide +kernel))
    | 3, _ => exact va_eqt (hs (Cond.eq (.elem (.static "LeaningTrees$Forest" "FIRST" "[I") (.int 3)) (.int 4)) (by decide +kernel))
    | 4, _ => exact va_eqt (hs (Cond.eq (.elem (.static "LeaningTrees$Forest" "FIRST" "[I") (.int 4)) (.int 9)) (by decide +kernel))
    | 5, _ => exact va_eqt (hs (Cond.eq (.elem (.static "LeaningTrees$Forest" "FIRST" "[I") (.int 5)) (.int 23)) (by decide +kernel))
    | 6, _ => exact va_eqt (hs (Cond.eq (.elem (.static "LeaningTrees$Forest" "FIRST" "[I") (.int 6)) (.int 65)) (by decide +kernel))
    | 7, _ => exact va_eqt (hs (Cond.eq (.elem (.static "LeaningTrees$Forest" "FIRST" "[I") (.int 7)) (.int 197)) (by decide +kernel))
    | 8, _ => exact va_eqt (hs (Cond.eq (.elem (.static "LeaningTrees$Forest" "FIRST" "[I") (.int 8)) (.int 626)) (by decide +kernel))
    | j + 9, hj => omega
  obtain ⟨t, ht, hT⟩ := va_Tof (N := 9) (f := fun j => .int (fiF j)) (A := A) (by decide) (hs (Cond.arrayOf (.static "LeaningTrees$Forest" "FIRST" "[I") .int) (by decide +kernel)) (va_eqt (hs (Cond.eq (.length (.static "LeaningTrees$Forest" "FIRST" "[I")) (.int 9)) (by decide +kernel))) hel hA
  exact ⟨t, va_Zof (hts (.laysStatic "LeaningTrees$Forest" "FIRST" "[I") (List.mem_append_right _ (List.mem_of_getElem? (i := 28) (by decide +kernel)))) (hts (.initialized "LeaningTrees$Forest") (List.mem_append_right _ (List.mem_of_getElem? (i := 2) (by decide +kernel)))) ht hA, hT⟩
set_option maxHeartbeats 4000000 in
set_option maxRecDepth 100000 in
theorem postC_eq (ct : Nat → ClassId) (cF sF : Nat → Int32) (h0 : Nat) (ad : Nat → Nat) : ([(h0, .inr (6, [.ref (ad 1), .ref (ad 4), .ref (ad 7), .ref (ad 14), .ref (ad 16), .ref (ad 22), .ref (ad 27), .ref (ad 28), .int (nI 0), .int (nI 4)])), ((ad 1), .inr (0, [.ref (ad 2), .ref (ad 3)])), ((ad 2), .inl ((ct 0), 626, .inl cF)), ((ad 3), .inl ((ct 0), 626, .inl sF)), ((ad 4), .inr (2, [.ref (ad 1), .ref (ad 5), .ref (ad 6)])), ((ad 5), .inl ((ct 0), 429, .inl (fun _ => nI 0))), ((ad 6), .inl ((ct 0), 429, .inl (fun _ => nI 0))), ((ad 7), .inr (5, [.ref (ad 1), .ref (ad 8), .ref (ad 9), .ref (ad 10), .ref (ad 11), .ref (ad 12), .ref (ad 13), .int (nI 0), .int (nI 0)])), ((ad 8), .inl ((ct 0), 4382, .inl (fun _ => nI 0))), ((ad 9), .inl ((ct 0), 4382, .inl (fun _ => nI 0))), ((ad 10), .inl ((ct 2), 8, .inl (fun _ => nI 0))), ((ad 11), .inl ((ct 0), 626, .inl (fun _ => nI 0))), ((ad 12), .inl ((ct 0), 429, .inl (fun _ => nI 0))), ((ad 13), .inl ((ct 0), 626, .inl (fun _ => nI 0))), ((ad 14), .inr (3, [.ref (ad 15), .int (nI 0)])), ((ad 15), .inl ((ct 0), 10, .inl (fun _ => nI 0))), ((ad 16), .inr (1, [.ref (ad 17), .ref (ad 21)])), ((ad 17), .inl (ct 3, 3, .inr (.inr (.inr (.inr (fun i => if i < 3 then some ([(ad 18), (ad 19), (ad 20)].getD i 0) else none)))))), ((ad 18), .inl ((ct 1), 20, .inr (.inl (fun _ => 0)))), ((ad 19), .inl ((ct 1), 20, .inr (.inl (fun _ => 0)))), ((ad 20), .inl ((ct 1), 20, .inr (.inl (fun _ => 0)))), ((ad 21), .inl ((ct 0), 3, .inl (fillF 3 (-1 : Int32) (fun _ => nI 0)))), ((ad 22), .inr (4, [.ref (ad 23), .int (nI 0), .ref (ad 24), .ref (ad 25), .ref (ad 26), .int (nI 0), .int (nI 0), .int (nI 0)])), ((ad 23), .inl ((ct 0), 60, .inl (fun _ => nI 0))), ((ad 24), .inl ((ct 0), 7, .inl (fun _ => nI 0))), ((ad 25), .inl ((ct 0), 7, .inl (fun _ => nI 0))), ((ad 26), .inl ((ct 0), 7, .inl (fun _ => nI 0))), ((ad 27), .inl ((ct 0), 4, .inl (fun _ => nI 0))), ((ad 28), .inl ((ct 0), 4, .inl (fun _ => nI 0)))] : va_W) = wCs (fun i => if i = 0 then h0 else ad i) ct (Mc0 cF sF) := by
  rw [show (fun i => if i < 3 then some ([(ad 18), (ad 19), (ad 20)].getD i 0) else none) = (fun i => if i < 3 then some ((fun i => if i = 0 then h0 else ad i) (18 + i)) else none) from rows3 (fun i => if i = 0 then h0 else ad i)]
  rfl
set_option maxHeartbeats 4000000 in
set_option maxRecDepth 100000 in
theorem postM_eq (ct : Nat → ClassId) (h0 : Nat) (ad : Nat → Nat) : ([(h0, .inr (7, [.int (nI 3), .int (nI 0), .ref (ad 1), .ref (ad 2), .ref (ad 3), .ref (ad 4), .int (nI 0), .ref (ad 5), .ref (ad 6), .ref (ad 7), .int (nI 0), .int (nI 0), .int (nI 0), .int (nI 0), .int (nI 0), .ref (ad 8), .ref (ad 9), .ref (ad 10), .int (nI 0), .int (nI 0), .ref (ad 11), .ref (ad 12), .ref (ad 13), .ref (ad 14), .ref (ad 15), .int (nI 0), .ref (ad 16), .ref (ad 17), .ref (ad 18), .ref (ad 19), .int (nI 0), .int (nI 0), .ref (ad 20), .int (nI 0), .int (nI 0)])), ((ad 1), .inl ((ct 0), 4, .inl (fun _ => nI 0))), ((ad 2), .inl ((ct 0), 4, .inl (fun _ => nI 0))), ((ad 3), .inl ((ct 0), 10, .inl (fun _ => nI 0))), ((ad 4), .inl ((ct 0), 10, .inl (fun _ => nI 0))), ((ad 5), .inl ((ct 1), 60, .inr (.inl (fun _ => 0)))), ((ad 6), .inl ((ct 0), 3, .inl (upd (upd (upd (fun _ => nI 0) 0 (-1 : Int32)) 1 (-1 : Int32)) 2 (-1 : Int32)))), ((ad 7), .inl ((ct 0), 60, .inl (fun _ => nI 0))), ((ad 8), .inl ((ct 0), 4, .inl (fun _ => nI 0))), ((ad 9), .inl ((ct 0), 4, .inl (fun _ => nI 0))), ((ad 10), .inl ((ct 0), 429, .inl (fun _ => nI 0))), ((ad 11), .inl ((ct 0), 7, .inl (fun _ => nI 0))), ((ad 12), .inl ((ct 0), 7, .inl (fun _ => nI 0))), ((ad 13), .inl ((ct 0), 7, .inl (fun _ => nI 0))), ((ad 14), .inl ((ct 0), 7, .inl (fun _ => nI 0))), ((ad 15), .inl ((ct 0), 7, .inl (fun _ => nI 0))), ((ad 16), .inl ((ct 0), 429, .inl (fun _ => nI 0))), ((ad 17), .inl ((ct 0), 429, .inl (fun _ => nI 0))), ((ad 18), .inl ((ct 0), 429, .inl (fun _ => nI 0))), ((ad 19), .inl ((ct 0), 60, .inl (fun _ => nI 0))), ((ad 20), .inl ((ct 0), 7, .inl (fun _ => nI 0)))] : va_W) = wMs (fun i => if i = 0 then h0 else ad i) ct Mr0 := rfl
set_option maxHeartbeats 4000000 in
set_option maxRecDepth 100000 in
theorem whole_open {p : Program} {e : Env} {s : State} {m : MethodId} {below : List Frame} {meth : Method} {c : Code} (l : Launch) {b L : Nat} {xs : Nat → Int32} (hL : L ≤ 2560) (C0 : lw_At p s m meth c b L xs) {cF sF : Nat → Int32} (hF : FEv cF sF) {REL : Mm → Mm → Prop} (hal : AlAll REL) (hrel : REL (Mc0 cF sF) Mr0) : W p l e room_1 s m #[Value.ref b] below meth c s.heap [] 0 0 (lw_Z below #[Value.ref b] s) (entryFrame m ([Value.ref b] : List Value).toArray 4) := by
  obtain ⟨hx, hb, hr, hml, hown, hts, hX, hbl, hlocks, hgv⟩ := id C0
  obtain ⟨D, ct, hK⟩ := start_K hts
  have hAn : ∀ a : Nat, a < s.heap.size → ¬ (fun q : Nat => s.heap.size ≤ q) a := fun a h q => absurd q (Nat.not_le.mpr h)
  obtain ⟨tF, hFS⟩ := start_FS hts hgv hAn
  have hts2 : ∀ w ∈ lw_gd, w.before #[Value.ref b] s = true := fun w h => hts w (List.mem_filter.mp h).1
  have hO : va_AOA .long s := va_AOA.of (hts (.arrayOver (.array .long)) (List.mem_append_right _ (List.mem_of_getElem? (i := 112) (by decide +kernel))))
  have X : CX (p, l, e, room_1, s, m, #[Value.ref b], below, meth, c, D, (fun _ => []), (fun q : Nat => s.heap.size ≤ q), 0, 0, lw_Z below #[Value.ref b] s) ct tF cL_law 4 RL := ⟨hx, hb, hml, hown, hts2, hK, hFS, Nat.zero_le _, Nat.zero_le _⟩
  have hl := lv_entry ([.ref b]) (n := 4) (Nat.le_of_ble_eq_true rfl)
  rw [lg_entry_eq]
  generalize hκ : ((p, l, e, room_1, s, m, #[Value.ref b], below, meth, c, D, (fun _ => []), (fun q : Nat => s.heap.size ≤ q), 0, 0, lw_Z below #[Value.ref b] s) : Rx) = κ at X
  have hend : ∀ (H : Heap) (locs : List Loc) (ls : Array Slot), va_S (fun q : Nat => s.heap.size ≤ q) s.heap H locs → W p l e room_1 s m #[Value.ref b] below meth c H locs 50 14776 (lw_Z below #[Value.ref b] s) (F0 m 1259 ls []) := by
    intro H locs ls hS
    refine lv_iconst (v := 1) hx hb dL_law_1259 (by decide) ?_
    refine va_forget (fun q hq => hS.2.2 q hq) ?_
    refine W.widen (k := 600000) (n := 7302250) (Nat.le_of_ble_eq_true rfl) (Nat.le_of_ble_eq_true rfl) ?_
    exact lw_ret hx hb hr hlocks dL_law_1260
  have main : Zn κ 4 0 [(0, .ref b)] [] [] 0 0 := by
    have hA : ∀ q, (ks κ).heap.size ≤ q → kA κ q := by subst hκ; exact fun _ h => h
    have hO2 : va_AOA .long (ks κ) := by subst hκ; exact hO
    have eR : kR κ = room_1 := by subst hκ; rfl
    have room : ∀ n o, n ≤ 600000 → o ≤ 7302250 → n ≤ (kR κ).cells ∧ o ≤ (kR κ).slots := fun n o h1 h2 => by rw [eR]; exact ⟨h1, h2⟩
    refine zn_new (ci := 6) (fs := [.null, .null, .null, .null, .null, .null, .null, .null, .int (nI 0), .int (nI 0)]) (C := RX6) (T := TX6) (N := 10) X hA inX6 tyX6 tyX6_ok wj_cl0 wj_in6 wj_ini0 rfl (fun j hj => by rcases (show j = 0 ∨ j = 1 ∨ j = 2 ∨ j = 3 ∨ j = 4 ∨ j = 5 ∨ j = 6 ∨ j = 7 ∨ j = 8 ∨ j = 9 by omega) with rfl | rfl | rfl | rfl | rfl | rfl | rfl | rfl | rfl | rfl <;> rfl) (room _ 0 (Nat.le_of_ble_eq_true rfl) (Nat.zero_le _)).1 (room 0 _ (Nat.zero_le _) (Nat.le_of_ble_eq_true rfl)).2 dL_law_0 (fun h0 => ?_)
    show Zn κ 4 _ _ _ [(h0, .inr (6, [.null, .null, .null, .null, .null, .null, .null, .null, .int (nI 0), .int (nI 0)]))] 1 10
    refine z_dup (xq X (n := 1) (o := 10) (room _ _ (Nat.le_of_ble_eq_true rfl) (Nat.le_of_ble_eq_true rfl)) _) dL_law_3 rfl ?_
    refine zn_cI (k := 0) (As := []) (st := [.ref h0]) (wr := []) X hA hO2 (nX6_init hF h0) wj_ml0 wj_im0 wj_cd0 wj_ini0 rfl ⟨by decide, by decide, by decide +kernel⟩ (by rw [eR]; exact ⟨Nat.le_of_ble_eq_true rfl, Nat.le_of_ble_eq_true rfl⟩) ⟨rfl, rfl⟩ rfl (Nat.le_of_ble_eq_true rfl) (room _ _ (Nat.le_of_ble_eq_true rfl) (Nat.le_of_ble_eq_true rfl)) 0 [] rfl rfl (by decide) (by decide) rfl dL_law_4 (fun ad0 => ?_)
    rw [List.nil_append, postC_eq]
    generalize had : (fun i => if i = 0 then h0 else ad0 i) = ad
    have h00 : h0 = ad 0 := by rw [← had]; rfl
    have X1 := xq X (n := 29) (o := 12764) (room _ _ (Nat.le_of_ble_eq_true rfl) (Nat.le_of_ble_eq_true rfl))
    show Zn κ 4 _ _ _ (wCs ad ct (Mc0 cF sF)) 29 12764
    refine z_astore_n (lv' := [(1, .ref h0), (0, .ref b)]) (X1 _) dL_law_7 rfl (by decide) rfl ?_
    refine zn_new (ci := 7) (fs := [.int (nI 0), .int (nI 0), .null, .null, .null, .null, .int (nI 0), .null, .null, .null, .int (nI 0), .int (nI 0), .int (nI 0), .int (nI 0), .int (nI 0), .null, .null, .null, .int (nI 0), .int (nI 0), .null, .null, .null, .null, .null, .int (nI 0), .null, .null, .null, .null, .int (nI 0), .int (nI 0), .null, .int (nI 0), .int (nI 0)]) (C := RX7) (T := TX7) (N := 35) X hA inX7 tyX7 tyX7_ok wj_cl1 wj_in7 wj_ini1 rfl (fun j hj => by rcases (show j = 0 ∨ j = 1 ∨ j = 2 ∨ j = 3 ∨ j = 4 ∨ j = 5 ∨ j = 6 ∨ j = 7 ∨ j = 8 ∨ j = 9 ∨ j = 10 ∨ j = 11 ∨ j = 12 ∨ j = 13 ∨ j = 14 ∨ j = 15 ∨ j = 16 ∨ j = 17 ∨ j = 18 ∨ j = 19 ∨ j = 20 ∨ j = 21 ∨ j = 22 ∨ j = 23 ∨ j = 24 ∨ j = 25 ∨ j = 26 ∨ j = 27 ∨ j = 28 ∨ j = 29 ∨ j = 30 ∨ j = 31 ∨ j = 32 ∨ j = 33 ∨ j = 34 by omega) with rfl | rfl | rfl | rfl | rfl | rfl | rfl | rfl | rfl | rfl | rfl | rfl | rfl | rfl | rfl | rfl | rfl | rfl | rfl | rfl | rfl | rfl | rfl | rfl | rfl | rfl | rfl | rfl | rfl | rfl | rfl | rfl | rfl | rfl | rfl <;> rfl) (room _ 0 (Nat.le_of_ble_eq_true rfl) (Nat.zero_le _)).1 (room 0 _ (Nat.zero_le _) (Nat.le_of_ble_eq_true rfl)).2 dL_law_8 (fun h1 => ?_)
    show Zn κ 4 _ _ _ (wCs ad ct (Mc0 cF sF) ++ [(h1, .inr (7, [.int (nI 0), .int (nI 0), .null, .null, .null, .null, .int (nI 0), .null, .null, .null, .int (nI 0), .int (nI 0), .int (nI 0), .int (nI 0), .int (nI 0), .null, .null, .null, .int (nI 0), .int (nI 0), .null, .null, .null, .null, .null, .int (nI 0), .null, .null, .null, .null, .int (nI 0), .int (nI 0), .null, .int (nI 0), .int (nI 0)]))]) 30 12799
    refine z_dup (xq X (n := 30) (o := 12799) (room _ _ (Nat.le_of_ble_eq_true rfl) (Nat.le_of_ble_eq_true rfl)) _) dL_law_11 rfl ?_
    refine zn_cI (k := 0) (As := []) (st := [.ref h1]) (wr := wCs ad ct (Mc0 cF sF)) X hA hO2 (nX7_init h1) wj_ml1 wj_im1 wj_cd1 wj_ini1 rfl ⟨by decide, by decide, by decide +kernel⟩ (by rw [eR]; exact ⟨Nat.le_of_ble_eq_true rfl, Nat.le_of_ble_eq_true rfl⟩) ⟨rfl, rfl⟩ rfl (Nat.le_of_ble_eq_true rfl) (room _ _ (Nat.le_of_ble_eq_true rfl) (Nat.le_of_ble_eq_true rfl)) 29 [0, 1, 2, 3, 4, 5, 6, 7, 8, 9, 10, 11, 12, 13, 14, 15, 16, 17, 18, 19, 20, 21, 22, 23, 24, 25, 26, 27, 28] rfl rfl (by decide) (by decide) rfl dL_law_12 (fun ad1 => ?_)
    rw [postM_eq]
    generalize ham : (fun i => if i = 0 then h1 else ad1 i) = am
    have h10 : h1 = am 0 := by rw [← ham]; rfl
    have X2 := xq X (n := 50) (o := 14776) (room _ _ (Nat.le_of_ble_eq_true rfl) (Nat.le_of_ble_eq_true rfl))
    show Zn κ 4 _ _ _ (wCs ad ct (Mc0 cF sF) ++ wMs am ct Mr0) 50 14776
    refine z_astore_n (lv' := [(2, .ref h1), (1, .ref h0), (0, .ref b)]) (X2 _) dL_law_15 rfl (by decide) rfl ?_
    refine z_iconst (v := nI 0) (X2 _) dL_law_16 (by decide) ?_
    refine z_istore_n (lv' := [(3, .int (nI 0)), (2, .ref h1), (1, .ref h0), (0, .ref b)]) (X2 _) dL_law_17 rfl (by decide) rfl ?_
    refine z_sub (lv' := [(0, .ref b), (1, .ref h0), (2, .ref h1), (3, .int (nI 0))]) [3, 2, 1, 0] rfl ?_
    rw [h00, h10]
    have key := law_loop (κ := kq κ [] 50 14776) (ad := ad) (am := am) (ct := ct) (tF := tF) (b := b) (L := L) (xs := xs) (fun w => X2 []) eR (fun w => by subst hκ; exact ⟨hX, hbl, Nat.not_le.mpr hbl⟩) hL hal (fun j Mc Mr => by
      intro H locs ls hP hD hS hl
      subst hκ
      exact hend H locs ls hS) (L + 1) 0 (by omega) (Nat.zero_le _) (Mc0 cF sF) Mr0 hrel
    exact key
  subst hκ
  have hP0 : va_P D vwCl [] s.heap := fun k q h => by simp at h
  have hD0 : va_D (fun q : Nat => s.heap.size ≤ q) [] := ⟨fun i j p q h => by simp at h, fun k q h => by simp at h⟩
  exact main s.heap [] _ hP0 hD0 va_S.rf hl
