
/-! constructors: the world grows -/
theorem aoa_spec {t : FieldType} {U : State} (h : va_AOA t U) : ∃ comp c k, U.vm.findClass (FieldType.array t).toString = some comp ∧ (U.vm.classes.findIdx? fun (x : Class) => match x.kind with | .array component _ => component == comp | _ => false) = some c ∧ U.vm.classes[c]? = some k ∧ k.kind = .array comp (.array t) ∧ U.vm.findClass ("[" ++ (FieldType.array t).toString) = some c := by
  unfold va_AOA Cond.before at h
  simp only [Cond.holds, Cond.value, beq_iff_eq] at h
  cases hc : U.vm.findClass (FieldType.array t).toString with
  | none => simp [hc] at h
  | some comp =>
    simp only [hc, Option.bind_some, Option.bind_eq_some_iff, Option.map_eq_some_iff] at h
    obtain ⟨c, hi, k, hk, hb⟩ := h
    obtain ⟨hlt, hp, -⟩ := Array.findIdx?_eq_some_iff_getElem.mp hi
    have hkk : U.vm.classes[c] = k := (Array.getElem?_eq_some_iff.mp hk).2
    rw [hkk] at hp
    cases hkind : k.kind with
    | array component ty =>
      rw [hkind] at hb hp
      simp at hb hp
      exact ⟨comp, c, k, rfl, hi, hk, by rw [hkind, hp, hb.1], hb.2⟩
    | _ => rw [hkind] at hb; simp at hb
theorem aoa_moved {t : FieldType} {u U : State} (hvm : u.vm.Alike U.vm) (h : va_AOA t u) : va_AOA t U := by
  obtain ⟨comp, c, k, h1, h2, h3, h4, h5⟩ := aoa_spec h
  obtain ⟨k', hk', he⟩ := hvm.2.2 _ _ h3
  have hi : (U.vm.classes.findIdx? fun (x : Class) => match x.kind with | .array component _ => component == comp | _ => false) = some c := by
    have e1 := va_idx_bare U.vm comp
    have e2 := va_idx_bare u.vm comp
    first | rw [hvm.bare_eq] at e1 | rw [← hvm.bare_eq] at e1
    exact e1.symm.trans (e2.trans h2)
  have hkind : k'.kind = .array comp (.array t) := by rw [he]; exact h4
  have f1 : U.vm.findClass (FieldType.array t).toString = some comp := by rw [hvm.findClass]; exact h1
  have f2 : U.vm.findClass ("[" ++ (FieldType.array t).toString) = some c := by rw [hvm.findClass]; exact h5
  unfold va_AOA Cond.before Cond.holds
  simp only [Cond.value]
  rw [f1, Option.bind_some]
  refine (congrArg (fun o : Option Nat => (o.bind (fun c => (U.vm.classes[c]?).map fun (k : Class) => match k.kind with | .array _ ty => decide (ty = FieldType.array t) && decide (U.vm.findClass ("[" ++ (FieldType.array t).toString) = some c) | _ => false) == some true)) hi).trans ?_
  simp [hk', hkind, f2]
def M00 : Mm := (fun _ _ => nI 0, fun _ _ => 0, fun _ => nI 0)
abbrev kq (κ : Rx) (w : va_W) (n o : Nat) : Rx := (kp κ, kl κ, ke κ, kR κ, ks κ, km κ, ka κ, kb κ, kme κ, kc κ, kD κ, (fun _ => w), kA κ, n, o, kQ κ)
def Zn (κ : Rx) (nL pc : Nat) (lv : List (Nat × Value)) (st : List Value) (w : va_W) (n o : Nat) : Prop := Zj (kq κ w n o) nL pc lv st M00
theorem xq {κ : Rx} {ct : Nat → ClassId} {tF : Nat} {cc : ByteArray} {nL : Nat} {own : String} (X : CX κ ct tF cc nL own) {n o : Nat} (h : n ≤ (kR κ).cells ∧ o ≤ (kR κ).slots) (w : va_W) : CX (kq κ w n o) ct tF cc nL own :=
  ⟨X.1, X.2.1, X.2.2.1, X.2.2.2.1, X.2.2.2.2.1, X.2.2.2.2.2.1, X.2.2.2.2.2.2.1, h⟩
/-- what a constructor starts from, and what it leaves -/
def CPn (D : va_G) (ct : Nat → ClassId) (tF : Nat) (A : Nat → Prop) (sz : Nat) (pre : va_W) (U : State) : Prop := U.heap.size = sz ∧ va_P D vwCl pre U.heap ∧ va_K D vwCl (tyL ct) U ∧ va_D (fun _ => True) pre ∧ FS tF A U U.heap ∧ va_AOA .long U
def CtN (l : Launch) (y : MethodName) (cc : ByteArray) (nL : Nat) (rm : Room) (D : va_G) (ct : Nat → ClassId) (tF : Nat) (as : List Value) (pre : va_W) (post : (Nat → Nat) → va_W) (mc ms : Nat) : Prop :=
  ∀ sz : Nat, Met l y (.code y cc nL none :: lw_gd) rm (va_Pc as (CPn D ct tF (va_A pre sz) sz pre)) (va_Qv (fun (_ : Nat → Nat) => True) (fun ad t => va_P D vwCl (post ad) t.heap ∧ va_D (va_A pre sz) (post ad)) (va_A pre sz)) mc ms (va_A pre sz)
def ZE (κ : Rx) (cc : ByteArray) (post : (Nat → Nat) → va_W) (mc ms : Nat) : Prop :=
  ∀ (ad : Nat → Nat) (H : Heap) (locs : List Loc) (ls : Array Slot) (pc : Nat), va_P (kD κ) vwCl (post ad) H → va_D (kA κ) (post ad) → va_S (kA κ) (ks κ).heap H locs → decode cc pc = .ok (.return_, 1) → W (kp κ) (kl κ) (ke κ) (kR κ) (ks κ) (km κ) (ka κ) (kb κ) (kme κ) (kc κ) H locs mc ms (kQ κ) (F0 (km κ) pc ls [])
theorem metN {l : Launch} {y : MethodName} {cc : ByteArray} {nL : Nat} {rm : Room} {D : va_G} {ct : Nat → ClassId} {tF : Nat} {as : List Value} {pre : va_W} {post : (Nat → Nat) → va_W} {mc ms : Nat} (hy : plainName y.cls = true) (hyn : y.name = "<init>") (hlen : (lg_sl as).length ≤ nL)
    (body : ∀ κ : Rx, CX κ ct tF cc nL y.cls → kl κ = l → kR κ = rm → kD κ = D → (∀ q, (ks κ).heap.size ≤ q → kA κ q) → (kme κ).name = "<init>" → va_AOA .long (ks κ) → ZE κ cc post mc ms → Zn κ nL 0 (lv_args 0 as) [] pre 0 0) : CtN l y cc nL rm D ct tF as pre post mc ms := by
  intro sz
  refine Met.ofW (cc := cc) (maxL := nL) (ret := none) hy rfl ?_
  intro p e s m args below meth c s₁ B hml hv
  obtain ⟨rfl, hsz, hP, hK, hD0, hF, hO⟩ := hv
  have hx := B.exec
  have hb := B.bytes
  have hr := B.returns
  have hts := atoms_spec (ws := .code y cc nL none :: lw_gd) B.pre
  have hown : s.vm.findClass y.cls = some m.cls := findClass_of_methodNamed B.named
  have hlocks := B.notSynchronized
  have hin : meth.name = "<init>" := by rw [← hyn]; exact (name_of_methodNamed B.named B.method).1
  subst hsz
  have hD := hD0.self (sz := s.heap.size)
  have hl := lv_entry as (n := nL) hlen
  rw [lg_entry_eq]
  exact body (p, l, e, rm, s, m, as.toArray, below, meth, c, D, (fun _ => []), va_A pre s.heap.size, 0, 0, MQ below _ as.toArray s mc ms (va_A pre s.heap.size)) ⟨hx, hb, hml, hown, fun w h => hts w (List.mem_cons_of_mem _ h), hK, hF, Nat.zero_le _, Nat.zero_le _⟩ rfl rfl rfl (fun q h => Or.inr h) hin hO
    (fun ad H locs ls pc hP hD hS hd => W.vret hx hb hr (fun t ht hW => ⟨⟨ad, rfl, trivial, by rw [ht]; exact hP, hD⟩, hS.F ht⟩) hS.2.2 hd) s.heap [] _ hP hD va_S.rf hl
section NROWS
variable {κ : Rx} {ct : Nat → ClassId} {tF : Nat} {cc : ByteArray} {nL : Nat} {own : String} {pc : Nat} {lv : List (Nat × Value)} {st : List Value} {w w' : va_W} {n o : Nat}
theorem zn_newa (X : CX κ ct tF cc nL own) (hA : ∀ q, (ks κ).heap.size ≤ q → kA κ q) {atype : ArrayType} {ty : FieldType} {t0 : Nat} {c0 : ClassId} (hty : newarray.typeOf atype = ty) (ht : (tyL ct)[t0]? = some (c0, ty)) (hwd : Cond.arrayClass ty ∈ lw_gd) {k : Int32} {N' : Nat} {a0 : vp_A} (ha : ∀ cA : ClassId, vp_cell cA a0 = arrV cA N' (fun _ => defaultValue ty)) (hn : ¬ k < 0) (hN : k.toNatClampNeg = N') (hbytes : N' * componentBytes ty ≤ 536870912) (hc : n + 1 ≤ (kR κ).cells) (hs : o + N' ≤ (kR κ).slots) (hd : decode cc pc = .ok (.newarray atype, 2))
    (kk : ∀ q : Nat, Zn κ nL (pc + 2) lv (.ref q :: st) (w ++ [(q, .inl (c0, a0))]) (n + 1) (o + N')) : Zn κ nL pc lv (.int k :: st) w n o := by
  intro H locs ls hP hD hS hl
  subst hty
  refine va_newaK X.1 X.2.1 (X.2.2.2.2.1 _ hwd) rfl hd rfl hn hN hbytes hc hs rfl fun H1 cA e1 z1 o1 hAr hNm => ?_
  have hRA := (X.2.2.2.2.2.1.2 t0 _ ht).2
  have hc0 : cA = c0 := by
    cases atype <;> exact Option.some.inj (hNm.symm.trans hRA)
  subst hc0
  have hk : ∀ (k : Nat) (x : Nat × va_E), w[k]? = some x → H1[x.1]? = H[x.1]? := fun k x hx => o1 x.1 ((hP k x hx).lt)
  refine kk H.size H1 locs ls ((va_P.kept (ws := w) hP hk).app (fun k x hx => ?_)) (va_D.push hD hP rfl (hA _ hS.1)) ⟨Nat.le_trans hS.1 (by omega), fun x h1 h2 => (o1 x (Nat.lt_of_lt_of_le h1 hS.1)).trans (hS.2.1 x h1 h2), hS.2.2⟩ hl
  have hz : k < 1 := (List.getElem?_eq_some_iff.mp hx).1
  rw [show k = 0 by omega] at hx
  cases hx
  show H1[H.size]? = some (vp_cell _ _)
  rw [ha]
  exact e1
theorem zn_new (X : CX κ ct tF cc nL own) (hA : ∀ q, (ks κ).heap.size ≤ q → kA κ q) {C : String} {T : u_T} {N ci index : Nat} {fs : List Value} (hin : ∀ w ∈ u_ws C T N, w ∈ lw_gd) (ty : Nat → FieldType) (hty : ∀ k, k < N → parseFieldDescriptor (T k).2.2.1 = some (ty k)) (hcl : Cond.classLink own index C ∈ lw_gd) (hinst : Cond.instantiable C N ∈ lw_gd) (hini : Cond.initialized C ∈ lw_gd) (hci : vwCl[ci]? = some (C, T, N)) (hfs : ∀ j, j < N → defaultValue (ty j) = vp_V fs j) (hc : n + 1 ≤ (kR κ).cells) (hs : o + N ≤ (kR κ).slots) (hd : decode cc pc = .ok (.new index, 3))
    (kk : ∀ q : Nat, Zn κ nL (pc + 3) lv (.ref q :: st) (w ++ [(q, .inr (ci, fs))]) (n + 1) (o + N)) : Zn κ nL pc lv st w n o := by
  intro H locs ls hP hD hS hl
  exact va_new X.1 X.2.1 X.2.2.2.2.1 hin ty hty X.2.2.2.1 (X.2.2.2.2.1 _ hcl) (X.2.2.2.2.1 _ hinst) (X.2.2.2.2.1 _ hini) X.2.2.2.2.2.1 hP hD hS hA hci hfs hc hs hd (fun q H1 hP hD hS => kk q H1 locs ls hP hD hS hl)
theorem zn_putF (X : CX κ ct tF cc nL own) (hnm2 : (kme κ).name = "<init>") {C : String} {T : u_T} {N ci index q a j : Nat} {fs : List Value} {v : Value} {ty : FieldType} (hin : ∀ w ∈ u_ws C T N, w ∈ lw_gd) (ty0 : Nat → FieldType) (hty : ∀ k, k < N → parseFieldDescriptor (T k).2.2.1 = some (ty0 k)) (hnm : ∀ a, a < N → ∀ b, b < N → a ≠ b → (T a).2.1 ≠ (T b).2.1) (hc : vwCl[ci]? = some (C, T, N)) (hj : j < N) (hlink : Cond.fieldLink own index (T j).1 (T j).2.1 (T j).2.2.1 ∈ lw_gd) (hfin : (T j).2.2.2 = true) (hdecl : (T j).1 = own) (hpd : parseFieldDescriptor (T j).2.2.1 = some ty) (hn : narrow ty v = v) (hfit : fits ty v = true) (hO : w[q]? = some (a, .inr (ci, fs))) (hlen : j < fs.length) (hset : w.set q (a, .inr (ci, fs.set j v)) = w') (hd : decode cc pc = .ok (.putfield index, 3))
    (k : Zn κ nL (pc + 3) lv st w' n o) : Zn κ nL pc lv (v :: .ref a :: st) w n o := by
  intro H locs ls hP hD hS hl
  exact va_putF X.1 X.2.1 X.2.2.2.2.1 hin ty0 hty hnm X.2.2.2.1 X.2.2.2.2.2.1 hP hD hS q hO hc j hj (X.2.2.2.2.1 _ hlink) (fun _ h => h) hfin hnm2 hdecl hpd hn hfit hlen hd (fun H locs hP hD hS => k H locs ls (hset ▸ hP) (hset ▸ hD) hS hl)
theorem zn_put (X : CX κ ct tF cc nL own) {C : String} {T : u_T} {N ci index q a j : Nat} {fs : List Value} {v : Value} {ty : FieldType} (hin : ∀ w ∈ u_ws C T N, w ∈ lw_gd) (ty0 : Nat → FieldType) (hty : ∀ k, k < N → parseFieldDescriptor (T k).2.2.1 = some (ty0 k)) (hnm : ∀ a, a < N → ∀ b, b < N → a ≠ b → (T a).2.1 ≠ (T b).2.1) (hc : vwCl[ci]? = some (C, T, N)) (hj : j < N) (hlink : Cond.fieldLink own index (T j).1 (T j).2.1 (T j).2.2.1 ∈ lw_gd) (hfin : (T j).2.2.2 = false) (hpd : parseFieldDescriptor (T j).2.2.1 = some ty) (hn : narrow ty v = v) (hfit : fits ty v = true) (hO : w[q]? = some (a, .inr (ci, fs))) (hlen : j < fs.length) (hset : w.set q (a, .inr (ci, fs.set j v)) = w') (hd : decode cc pc = .ok (.putfield index, 3))
    (k : Zn κ nL (pc + 3) lv st w' n o) : Zn κ nL pc lv (v :: .ref a :: st) w n o := by
  intro H locs ls hP hD hS hl
  exact va_put X.1 X.2.1 X.2.2.2.2.1 hin ty0 hty hnm X.2.2.2.1 X.2.2.2.2.2.1 hP hD hS q hO hc j hj (X.2.2.2.2.1 _ hlink) (fun _ h => h) hfin hpd hn hfit hlen hd (fun H locs hP hD hS => k H locs ls (hset ▸ hP) (hset ▸ hD) hS hl)
theorem zn_iast (X : CX κ ct tF cc nL own) {q a m : Nat} {f g : Nat → Int32} {i x : Int32} (hO : w[q]? = some (a, .inl (ct 0, m, .inl f))) (hv : vp_in i m ∧ upd f i.toNatClampNeg x = g) (hset : w.set q (a, .inl (ct 0, m, .inl g)) = w') (hd : decode cc pc = .ok (.iastore, 1)) (k : Zn κ nL (pc + 1) lv st w' n o) : Zn κ nL pc lv (.int x :: .int i :: .ref a :: st) w n o := by
  intro H locs ls hP hD hS hl
  exact va_iast X.1 X.2.1 X.2.2.2.2.2.1 hP hD hS q 0 hO rfl hv.1 hd (fun H locs hP hD hS => by rw [hv.2, hset] at hP hD; exact k H locs ls hP hD hS hl)
theorem zn_obj (X : CX κ ct tF cc nL own) {a idx : Nat} (hlink : Cond.methodLink own idx Lib.objectInit ∈ lw_gd) (hw : Cond.instanceMethod Lib.objectInit ∈ lw_gd ∧ Cond.code Lib.objectInit ⟨#[0xb1]⟩ 1 none ∈ lw_gd) (hf : 1 ≤ (kR κ).frames) (hL : 12 ≤ (kR κ).locals) (hd : decode cc pc = .ok (.invokespecial idx, 3)) (k : Zn κ nL (pc + 3) lv [] w n o) : Zn κ nL pc lv [.ref a] w n o := by
  intro H locs ls hP hD hS hl
  exact W.objInit X.1 X.2.1 X.2.2.2.1 (X.2.2.2.2.1 _ hlink) (X.2.2.2.2.1 _ hw.1) (X.2.2.2.2.1 _ hw.2) rfl (by rw [X.2.2.1]; exact hl.1) rfl hd hf (by show 2 * 0 + 0 + 12 ≤ _; omega) (k H locs ls hP hD hS hl)
theorem CPn_blind (D : va_G) (ct : Nat → ClassId) (tF : Nat) (A : Nat → Prop) (sz : Nat) (pre : va_W) (as : List Value) : FrameBlind (va_Pc as (CPn D ct tF A sz pre)) := by
  intro a U g mk q
  obtain ⟨q0, qz, qP, qK, qD, ⟨q1, q2⟩, q3⟩ := q
  exact ⟨q0, qz, qP, va_K.moved (u := U) (U := U.calling g mk a) (Vm.Alike.refl U.vm) qK, qD, ⟨va_Z.moved (u := U) (U := U.calling g mk a) (Vm.Alike.refl U.vm) q1, va_T.moved (u := U) (U := U.calling g mk a) (Vm.Alike.refl U.vm) q2⟩, aoa_moved (u := U) (U := U.calling g mk a) (Vm.Alike.refl U.vm) q3⟩
theorem zn_cI (X : CX κ ct tF cc nL own) (hA : ∀ q, (ks κ).heap.size ≤ q → kA κ q) (hO : va_AOA .long (ks κ)) {y : MethodName} {bytes : ByteArray} {mL : Nat} {rm : Room} {index k mc ms b : Nat} {As st0 : List Value} {e0 : va_E} {post : (Nat → Nat) → va_W} {wr : va_W} (hM : CtN (kl κ) y bytes mL rm (kD κ) ct tF (.ref b :: As) [(b, e0)] post mc ms) (hm : Cond.methodLink own index y ∈ lw_gd) (him : Cond.instanceMethod y ∈ lw_gd) (hcd : Cond.code y bytes mL none ∈ lw_gd) (hini : Cond.initialized y.cls ∈ lw_gd) (hyn : y.name = "<init>") (hyd : y.cls ≠ "java/lang/invoke/MethodHandle" ∧ y.cls ≠ "java/lang/invoke/VarHandle" ∧ (parseMethodDescriptor y.desc).map (fun d => d.parameters.length) = some k) (hR : rm.frames + 1 ≤ (kR κ).frames ∧ 8 + (mL + 11) + rm.locals ≤ (kR κ).locals) (hrm : rm.cells = mc ∧ rm.slots = ms) (hn : As.length = k) (hst : (st.map fun v => v.category).sum ≤ 8) (hf : n + mc ≤ (kR κ).cells ∧ o + ms ≤ (kR κ).slots) (i : Nat) (isR : List Nat) (hi : w[i]? = some (b, e0)) (hr : isR.map (fun j => w[j]?) = wr.map some) (hnd : va_nd isR = true) (hdis : ∀ j ∈ isR, j ∉ [i]) (h0 : st0 = As.reverse ++ .ref b :: st) (hd : decode cc pc = .ok (.invokespecial index, 3))
    (kk : ∀ ad : Nat → Nat, Zn κ nL (pc + 3) lv st (wr ++ post ad) (n + mc) (o + ms)) : Zn κ nL pc lv st0 w n o := by
  intro H locs ls hP hD hS hl
  have hP : va_P (kD κ) vwCl w H := hP
  have hD : va_D (kA κ) w := hD
  have hS : va_S (kA κ) (ks κ).heap H locs := hS
  have hC : [i].map (fun j => w[j]?) = ([(b, e0)] : va_W).map some := by simp [hi]
  have hPc : va_P (kD κ) vwCl [(b, e0)] H := hP.sub [i] (by simp [hi])
  have hDc : va_D (kA κ) [(b, e0)] := hD.sub [i] rfl hC
  have hFc := va_free (wc := [(b, e0)]) hD hS hA [i] hC
  have hk9 : ∀ a : Nat, a < (ks κ).heap.size → ¬ kA κ a → H[a]? = (ks κ).heap[a]? := fun a h1 h2 => hS.2.1 a h1 h2
  exact va_callv (va_runI (As := As) (rest := st) ⟨X.1, X.2.1, X.2.2.1, X.2.2.2.1, X.2.2.2.2.1⟩ (hM H.size) (cwI k X.2.2.2.2.1 (lw_gc hcd) rfl hrm.1 hrm.2 (X.2.2.2.2.1 _ hini) (X.2.2.2.2.1 _ hm) (X.2.2.2.2.1 _ him) hyn hyd hR)
    ⟨CPn_blind _ _ _ _ _ _ _, fun U hU hW => ⟨rfl, by rw [hU], by rw [hU]; exact hPc, va_K.moved hW.alike X.2.2.2.2.2.1, hDc.weaken (fun _ _ _ _ => trivial), ⟨va_Z.narrow (by rw [hU]; exact (va_Z.moved hW.alike X.2.2.2.2.2.2.1.1).kept hk9) hFc, va_T.narrow (by rw [hU]; exact (va_T.moved hW.alike X.2.2.2.2.2.2.1.2).kept hk9) hFc⟩, aoa_moved hW.alike hO⟩⟩
    rfl hn hl.1 h0 (lv_room hst) hd hf) hS (fun q _ h => hFc q h) hFc (fun ad t H1 locs1 ht hvm hw hB hz1 hk1 hS1 => by
      obtain ⟨hP1, hD1⟩ := hB
      rw [ht] at hP1
      obtain ⟨hP2, hD2⟩ := va_join (wr := wr) (w1 := post ad) hP hD [i] isR hC hr hnd hdis hk1 hFc hP1 hD1
      exact kk ad H1 locs1 ls hP2 hD2 hS1 hl)
theorem zn_end {post : (Nat → Nat) → va_W} (he : ZE κ cc post n o) (hd : decode cc pc = .ok (.return_, 1)) (ad : Nat → Nat) (is : List Nat) (hn : va_nd is = true) (hs : is.map (fun i => w[i]?) = (post ad).map some) : Zn κ nL pc lv [] w n o := by
  intro H locs ls hP hD hS hl
  have hP : va_P (kD κ) vwCl w H := hP
  have hD : va_D (kA κ) w := hD
  refine he ad H locs ls pc (fun k q hk => ?_) (hD.sub is hn hs) hS hd
  have h1 : (is.map (fun i => w[i]?))[k]? = some (some q) := by rw [hs, List.getElem?_map, hk]; rfl
  rw [List.getElem?_map] at h1
  cases hi : is[k]? with
  | none => rw [hi] at h1; cases h1
  | some i => rw [hi] at h1; exact hP i q (Option.some.inj h1)
theorem zn_mna (X : CX κ ct tF cc nL own) (hA : ∀ q, (ks κ).heap.size ≤ q → kA κ q) (hO : va_AOA .long (ks κ)) {index : Nat} (hcl : Cond.classLink own index "[[J" ∈ lw_gd) (hwd : Cond.arrayClass .long ∈ lw_gd) (hc : n + (1 + 3) ≤ (kR κ).cells) (hs : o + (3 + 3 * 20) ≤ (kR κ).slots) (hd : decode cc pc = .ok (.multianewarray index 2, 4))
    (kk : ∀ q r0 r1 r2 : Nat, Zn κ nL (pc + 4) lv (.ref q :: st) (w ++ [(q, .inl (ct 3, 3, .inr (.inr (.inr (.inr (fun i => if i < 3 then some ([r0, r1, r2].getD i 0) else none)))))), (r0, .inl (ct 1, 20, .inr (.inl (fun _ => 0)))), (r1, .inl (ct 1, 20, .inr (.inl (fun _ => 0)))), (r2, .inl (ct 1, 20, .inr (.inl (fun _ => 0))))]) (n + 4) (o + 63)) : Zn κ nL pc lv (.int (nI 20) :: .int (nI 3) :: st) w n o := by
  intro H locs ls hP hD hS hl
  have hcy : (ks κ).vm.findClass (FieldType.array FieldType.long).toString = some (ct 1) := (X.2.2.2.2.2.1.2 1 _ rfl).2
  refine va_mna (X := w) (L := []) (f := fun _ => .inr (0, [])) (N' := 3) (K' := 20) (z := (20, .inr (.inl (fun _ => 0)))) X.1 X.2.1 X.2.2.2.1 (X.2.2.2.2.1 _ hcl) hO (X.2.2.2.2.1 _ hwd) hcy X.2.2.2.2.2.1 (show va_P (kD κ) vwCl (w ++ []) H by rw [List.append_nil]; exact hP) (show va_D (kA κ) (w ++ []) by rw [List.append_nil]; exact hD) hS hA (by decide) (by decide) (by decide) (by decide) (by decide) (by decide) (by decide) rfl rfl hc hs (fun c => by rw [vp_cell_l]; exact arrV_new c 20 (.long 0)) hd (fun q r cA H1 hinj hnl hK1 hP1 hD1 hS1 => ?_)
  have hRA : (ks κ).vm.findClass ("[" ++ (FieldType.array FieldType.long).toString) = some cA := (hK1.2 4 _ rfl).2
  have hRB : (ks κ).vm.findClass ("[" ++ (FieldType.array FieldType.long).toString) = some (ct 3) := (X.2.2.2.2.2.1.2 3 _ rfl).2
  have hcA : cA = ct 3 := Option.some.inj (hRA.symm.trans hRB)
  subst hcA
  have hf : (fun i => if i < 3 then some (r i) else none) = (fun i => if i < 3 then some ([r 0, r 1, r 2].getD i 0) else none) := by
    funext i
    by_cases h : i < 3
    · rcases (show i = 0 ∨ i = 1 ∨ i = 2 by omega) with rfl | rfl | rfl <;> rfl
    · rw [if_neg h, if_neg h]
  rw [hf] at hP1 hD1
  have e : ∀ z : Nat × va_E, ((w ++ [z]) ++ va_pl ([] ++ (List.range 3).map r) (vr_up (fun _ => .inr (0, [])) ((List.range 3).map r) (.inl (ct 1, (20, .inr (.inl (fun _ => 0))))))) = w ++ [z, (r 0, .inl (ct 1, 20, .inr (.inl (fun _ => 0)))), (r 1, .inl (ct 1, 20, .inr (.inl (fun _ => 0)))), (r 2, .inl (ct 1, 20, .inr (.inl (fun _ => 0))))] := by
    intro z
    rw [List.append_assoc]
    have hr : (List.range 3).map r = [r 0, r 1, r 2] := rfl
    rw [hr]
    simp [va_pl, vr_up]
  rw [e] at hP1 hD1
  exact kk q (r 0) (r 1) (r 2) H1 locs ls hP1 hD1 hS1 hl
theorem set_self {α : Type} {l : List α} {i : Nat} {x : α} (h : l[i]? = some x) : l.set i x = l := by
  apply List.ext_getElem?
  intro j
  by_cases e : j = i
  · subst e
    rw [List.getElem?_set_self (List.getElem?_eq_some_iff.mp h).1, h]
  · rw [List.getElem?_set_ne (Ne.symm e)]
theorem zn_fill (X : CX κ ct tF cc nL own) (hc : n ≤ (kR κ).cells ∧ o ≤ (kR κ).slots) {i q N index : Nat} {v : Int32} (hN : N < 2 ^ 31) (hO : w[i]? = some (q, .inl (ct 0, N, .inl (fun _ => nI 0)))) (hset : w.set i (q, .inl (ct 0, N, .inl (fillF N v (fun _ => nI 0)))) = w') (hm : Cond.methodLink own index yJ_fillI ∈ lw_gd) (hR : 0 + 1 ≤ (kR κ).frames ∧ 8 + (4 + 11) + 0 ≤ (kR κ).locals) (hd : decode cc pc = .ok (.invokestatic index, 3)) (k : Zn κ nL (pc + 3) lv [] w' n o) : Zn κ nL pc lv [.int v, .ref q] w n o := by
  have hlt : i < w.length := (List.getElem?_eq_some_iff.mp hO).1
  have hIA : IA (fun M => w.set i (q, .inl (ct 0, N, .inl (M.1 0)))) (fun _ => i) (fun _ => q) (ct 0) 0 N := fun M => ⟨List.getElem?_set_self hlt, fun f => by
    show (w.set i _).set i _ = w.set i _
    rw [List.set_set]
    rfl⟩
  have h0 : (fun M : Mm => w.set i (q, .inl (ct 0, N, .inl (M.1 0)))) M00 = w := set_self hO
  have key : Zj (kset (kq κ w n o) (fun M => w.set i (q, .inl (ct 0, N, .inl (M.1 0))))) nL pc lv [.int v, .ref q] M00 := by
    refine z_cSV (As := [.ref q, .int v]) (st := []) (show CX (kset (kq κ w n o) (fun M => w.set i (q, .inl (ct 0, N, .inl (M.1 0))))) ct tF cc nL own from xq X hc []) (tJ_fillI hIA hN M00 v) hm msJ_fillI hR ⟨rfl, rfl⟩ rfl (Nat.le_of_ble_eq_true rfl) rfl hd ?_
    intro H locs ls hP hD hS hl
    have e : (fun M : Mm => w.set i (q, .inl (ct 0, N, .inl (M.1 0)))) (mk M00 [(0, fillF N v (M00.1 0))] M00.2.1 []) = w' := hset
    exact k H locs ls (e ▸ hP) (e ▸ hD) hS hl
  intro H locs ls hP hD hS hl
  have e0 : w.set i (q, .inl (ct 0, N, .inl (M00.1 0))) = w := h0
  have hP2 : va_P (kD κ) vwCl (w.set i (q, .inl (ct 0, N, .inl (M00.1 0)))) H := by rw [e0]; exact hP
  have hD2 : va_D (kA κ) (w.set i (q, .inl (ct 0, N, .inl (M00.1 0)))) := by rw [e0]; exact hD
  exact key H locs ls hP2 hD2 hS hl
end NROWS
theorem wi_0 : Cond.methodLink RX2 3 Lib.objectInit ∈ lw_gd := gd (List.mem_of_getElem? (i := 46) (by decide +kernel)) rfl
theorem wi_1 : Cond.fieldLink RX2 9 "LeaningTrees$Order" "forest" "LLeaningTrees$Forest;" ∈ lw_gd := gd (List.mem_of_getElem? (i := 47) (by decide +kernel)) rfl
theorem wi_2 : Cond.arrayClass .int ∈ lw_gd := gd (List.mem_of_getElem? (i := 40) (by decide +kernel)) rfl
theorem wi_3 : Cond.fieldLink RX2 17 "LeaningTrees$Order" "markedCodes" "[I" ∈ lw_gd := gd (List.mem_of_getElem? (i := 48) (by decide +kernel)) rfl
theorem wi_4 : Cond.fieldLink RX2 21 "LeaningTrees$Order" "marks" "[I" ∈ lw_gd := gd (List.mem_of_getElem? (i := 49) (by decide +kernel)) rfl
theorem wi_5 : Cond.methodLink RX5 3 Lib.objectInit ∈ lw_gd := gd (List.mem_of_getElem? (i := 62) (by decide +kernel)) rfl
theorem wi_6 : Cond.fieldLink RX5 9 "LeaningTrees$Ways" "forest" "LLeaningTrees$Forest;" ∈ lw_gd := gd (List.mem_of_getElem? (i := 63) (by decide +kernel)) rfl
theorem wi_7 : Cond.fieldLink RX5 17 "LeaningTrees$Ways" "ups" "[I" ∈ lw_gd := gd (List.mem_of_getElem? (i := 64) (by decide +kernel)) rfl
theorem wi_8 : Cond.fieldLink RX5 21 "LeaningTrees$Ways" "backs" "[I" ∈ lw_gd := gd (List.mem_of_getElem? (i := 65) (by decide +kernel)) rfl
theorem wi_9 : Cond.arrayClass .boolean ∈ lw_gd := gd (List.mem_of_getElem? (i := 91) (by decide +kernel)) rfl
theorem wi_10 : Cond.fieldLink RX5 24 "LeaningTrees$Ways" "learned" "[Z" ∈ lw_gd := gd (List.mem_of_getElem? (i := 66) (by decide +kernel)) rfl
theorem wi_11 : Cond.fieldLink RX5 28 "LeaningTrees$Ways" "turns" "[I" ∈ lw_gd := gd (List.mem_of_getElem? (i := 67) (by decide +kernel)) rfl
theorem wi_12 : Cond.fieldLink RX5 31 "LeaningTrees$Ways" "queue" "[I" ∈ lw_gd := gd (List.mem_of_getElem? (i := 68) (by decide +kernel)) rfl
theorem wi_13 : Cond.fieldLink RX5 34 "LeaningTrees$Ways" "turnsUp" "[I" ∈ lw_gd := gd (List.mem_of_getElem? (i := 69) (by decide +kernel)) rfl
theorem wi_14 : Cond.fieldLink RX5 37 "LeaningTrees$Ways" "measured" "I" ∈ lw_gd := gd (List.mem_of_getElem? (i := 71) (by decide +kernel)) rfl
theorem wi_15 : Cond.methodLink RX3 3 Lib.objectInit ∈ lw_gd := gd (List.mem_of_getElem? (i := 97) (by decide +kernel)) rfl
theorem wi_16 : Cond.fieldLink RX3 11 "LeaningTrees$Steps" "trees" "[I" ∈ lw_gd := gd (List.mem_of_getElem? (i := 98) (by decide +kernel)) rfl
theorem wi_17 : Cond.methodLink RX4 3 Lib.objectInit ∈ lw_gd := gd (List.mem_of_getElem? (i := 129) (by decide +kernel)) rfl
theorem wi_18 : Cond.fieldLink RX4 11 "LeaningTrees$Tape" "bytes" "[I" ∈ lw_gd := gd (List.mem_of_getElem? (i := 130) (by decide +kernel)) rfl
theorem wi_19 : Cond.fieldLink RX4 15 "LeaningTrees$Tape" "awaited" "[I" ∈ lw_gd := gd (List.mem_of_getElem? (i := 132) (by decide +kernel)) rfl
theorem wi_20 : Cond.fieldLink RX4 18 "LeaningTrees$Tape" "openNodes" "[I" ∈ lw_gd := gd (List.mem_of_getElem? (i := 133) (by decide +kernel)) rfl
theorem wi_21 : Cond.fieldLink RX4 21 "LeaningTrees$Tape" "rightSizes" "[I" ∈ lw_gd := gd (List.mem_of_getElem? (i := 134) (by decide +kernel)) rfl
theorem wi_22 : Cond.methodLink RX1 3 Lib.objectInit ∈ lw_gd := gd (List.mem_of_getElem? (i := 110) (by decide +kernel)) rfl
theorem wi_23 : Cond.classLink RX1 11 "[[J" ∈ lw_gd := gd (List.mem_of_getElem? (i := 111) (by decide +kernel)) rfl
theorem wi_24 : Cond.arrayClass .long ∈ lw_gd := gd (List.mem_of_getElem? (i := 123) (by decide +kernel)) rfl
theorem wi_25 : Cond.fieldLink RX1 13 "LeaningTrees$Lists" "longs" "[[J" ∈ lw_gd := gd (List.mem_of_getElem? (i := 116) (by decide +kernel)) rfl
theorem wi_26 : Cond.fieldLink RX1 16 "LeaningTrees$Lists" "lengths" "[I" ∈ lw_gd := gd (List.mem_of_getElem? (i := 117) (by decide +kernel)) rfl
theorem wi_27 : Cond.methodLink RX1 20 yJ_fillI ∈ lw_gd := gd (List.mem_of_getElem? (i := 113) (by decide +kernel)) rfl
theorem wi_28 : Cond.methodLink RX0 3 Lib.objectInit ∈ lw_gd := gd (List.mem_of_getElem? (i := 26) (by decide +kernel)) rfl
theorem wi_29 : Cond.fieldLink RX0 11 "LeaningTrees$Forest" "codes" "[I" ∈ lw_gd := gd (List.mem_of_getElem? (i := 33) (by decide +kernel)) rfl
theorem wi_30 : Cond.fieldLink RX0 15 "LeaningTrees$Forest" "sizes" "[I" ∈ lw_gd := gd (List.mem_of_getElem? (i := 34) (by decide +kernel)) rfl
theorem wi_31 : Cond.methodLink RX6 3 Lib.objectInit ∈ lw_gd := gd (List.mem_of_getElem? (i := 18) (by decide +kernel)) rfl
theorem wi_32 : Cond.classLink RX6 9 RX0 ∈ lw_gd := gd (List.mem_of_getElem? (i := 21) (by decide +kernel)) rfl
theorem wi_33 : Cond.instantiable RX0 2 ∈ lw_gd := gd (List.mem_of_getElem? (i := 22) (by decide +kernel)) rfl
theorem wi_34 : Cond.initialized RX0 ∈ lw_gd := gd (List.mem_of_getElem? (i := 2) (by decide +kernel)) rfl
theorem wi_35 : Cond.methodLink RX6 11 yX0_init ∈ lw_gd := gd (List.mem_of_getElem? (i := 23) (by decide +kernel)) rfl
theorem wi_36 : Cond.instanceMethod yX0_init ∈ lw_gd := gd (List.mem_of_getElem? (i := 24) (by decide +kernel)) rfl
theorem wi_37 : Cond.code yX0_init cX0_init 4 none ∈ lw_gd := gd (List.mem_of_getElem? (i := 25) (by decide +kernel)) rfl
theorem wi_38 : Cond.fieldLink RX6 12 "LeaningTrees" "forest" "LLeaningTrees$Forest;" ∈ lw_gd := gd (List.mem_of_getElem? (i := 162) (by decide +kernel)) rfl
theorem wi_39 : Cond.classLink RX6 18 RX2 ∈ lw_gd := gd (List.mem_of_getElem? (i := 41) (by decide +kernel)) rfl
theorem wi_40 : Cond.instantiable RX2 3 ∈ lw_gd := gd (List.mem_of_getElem? (i := 42) (by decide +kernel)) rfl
theorem wi_41 : Cond.initialized RX2 ∈ lw_gd := gd (List.mem_of_getElem? (i := 3) (by decide +kernel)) rfl
theorem wi_42 : Cond.methodLink RX6 20 yX2_init ∈ lw_gd := gd (List.mem_of_getElem? (i := 43) (by decide +kernel)) rfl
theorem wi_43 : Cond.instanceMethod yX2_init ∈ lw_gd := gd (List.mem_of_getElem? (i := 44) (by decide +kernel)) rfl
theorem wi_44 : Cond.code yX2_init cX2_init 2 none ∈ lw_gd := gd (List.mem_of_getElem? (i := 45) (by decide +kernel)) rfl
theorem wi_45 : Cond.fieldLink RX6 23 "LeaningTrees" "order" "LLeaningTrees$Order;" ∈ lw_gd := gd (List.mem_of_getElem? (i := 163) (by decide +kernel)) rfl
theorem wi_46 : Cond.classLink RX6 27 RX5 ∈ lw_gd := gd (List.mem_of_getElem? (i := 57) (by decide +kernel)) rfl
theorem wi_47 : Cond.instantiable RX5 9 ∈ lw_gd := gd (List.mem_of_getElem? (i := 58) (by decide +kernel)) rfl
theorem wi_48 : Cond.initialized RX5 ∈ lw_gd := gd (List.mem_of_getElem? (i := 4) (by decide +kernel)) rfl
theorem wi_49 : Cond.methodLink RX6 29 yX5_init ∈ lw_gd := gd (List.mem_of_getElem? (i := 59) (by decide +kernel)) rfl
theorem wi_50 : Cond.instanceMethod yX5_init ∈ lw_gd := gd (List.mem_of_getElem? (i := 60) (by decide +kernel)) rfl
theorem wi_51 : Cond.code yX5_init cX5_init 2 none ∈ lw_gd := gd (List.mem_of_getElem? (i := 61) (by decide +kernel)) rfl
theorem wi_52 : Cond.fieldLink RX6 30 "LeaningTrees" "ways" "LLeaningTrees$Ways;" ∈ lw_gd := gd (List.mem_of_getElem? (i := 164) (by decide +kernel)) rfl
theorem wi_53 : Cond.classLink RX6 34 RX3 ∈ lw_gd := gd (List.mem_of_getElem? (i := 92) (by decide +kernel)) rfl
theorem wi_54 : Cond.instantiable RX3 2 ∈ lw_gd := gd (List.mem_of_getElem? (i := 93) (by decide +kernel)) rfl
theorem wi_55 : Cond.initialized RX3 ∈ lw_gd := gd (List.mem_of_getElem? (i := 5) (by decide +kernel)) rfl
theorem wi_56 : Cond.methodLink RX6 36 yX3_init ∈ lw_gd := gd (List.mem_of_getElem? (i := 94) (by decide +kernel)) rfl
theorem wi_57 : Cond.instanceMethod yX3_init ∈ lw_gd := gd (List.mem_of_getElem? (i := 95) (by decide +kernel)) rfl
theorem wi_58 : Cond.code yX3_init cX3_init 1 none ∈ lw_gd := gd (List.mem_of_getElem? (i := 96) (by decide +kernel)) rfl
theorem wi_59 : Cond.fieldLink RX6 37 "LeaningTrees" "steps" "LLeaningTrees$Steps;" ∈ lw_gd := gd (List.mem_of_getElem? (i := 165) (by decide +kernel)) rfl
theorem wi_60 : Cond.classLink RX6 41 RX1 ∈ lw_gd := gd (List.mem_of_getElem? (i := 105) (by decide +kernel)) rfl
theorem wi_61 : Cond.instantiable RX1 2 ∈ lw_gd := gd (List.mem_of_getElem? (i := 106) (by decide +kernel)) rfl
theorem wi_62 : Cond.initialized RX1 ∈ lw_gd := gd (List.mem_of_getElem? (i := 6) (by decide +kernel)) rfl
theorem wi_63 : Cond.methodLink RX6 43 yX1_init ∈ lw_gd := gd (List.mem_of_getElem? (i := 107) (by decide +kernel)) rfl
theorem wi_64 : Cond.instanceMethod yX1_init ∈ lw_gd := gd (List.mem_of_getElem? (i := 108) (by decide +kernel)) rfl
theorem wi_65 : Cond.code yX1_init cX1_init 1 none ∈ lw_gd := gd (List.mem_of_getElem? (i := 109) (by decide +kernel)) rfl
theorem wi_66 : Cond.fieldLink RX6 44 "LeaningTrees" "lists" "LLeaningTrees$Lists;" ∈ lw_gd := gd (List.mem_of_getElem? (i := 166) (by decide +kernel)) rfl
theorem wi_67 : Cond.classLink RX6 48 RX4 ∈ lw_gd := gd (List.mem_of_getElem? (i := 124) (by decide +kernel)) rfl
theorem wi_68 : Cond.instantiable RX4 8 ∈ lw_gd := gd (List.mem_of_getElem? (i := 125) (by decide +kernel)) rfl
theorem wi_69 : Cond.initialized RX4 ∈ lw_gd := gd (List.mem_of_getElem? (i := 8) (by decide +kernel)) rfl
theorem wi_70 : Cond.methodLink RX6 50 yX4_init ∈ lw_gd := gd (List.mem_of_getElem? (i := 126) (by decide +kernel)) rfl
theorem wi_71 : Cond.instanceMethod yX4_init ∈ lw_gd := gd (List.mem_of_getElem? (i := 127) (by decide +kernel)) rfl
theorem wi_72 : Cond.code yX4_init cX4_init 1 none ∈ lw_gd := gd (List.mem_of_getElem? (i := 128) (by decide +kernel)) rfl
theorem wi_73 : Cond.fieldLink RX6 51 "LeaningTrees" "tape" "LLeaningTrees$Tape;" ∈ lw_gd := gd (List.mem_of_getElem? (i := 167) (by decide +kernel)) rfl
theorem wi_74 : Cond.fieldLink RX6 55 "LeaningTrees" "shelves" "[I" ∈ lw_gd := gd (List.mem_of_getElem? (i := 168) (by decide +kernel)) rfl
theorem wi_75 : Cond.fieldLink RX6 59 "LeaningTrees" "imageShelves" "[I" ∈ lw_gd := gd (List.mem_of_getElem? (i := 169) (by decide +kernel)) rfl
theorem wi_76 : Cond.fieldLink RX6 62 "LeaningTrees" "imageTree" "I" ∈ lw_gd := gd (List.mem_of_getElem? (i := 170) (by decide +kernel)) rfl
theorem wi_77 : Cond.methodLink RX6 66 yX0_firstOf ∈ lw_gd := gd (List.mem_of_getElem? (i := 155) (by decide +kernel)) rfl
theorem wi_78 : Cond.fieldLink RX6 70 "LeaningTrees" "tree" "I" ∈ lw_gd := gd (List.mem_of_getElem? (i := 171) (by decide +kernel)) rfl
theorem wi_79 : Cond.methodLink RX7 3 Lib.objectInit ∈ lw_gd := gd (List.mem_of_getElem? (i := 783) (by decide +kernel)) rfl
theorem wi_80 : Cond.fieldLink RX7 9 "LeaningTreesModel" "nodes" "I" ∈ lw_gd := gd (List.mem_of_getElem? (i := 784) (by decide +kernel)) rfl
theorem wi_81 : Cond.fieldLink RX7 15 "LeaningTreesModel" "shelfNodes" "[I" ∈ lw_gd := gd (List.mem_of_getElem? (i := 786) (by decide +kernel)) rfl
theorem wi_82 : Cond.fieldLink RX7 19 "LeaningTreesModel" "shelfTree" "[I" ∈ lw_gd := gd (List.mem_of_getElem? (i := 787) (by decide +kernel)) rfl
theorem wi_83 : Cond.fieldLink RX7 22 "LeaningTreesModel" "stepNodes" "[I" ∈ lw_gd := gd (List.mem_of_getElem? (i := 788) (by decide +kernel)) rfl
theorem wi_84 : Cond.fieldLink RX7 25 "LeaningTreesModel" "stepTree" "[I" ∈ lw_gd := gd (List.mem_of_getElem? (i := 789) (by decide +kernel)) rfl
theorem wi_85 : Cond.fieldLink RX7 28 "LeaningTreesModel" "lists" "[J" ∈ lw_gd := gd (List.mem_of_getElem? (i := 791) (by decide +kernel)) rfl
theorem wi_86 : Cond.fieldLink RX7 32 "LeaningTreesModel" "listSize" "[I" ∈ lw_gd := gd (List.mem_of_getElem? (i := 792) (by decide +kernel)) rfl
theorem wi_87 : Cond.fieldLink RX7 35 "LeaningTreesModel" "tape" "[I" ∈ lw_gd := gd (List.mem_of_getElem? (i := 793) (by decide +kernel)) rfl
theorem wi_88 : Cond.fieldLink RX7 38 "LeaningTreesModel" "imageShelfNodes" "[I" ∈ lw_gd := gd (List.mem_of_getElem? (i := 799) (by decide +kernel)) rfl
theorem wi_89 : Cond.fieldLink RX7 41 "LeaningTreesModel" "imageShelfTree" "[I" ∈ lw_gd := gd (List.mem_of_getElem? (i := 800) (by decide +kernel)) rfl
theorem wi_90 : Cond.fieldLink RX7 44 "LeaningTreesModel" "all" "[I" ∈ lw_gd := gd (List.mem_of_getElem? (i := 801) (by decide +kernel)) rfl
theorem wi_91 : Cond.fieldLink RX7 47 "LeaningTreesModel" "parent" "[I" ∈ lw_gd := gd (List.mem_of_getElem? (i := 804) (by decide +kernel)) rfl
theorem wi_92 : Cond.fieldLink RX7 50 "LeaningTreesModel" "left" "[I" ∈ lw_gd := gd (List.mem_of_getElem? (i := 805) (by decide +kernel)) rfl
theorem wi_93 : Cond.fieldLink RX7 53 "LeaningTreesModel" "right" "[I" ∈ lw_gd := gd (List.mem_of_getElem? (i := 806) (by decide +kernel)) rfl
theorem wi_94 : Cond.fieldLink RX7 56 "LeaningTreesModel" "leftSize" "[I" ∈ lw_gd := gd (List.mem_of_getElem? (i := 807) (by decide +kernel)) rfl
theorem wi_95 : Cond.fieldLink RX7 59 "LeaningTreesModel" "above" "[I" ∈ lw_gd := gd (List.mem_of_getElem? (i := 808) (by decide +kernel)) rfl
theorem wi_96 : Cond.fieldLink RX7 62 "LeaningTreesModel" "dist" "[I" ∈ lw_gd := gd (List.mem_of_getElem? (i := 810) (by decide +kernel)) rfl
theorem wi_97 : Cond.fieldLink RX7 65 "LeaningTreesModel" "queue" "[I" ∈ lw_gd := gd (List.mem_of_getElem? (i := 811) (by decide +kernel)) rfl
theorem wi_98 : Cond.fieldLink RX7 68 "LeaningTreesModel" "marks" "[I" ∈ lw_gd := gd (List.mem_of_getElem? (i := 812) (by decide +kernel)) rfl
theorem wi_99 : Cond.fieldLink RX7 71 "LeaningTreesModel" "text" "[I" ∈ lw_gd := gd (List.mem_of_getElem? (i := 813) (by decide +kernel)) rfl
theorem wi_100 : Cond.fieldLink RX7 74 "LeaningTreesModel" "seenRow" "[I" ∈ lw_gd := gd (List.mem_of_getElem? (i := 816) (by decide +kernel)) rfl
theorem wi_obj : Cond.instanceMethod Lib.objectInit ∈ lw_gd ∧ Cond.code Lib.objectInit ⟨#[0xb1]⟩ 1 none ∈ lw_gd := ⟨gd (List.mem_of_getElem? (i := 19) (by decide +kernel)) rfl, gd (List.mem_of_getElem? (i := 20) (by decide +kernel)) rfl⟩
