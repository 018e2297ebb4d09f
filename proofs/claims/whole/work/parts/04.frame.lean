
def lw_gd : List Cond := lw_tbl.filter goodWord
/-! the memory: rows of ints, rows of longs, single ints; a world is a function of it -/
abbrev Mm : Type := (Nat → Nat → Int32) × (Nat → Nat → Int64) × (Nat → Int32)
def pu {α : Type} (f : Nat → α) : List (Nat × α) → Nat → α
  | [], k => f k
  | (i, v) :: l, k => if k = i then v else pu f l k
def rp {α : Type} : List (Nat × α) → Nat → α → List (Nat × α)
  | [], _, _ => []
  | (i, v) :: l, q, f => if i = q then (i, f) :: l else (i, v) :: rp l q f
def hk {α : Type} : List (Nat × α) → Nat → Bool
  | [], _ => false
  | (i, _) :: l, q => (i == q) || hk l q
def mg {α : Type} (l : List (Nat × α)) : List (Nat × α) → List (Nat × α)
  | [] => l
  | (q, f) :: r => rp (mg l r) q f
theorem pu_rp {α : Type} (g : Nat → α) (q : Nat) (f : α) : ∀ (l : List (Nat × α)), hk l q = true → pu (pu g l) [(q, f)] = pu g (rp l q f)
  | [], h => by simp [hk] at h
  | (i, v) :: l, h => by
    funext k
    by_cases hi : i = q
    · subst hi
      simp only [pu, rp, if_true]
      by_cases hk1 : k = i <;> simp [hk1, pu]
    · have hq : hk l q = true := by simpa [hk, hi] using h
      have ih := congrFun (pu_rp g q f l hq) k
      simp only [pu] at ih
      simp only [pu, rp, if_neg hi]
      rw [← ih]
      by_cases hk1 : k = q
      · have : k ≠ i := fun e => hi (e.symm.trans hk1)
        simp [hk1, Ne.symm hi]
      · simp [hk1]
theorem hk_rp {α : Type} (q : Nat) (f : α) (z : Nat) : ∀ (l : List (Nat × α)), hk (rp l q f) z = hk l z
  | [] => rfl
  | (i, v) :: l => by
    by_cases hi : i = q
    · simp [rp, hi, hk]
    · simp [rp, hi, hk, hk_rp q f z l]
theorem hk_mg {α : Type} (l : List (Nat × α)) (z : Nat) : ∀ (r : List (Nat × α)), hk (mg l r) z = hk l z
  | [] => rfl
  | (q, f) :: r => by rw [mg, hk_rp, hk_mg l z r]
theorem pu_mg {α : Type} (g : Nat → α) (l : List (Nat × α)) : ∀ (r : List (Nat × α)), r.all (fun e => hk l e.1) = true → pu (pu g l) r = pu g (mg l r)
  | [], _ => by funext k; rfl
  | (q, f) :: r, h => by
    simp only [List.all_cons, Bool.and_eq_true] at h
    have ih := pu_mg g l r h.2
    rw [mg, ← pu_rp g q f (mg l r) (by rw [hk_mg]; exact h.1), ← ih]
    funext k
    rfl
theorem pu_self {α : Type} (g : Nat → α) : ∀ (ks : List Nat), pu g (ks.map fun k => (k, g k)) = g
  | [] => by funext k; rfl
  | i :: ks => by
    funext k
    have ih := congrFun (pu_self g ks) k
    simp only [List.map_cons, pu]
    by_cases h : k = i
    · simp [h]
    · rw [if_neg h]; exact ih
def tyL (ct : Nat → ClassId) : List (ClassId × FieldType) := [(ct 0, .int), (ct 1, .long), (ct 2, .boolean), (ct 3, .array .long)]
def fiL : List Int32 := [0, 1, 2, 4, 9, 23, 65, 197, 626]
def fiF (j : Nat) : Int32 := fiL.getD j 0
def FS (tF : Nat) (A : Nat → Prop) (U : State) (H : Heap) : Prop := va_Z "LeaningTrees$Forest" "FIRST" "[I" (.ref tF) A U H ∧ va_T .int tF 9 (fun j => .int (fiF j)) A U H
/-! what a method's text is, as a function -/
def rd {α : Type} (n : Nat) (f : Nat → α) (i : Int32) : Option α := if i < 0 ∨ n ≤ i.toNatClampNeg then none else some (f i.toNatClampNeg)
def wr (n : Nat) (f : Nat → Int32) (i x : Int32) : Option (Nat → Int32) := if i < 0 ∨ n ≤ i.toNatClampNeg then none else some (upd f i.toNatClampNeg x)
def wrL (n : Nat) (f : Nat → Int64) (i : Int32) (x : Int64) : Option (Nat → Int64) := if i < 0 ∨ n ≤ i.toNatClampNeg then none else some (vp_updL f i.toNatClampNeg x)
def dvo (x y : Int32) : Option Int32 := if y = 0 then none else some (x / y)
def rmo (x y : Int32) : Option Int32 := if y = 0 then none else some (x - x / y * y)
def zro (x : Int32) : Option Int32 := if x = 0 ∨ x = 1 then some x else none
def ixo (n : Nat) (i : Int32) : Option Nat := if i < 0 ∨ n ≤ i.toNatClampNeg then none else some i.toNatClampNeg
def cpo (n0 n1 : Nat) (f g : Nat → Int32) (sp dp n : Int32) : Option (Nat → Int32) := if (sp < 0 ∨ dp < 0) ∨ n < 0 ∨ n0 < sp.toNatClampNeg + n.toNatClampNeg ∨ n1 < dp.toNatClampNeg + n.toNatClampNeg then none else some (va_cpy f g sp.toNatClampNeg dp.toNatClampNeg n.toNatClampNeg)
def fillF {α : Type} (n : Nat) (v : α) (f : Nat → α) : Nat → α := fun j => if j < n then v else f j
def it {X Y : Type} (B : X → Option (X ⊕ Y)) : Nat → X → Option Y
  | 0, _ => none
  | n + 1, x => (B x).bind (Sum.elim (it B n) some)
def FU : Nat := 100000000
theorem rd_ok {α : Type} {n : Nat} {f : Nat → α} {i : Int32} {v : α} (h : rd n f i = some v) : vp_in i n ∧ f i.toNatClampNeg = v := by
  unfold rd at h
  split at h
  · cases h
  · next q => exact ⟨q, Option.some.inj h⟩
theorem wr_ok {n : Nat} {f g : Nat → Int32} {i x : Int32} (h : wr n f i x = some g) : vp_in i n ∧ upd f i.toNatClampNeg x = g := by
  unfold wr at h
  split at h
  · cases h
  · next q => exact ⟨q, Option.some.inj h⟩
theorem wrL_ok {n : Nat} {f g : Nat → Int64} {i : Int32} {x : Int64} (h : wrL n f i x = some g) : vp_in i n ∧ vp_updL f i.toNatClampNeg x = g := by
  unfold wrL at h
  split at h
  · cases h
  · next q => exact ⟨q, Option.some.inj h⟩
theorem ixo_ok {n : Nat} {i : Int32} {v : Nat} (h : ixo n i = some v) : vp_in i n ∧ i.toNatClampNeg = v ∧ v < n := by
  unfold ixo at h
  split at h
  · cases h
  · next q =>
    cases h
    exact ⟨q, rfl, Nat.not_le.mp fun z => q (Or.inr z)⟩
theorem cpo_ok {n0 n1 : Nat} {f g g2 : Nat → Int32} {sp dp n : Int32} (h : cpo n0 n1 f g sp dp n = some g2) : ((¬ sp < 0 ∧ ¬ dp < 0) ∧ ¬ n < 0 ∧ sp.toNatClampNeg + n.toNatClampNeg ≤ n0 ∧ dp.toNatClampNeg + n.toNatClampNeg ≤ n1) ∧ va_cpy f g sp.toNatClampNeg dp.toNatClampNeg n.toNatClampNeg = g2 := by
  unfold cpo at h
  split at h
  · cases h
  · next q =>
    refine ⟨⟨⟨fun z => q (Or.inl (Or.inl z)), fun z => q (Or.inl (Or.inr z))⟩, fun z => q (Or.inr (Or.inl z)), Nat.not_lt.mp fun z => q (Or.inr (Or.inr (Or.inl z))), Nat.not_lt.mp fun z => q (Or.inr (Or.inr (Or.inr z)))⟩, Option.some.inj h⟩
theorem dvo_ok {x y v : Int32} (h : dvo x y = some v) : ¬ y = 0 ∧ x / y = v := by
  unfold dvo at h
  split at h
  · cases h
  · next q => exact ⟨q, Option.some.inj h⟩
theorem rmo_ok {x y v : Int32} (h : rmo x y = some v) : ¬ y = 0 ∧ x - x / y * y = v := by
  unfold rmo at h
  split at h
  · cases h
  · next q => exact ⟨q, Option.some.inj h⟩
theorem zro_ok {x v : Int32} (h : zro x = some v) : x = v ∧ narrow .boolean (.int v) = .int v := by
  unfold zro at h
  split at h
  · next q =>
    cases h
    exact ⟨rfl, by rcases q with q | q <;> subst q <;> rfl⟩
  · cases h
theorem ob {α β : Type} {o : Option α} {f : α → Option β} {b : β} (h : o.bind f = some b) : ∃ a, o = some a ∧ f a = some b := by
  cases o with
  | none => cases h
  | some a => exact ⟨a, rfl, h⟩
theorem it_Z {X Y : Type} {B : X → Option (X ⊕ Y)} {Zh : X → Prop} {Ze : Y → Prop} (hB : ∀ x s, B x = some s → Sum.elim Zh Ze s → Zh x) : ∀ (n : Nat) (x : X) (y : Y), it B n x = some y → Ze y → Zh x
  | 0, x, y, h, _ => by cases h
  | n + 1, x, y, h, hy => by
    obtain ⟨s, hs, h⟩ := ob h
    refine hB x s hs ?_
    cases s with
    | inl x' => exact it_Z hB n x' y h hy
    | inr y' => cases h; exact hy
/-! the run of a method: program, launch, env, room, start, method, arguments, below, method's record, code, D, world, free cells, cells, slots, end -/
abbrev Rx : Type := Program × Launch × Env × Room × State × MethodId × Array Value × List Frame × Method × Code × va_G × (Mm → va_W) × (Nat → Prop) × Nat × Nat × (State → Prop)
abbrev kp (κ : Rx) : Program := κ.1
abbrev kl (κ : Rx) : Launch := κ.2.1
abbrev ke (κ : Rx) : Env := κ.2.2.1
abbrev kR (κ : Rx) : Room := κ.2.2.2.1
abbrev ks (κ : Rx) : State := κ.2.2.2.2.1
abbrev km (κ : Rx) : MethodId := κ.2.2.2.2.2.1
abbrev ka (κ : Rx) : Array Value := κ.2.2.2.2.2.2.1
abbrev kb (κ : Rx) : List Frame := κ.2.2.2.2.2.2.2.1
abbrev kme (κ : Rx) : Method := κ.2.2.2.2.2.2.2.2.1
abbrev kc (κ : Rx) : Code := κ.2.2.2.2.2.2.2.2.2.1
abbrev kD (κ : Rx) : va_G := κ.2.2.2.2.2.2.2.2.2.2.1
abbrev kw (κ : Rx) : Mm → va_W := κ.2.2.2.2.2.2.2.2.2.2.2.1
abbrev kA (κ : Rx) : Nat → Prop := κ.2.2.2.2.2.2.2.2.2.2.2.2.1
abbrev kn (κ : Rx) : Nat := κ.2.2.2.2.2.2.2.2.2.2.2.2.2.1
abbrev ko (κ : Rx) : Nat := κ.2.2.2.2.2.2.2.2.2.2.2.2.2.2.1
abbrev kQ (κ : Rx) : State → Prop := κ.2.2.2.2.2.2.2.2.2.2.2.2.2.2.2
abbrev Wk (κ : Rx) (H : Heap) (locs : List Loc) (g : JFrame) : Prop := W (kp κ) (kl κ) (ke κ) (kR κ) (ks κ) (km κ) (ka κ) (kb κ) (kme κ) (kc κ) H locs (kn κ) (ko κ) (kQ κ) g
def Zj (κ : Rx) (nL pc : Nat) (lv : List (Nat × Value)) (st : List Value) (M : Mm) : Prop :=
  ∀ (H : Heap) (locs : List Loc) (ls : Array Slot), va_P (kD κ) vwCl (kw κ M) H → va_D (kA κ) (kw κ M) → va_S (kA κ) (ks κ).heap H locs → lv_has ls nL lv → Wk κ H locs (F0 (km κ) pc ls st)
def CX (κ : Rx) (ct : Nat → ClassId) (tF : Nat) (cc : ByteArray) (nL : Nat) (own : String) : Prop :=
  (kp κ).tables.exec = Jvm.exec ∧ (kc κ).code = cc ∧ (kc κ).maxLocals = nL ∧ (ks κ).vm.findClass own = some (km κ).cls ∧ (∀ w ∈ lw_gd, w.before (ka κ) (ks κ) = true) ∧ va_K (kD κ) vwCl (tyL ct) (ks κ) ∧ FS tF (kA κ) (ks κ) (ks κ).heap ∧ (kn κ ≤ (kR κ).cells ∧ ko κ ≤ (kR κ).slots)
/-- the end of a method that answers an int, a long, nothing -/
def ZI (κ : Rx) (cc : ByteArray) (rt : FieldType) (r : Int32) (M : Mm) : Prop :=
  ∀ (H : Heap) (locs : List Loc) (ls : Array Slot) (pc : Nat), va_P (kD κ) vwCl (kw κ M) H → va_D (kA κ) (kw κ M) → va_S (kA κ) (ks κ).heap H locs → decode cc pc = .ok (.ireturn, 1) → narrow rt (.int r) = .int r → Wk κ H locs (F0 (km κ) pc ls [.int r])
def ZL (κ : Rx) (cc : ByteArray) (r : Int64) (M : Mm) : Prop :=
  ∀ (H : Heap) (locs : List Loc) (ls : Array Slot) (pc : Nat), va_P (kD κ) vwCl (kw κ M) H → va_D (kA κ) (kw κ M) → va_S (kA κ) (ks κ).heap H locs → decode cc pc = .ok (.lreturn, 1) → Wk κ H locs (F0 (km κ) pc ls [.long r])
def ZV (κ : Rx) (cc : ByteArray) (M : Mm) : Prop :=
  ∀ (H : Heap) (locs : List Loc) (ls : Array Slot) (pc : Nat), va_P (kD κ) vwCl (kw κ M) H → va_D (kA κ) (kw κ M) → va_S (kA κ) (ks κ).heap H locs → decode cc pc = .ok (.return_, 1) → Wk κ H locs (F0 (km κ) pc ls [])
/-- what a call of a method of ours needs and gives -/
def CP (D : va_G) (ct : Nat → ClassId) (tF : Nat) (wOf : Mm → va_W) (A : Nat → Prop) (M : Mm) (U : State) : Prop := va_P D vwCl (wOf M) U.heap ∧ va_K D vwCl (tyL ct) U ∧ va_D A (wOf M) ∧ FS tF A U U.heap
def CtI (l : Launch) (y : MethodName) (cc : ByteArray) (nL : Nat) (rt : FieldType) (rm : Room) (D : va_G) (ct : Nat → ClassId) (tF : Nat) (wOf : Mm → va_W) (as : List Value) (M : Mm) (r : Int32) (M' : Mm) : Prop :=
  ∀ A : Nat → Prop, Met l y (.code y cc nL (some rt) :: lw_gd) rm (va_Pc as (CP D ct tF wOf A M)) (va_Qi (fun r' (_ : Unit) => r' = r) (fun _ t => va_P D vwCl (wOf M') t.heap ∧ va_D A (wOf M')) A) 0 0 A
def CtL (l : Launch) (y : MethodName) (cc : ByteArray) (nL : Nat) (rm : Room) (D : va_G) (ct : Nat → ClassId) (tF : Nat) (wOf : Mm → va_W) (as : List Value) (M : Mm) (r : Int64) (M' : Mm) : Prop :=
  ∀ A : Nat → Prop, Met l y (.code y cc nL (some .long) :: lw_gd) rm (va_Pc as (CP D ct tF wOf A M)) (va_Ql (fun r' (_ : Unit) => r' = r) (fun _ t => va_P D vwCl (wOf M') t.heap ∧ va_D A (wOf M')) A) 0 0 A
def CtV (l : Launch) (y : MethodName) (cc : ByteArray) (nL : Nat) (rm : Room) (D : va_G) (ct : Nat → ClassId) (tF : Nat) (wOf : Mm → va_W) (as : List Value) (M : Mm) (M' : Mm) : Prop :=
  ∀ A : Nat → Prop, Met l y (.code y cc nL none :: lw_gd) rm (va_Pc as (CP D ct tF wOf A M)) (va_Qv (fun (_ : Unit) => True) (fun _ t => va_P D vwCl (wOf M') t.heap ∧ va_D A (wOf M')) A) 0 0 A
theorem CP_blind (D : va_G) (ct : Nat → ClassId) (tF : Nat) (wOf : Mm → va_W) (A : Nat → Prop) (M : Mm) (as : List Value) : FrameBlind (va_Pc as (CP D ct tF wOf A M)) := by
  intro a U g mk q
  obtain ⟨q0, qP, qK, qD, q1, q2⟩ := q
  exact ⟨q0, qP, va_K.moved (u := U) (U := U.calling g mk a) (Vm.Alike.refl U.vm) qK, qD, va_Z.moved (u := U) (U := U.calling g mk a) (Vm.Alike.refl U.vm) q1, va_T.moved (u := U) (U := U.calling g mk a) (Vm.Alike.refl U.vm) q2⟩
theorem CP_at {κ : Rx} {ct : Nat → ClassId} {tF : Nat} {cc : ByteArray} {nL : Nat} {own : String} (X : CX κ ct tF cc nL own) {H : Heap} {locs : List Loc} {M : Mm} (hP : va_P (kD κ) vwCl (kw κ M) H) (hD : va_D (kA κ) (kw κ M)) (hS : va_S (kA κ) (ks κ).heap H locs) (U : State) (hU : U.heap = H) (hW : (ks κ).WarmedH U.vm) : CP (kD κ) ct tF (kw κ) (kA κ) M U := by
  subst hU
  have hk : ∀ a : Nat, a < (ks κ).heap.size → ¬ kA κ a → U.heap[a]? = (ks κ).heap[a]? := fun a h1 h2 => hS.2.1 a h1 h2
  exact ⟨hP, va_K.moved hW.alike X.2.2.2.2.2.1, hD, (va_Z.moved hW.alike X.2.2.2.2.2.2.1.1).kept hk, (va_T.moved hW.alike X.2.2.2.2.2.2.1.2).kept hk⟩
theorem metI {l : Launch} {y : MethodName} {cc : ByteArray} {nL : Nat} {rt : FieldType} {rm : Room} {D : va_G} {ct : Nat → ClassId} {tF : Nat} {wOf : Mm → va_W} {as : List Value} {M M' : Mm} {r : Int32} (hy : plainName y.cls = true) (hlen : (lg_sl as).length ≤ nL)
    (body : ∀ κ : Rx, CX κ ct tF cc nL y.cls → kl κ = l → kR κ = rm → kD κ = D → kw κ = wOf → ZI κ cc rt r M' → Zj κ nL 0 (lv_args 0 as) [] M) : CtI l y cc nL rt rm D ct tF wOf as M r M' := by
  intro A
  refine Met.ofW (cc := cc) (maxL := nL) (ret := some rt) hy rfl ?_
  intro p e s m args below meth c s₁ B hml hv
  obtain ⟨rfl, hP, hK, hD, hF⟩ := hv
  have hx := B.exec
  have hb := B.bytes
  have hr := B.returns
  have hts := atoms_spec (ws := .code y cc nL (some rt) :: lw_gd) B.pre
  have hown : s.vm.findClass y.cls = some m.cls := findClass_of_methodNamed B.named
  have hlocks := B.notSynchronized
  have hl := lv_entry as (n := nL) hlen
  rw [lg_entry_eq]
  exact body (p, l, e, rm, s, m, as.toArray, below, meth, c, D, wOf, A, 0, 0, MQ below _ as.toArray s 0 0 A) ⟨hx, hb, hml, hown, fun w h => hts w (List.mem_cons_of_mem _ h), hK, hF, Nat.zero_le _, Nat.zero_le _⟩ rfl rfl rfl rfl
    (fun H locs ls pc hP hD hS hd hn => W.zret hx hb hr hn (fun t ht hW => ⟨⟨r, (), rfl, rfl, by rw [ht]; exact hP, hD⟩, hS.F ht⟩) hS.2.2 hd) s.heap [] _ hP hD va_S.rf hl
theorem metL {l : Launch} {y : MethodName} {cc : ByteArray} {nL : Nat} {rm : Room} {D : va_G} {ct : Nat → ClassId} {tF : Nat} {wOf : Mm → va_W} {as : List Value} {M M' : Mm} {r : Int64} (hy : plainName y.cls = true) (hlen : (lg_sl as).length ≤ nL)
    (body : ∀ κ : Rx, CX κ ct tF cc nL y.cls → kl κ = l → kR κ = rm → kD κ = D → kw κ = wOf → ZL κ cc r M' → Zj κ nL 0 (lv_args 0 as) [] M) : CtL l y cc nL rm D ct tF wOf as M r M' := by
  intro A
  refine Met.ofW (cc := cc) (maxL := nL) (ret := some .long) hy rfl ?_
  intro p e s m args below meth c s₁ B hml hv
  obtain ⟨rfl, hP, hK, hD, hF⟩ := hv
  have hx := B.exec
  have hb := B.bytes
  have hr := B.returns
  have hts := atoms_spec (ws := .code y cc nL (some .long) :: lw_gd) B.pre
  have hown : s.vm.findClass y.cls = some m.cls := findClass_of_methodNamed B.named
  have hlocks := B.notSynchronized
  have hl := lv_entry as (n := nL) hlen
  rw [lg_entry_eq]
  exact body (p, l, e, rm, s, m, as.toArray, below, meth, c, D, wOf, A, 0, 0, MQ below _ as.toArray s 0 0 A) ⟨hx, hb, hml, hown, fun w h => hts w (List.mem_cons_of_mem _ h), hK, hF, Nat.zero_le _, Nat.zero_le _⟩ rfl rfl rfl rfl
    (fun H locs ls pc hP hD hS hd => W.lret hx hb hr (fun t ht hW => ⟨⟨r, (), rfl, rfl, by rw [ht]; exact hP, hD⟩, hS.F ht⟩) hS.2.2 hd) s.heap [] _ hP hD va_S.rf hl
theorem metV {l : Launch} {y : MethodName} {cc : ByteArray} {nL : Nat} {rm : Room} {D : va_G} {ct : Nat → ClassId} {tF : Nat} {wOf : Mm → va_W} {as : List Value} {M M' : Mm} (hy : plainName y.cls = true) (hlen : (lg_sl as).length ≤ nL)
    (body : ∀ κ : Rx, CX κ ct tF cc nL y.cls → kl κ = l → kR κ = rm → kD κ = D → kw κ = wOf → ZV κ cc M' → Zj κ nL 0 (lv_args 0 as) [] M) : CtV l y cc nL rm D ct tF wOf as M M' := by
  intro A
  refine Met.ofW (cc := cc) (maxL := nL) (ret := none) hy rfl ?_
  intro p e s m args below meth c s₁ B hml hv
  obtain ⟨rfl, hP, hK, hD, hF⟩ := hv
  have hx := B.exec
  have hb := B.bytes
  have hr := B.returns
  have hts := atoms_spec (ws := .code y cc nL none :: lw_gd) B.pre
  have hown : s.vm.findClass y.cls = some m.cls := findClass_of_methodNamed B.named
  have hlocks := B.notSynchronized
  have hl := lv_entry as (n := nL) hlen
  rw [lg_entry_eq]
  exact body (p, l, e, rm, s, m, as.toArray, below, meth, c, D, wOf, A, 0, 0, MQ below _ as.toArray s 0 0 A) ⟨hx, hb, hml, hown, fun w h => hts w (List.mem_cons_of_mem _ h), hK, hF, Nat.zero_le _, Nat.zero_le _⟩ rfl rfl rfl rfl
    (fun H locs ls pc hP hD hS hd => W.vret hx hb hr (fun t ht hW => ⟨⟨(), rfl, trivial, by rw [ht]; exact hP, hD⟩, hS.F ht⟩) hS.2.2 hd) s.heap [] _ hP hD va_S.rf hl
/-! words -/
theorem lw_gi : GoodIn lw_gd lw_gd := fun w h => ⟨h, good_of_word (List.mem_filter.mp h).2⟩
theorem gd {w : Cond} (h : w ∈ tables_1) (hg : goodWord w = true) : w ∈ lw_gd := List.mem_filter.mpr ⟨List.mem_append_right _ h, hg⟩
theorem gp {w : Cond} (h : w ∈ k2_sels lw_privs) (hg : goodWord w = true) : w ∈ lw_gd := List.mem_filter.mpr ⟨List.mem_append_left _ h, hg⟩
theorem lw_g {w : Cond} (h : w ∈ lw_gd) : w ∈ lw_gd ∧ ((w.onTables && w.keeps) = true ∨ ∃ ty, w = .arrayClass ty) := lw_gi w h
/-- an own method of an object: its words -/
def MV (y : MethodName) (cc : ByteArray) (nL : Nat) (ret : Option FieldType) (C : String) (n : Nat) : Prop :=
  (Cond.instanceMethod y ∈ lw_gd ∧ Cond.selects C y y ∈ lw_gd ∧ Cond.initialized C ∈ lw_gd ∧ Cond.code y cc nL ret ∈ lw_gd) ∧ (y.cls = C ∧ y.cls ≠ "java/lang/invoke/MethodHandle" ∧ y.cls ≠ "java/lang/invoke/VarHandle" ∧ (parseMethodDescriptor y.desc).map (fun d => d.parameters.length) = some n)
def MS (y : MethodName) (cc : ByteArray) (nL : Nat) (ret : Option FieldType) (n : Nat) : Prop :=
  (Cond.static y ∈ lw_gd ∧ Cond.initialized y.cls ∈ lw_gd ∧ Cond.code y cc nL ret ∈ lw_gd) ∧ (y.cls ≠ "java/lang/invoke/MethodHandle" ∧ y.cls ≠ "java/lang/invoke/VarHandle" ∧ (parseMethodDescriptor y.desc).map (fun d => d.parameters.length) = some n)
theorem lw_gc {w : Cond} (h : w ∈ lw_gd) : GoodIn lw_gd (w :: lw_gd) := fun v hv => by
  rcases List.mem_cons.mp hv with rfl | h2
  · exact lw_g h
  · exact lw_g h2
theorem lw_gV {own C : String} {idx : Nat} {y : MethodName} {cc : ByteArray} {nL : Nat} {ret : Option FieldType} {n : Nat} (hm : Cond.methodLink own idx y ∈ lw_gd) (hv : MV y cc nL ret C n) : GoodIn lw_gd (wsV own idx C y (.code y cc nL ret :: lw_gd)) := by
  obtain ⟨⟨h1, h2, h3, h4⟩, -⟩ := hv
  intro v hv
  unfold wsV at hv
  rcases List.mem_append.mp hv with h | h
  · simp only [List.mem_cons, List.not_mem_nil, or_false] at h
    rcases h with rfl | rfl | rfl | rfl
    · exact lw_g hm
    · exact lw_g h1
    · exact lw_g h2
    · exact lw_g h3
  · exact lw_gc h4 v h
theorem lw_gS {own : String} {idx : Nat} {y : MethodName} {cc : ByteArray} {nL : Nat} {ret : Option FieldType} {n : Nat} (hm : Cond.methodLink own idx y ∈ lw_gd) (hv : MS y cc nL ret n) : GoodIn lw_gd (va_wsS own idx y (.code y cc nL ret :: lw_gd)) := by
  obtain ⟨⟨h1, h2, h3⟩, -⟩ := hv
  intro v hv
  unfold va_wsS at hv
  rcases List.mem_append.mp hv with h | h
  · simp only [List.mem_cons, List.not_mem_nil, or_false] at h
    rcases h with rfl | rfl | rfl
    · exact lw_g hm
    · exact lw_g h1
    · exact lw_g h2
  · exact lw_gc h3 v h
section ROWS
variable {κ : Rx} {ct : Nat → ClassId} {tF : Nat} {cc : ByteArray} {nL : Nat} {own : String} {pc : Nat} {lv lv' : List (Nat × Value)} {st : List Value} {M M' : Mm}

theorem z_iconst (X : CX κ ct tF cc nL own) {n : Int} {v : Int32} (hd : decode cc pc = .ok (.iconst n, 1)) (hv : Int32.ofInt n = v) (k : Zj κ nL (pc + 1) lv (.int v :: st) M) : Zj κ nL pc lv (st) M := by
  intro H locs ls hP hD hS hl
  exact lv_iconst X.1 X.2.1 hd hv (k H locs ls hP hD hS hl)
theorem z_bipush (X : CX κ ct tF cc nL own) {n : Int} {v : Int32} (hd : decode cc pc = .ok (.bipush n, 2)) (hv : (Int8.ofInt n).toInt32 = v) (k : Zj κ nL (pc + 2) lv (.int v :: st) M) : Zj κ nL pc lv (st) M := by
  intro H locs ls hP hD hS hl
  exact lv_bipush X.1 X.2.1 hd hv (k H locs ls hP hD hS hl)
theorem z_sipush (X : CX κ ct tF cc nL own) {n : Int} {v : Int32} (hd : decode cc pc = .ok (.sipush n, 3)) (hv : (Int16.ofInt n).toInt32 = v) (k : Zj κ nL (pc + 3) lv (.int v :: st) M) : Zj κ nL pc lv (st) M := by
  intro H locs ls hP hD hS hl
  exact lv_sipush X.1 X.2.1 hd hv (k H locs ls hP hD hS hl)
theorem z_lconst (X : CX κ ct tF cc nL own) {n : Fin 2} {v : Int64} (hd : decode cc pc = .ok (.lconst n, 1)) (hv : Int64.ofNat (n : Nat) = v) (k : Zj κ nL (pc + 1) lv (.long v :: st) M) : Zj κ nL pc lv (st) M := by
  intro H locs ls hP hD hS hl
  exact lv_lconst X.1 X.2.1 hd hv (k H locs ls hP hD hS hl)
theorem z_ldc (X : CX κ ct tF cc nL own) {index : Nat} {v : Int32} (hc : Jvm.Cond.constant own index v ∈ lw_gd) (hd : decode cc pc = .ok (.ldc index, 2)) (k : Zj κ nL (pc + 2) lv (.int v :: st) M) : Zj κ nL pc lv (st) M := by
  intro H locs ls hP hD hS hl
  exact lv_ldc X.1 X.2.1 X.2.2.2.1 (X.2.2.2.2.1 _ hc) hd (k H locs ls hP hD hS hl)
theorem z_ldcw (X : CX κ ct tF cc nL own) {index : Nat} {v : Int32} (hc : Jvm.Cond.constant own index v ∈ lw_gd) (hd : decode cc pc = .ok (.ldc_w index, 3)) (k : Zj κ nL (pc + 3) lv (.int v :: st) M) : Zj κ nL pc lv (st) M := by
  intro H locs ls hP hD hS hl
  exact lv_ldcw X.1 X.2.1 X.2.2.2.1 (X.2.2.2.2.1 _ hc) hd (k H locs ls hP hD hS hl)
theorem z_ldc2 (X : CX κ ct tF cc nL own) {index : Nat} {v : Int64} (hc : Jvm.Cond.constantLong own index v ∈ lw_gd) (hd : decode cc pc = .ok (.ldc2_w index, 3)) (k : Zj κ nL (pc + 3) lv (.long v :: st) M) : Zj κ nL pc lv (st) M := by
  intro H locs ls hP hD hS hl
  exact lv_ldc2 X.1 X.2.1 X.2.2.2.1 (X.2.2.2.2.1 _ hc) hd (k H locs ls hP hD hS hl)
theorem z_iload_n (X : CX κ ct tF cc nL own) {n : Fin 4} {i : Nat} {x : Int32} (hd : decode cc pc = .ok (.iload_n n, 1)) (j : Nat) (hi : (n : Nat) = i) (hj : lv[j]? = some (i, .int x)) (k : Zj κ nL (pc + 1) lv (.int x :: st) M) : Zj κ nL pc lv (st) M := by
  intro H locs ls hP hD hS hl
  exact lv_iload_n X.1 X.2.1 hd hi (lv_at hl j hj) (k H locs ls hP hD hS hl)
theorem z_iload (X : CX κ ct tF cc nL own) {i : Nat} {x : Int32} (hd : decode cc pc = .ok (.iload i, 2)) (j : Nat) (hj : lv[j]? = some (i, .int x)) (k : Zj κ nL (pc + 2) lv (.int x :: st) M) : Zj κ nL pc lv (st) M := by
  intro H locs ls hP hD hS hl
  exact lv_iload X.1 X.2.1 hd (lv_at hl j hj) (k H locs ls hP hD hS hl)
theorem z_istore_n (X : CX κ ct tF cc nL own) {n : Fin 4} {i : Nat} {x : Int32} (hd : decode cc pc = .ok (.istore_n n, 1)) (hi : (n : Nat) = i) (hn : i < nL) (hv : (i, Value.int x) :: lv.filter (fun q => !(q.1 == i) && !(q.1 + 1 == i && q.2.category == 2)) = lv') (k : Zj κ nL (pc + 1) lv' (st) M) : Zj κ nL pc lv (.int x :: st) M := by
  intro H locs ls hP hD hS hl
  exact lv_istore_n X.1 X.2.1 hd hi hl hn hv (fun ls hl => (k H locs ls hP hD hS hl))
theorem z_istore (X : CX κ ct tF cc nL own) {i : Nat} {x : Int32} (hd : decode cc pc = .ok (.istore i, 2)) (hn : i < nL) (hv : (i, Value.int x) :: lv.filter (fun q => !(q.1 == i) && !(q.1 + 1 == i && q.2.category == 2)) = lv') (k : Zj κ nL (pc + 2) lv' (st) M) : Zj κ nL pc lv (.int x :: st) M := by
  intro H locs ls hP hD hS hl
  exact lv_istore X.1 X.2.1 hd hl hn hv (fun ls hl => (k H locs ls hP hD hS hl))
theorem z_lload_n (X : CX κ ct tF cc nL own) {n : Fin 4} {i : Nat} {x : Int64} (hd : decode cc pc = .ok (.lload_n n, 1)) (j : Nat) (hi : (n : Nat) = i) (hj : lv[j]? = some (i, .long x)) (k : Zj κ nL (pc + 1) lv (.long x :: st) M) : Zj κ nL pc lv (st) M := by
  intro H locs ls hP hD hS hl
  exact lv_lload_n X.1 X.2.1 hd hi (lv_at hl j hj) (k H locs ls hP hD hS hl)
theorem z_lload (X : CX κ ct tF cc nL own) {i : Nat} {x : Int64} (hd : decode cc pc = .ok (.lload i, 2)) (j : Nat) (hj : lv[j]? = some (i, .long x)) (k : Zj κ nL (pc + 2) lv (.long x :: st) M) : Zj κ nL pc lv (st) M := by
  intro H locs ls hP hD hS hl
  exact lv_lload X.1 X.2.1 hd (lv_at hl j hj) (k H locs ls hP hD hS hl)
theorem z_lstore_n (X : CX κ ct tF cc nL own) {n : Fin 4} {i : Nat} {x : Int64} (hd : decode cc pc = .ok (.lstore_n n, 1)) (hi : (n : Nat) = i) (hn : i + 1 < nL) (hv : (i, Value.long x) :: lv.filter (fun q => !(q.1 == i) && (!(q.1 == i + 1) && !(q.1 + 1 == i && q.2.category == 2))) = lv') (k : Zj κ nL (pc + 1) lv' (st) M) : Zj κ nL pc lv (.long x :: st) M := by
  intro H locs ls hP hD hS hl
  exact lv_lstore_n X.1 X.2.1 hd hi hl hn hv (fun ls hl => (k H locs ls hP hD hS hl))
theorem z_lstore (X : CX κ ct tF cc nL own) {i : Nat} {x : Int64} (hd : decode cc pc = .ok (.lstore i, 2)) (hn : i + 1 < nL) (hv : (i, Value.long x) :: lv.filter (fun q => !(q.1 == i) && (!(q.1 == i + 1) && !(q.1 + 1 == i && q.2.category == 2))) = lv') (k : Zj κ nL (pc + 2) lv' (st) M) : Zj κ nL pc lv (.long x :: st) M := by
  intro H locs ls hP hD hS hl
  exact lv_lstore X.1 X.2.1 hd hl hn hv (fun ls hl => (k H locs ls hP hD hS hl))
theorem z_aload_n (X : CX κ ct tF cc nL own) {n : Fin 4} {i : Nat} {x : Nat} (hd : decode cc pc = .ok (.aload_n n, 1)) (j : Nat) (hi : (n : Nat) = i) (hj : lv[j]? = some (i, .ref x)) (k : Zj κ nL (pc + 1) lv (.ref x :: st) M) : Zj κ nL pc lv (st) M := by
  intro H locs ls hP hD hS hl
  exact lv_aload_n X.1 X.2.1 hd hi (lv_at hl j hj) (k H locs ls hP hD hS hl)
theorem z_aload (X : CX κ ct tF cc nL own) {i : Nat} {x : Nat} (hd : decode cc pc = .ok (.aload i, 2)) (j : Nat) (hj : lv[j]? = some (i, .ref x)) (k : Zj κ nL (pc + 2) lv (.ref x :: st) M) : Zj κ nL pc lv (st) M := by
  intro H locs ls hP hD hS hl
  exact lv_aload X.1 X.2.1 hd (lv_at hl j hj) (k H locs ls hP hD hS hl)
theorem z_astore_n (X : CX κ ct tF cc nL own) {n : Fin 4} {i : Nat} {x : Nat} (hd : decode cc pc = .ok (.astore_n n, 1)) (hi : (n : Nat) = i) (hn : i < nL) (hv : (i, Value.ref x) :: lv.filter (fun q => !(q.1 == i) && !(q.1 + 1 == i && q.2.category == 2)) = lv') (k : Zj κ nL (pc + 1) lv' (st) M) : Zj κ nL pc lv (.ref x :: st) M := by
  intro H locs ls hP hD hS hl
  exact lv_astore_n X.1 X.2.1 hd hi hl hn hv (fun ls hl => (k H locs ls hP hD hS hl))
theorem z_astore (X : CX κ ct tF cc nL own) {i : Nat} {x : Nat} (hd : decode cc pc = .ok (.astore i, 2)) (hn : i < nL) (hv : (i, Value.ref x) :: lv.filter (fun q => !(q.1 == i) && !(q.1 + 1 == i && q.2.category == 2)) = lv') (k : Zj κ nL (pc + 2) lv' (st) M) : Zj κ nL pc lv (.ref x :: st) M := by
  intro H locs ls hP hD hS hl
  exact lv_astore X.1 X.2.1 hd hl hn hv (fun ls hl => (k H locs ls hP hD hS hl))
theorem z_iinc (X : CX κ ct tF cc nL own) {i : Nat} {n : Int} {x v : Int32} (hd : decode cc pc = .ok (.iinc i n, 3)) (j : Nat) (hj : lv[j]? = some (i, .int x)) (hx : x + Int32.ofInt n = v) (hn : i < nL) (hv : (i, Value.int v) :: lv.filter (fun q => !(q.1 == i) && !(q.1 + 1 == i && q.2.category == 2)) = lv') (k : Zj κ nL (pc + 3) lv' (st) M) : Zj κ nL pc lv (st) M := by
  intro H locs ls hP hD hS hl
  exact lv_iinc X.1 X.2.1 hd hl hj hx hn hv (fun ls hl => (k H locs ls hP hD hS hl))
theorem z_iadd (X : CX κ ct tF cc nL own) {x y : Int32} (hd : decode cc pc = .ok (.iadd, 1)) (k : Zj κ nL (pc + 1) lv (.int (x + y) :: st) M) : Zj κ nL pc lv (.int y :: .int x :: st) M := by
  intro H locs ls hP hD hS hl
  exact lv_iadd X.1 X.2.1 hd (k H locs ls hP hD hS hl)
theorem z_isub (X : CX κ ct tF cc nL own) {x y : Int32} (hd : decode cc pc = .ok (.isub, 1)) (k : Zj κ nL (pc + 1) lv (.int (x - y) :: st) M) : Zj κ nL pc lv (.int y :: .int x :: st) M := by
  intro H locs ls hP hD hS hl
  exact lv_isub X.1 X.2.1 hd (k H locs ls hP hD hS hl)
theorem z_imul (X : CX κ ct tF cc nL own) {x y : Int32} (hd : decode cc pc = .ok (.imul, 1)) (k : Zj κ nL (pc + 1) lv (.int (x * y) :: st) M) : Zj κ nL pc lv (.int y :: .int x :: st) M := by
  intro H locs ls hP hD hS hl
  exact lv_imul X.1 X.2.1 hd (k H locs ls hP hD hS hl)
theorem z_iand (X : CX κ ct tF cc nL own) {x y : Int32} (hd : decode cc pc = .ok (.iand, 1)) (k : Zj κ nL (pc + 1) lv (.int (x &&& y) :: st) M) : Zj κ nL pc lv (.int y :: .int x :: st) M := by
  intro H locs ls hP hD hS hl
  exact lv_iand X.1 X.2.1 hd (k H locs ls hP hD hS hl)
theorem z_ior (X : CX κ ct tF cc nL own) {x y : Int32} (hd : decode cc pc = .ok (.ior, 1)) (k : Zj κ nL (pc + 1) lv (.int (x ||| y) :: st) M) : Zj κ nL pc lv (.int y :: .int x :: st) M := by
  intro H locs ls hP hD hS hl
  exact lv_ior X.1 X.2.1 hd (k H locs ls hP hD hS hl)
theorem z_ixor (X : CX κ ct tF cc nL own) {x y : Int32} (hd : decode cc pc = .ok (.ixor, 1)) (k : Zj κ nL (pc + 1) lv (.int (x ^^^ y) :: st) M) : Zj κ nL pc lv (.int y :: .int x :: st) M := by
  intro H locs ls hP hD hS hl
  exact lv_ixor X.1 X.2.1 hd (k H locs ls hP hD hS hl)
theorem z_ishl (X : CX κ ct tF cc nL own) {x y : Int32} (hd : decode cc pc = .ok (.ishl, 1)) (k : Zj κ nL (pc + 1) lv (.int (x <<< (y &&& 31)) :: st) M) : Zj κ nL pc lv (.int y :: .int x :: st) M := by
  intro H locs ls hP hD hS hl
  exact lv_ishl X.1 X.2.1 hd (k H locs ls hP hD hS hl)
theorem z_ishr (X : CX κ ct tF cc nL own) {x y : Int32} (hd : decode cc pc = .ok (.ishr, 1)) (k : Zj κ nL (pc + 1) lv (.int (x >>> (y &&& 31)) :: st) M) : Zj κ nL pc lv (.int y :: .int x :: st) M := by
  intro H locs ls hP hD hS hl
  exact lv_ishr X.1 X.2.1 hd (k H locs ls hP hD hS hl)
theorem z_lsub (X : CX κ ct tF cc nL own) {x y : Int64} (hd : decode cc pc = .ok (.lsub, 1)) (k : Zj κ nL (pc + 1) lv (.long (x - y) :: st) M) : Zj κ nL pc lv (.long y :: .long x :: st) M := by
  intro H locs ls hP hD hS hl
  exact lv_lsub X.1 X.2.1 hd (k H locs ls hP hD hS hl)
theorem z_land (X : CX κ ct tF cc nL own) {x y : Int64} (hd : decode cc pc = .ok (.land, 1)) (k : Zj κ nL (pc + 1) lv (.long (x &&& y) :: st) M) : Zj κ nL pc lv (.long y :: .long x :: st) M := by
  intro H locs ls hP hD hS hl
  exact lv_land X.1 X.2.1 hd (k H locs ls hP hD hS hl)
theorem z_lor (X : CX κ ct tF cc nL own) {x y : Int64} (hd : decode cc pc = .ok (.lor, 1)) (k : Zj κ nL (pc + 1) lv (.long (x ||| y) :: st) M) : Zj κ nL pc lv (.long y :: .long x :: st) M := by
  intro H locs ls hP hD hS hl
  exact lv_lor X.1 X.2.1 hd (k H locs ls hP hD hS hl)
theorem z_ladd (X : CX κ ct tF cc nL own) {x y : Int64} (hd : decode cc pc = .ok (.ladd, 1)) (k : Zj κ nL (pc + 1) lv (.long (x + y) :: st) M) : Zj κ nL pc lv (.long y :: .long x :: st) M := by
  intro H locs ls hP hD hS hl
  exact lv_ladd X.1 X.2.1 hd (k H locs ls hP hD hS hl)
theorem z_lshl (X : CX κ ct tF cc nL own) {x : Int64} {y : Int32} (hd : decode cc pc = .ok (.lshl, 1)) (k : Zj κ nL (pc + 1) lv (.long (x <<< (y.toInt64 &&& 63)) :: st) M) : Zj κ nL pc lv (.int y :: .long x :: st) M := by
  intro H locs ls hP hD hS hl
  exact lv_lshl X.1 X.2.1 hd rfl (k H locs ls hP hD hS hl)
theorem z_iushr (X : CX κ ct tF cc nL own) {x y : Int32} (hd : decode cc pc = .ok (.iushr, 1)) (k : Zj κ nL (pc + 1) lv (.int ((x.toUInt32 >>> (y.toUInt32 &&& Int32.toUInt32 31)).toInt32) :: st) M) : Zj κ nL pc lv (.int y :: .int x :: st) M := by
  intro H locs ls hP hD hS hl
  exact lv_iushr X.1 X.2.1 hd rfl (k H locs ls hP hD hS hl)
theorem z_idiv (X : CX κ ct tF cc nL own) {x y v : Int32} (hd : decode cc pc = .ok (.idiv, 1)) (hv : ¬ y = 0 ∧ x / y = v) (k : Zj κ nL (pc + 1) lv (.int v :: st) M) : Zj κ nL pc lv (.int y :: .int x :: st) M := by
  intro H locs ls hP hD hS hl
  exact lv_idiv X.1 X.2.1 hd hv.1 (by rw [hv.2]; exact (k H locs ls hP hD hS hl))
theorem z_irem (X : CX κ ct tF cc nL own) {x y v : Int32} (hd : decode cc pc = .ok (.irem, 1)) (hv : ¬ y = 0 ∧ x - x / y * y = v) (k : Zj κ nL (pc + 1) lv (.int v :: st) M) : Zj κ nL pc lv (.int y :: .int x :: st) M := by
  intro H locs ls hP hD hS hl
  exact lv_irem X.1 X.2.1 hd hv.1 (by rw [hv.2]; exact (k H locs ls hP hD hS hl))
theorem z_ineg (X : CX κ ct tF cc nL own) {x : Int32} (hd : decode cc pc = .ok (.ineg, 1)) (k : Zj κ nL (pc + 1) lv (.int (0 - x) :: st) M) : Zj κ nL pc lv (.int x :: st) M := by
  intro H locs ls hP hD hS hl
  exact lv_ineg X.1 X.2.1 hd (k H locs ls hP hD hS hl)
theorem z_i2l (X : CX κ ct tF cc nL own) {x : Int32} (hd : decode cc pc = .ok (.i2l, 1)) (k : Zj κ nL (pc + 1) lv (.long x.toInt64 :: st) M) : Zj κ nL pc lv (.int x :: st) M := by
  intro H locs ls hP hD hS hl
  exact lv_i2l X.1 X.2.1 hd rfl (k H locs ls hP hD hS hl)
theorem z_l2i (X : CX κ ct tF cc nL own) {x : Int64} (hd : decode cc pc = .ok (.l2i, 1)) (k : Zj κ nL (pc + 1) lv (.int x.toInt32 :: st) M) : Zj κ nL pc lv (.long x :: st) M := by
  intro H locs ls hP hD hS hl
  exact lv_l2i X.1 X.2.1 hd rfl (k H locs ls hP hD hS hl)
theorem z_lcmp (X : CX κ ct tF cc nL own) {x y : Int64} (hd : decode cc pc = .ok (.lcmp, 1)) (k : Zj κ nL (pc + 1) lv (.int (lg_cmp x y) :: st) M) : Zj κ nL pc lv (.long y :: .long x :: st) M := by
  intro H locs ls hP hD hS hl
  exact W.lcmp X.1 X.2.1 hd (k H locs ls hP hD hS hl)
theorem z_dup (X : CX κ ct tF cc nL own) {va : Value} (hd : decode cc pc = .ok (.dup, 1)) (h1 : va.category = 1) (k : Zj κ nL (pc + 1) lv (va :: va :: st) M) : Zj κ nL pc lv (va :: st) M := by
  intro H locs ls hP hD hS hl
  exact lv_dup X.1 X.2.1 hd h1 (k H locs ls hP hD hS hl)
theorem z_pop (X : CX κ ct tF cc nL own) {va : Value} (hd : decode cc pc = .ok (.pop, 1)) (h1 : va.category = 1) (k : Zj κ nL (pc + 1) lv (st) M) : Zj κ nL pc lv (va :: st) M := by
  intro H locs ls hP hD hS hl
  exact lv_pop X.1 X.2.1 hd h1 (k H locs ls hP hD hS hl)
theorem z_dup_x1 (X : CX κ ct tF cc nL own) {va vb : Value} (hd : decode cc pc = .ok (.dup_x1, 1)) (h1 : va.category = 1) (h2 : vb.category = 1) (k : Zj κ nL (pc + 1) lv (va :: vb :: va :: st) M) : Zj κ nL pc lv (va :: vb :: st) M := by
  intro H locs ls hP hD hS hl
  exact lv_dup_x1 X.1 X.2.1 hd h1 h2 (k H locs ls hP hD hS hl)
theorem z_dup2 (X : CX κ ct tF cc nL own) {va vb : Value} (hd : decode cc pc = .ok (.dup2, 1)) (h1 : va.category = 1) (h2 : vb.category = 1) (k : Zj κ nL (pc + 1) lv (va :: vb :: va :: vb :: st) M) : Zj κ nL pc lv (va :: vb :: st) M := by
  intro H locs ls hP hD hS hl
  exact lv_dup2_11 X.1 X.2.1 hd h1 h2 (k H locs ls hP hD hS hl)
theorem z_if_eq (X : CX κ ct tF cc nL own) {x : Int32} {off : Int} {tgt : Nat} (hd : decode cc pc = .ok (.ifCond .eq off, 3)) (ht : (pc : Int) + off = (tgt : Int)) (kt : x = nI 0 → Zj κ nL tgt lv (st) M) (kf : ¬ (x = nI 0) → Zj κ nL (pc + 3) lv (st) M) : Zj κ nL pc lv (.int x :: st) M := by
  intro H locs ls hP hD hS hl
  exact lv_if_eq X.1 X.2.1 hd ht (fun h => kt h H locs ls hP hD hS hl) (fun h => kf h H locs ls hP hD hS hl)
theorem z_icmp_eq (X : CX κ ct tF cc nL own) {x y : Int32} {off : Int} {tgt : Nat} (hd : decode cc pc = .ok (.if_icmp .eq off, 3)) (ht : (pc : Int) + off = (tgt : Int)) (kt : x = y → Zj κ nL tgt lv (st) M) (kf : ¬ (x = y) → Zj κ nL (pc + 3) lv (st) M) : Zj κ nL pc lv (.int y :: .int x :: st) M := by
  intro H locs ls hP hD hS hl
  exact lv_icmp_eq X.1 X.2.1 hd ht (fun h => kt h H locs ls hP hD hS hl) (fun h => kf h H locs ls hP hD hS hl)
theorem z_if_ne (X : CX κ ct tF cc nL own) {x : Int32} {off : Int} {tgt : Nat} (hd : decode cc pc = .ok (.ifCond .ne off, 3)) (ht : (pc : Int) + off = (tgt : Int)) (kt : ¬ x = nI 0 → Zj κ nL tgt lv (st) M) (kf : x = nI 0 → Zj κ nL (pc + 3) lv (st) M) : Zj κ nL pc lv (.int x :: st) M := by
  intro H locs ls hP hD hS hl
  exact lv_if_ne X.1 X.2.1 hd ht (fun h => kt h H locs ls hP hD hS hl) (fun h => kf h H locs ls hP hD hS hl)
theorem z_icmp_ne (X : CX κ ct tF cc nL own) {x y : Int32} {off : Int} {tgt : Nat} (hd : decode cc pc = .ok (.if_icmp .ne off, 3)) (ht : (pc : Int) + off = (tgt : Int)) (kt : ¬ x = y → Zj κ nL tgt lv (st) M) (kf : x = y → Zj κ nL (pc + 3) lv (st) M) : Zj κ nL pc lv (.int y :: .int x :: st) M := by
  intro H locs ls hP hD hS hl
  exact lv_icmp_ne X.1 X.2.1 hd ht (fun h => kt h H locs ls hP hD hS hl) (fun h => kf h H locs ls hP hD hS hl)
theorem z_if_lt (X : CX κ ct tF cc nL own) {x : Int32} {off : Int} {tgt : Nat} (hd : decode cc pc = .ok (.ifCond .lt off, 3)) (ht : (pc : Int) + off = (tgt : Int)) (kt : x < nI 0 → Zj κ nL tgt lv (st) M) (kf : ¬ (x < nI 0) → Zj κ nL (pc + 3) lv (st) M) : Zj κ nL pc lv (.int x :: st) M := by
  intro H locs ls hP hD hS hl
  exact lv_if_lt X.1 X.2.1 hd ht (fun h => kt h H locs ls hP hD hS hl) (fun h => kf h H locs ls hP hD hS hl)
theorem z_icmp_lt (X : CX κ ct tF cc nL own) {x y : Int32} {off : Int} {tgt : Nat} (hd : decode cc pc = .ok (.if_icmp .lt off, 3)) (ht : (pc : Int) + off = (tgt : Int)) (kt : x < y → Zj κ nL tgt lv (st) M) (kf : ¬ (x < y) → Zj κ nL (pc + 3) lv (st) M) : Zj κ nL pc lv (.int y :: .int x :: st) M := by
  intro H locs ls hP hD hS hl
  exact lv_icmp_lt X.1 X.2.1 hd ht (fun h => kt h H locs ls hP hD hS hl) (fun h => kf h H locs ls hP hD hS hl)
theorem z_if_ge (X : CX κ ct tF cc nL own) {x : Int32} {off : Int} {tgt : Nat} (hd : decode cc pc = .ok (.ifCond .ge off, 3)) (ht : (pc : Int) + off = (tgt : Int)) (kt : nI 0 ≤ x → Zj κ nL tgt lv (st) M) (kf : ¬ (nI 0 ≤ x) → Zj κ nL (pc + 3) lv (st) M) : Zj κ nL pc lv (.int x :: st) M := by
  intro H locs ls hP hD hS hl
  exact lv_if_ge X.1 X.2.1 hd ht (fun h => kt h H locs ls hP hD hS hl) (fun h => kf h H locs ls hP hD hS hl)
theorem z_icmp_ge (X : CX κ ct tF cc nL own) {x y : Int32} {off : Int} {tgt : Nat} (hd : decode cc pc = .ok (.if_icmp .ge off, 3)) (ht : (pc : Int) + off = (tgt : Int)) (kt : y ≤ x → Zj κ nL tgt lv (st) M) (kf : ¬ (y ≤ x) → Zj κ nL (pc + 3) lv (st) M) : Zj κ nL pc lv (.int y :: .int x :: st) M := by
  intro H locs ls hP hD hS hl
  exact lv_icmp_ge X.1 X.2.1 hd ht (fun h => kt h H locs ls hP hD hS hl) (fun h => kf h H locs ls hP hD hS hl)
theorem z_if_gt (X : CX κ ct tF cc nL own) {x : Int32} {off : Int} {tgt : Nat} (hd : decode cc pc = .ok (.ifCond .gt off, 3)) (ht : (pc : Int) + off = (tgt : Int)) (kt : nI 0 < x → Zj κ nL tgt lv (st) M) (kf : ¬ (nI 0 < x) → Zj κ nL (pc + 3) lv (st) M) : Zj κ nL pc lv (.int x :: st) M := by
  intro H locs ls hP hD hS hl
  exact lv_if_gt X.1 X.2.1 hd ht (fun h => kt h H locs ls hP hD hS hl) (fun h => kf h H locs ls hP hD hS hl)
theorem z_icmp_gt (X : CX κ ct tF cc nL own) {x y : Int32} {off : Int} {tgt : Nat} (hd : decode cc pc = .ok (.if_icmp .gt off, 3)) (ht : (pc : Int) + off = (tgt : Int)) (kt : y < x → Zj κ nL tgt lv (st) M) (kf : ¬ (y < x) → Zj κ nL (pc + 3) lv (st) M) : Zj κ nL pc lv (.int y :: .int x :: st) M := by
  intro H locs ls hP hD hS hl
  exact lv_icmp_gt X.1 X.2.1 hd ht (fun h => kt h H locs ls hP hD hS hl) (fun h => kf h H locs ls hP hD hS hl)
theorem z_if_le (X : CX κ ct tF cc nL own) {x : Int32} {off : Int} {tgt : Nat} (hd : decode cc pc = .ok (.ifCond .le off, 3)) (ht : (pc : Int) + off = (tgt : Int)) (kt : x ≤ nI 0 → Zj κ nL tgt lv (st) M) (kf : ¬ (x ≤ nI 0) → Zj κ nL (pc + 3) lv (st) M) : Zj κ nL pc lv (.int x :: st) M := by
  intro H locs ls hP hD hS hl
  exact lv_if_le X.1 X.2.1 hd ht (fun h => kt h H locs ls hP hD hS hl) (fun h => kf h H locs ls hP hD hS hl)
theorem z_icmp_le (X : CX κ ct tF cc nL own) {x y : Int32} {off : Int} {tgt : Nat} (hd : decode cc pc = .ok (.if_icmp .le off, 3)) (ht : (pc : Int) + off = (tgt : Int)) (kt : x ≤ y → Zj κ nL tgt lv (st) M) (kf : ¬ (x ≤ y) → Zj κ nL (pc + 3) lv (st) M) : Zj κ nL pc lv (.int y :: .int x :: st) M := by
  intro H locs ls hP hD hS hl
  exact lv_icmp_le X.1 X.2.1 hd ht (fun h => kt h H locs ls hP hD hS hl) (fun h => kf h H locs ls hP hD hS hl)
theorem z_goto (X : CX κ ct tF cc nL own) {off : Int} {tgt : Nat} (hd : decode cc pc = .ok (.goto off, 3)) (ht : (pc : Int) + off = (tgt : Int)) (k : Zj κ nL tgt lv (st) M) : Zj κ nL pc lv (st) M := by
  intro H locs ls hP hD hS hl
  exact lv_goto X.1 X.2.1 hd ht (k H locs ls hP hD hS hl)
theorem z_tabO (X : CX κ ct tF cc nL own) {dflt lo hi : Int} {offs : Array Int} {len : Nat} {x : Int32} {tgt : Nat} (hd : decode cc pc = .ok (.tableswitch dflt lo hi offs, len)) (h : x.toInt < lo ∨ hi < x.toInt) (ht : (pc : Int) + dflt = (tgt : Int)) (k : Zj κ nL tgt lv (st) M) : Zj κ nL pc lv (.int x :: st) M := by
  intro H locs ls hP hD hS hl
  exact lv_tableOut X.1 X.2.1 hd h ht (k H locs ls hP hD hS hl)
theorem z_tabI (X : CX κ ct tF cc nL own) {dflt lo hi : Int} {offs : Array Int} {len : Nat} {x : Int32} {off : Int} {tgt : Nat} (hd : decode cc pc = .ok (.tableswitch dflt lo hi offs, len)) (h1 : ¬ x.toInt < lo) (h2 : ¬ hi < x.toInt) (ho : offs[(x.toInt - lo).toNat]? = some off) (ht : (pc : Int) + off = (tgt : Int)) (k : Zj κ nL tgt lv (st) M) : Zj κ nL pc lv (.int x :: st) M := by
  intro H locs ls hP hD hS hl
  exact lv_tableIn X.1 X.2.1 hd h1 h2 ho ht (k H locs ls hP hD hS hl)
theorem z_look (X : CX κ ct tF cc nL own) {dflt : Int} {ps : Array (Int × Int)} {len : Nat} {x : Int32} {off : Int} {tgt : Nat} (hd : decode cc pc = .ok (.lookupswitch dflt ps, len)) (hp : (ps.toList.zip (ps.toList.drop 1)).all (fun (a, next) => a.1 < next.1) = true) (ho : Op.lookupswitch.offset ps.toList dflt x.toInt = off) (ht : (pc : Int) + off = (tgt : Int)) (k : Zj κ nL tgt lv (st) M) : Zj κ nL pc lv (.int x :: st) M := by
  intro H locs ls hP hD hS hl
  exact lv_lookup X.1 X.2.1 hd hp ho ht (k H locs ls hP hD hS hl)
theorem z_get (X : CX κ ct tF cc nL own) {C : String} {T : u_T} {N ci index q a j : Nat} {fs : List Value} {v : Value} (hin : ∀ w ∈ u_ws C T N, w ∈ lw_gd) (hc : vwCl[ci]? = some (C, T, N)) (hj : j < N) (hlink : Cond.fieldLink own index (T j).1 (T j).2.1 (T j).2.2.1 ∈ lw_gd) (hO : (kw κ M)[q]? = some (a, .inr (ci, fs))) (hv : fs[j]? = some v) (hd : decode cc pc = .ok (.getfield index, 3)) (k : Zj κ nL (pc + 3) lv (v :: st) M) : Zj κ nL pc lv (.ref a :: st) M := by
  intro H locs ls hP hD hS hl
  exact va_get X.1 X.2.1 X.2.2.2.2.1 hin X.2.2.2.1 X.2.2.2.2.2.1 hP q hO hc j hj (X.2.2.2.2.1 _ hlink) (fun _ h => h) hv hd (k H locs ls hP hD hS hl)
theorem z_put (X : CX κ ct tF cc nL own) {C : String} {T : u_T} {N ci index q a j : Nat} {fs : List Value} {v : Value} {ty : FieldType} (hin : ∀ w ∈ u_ws C T N, w ∈ lw_gd) (ty0 : Nat → FieldType) (hty : ∀ k, k < N → parseFieldDescriptor (T k).2.2.1 = some (ty0 k)) (hnm : ∀ a, a < N → ∀ b, b < N → a ≠ b → (T a).2.1 ≠ (T b).2.1) (hc : vwCl[ci]? = some (C, T, N)) (hj : j < N) (hlink : Cond.fieldLink own index (T j).1 (T j).2.1 (T j).2.2.1 ∈ lw_gd) (hfin : (T j).2.2.2 = false) (hpd : parseFieldDescriptor (T j).2.2.1 = some ty) (hn : narrow ty v = v) (hfit : fits ty v = true) (hO : (kw κ M)[q]? = some (a, .inr (ci, fs))) (hlen : j < fs.length) (hset : (kw κ M).set q (a, .inr (ci, fs.set j v)) = kw κ M') (hd : decode cc pc = .ok (.putfield index, 3)) (k : Zj κ nL (pc + 3) lv (st) M') : Zj κ nL pc lv (v :: .ref a :: st) M := by
  intro H locs ls hP hD hS hl
  exact va_put X.1 X.2.1 X.2.2.2.2.1 hin ty0 hty hnm X.2.2.2.1 X.2.2.2.2.2.1 hP hD hS q hO hc j hj (X.2.2.2.2.1 _ hlink) (fun _ h => h) hfin hpd hn hfit hlen hd (fun H locs hP hD hS => k H locs ls (hset ▸ hP) (hset ▸ hD) hS hl)
theorem z_iald (X : CX κ ct tF cc nL own) {q a n : Nat} {f : Nat → Int32} {i : Int32} {v : Int32} (hA : (kw κ M)[q]? = some (a, .inl ((ct 0), n, .inl f))) (hv : vp_in i n ∧ f i.toNatClampNeg = v) (hd : decode cc pc = .ok (.iaload, 1)) (k : Zj κ nL (pc + 1) lv (.int v :: st) M) : Zj κ nL pc lv (.int i :: .ref a :: st) M := by
  intro H locs ls hP hD hS hl
  exact va_iald X.1 X.2.1 X.2.2.2.2.2.1 hP q 0 hA rfl hv.1 hd (by rw [hv.2]; exact (k H locs ls hP hD hS hl))
theorem z_zald (X : CX κ ct tF cc nL own) {q a n : Nat} {f : Nat → Int32} {i : Int32} {v : Int32} (hA : (kw κ M)[q]? = some (a, .inl ((ct 2), n, .inl f))) (hv : vp_in i n ∧ f i.toNatClampNeg = v) (hd : decode cc pc = .ok (.baload, 1)) (k : Zj κ nL (pc + 1) lv (.int v :: st) M) : Zj κ nL pc lv (.int i :: .ref a :: st) M := by
  intro H locs ls hP hD hS hl
  exact va_zald X.1 X.2.1 X.2.2.2.2.2.1 hP q 2 hA rfl hv.1 hd (by rw [hv.2]; exact (k H locs ls hP hD hS hl))
theorem z_lald (X : CX κ ct tF cc nL own) {q a n : Nat} {f : Nat → Int64} {i : Int32} {v : Int64} (hA : (kw κ M)[q]? = some (a, .inl ((ct 1), n, .inr (.inl f)))) (hv : vp_in i n ∧ f i.toNatClampNeg = v) (hd : decode cc pc = .ok (.laload, 1)) (k : Zj κ nL (pc + 1) lv (.long v :: st) M) : Zj κ nL pc lv (.int i :: .ref a :: st) M := by
  intro H locs ls hP hD hS hl
  exact va_lald X.1 X.2.1 X.2.2.2.2.2.1 hP q 1 hA rfl hv.1 hd (by rw [hv.2]; exact (k H locs ls hP hD hS hl))
theorem z_iast (X : CX κ ct tF cc nL own) {q a n : Nat} {f g : Nat → Int32} {i : Int32} {x : Int32} (hA : (kw κ M)[q]? = some (a, .inl ((ct 0), n, .inl f))) (hv : vp_in i n ∧ upd f i.toNatClampNeg x = g) (hset : (kw κ M).set q (a, .inl ((ct 0), n, .inl g)) = kw κ M') (hd : decode cc pc = .ok (.iastore, 1)) (k : Zj κ nL (pc + 1) lv (st) M') : Zj κ nL pc lv (.int x :: .int i :: .ref a :: st) M := by
  intro H locs ls hP hD hS hl
  exact va_iast X.1 X.2.1 X.2.2.2.2.2.1 hP hD hS q 0 hA rfl hv.1 hd (fun H locs hP hD hS => by rw [hv.2, hset] at hP hD; exact k H locs ls hP hD hS hl)
theorem z_zast (X : CX κ ct tF cc nL own) {q a n : Nat} {f g : Nat → Int32} {i : Int32} {x : Int32} (hA : (kw κ M)[q]? = some (a, .inl ((ct 2), n, .inl f))) (hv : vp_in i n ∧ upd f i.toNatClampNeg (vp_nar .boolean x) = g) (hset : (kw κ M).set q (a, .inl ((ct 2), n, .inl g)) = kw κ M') (hd : decode cc pc = .ok (.bastore, 1)) (k : Zj κ nL (pc + 1) lv (st) M') : Zj κ nL pc lv (.int x :: .int i :: .ref a :: st) M := by
  intro H locs ls hP hD hS hl
  exact va_zast X.1 X.2.1 X.2.2.2.2.2.1 hP hD hS q 2 hA rfl hv.1 hd (fun H locs hP hD hS => by rw [hv.2, hset] at hP hD; exact k H locs ls hP hD hS hl)
theorem z_last (X : CX κ ct tF cc nL own) {q a n : Nat} {f g : Nat → Int64} {i : Int32} {x : Int64} (hA : (kw κ M)[q]? = some (a, .inl ((ct 1), n, .inr (.inl f)))) (hv : vp_in i n ∧ vp_updL f i.toNatClampNeg x = g) (hset : (kw κ M).set q (a, .inl ((ct 1), n, .inr (.inl g))) = kw κ M') (hd : decode cc pc = .ok (.lastore, 1)) (k : Zj κ nL (pc + 1) lv (st) M') : Zj κ nL pc lv (.long x :: .int i :: .ref a :: st) M := by
  intro H locs ls hP hD hS hl
  exact va_last X.1 X.2.1 X.2.2.2.2.2.1 hP hD hS q 1 hA rfl hv.1 hd (fun H locs hP hD hS => by rw [hv.2, hset] at hP hD; exact k H locs ls hP hD hS hl)
theorem z_aald (X : CX κ ct tF cc nL own) {q a n : Nat} {f : Nat → Option Nat} {i : Int32} {v : Nat} (hA : (kw κ M)[q]? = some (a, .inl (ct 3, n, .inr (.inr (.inr (.inr f)))))) (hv : vp_in i n ∧ f i.toNatClampNeg = some v) (hd : decode cc pc = .ok (.aaload, 1)) (k : Zj κ nL (pc + 1) lv (.ref v :: st) M) : Zj κ nL pc lv (.int i :: .ref a :: st) M := by
  intro H locs ls hP hD hS hl
  exact W.aald (v := .ref v) (ty := .array .long) X.1 X.2.1 (hP q _ hA) ((X.2.2.2.2.2.1.2 3 _ rfl).1 n (fun j => va_rf (f j))) rfl (fun q => by cases q) (by show ¬ (i < 0 ∨ (arrV _ _ _).slots.size ≤ _); rw [arrV_size]; exact hv.1) (by show (arrV _ _ _).slots[_]? = _; rw [arrV_read _ _ (Nat.not_le.mp fun q => hv.1 (Or.inr q)), hv.2]; rfl) rfl rfl hd (k H locs ls hP hD hS hl)
theorem z_alen (X : CX κ ct tF cc nL own) {q a t0 : Nat} {cA : ClassId} {x : vp_A} {ty : FieldType} {v : Int32} (hA : (kw κ M)[q]? = some (a, .inl (cA, x))) (ht : (tyL ct)[t0]? = some (cA, ty)) (hv : Int32.ofNat x.1 = v) (hd : decode cc pc = .ok (.arraylength, 1)) (k : Zj κ nL (pc + 1) lv (.int v :: st) M) : Zj κ nL pc lv (.ref a :: st) M := by
  intro H locs ls hP hD hS hl
  exact va_alen X.1 X.2.1 X.2.2.2.2.2.1 hP q t0 hA ht hv hd (k H locs ls hP hD hS hl)
theorem z_gets (X : CX κ ct tF cc nL own) {index : Nat} (hlink : Cond.fieldLink own index "LeaningTrees$Forest" "FIRST" "[I" ∈ lw_gd) (hd : decode cc pc = .ok (.getstatic index, 3)) (k : Zj κ nL (pc + 3) lv (.ref tF :: st) M) : Zj κ nL pc lv (st) M := by
  intro H locs ls hP hD hS hl
  exact va_gets X.1 X.2.1 X.2.2.2.2.2.2.1.1 hS X.2.2.2.1 (X.2.2.2.2.1 _ hlink) (fun _ h => h) hd (k H locs ls hP hD hS hl)
theorem z_tald (X : CX κ ct tF cc nL own) {i v : Int32} (hv : vp_in i 9 ∧ fiF i.toNatClampNeg = v) (hd : decode cc pc = .ok (.iaload, 1)) (k : Zj κ nL (pc + 1) lv (.int v :: st) M) : Zj κ nL pc lv (.int i :: .ref tF :: st) M := by
  intro H locs ls hP hD hS hl
  exact va_ti X.1 X.2.1 X.2.2.2.2.2.2.1.2 hS hv.1 (congrArg Value.int hv.2) hd (k H locs ls hP hD hS hl)
theorem z_max (X : CX κ ct tF cc nL own) {index : Nat} {x y : Int32} (hlink : Cond.methodLink own index Lib.Math.max.name ∈ lw_gd) (hw : Cond.static Lib.Math.max.name ∈ lw_gd ∧ Cond.initialized "java/lang/Math" ∈ lw_gd ∧ Cond.code Lib.Math.max.name Lib.Math.max.code 2 (some .int) ∈ lw_gd) (hf : 1 ≤ (kR κ).frames) (hL : (st.map fun v => v.category).sum + 13 ≤ (kR κ).locals) (hd : decode cc pc = .ok (.invokestatic index, 3)) (k : Zj κ nL (pc + 3) lv (.int (if x < y then y else x) :: st) M) : Zj κ nL pc lv (.int y :: .int x :: st) M := by
  intro H locs ls hP hD hS hl
  exact va_mmax X.1 X.2.1 (by rw [X.2.2.1]; exact hl.1.symm) X.2.2.2.1 (X.2.2.2.2.1 _ hlink) (X.2.2.2.2.1 _ hw.1) (X.2.2.2.2.1 _ hw.2.1) (X.2.2.2.2.1 _ hw.2.2) hf hL X.2.2.2.2.2.2.2.1 X.2.2.2.2.2.2.2.2 hd (k H locs ls hP hD hS hl)
theorem z_min (X : CX κ ct tF cc nL own) {index : Nat} {x y : Int32} (hlink : Cond.methodLink own index Lib.Math.min.name ∈ lw_gd) (hw : Cond.static Lib.Math.min.name ∈ lw_gd ∧ Cond.initialized "java/lang/Math" ∈ lw_gd ∧ Cond.code Lib.Math.min.name Lib.Math.min.code 2 (some .int) ∈ lw_gd) (hf : 1 ≤ (kR κ).frames) (hL : (st.map fun v => v.category).sum + 13 ≤ (kR κ).locals) (hd : decode cc pc = .ok (.invokestatic index, 3)) (k : Zj κ nL (pc + 3) lv (.int (if y < x then y else x) :: st) M) : Zj κ nL pc lv (.int y :: .int x :: st) M := by
  intro H locs ls hP hD hS hl
  exact va_mmin X.1 X.2.1 (by rw [X.2.2.1]; exact hl.1.symm) X.2.2.2.1 (X.2.2.2.2.1 _ hlink) (X.2.2.2.2.1 _ hw.1) (X.2.2.2.2.1 _ hw.2.1) (X.2.2.2.2.1 _ hw.2.2) hf hL X.2.2.2.2.2.2.2.1 X.2.2.2.2.2.2.2.2 hd (k H locs ls hP hD hS hl)
theorem z_copy (X : CX κ ct tF cc nL own) {index q0 q1 a0 a n0 n1 : Nat} {f g g2 : Nat → Int32} {sp dp n : Int32} (hlink : Cond.methodLink own index arraycopyName ∈ lw_gd) (hw : Cond.native arraycopyName ∈ lw_gd ∧ Cond.static arraycopyName ∈ lw_gd ∧ Cond.initialized "java/lang/System" ∈ lw_gd) (hA0 : (kw κ M)[q0]? = some (a0, .inl (ct 0, n0, .inl f))) (hA1 : (kw κ M)[q1]? = some (a, .inl (ct 0, n1, .inl g))) (hv : ((¬ sp < 0 ∧ ¬ dp < 0) ∧ ¬ n < 0 ∧ sp.toNatClampNeg + n.toNatClampNeg ≤ n0 ∧ dp.toNatClampNeg + n.toNatClampNeg ≤ n1) ∧ va_cpy f g sp.toNatClampNeg dp.toNatClampNeg n.toNatClampNeg = g2) (hset : (kw κ M).set q1 (a, .inl (ct 0, n1, .inl g2)) = kw κ M') (hf : 1 ≤ (kR κ).frames) (hL : (st.map fun v => v.category).sum + (nativeFrameWords "java/lang/System" "arraycopy" 5 + 11) ≤ (kR κ).locals) (hd : decode cc pc = .ok (.invokestatic index, 3)) (k : Zj κ nL (pc + 3) lv (st) M') : Zj κ nL pc lv (.int n :: .int dp :: .ref a :: .int sp :: .ref a0 :: st) M := by
  intro H locs ls hP hD hS hl
  exact va_copyi X.1 X.2.1 (by rw [X.2.2.1]; exact hl.1.symm) X.2.2.2.1 (X.2.2.2.2.1 _ hlink) (X.2.2.2.2.1 _ hw.1) (X.2.2.2.2.1 _ hw.2.1) (X.2.2.2.2.1 _ hw.2.2) X.2.2.2.2.2.1 hP hD hS q0 q1 0 0 hA0 hA1 rfl rfl rfl hv.1.1.1 hv.1.1.2 hv.1.2.1 hv.1.2.2.1 hv.1.2.2.2 (fun _ _ => rfl) hf hL hd (fun H locs hP hD hS => by rw [hv.2, hset] at hP hD; exact k H locs ls hP hD hS hl)
theorem z_cVI (X : CX κ ct tF cc nL own) {y : MethodName} {bytes : ByteArray} {mL : Nat} {rm : Room} {index n : Nat} {As : List Value} {rt : FieldType} {r : Int32} {C : String} {T : u_T} {N ci q b : Nat} {fs : List Value} {st0 : List Value} (hM : CtI (kl κ) y bytes mL rt rm (kD κ) ct tF (kw κ) (.ref b :: As) M r M') (hm : Cond.methodLink own index y ∈ lw_gd) (hv : MV y bytes mL (some rt) C n) (hR : rm.frames + 1 ≤ (kR κ).frames ∧ 8 + (mL + 11) + rm.locals ≤ (kR κ).locals) (hrm : rm.cells = 0 ∧ rm.slots = 0) (hn : As.length = n) (hst : (st.map fun v => v.category).sum ≤ 8) (hO : (kw κ M)[q]? = some (b, .inr (ci, fs))) (hci : vwCl[ci]? = some (C, T, N)) (h0 : st0 = As.reverse ++ .ref b :: st) (hd : decode cc pc = .ok (.invokevirtual index, 3)) (k : Zj κ nL (pc + 3) lv (.int r :: st) M') : Zj κ nL pc lv (st0) M := by
  intro H locs ls hP hD hS hl
  exact va_calli (va_runV (As := As) (rest := st) ⟨X.1, X.2.1, X.2.2.1, X.2.2.2.1, X.2.2.2.2.1⟩ (hM (kA κ)) (cwV n X.2.2.2.2.1 (lw_gV hm hv) rfl hrm.1 hrm.2 hv.2 hR) ⟨CP_blind _ _ _ _ _ _ _, va_recv X.2.2.2.2.2.1 hP (ci := ci) (q0 := q) hci hO, fun U hU hW => ⟨rfl, CP_at X hP hD hS U hU hW⟩⟩ rfl hn hl.1 h0 (lv_room hst) hd X.2.2.2.2.2.2.2) hS (fun _ _ h => h) (fun _ h => h) (fun r1 u t H1 locs1 ht hvm hw hB hz1 hk1 hS1 => (by subst hw; exact k H1 locs1 ls (by rw [← ht]; exact hB.1) hB.2 hS1 hl))
theorem z_cSI (X : CX κ ct tF cc nL own) {y : MethodName} {bytes : ByteArray} {mL : Nat} {rm : Room} {index n : Nat} {As : List Value} {rt : FieldType} {r : Int32} {st0 : List Value} (hM : CtI (kl κ) y bytes mL rt rm (kD κ) ct tF (kw κ) As M r M') (hm : Cond.methodLink own index y ∈ lw_gd) (hv : MS y bytes mL (some rt) n) (hR : rm.frames + 1 ≤ (kR κ).frames ∧ 8 + (mL + 11) + rm.locals ≤ (kR κ).locals) (hrm : rm.cells = 0 ∧ rm.slots = 0) (hn : As.length = n) (hst : (st.map fun v => v.category).sum ≤ 8) (h0 : st0 = As.reverse ++ st) (hd : decode cc pc = .ok (.invokestatic index, 3)) (k : Zj κ nL (pc + 3) lv (.int r :: st) M') : Zj κ nL pc lv (st0) M := by
  intro H locs ls hP hD hS hl
  exact va_calli (va_runS (As := As) (rest := st) ⟨X.1, X.2.1, X.2.2.1, X.2.2.2.1, X.2.2.2.2.1⟩ (hM (kA κ)) (va_cwS n X.2.2.2.2.1 (lw_gS hm hv) rfl hrm.1 hrm.2 hv.2 hR) ⟨CP_blind _ _ _ _ _ _ _, fun U hU hW => ⟨rfl, CP_at X hP hD hS U hU hW⟩⟩ rfl hn hl.1 h0 (lv_room hst) hd X.2.2.2.2.2.2.2) hS (fun _ _ h => h) (fun _ h => h) (fun r1 u t H1 locs1 ht hvm hw hB hz1 hk1 hS1 => (by subst hw; exact k H1 locs1 ls (by rw [← ht]; exact hB.1) hB.2 hS1 hl))
theorem z_cVL (X : CX κ ct tF cc nL own) {y : MethodName} {bytes : ByteArray} {mL : Nat} {rm : Room} {index n : Nat} {As : List Value} {r : Int64} {C : String} {T : u_T} {N ci q b : Nat} {fs : List Value} {st0 : List Value} (hM : CtL (kl κ) y bytes mL rm (kD κ) ct tF (kw κ) (.ref b :: As) M r M') (hm : Cond.methodLink own index y ∈ lw_gd) (hv : MV y bytes mL (some .long) C n) (hR : rm.frames + 1 ≤ (kR κ).frames ∧ 8 + (mL + 11) + rm.locals ≤ (kR κ).locals) (hrm : rm.cells = 0 ∧ rm.slots = 0) (hn : As.length = n) (hst : (st.map fun v => v.category).sum ≤ 8) (hO : (kw κ M)[q]? = some (b, .inr (ci, fs))) (hci : vwCl[ci]? = some (C, T, N)) (h0 : st0 = As.reverse ++ .ref b :: st) (hd : decode cc pc = .ok (.invokevirtual index, 3)) (k : Zj κ nL (pc + 3) lv (.long r :: st) M') : Zj κ nL pc lv (st0) M := by
  intro H locs ls hP hD hS hl
  exact va_calll (va_runV (As := As) (rest := st) ⟨X.1, X.2.1, X.2.2.1, X.2.2.2.1, X.2.2.2.2.1⟩ (hM (kA κ)) (cwV n X.2.2.2.2.1 (lw_gV hm hv) rfl hrm.1 hrm.2 hv.2 hR) ⟨CP_blind _ _ _ _ _ _ _, va_recv X.2.2.2.2.2.1 hP (ci := ci) (q0 := q) hci hO, fun U hU hW => ⟨rfl, CP_at X hP hD hS U hU hW⟩⟩ rfl hn hl.1 h0 (lv_room hst) hd X.2.2.2.2.2.2.2) hS (fun _ _ h => h) (fun _ h => h) (fun r1 u t H1 locs1 ht hvm hw hB hz1 hk1 hS1 => (by subst hw; exact k H1 locs1 ls (by rw [← ht]; exact hB.1) hB.2 hS1 hl))
theorem z_cSL (X : CX κ ct tF cc nL own) {y : MethodName} {bytes : ByteArray} {mL : Nat} {rm : Room} {index n : Nat} {As : List Value} {r : Int64} {st0 : List Value} (hM : CtL (kl κ) y bytes mL rm (kD κ) ct tF (kw κ) As M r M') (hm : Cond.methodLink own index y ∈ lw_gd) (hv : MS y bytes mL (some .long) n) (hR : rm.frames + 1 ≤ (kR κ).frames ∧ 8 + (mL + 11) + rm.locals ≤ (kR κ).locals) (hrm : rm.cells = 0 ∧ rm.slots = 0) (hn : As.length = n) (hst : (st.map fun v => v.category).sum ≤ 8) (h0 : st0 = As.reverse ++ st) (hd : decode cc pc = .ok (.invokestatic index, 3)) (k : Zj κ nL (pc + 3) lv (.long r :: st) M') : Zj κ nL pc lv (st0) M := by
  intro H locs ls hP hD hS hl
  exact va_calll (va_runS (As := As) (rest := st) ⟨X.1, X.2.1, X.2.2.1, X.2.2.2.1, X.2.2.2.2.1⟩ (hM (kA κ)) (va_cwS n X.2.2.2.2.1 (lw_gS hm hv) rfl hrm.1 hrm.2 hv.2 hR) ⟨CP_blind _ _ _ _ _ _ _, fun U hU hW => ⟨rfl, CP_at X hP hD hS U hU hW⟩⟩ rfl hn hl.1 h0 (lv_room hst) hd X.2.2.2.2.2.2.2) hS (fun _ _ h => h) (fun _ h => h) (fun r1 u t H1 locs1 ht hvm hw hB hz1 hk1 hS1 => (by subst hw; exact k H1 locs1 ls (by rw [← ht]; exact hB.1) hB.2 hS1 hl))
theorem z_cVV (X : CX κ ct tF cc nL own) {y : MethodName} {bytes : ByteArray} {mL : Nat} {rm : Room} {index n : Nat} {As : List Value} {C : String} {T : u_T} {N ci q b : Nat} {fs : List Value} {st0 : List Value} (hM : CtV (kl κ) y bytes mL rm (kD κ) ct tF (kw κ) (.ref b :: As) M M') (hm : Cond.methodLink own index y ∈ lw_gd) (hv : MV y bytes mL none C n) (hR : rm.frames + 1 ≤ (kR κ).frames ∧ 8 + (mL + 11) + rm.locals ≤ (kR κ).locals) (hrm : rm.cells = 0 ∧ rm.slots = 0) (hn : As.length = n) (hst : (st.map fun v => v.category).sum ≤ 8) (hO : (kw κ M)[q]? = some (b, .inr (ci, fs))) (hci : vwCl[ci]? = some (C, T, N)) (h0 : st0 = As.reverse ++ .ref b :: st) (hd : decode cc pc = .ok (.invokevirtual index, 3)) (k : Zj κ nL (pc + 3) lv (st) M') : Zj κ nL pc lv (st0) M := by
  intro H locs ls hP hD hS hl
  exact va_callv (va_runV (As := As) (rest := st) ⟨X.1, X.2.1, X.2.2.1, X.2.2.2.1, X.2.2.2.2.1⟩ (hM (kA κ)) (cwV n X.2.2.2.2.1 (lw_gV hm hv) rfl hrm.1 hrm.2 hv.2 hR) ⟨CP_blind _ _ _ _ _ _ _, va_recv X.2.2.2.2.2.1 hP (ci := ci) (q0 := q) hci hO, fun U hU hW => ⟨rfl, CP_at X hP hD hS U hU hW⟩⟩ rfl hn hl.1 h0 (lv_room hst) hd X.2.2.2.2.2.2.2) hS (fun _ _ h => h) (fun _ h => h) (fun u t H1 locs1 ht hvm hw hB hz1 hk1 hS1 => (k H1 locs1 ls (by rw [← ht]; exact hB.1) hB.2 hS1 hl))
theorem z_cSV (X : CX κ ct tF cc nL own) {y : MethodName} {bytes : ByteArray} {mL : Nat} {rm : Room} {index n : Nat} {As : List Value} {st0 : List Value} (hM : CtV (kl κ) y bytes mL rm (kD κ) ct tF (kw κ) As M M') (hm : Cond.methodLink own index y ∈ lw_gd) (hv : MS y bytes mL none n) (hR : rm.frames + 1 ≤ (kR κ).frames ∧ 8 + (mL + 11) + rm.locals ≤ (kR κ).locals) (hrm : rm.cells = 0 ∧ rm.slots = 0) (hn : As.length = n) (hst : (st.map fun v => v.category).sum ≤ 8) (h0 : st0 = As.reverse ++ st) (hd : decode cc pc = .ok (.invokestatic index, 3)) (k : Zj κ nL (pc + 3) lv (st) M') : Zj κ nL pc lv (st0) M := by
  intro H locs ls hP hD hS hl
  exact va_callv (va_runS (As := As) (rest := st) ⟨X.1, X.2.1, X.2.2.1, X.2.2.2.1, X.2.2.2.2.1⟩ (hM (kA κ)) (va_cwS n X.2.2.2.2.1 (lw_gS hm hv) rfl hrm.1 hrm.2 hv.2 hR) ⟨CP_blind _ _ _ _ _ _ _, fun U hU hW => ⟨rfl, CP_at X hP hD hS U hU hW⟩⟩ rfl hn hl.1 h0 (lv_room hst) hd X.2.2.2.2.2.2.2) hS (fun _ _ h => h) (fun _ h => h) (fun u t H1 locs1 ht hvm hw hB hz1 hk1 hS1 => (k H1 locs1 ls (by rw [← ht]; exact hB.1) hB.2 hS1 hl))
theorem z_iret {rt : FieldType} {r : Int32} (hret : ZI κ cc rt r M) (hd : decode cc pc = .ok (.ireturn, 1)) (hn : narrow rt (.int r) = .int r) : Zj κ nL pc lv [.int r] M := by
  intro H locs ls hP hD hS hl
  exact hret H locs ls pc hP hD hS hd hn
theorem z_lret {r : Int64} (hret : ZL κ cc r M) (hd : decode cc pc = .ok (.lreturn, 1)) : Zj κ nL pc lv [.long r] M := by
  intro H locs ls hP hD hS hl
  exact hret H locs ls pc hP hD hS hd
theorem z_vret (hret : ZV κ cc M) (hd : decode cc pc = .ok (.return_, 1)) : Zj κ nL pc lv [] M := by
  intro H locs ls hP hD hS hl
  exact hret H locs ls pc hP hD hS hd
theorem z_sub (ks : List Nat) (hs : lv_pick lv ks = lv') (k : Zj κ nL pc lv' st M) : Zj κ nL pc lv st M := by
  intro H locs ls hP hD hS hl
  exact k H locs ls hP hD hS (lv_sub hl ks hs)
theorem z_mem (h : M = M') (k : Zj κ nL pc lv st M') : Zj κ nL pc lv st M := h ▸ k
end ROWS
/-! cells of a world, told by their number: where they lie, and what writing them makes of the memory -/
def IA (wOf : Mm → va_W) (po ad : Nat → Nat) (cA : ClassId) (q n : Nat) : Prop := ∀ M : Mm, (wOf M)[po q]? = some (ad q, .inl (cA, n, .inl (M.1 q))) ∧ ∀ f, (wOf M).set (po q) (ad q, .inl (cA, n, .inl f)) = wOf (pu M.1 [(q, f)], M.2)
def LA (wOf : Mm → va_W) (po ad : Nat → Nat) (cA : ClassId) (q r n : Nat) : Prop := ∀ M : Mm, (wOf M)[po q]? = some (ad q, .inl (cA, n, .inr (.inl (M.2.1 r)))) ∧ ∀ f, (wOf M).set (po q) (ad q, .inl (cA, n, .inr (.inl f))) = wOf (M.1, pu M.2.1 [(r, f)], M.2.2)
def OB (wOf : Mm → va_W) (po ad : Nat → Nat) (q ci : Nat) (fs : Mm → List Value) : Prop := ∀ M : Mm, (wOf M)[po q]? = some (ad q, .inr (ci, fs M))
def OS (wOf : Mm → va_W) (po ad : Nat → Nat) (q ci j t : Nat) (fs : Mm → List Value) : Prop := ∀ (M : Mm) (v : Int32), (wOf M).set (po q) (ad q, .inr (ci, (fs M).set j (.int v))) = wOf (M.1, M.2.1, pu M.2.2 [(t, v)])
/-- the memory of a method under way: what it began with, its rows, longs and single ints as they are now -/
def mk (M : Mm) (l : List (Nat × (Nat → Int32))) (lo : Nat → Nat → Int64) (sl : List (Nat × Int32)) : Mm := (pu M.1 l, lo, pu M.2.2 sl)
theorem mk_self (M : Mm) (ks ts : List Nat) : M = mk M (ks.map fun k => (k, M.1 k)) M.2.1 (ts.map fun k => (k, M.2.2 k)) := by
  unfold mk
  rw [pu_self, pu_self]
theorem mk_set1 {wOf : Mm → va_W} {po ad : Nat → Nat} {cA : ClassId} {q n : Nat} (h : IA wOf po ad cA q n) {M : Mm} {l l' : List (Nat × (Nat → Int32))} {lo : Nat → Nat → Int64} {sl : List (Nat × Int32)} {f : Nat → Int32} (h1 : hk l q = true) (h2 : rp l q f = l') : (wOf (mk M l lo sl)).set (po q) (ad q, .inl (cA, n, .inl f)) = wOf (mk M l' lo sl) := by
  rw [(h _).2]
  show wOf (pu (pu M.1 l) [(q, f)], lo, pu M.2.2 sl) = _
  rw [pu_rp _ _ _ _ h1, h2]
  rfl
theorem mk_setS {wOf : Mm → va_W} {po ad : Nat → Nat} {q ci j t : Nat} {fs : Mm → List Value} (h : OS wOf po ad q ci j t fs) {M : Mm} {l : List (Nat × (Nat → Int32))} {lo : Nat → Nat → Int64} {sl sl' : List (Nat × Int32)} {v : Int32} (h1 : hk sl t = true) (h2 : rp sl t v = sl') : (wOf (mk M l lo sl)).set (po q) (ad q, .inr (ci, (fs (mk M l lo sl)).set j (.int v))) = wOf (mk M l lo sl') := by
  rw [h]
  show wOf (pu M.1 l, lo, pu (pu M.2.2 sl) [(t, v)]) = _
  rw [pu_rp _ _ _ _ h1, h2]
  rfl
theorem mk_setL {wOf : Mm → va_W} {po ad : Nat → Nat} {cA : ClassId} {q r n : Nat} (h : LA wOf po ad cA q r n) {M : Mm} {l : List (Nat × (Nat → Int32))} {lo lo' : Nat → Nat → Int64} {sl : List (Nat × Int32)} {f : Nat → Int64} (h2 : pu lo [(r, f)] = lo') : (wOf (mk M l lo sl)).set (po q) (ad q, .inl (cA, n, .inr (.inl f))) = wOf (mk M l lo' sl) := by
  rw [(h _).2]
  show wOf (pu M.1 l, pu lo [(r, f)], pu M.2.2 sl) = _
  rw [h2]
  rfl
/-- behind a call that wrote rows l2 and single ints sl2 -/
theorem mk_mk {M : Mm} {l l2 l' : List (Nat × (Nat → Int32))} {lo lo2 : Nat → Nat → Int64} {sl sl2 sl' : List (Nat × Int32)} (h1 : l2.all (fun e => hk l e.1) = true) (h2 : mg l l2 = l') (h3 : sl2.all (fun e => hk sl e.1) = true) (h4 : mg sl sl2 = sl') : mk (mk M l lo sl) l2 lo2 sl2 = mk M l' lo2 sl' := by
  show (pu (pu M.1 l) l2, lo2, pu (pu M.2.2 sl) sl2) = _
  rw [pu_mg _ _ _ h1, pu_mg _ _ _ h3, h2, h4]
  rfl

