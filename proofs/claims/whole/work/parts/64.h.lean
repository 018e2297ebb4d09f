/-! turns up alone: the fewest and the most, by going through the trees in their order -/
def imv (most : Bool) (x : Nat) (o : Option Nat) : Option Nat := match o with
  | none => some (x + 1)
  | some t => if most then (if x + 1 ≤ t then some t else some (x + 1)) else (if t ≤ x + 1 then some t else some (x + 1))
def imp (most : Bool) (f v w : Nat) (T : Nat → Option Nat) : Nat → Option Nat := if w = 0 then T else updO T (w - f) (imv most ((T v).getD 0) (T (w - f)))
def impN (most : Bool) (f v : Nat) (T : Nat → Option Nat) : Nat → Nat → Option Nat
  | 0 => T
  | c + 1 => imp most f v (upF (f + v) c) (impN most f v T c)
def dpS (most : Bool) (n k : Nat) (T : Nat → Option Nat) : Nat → Option Nat := if T k = none then T else impN most (fstF n) k T n
def dp (most : Bool) (n a : Nat) : Nat → Nat → Option Nat
  | 0 => updO (fun _ => none) a (some 0)
  | k + 1 => dpS most n k (dp most n a k)
theorem imv_le {most : Bool} {x t : Nat} {o : Option Nat} (h : imv most x o = some t) : t = x + 1 ∨ o = some t := by
  unfold imv at h
  cases o with
  | none => exact Or.inl (Option.some.inj h).symm
  | some u =>
    dsimp only at h
    cases most <;> simp at h <;> split at h
    · exact Or.inr (by rw [Option.some.inj h])
    · exact Or.inl (Option.some.inj h).symm
    · exact Or.inr (by rw [Option.some.inj h])
    · exact Or.inl (Option.some.inj h).symm
theorem imv_ex (most : Bool) (x : Nat) (o : Option Nat) : ∃ t, imv most x o = some t := by
  unfold imv
  cases o with
  | none => exact ⟨_, rfl⟩
  | some u =>
    dsimp only
    cases most <;> simp <;> split <;> exact ⟨_, rfl⟩
theorem imv_min {x t : Nat} {o : Option Nat} (h : imv false x o = some t) : t ≤ x + 1 ∧ ∀ u, o = some u → t ≤ u := by
  unfold imv at h
  cases o with
  | none => exact ⟨Nat.le_of_eq (Option.some.inj h).symm, fun u e => by cases e⟩
  | some u =>
    simp at h
    split at h
    · have := Option.some.inj h
      exact ⟨by omega, fun v e => by have := Option.some.inj e; omega⟩
    · have := Option.some.inj h
      exact ⟨by omega, fun v e => by have := Option.some.inj e; omega⟩
/-- within the turns of one tree -/
def IMI (most : Bool) (n k x c : Nat) (T U : Nat → Option Nat) : Prop :=
  (∀ w, w ≤ k → U w = T w) ∧
  (∀ w m, U w = some m → T w = some m ∨ (m = x + 1 ∧ ∃ c', c' < n ∧ upF (fstF n + k) c' = fstF n + w)) ∧
  (∀ w m, T w = some m → ∃ m', U w = some m' ∧ (most = false → m' ≤ m)) ∧
  (∀ c' w, c' < c → upF (fstF n + k) c' = fstF n + w → ∃ m', U w = some m' ∧ (most = false → m' ≤ x + 1))
theorem imi_ok {most : Bool} {n k x : Nat} {T : Nat → Option Nat} (h0 : 0 < n) (h7 : n < 8) (hk : k < cntF n) (hx : T k = some x) : ∀ c, c ≤ n → IMI most n k x c T (impN most (fstF n) k T c)
  | 0, _ => ⟨fun _ _ => rfl, fun w m h => Or.inl h, fun w m h => ⟨m, h, fun _ => Nat.le_refl _⟩, fun c' w h => absurd h (Nat.not_lt_zero _)⟩
  | c + 1, hc => by
    obtain ⟨I1, I2, I3, I4⟩ := imi_ok (most := most) h0 h7 hk hx c (by omega)
    obtain ⟨z0, z1, z2⟩ := pl_ok h0 h7 hk
    have hUk : (impN most (fstF n) k T c k).getD 0 = x := by rw [I1 k (Nat.le_refl _), hx]; rfl
    show IMI most n k x (c + 1) T (imp most (fstF n) k (upF (fstF n + k) c) (impN most (fstF n) k T c))
    generalize impN most (fstF n) k T c = U at *
    unfold imp
    by_cases hw : upF (fstF n + k) c = 0
    · rw [if_pos hw]
      refine ⟨I1, I2, I3, fun c' w hc' hu => ?_⟩
      rcases Nat.lt_or_ge c' c with q | q
      · exact I4 c' w q hu
      · rw [show c' = c by omega, hw] at hu
        have := fst_lt n h7
        omega
    · rw [if_neg hw, hUk]
      have hu := up_ok z0 z1 (show c < szF (fstF n + k) by omega) hw
      have hpx := pl_ix (show 0 < upF (fstF n + k) c by omega) hu.2.1
      rw [hu.2.2.1, z2] at hpx
      obtain ⟨t, ht⟩ := imv_ex most x (U (upF (fstF n + k) c - fstF n))
      rw [ht]
      generalize hy : upF (fstF n + k) c - fstF n = y at *
      have ey : upF (fstF n + k) c = fstF n + y := by omega
      refine ⟨fun w hwk => ?_, fun w m hm => ?_, fun w m hm => ?_, fun c' w hc' hcw => ?_⟩
      · rw [uo_n (by omega)]
        exact I1 w hwk
      · by_cases e : w = y
        · rw [e, uo_s] at hm
          have em := Option.some.inj hm
          subst em
          rcases imv_le ht with e1 | e1
          · exact Or.inr ⟨e1, c, by omega, by rw [e]; exact ey⟩
          · rw [e]
            exact I2 y t e1
        · rw [uo_n e] at hm
          exact I2 w m hm
      · obtain ⟨m', h1, h2⟩ := I3 w m hm
        by_cases e : w = y
        · rw [e, uo_s]
          refine ⟨t, rfl, fun hf => ?_⟩
          subst hf
          rw [e] at h1
          have := (imv_min ht).2 m' h1
          have := h2 rfl
          omega
        · rw [uo_n e]
          exact ⟨m', h1, h2⟩
      · by_cases e : w = y
        · rw [e, uo_s]
          refine ⟨t, rfl, fun hf => ?_⟩
          subst hf
          exact (imv_min ht).1
        · rw [uo_n e]
          refine I4 c' w ?_ hcw
          rcases Nat.lt_or_ge c' c with q | q
          · exact q
          · rw [show c' = c by omega] at hcw
            omega
/-- what holds after the first k trees -/
def DPI (most : Bool) (n a k : Nat) (T : Nat → Option Nat) : Prop :=
  (∀ w m, T w = some m → m ≤ k) ∧
  (∃ m, T a = some m ∧ (most = false → m = 0)) ∧
  (∀ w m, T w = some m → (w = a ∧ m = 0) ∨ ∃ x l c, x < k ∧ x < cntF n ∧ c < n ∧ upF (fstF n + x) c = fstF n + w ∧ T x = some l ∧ m = l + 1) ∧
  (∀ x l c w, x < k → x < cntF n → c < n → upF (fstF n + x) c = fstF n + w → T x = some l → ∃ m, T w = some m ∧ (most = false → m ≤ l + 1))
theorem dps_le {most : Bool} {n k : Nat} {T : Nat → Option Nat} (h0 : 0 < n) (h7 : n < 8) (hk : k < cntF n) {w : Nat} (hw : w ≤ k) : dpS most n k T w = T w := by
  unfold dpS
  by_cases h : T k = none
  · rw [if_pos h]
  · rw [if_neg h]
    cases hx : T k with
    | none => exact absurd hx h
    | some x => exact (imi_ok h0 h7 hk hx n (Nat.le_refl _)).1 w hw
theorem dpi_ok {most : Bool} {n a : Nat} (h0 : 0 < n) (h7 : n < 8) : ∀ k, k ≤ cntF n → DPI most n a k (dp most n a k)
  | 0, _ => by
    refine ⟨fun w m h => ?_, ⟨0, uo_s, fun _ => rfl⟩, fun w m h => ?_, fun x l c w h => absurd h (Nat.not_lt_zero _)⟩
    · have h' : updO (fun _ => none) a (some 0) w = some m := h
      by_cases e : w = a
      · rw [e, uo_s] at h'
        have := Option.some.inj h'
        omega
      · rw [uo_n e] at h'
        cases h'
    · have h' : updO (fun _ => none) a (some 0) w = some m := h
      by_cases e : w = a
      · rw [e, uo_s] at h'
        exact Or.inl ⟨e, (Option.some.inj h').symm⟩
      · rw [uo_n e] at h'
        cases h'
  | k + 1, hk => by
    obtain ⟨D1, D2, D3, D4⟩ := dpi_ok (most := most) (a := a) h0 h7 k (by omega)
    show DPI most n a (k + 1) (dpS most n k (dp most n a k))
    generalize dp most n a k = T at *
    unfold dpS
    by_cases h : T k = none
    · rw [if_pos h]
      refine ⟨fun w m hm => Nat.le_succ_of_le (D1 w m hm), D2, fun w m hm => ?_, fun x l c w hx hx2 hc hu hl => ?_⟩
      · rcases D3 w m hm with e | ⟨x, l, c, e1, e2⟩
        · exact Or.inl e
        · exact Or.inr ⟨x, l, c, by omega, e2⟩
      · rcases Nat.lt_or_ge x k with q | q
        · exact D4 x l c w q hx2 hc hu hl
        · rw [show x = k by omega, h] at hl
          cases hl
    · rw [if_neg h]
      cases hxk : T k with
      | none => exact absurd hxk h
      | some y =>
        obtain ⟨I1, I2, I3, I4⟩ := imi_ok (most := most) h0 h7 (show k < cntF n by omega) hxk n (Nat.le_refl _)
        have hyk := D1 k y hxk
        generalize impN most (fstF n) k T n = U at *
        refine ⟨fun w m hm => ?_, ?_, fun w m hm => ?_, fun x l c w hx hx2 hc hu hl => ?_⟩
        · rcases I2 w m hm with e | ⟨e, _⟩
          · have := D1 w m e
            omega
          · omega
        · obtain ⟨m, e1, e2⟩ := D2
          obtain ⟨m', e3, e4⟩ := I3 a m e1
          exact ⟨m', e3, fun hf => by have := e2 hf; have := e4 hf; omega⟩
        · have hkU := I1 k (Nat.le_refl _)
          rcases I2 w m hm with e | ⟨e, c', hc', hcu⟩
          · rcases D3 w m e with e | ⟨x, l, c, e1, e2, e3, e4, e5, e6⟩
            · exact Or.inl e
            · exact Or.inr ⟨x, l, c, by omega, e2, e3, e4, (I1 x (by omega)).trans e5, e6⟩
          · exact Or.inr ⟨k, y, c', by omega, by omega, hc', hcu, hkU.trans hxk, e⟩
        · rcases Nat.lt_or_ge x k with q | q
          · rw [I1 x (by omega)] at hl
            obtain ⟨m, e1, e2⟩ := D4 x l c w q hx2 hc hu hl
            obtain ⟨m', e3, e4⟩ := I3 w m e1
            exact ⟨m', e3, fun hf => by have := e2 hf; have := e4 hf; omega⟩
          · have ex : x = k := by omega
            subst ex
            rw [I1 x (Nat.le_refl _), hxk] at hl
            have el := Option.some.inj hl
            subst el
            exact I4 c w hc hu
theorem dp_st {most : Bool} {n a : Nat} (h0 : 0 < n) (h7 : n < 8) {w : Nat} : ∀ k, w ≤ k → k ≤ cntF n → dp most n a k w = dp most n a w w
  | 0, h, _ => by rw [show w = 0 by omega]
  | k + 1, h, hk => by
    rcases Nat.lt_or_ge w (k + 1) with q | q
    · show dpS most n k (dp most n a k) w = _
      rw [dps_le h0 h7 (by omega) (show w ≤ k by omega)]
      exact dp_st h0 h7 k (by omega) (by omega)
    · rw [show w = k + 1 by omega]
/-- nothing happens before the first -/
theorem dp_a {most : Bool} {n a : Nat} : ∀ k, k ≤ a → dp most n a k = dp most n a 0
  | 0, _ => rfl
  | k + 1, h => by
    have e := dp_a (most := most) (n := n) (a := a) k (by omega)
    show dpS most n k (dp most n a k) = _
    rw [e]
    unfold dpS
    rw [if_pos]
    show updO (fun _ => none) a (some 0) k = none
    rw [uo_n (by omega)]
/-- the fewest is what the search by turns up finds -/
theorem dp_bf {n a i : Nat} (h0 : 0 < n) (h7 : n < 8) (ha : a < cntF n) (h : BFE false n a i) : ∀ w, w < cntF n → dp false n a (cntF n) w = (bf false n a i).1 w := by
  obtain ⟨D1, ⟨m0, D2, D2'⟩, D3, D4⟩ := dpi_ok (most := false) (a := a) h0 h7 (cntF n) (Nat.le_refl _)
  have D2'' := D2' rfl
  subst D2''
  obtain ⟨A1, A2⟩ := bfe_ok h0 h7 ha h
  intro w
  induction w using Nat.strongRecOn with
  | ind w ih =>
    intro hw
    have lt_of : ∀ x c, x < cntF n → c < n → upF (fstF n + x) c = fstF n + w → x < w := fun x c hx hc e => by
      obtain ⟨z0, z1, z2⟩ := pl_ok h0 h7 hx
      have := up_ok z0 z1 (show c < szF (fstF n + x) by omega) (by rw [e]; have := fst_lt n h7; omega)
      omega
    have back : ∀ j, (bf false n a i).1 w = some (j + 1) → ∃ m, dp false n a (cntF n) w = some m ∧ m ≤ j + 1 := fun j hj => by
      obtain ⟨x, hx, hDx, c, hc, hh⟩ := A1.b4 w hw j hj
      rcases hh with e | ⟨e, _⟩
      · have hlt := lt_of x c hx hc e
        have hF := (ih x hlt hx).trans hDx
        obtain ⟨m, e1, e2⟩ := D4 x j c w hx hx hc e hF
        exact ⟨m, e1, e2 rfl⟩
      · cases e
    cases hF : dp false n a (cntF n) w with
    | none =>
      cases hB : (bf false n a i).1 w with
      | none => rfl
      | some m' =>
        cases m' with
        | zero =>
          have := A1.b7 w hB
          rw [this, D2] at hF
          cases hF
        | succ j =>
          obtain ⟨m, e1, _⟩ := back j hB
          rw [e1] at hF
          cases hF
    | some m =>
      rcases D3 w m hF with ⟨e1, e2⟩ | ⟨x, l, c, e1, e2, e3, e4, e5, e6⟩
      · rw [e1, e2]
        exact A1.b6.symm
      · have hlt := lt_of x c e2 e3 e4
        have hDx : (bf false n a i).1 x = some l := (ih x hlt e2).symm.trans e5
        obtain ⟨m1, m', g1, g2, g3⟩ := ((A2 x l e2 hDx).2 c e3).1 (by rw [e4]; have := fst_lt n h7; omega)
        rw [hDx] at g1
        have g1' := Option.some.inj g1
        rw [e4, show fstF n + w - fstF n = w by omega] at g2
        rw [g2]
        cases m' with
        | zero =>
          have := A1.b7 w g2
          rw [this, D2] at hF
          have := Option.some.inj hF
          omega
        | succ j =>
          obtain ⟨m2, e7, e8⟩ := back j g2
          rw [hF] at e7
          have := Option.some.inj e7
          congr 1
          omega
