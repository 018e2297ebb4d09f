/-! loops, numbers -/
theorem it_run {X Y : Type} {B : X → Option (X ⊕ Y)} (S : Nat → X) (k : Nat) {y : Y} (hs : ∀ j, j < k → B (S j) = some (.inl (S (j + 1)))) (he : B (S k) = some (.inr y)) : ∀ (n a : Nat), a ≤ k → k - a < n → it B n (S a) = some y
  | 0, a, h1, h2 => absurd h2 (Nat.not_lt_zero _)
  | n + 1, a, h1, h2 => by
    rcases Nat.lt_or_ge a k with h | h
    · rw [it, hs a h]
      exact it_run S k hs he n (a + 1) h (by omega)
    · have e : a = k := by omega
      subst e
      rw [it, he]
      rfl
theorem it_go {X Y : Type} {B : X → Option (X ⊕ Y)} {x0 : X} {y : Y} (S : Nat → X) (k : Nat) (h0 : S 0 = x0) (hk : k < 100000000) (hs : ∀ j, j < k → B (S j) = some (.inl (S (j + 1)))) (he : B (S k) = some (.inr y)) : it B FU x0 = some y := by
  rw [← h0]
  exact it_run S k hs he FU 0 (Nat.zero_le _) (by unfold FU; omega)
theorem it_inv1 {X Y : Type} {B : X → Option (X ⊕ Y)} (I : Nat → X → Prop) (Q : Y → Prop) (k : Nat) (hs : ∀ j x, j ≤ k → I j x → (∃ x', B x = some (.inl x') ∧ j < k ∧ I (j + 1) x') ∨ (∃ y, B x = some (.inr y) ∧ Q y)) : ∀ (n a : Nat) (x : X), a ≤ k → k - a < n → I a x → ∃ y, it B n x = some y ∧ Q y
  | 0, a, x, h1, h2, _ => absurd h2 (Nat.not_lt_zero _)
  | n + 1, a, x, h1, h2, hi => by
    rcases hs a x h1 hi with ⟨x', hb, hl, hi'⟩ | ⟨y, hb, hq⟩
    · obtain ⟨y, h3, h4⟩ := it_inv1 I Q k hs n (a + 1) x' hl (by omega) hi'
      exact ⟨y, by rw [it, hb]; exact h3, h4⟩
    · exact ⟨y, by rw [it, hb]; rfl, hq⟩
/-- a loop of at most k turns, told by what holds at its head -/
theorem it_inv {X Y : Type} {B : X → Option (X ⊕ Y)} {x0 : X} (I : Nat → X → Prop) (Q : Y → Prop) (k : Nat) (hk : k < 100000000) (h0 : I 0 x0) (hs : ∀ j x, j ≤ k → I j x → (∃ x', B x = some (.inl x') ∧ j < k ∧ I (j + 1) x') ∨ (∃ y, B x = some (.inr y) ∧ Q y)) : ∃ y, it B FU x0 = some y ∧ Q y :=
  it_inv1 I Q k hs FU 0 x0 (Nat.zero_le _) (by unfold FU; omega) h0
theorem ob_i {α β : Type} {o : Option α} {f : α → Option β} {a : α} {b : β} (h1 : o = some a) (h2 : f a = some b) : o.bind f = some b := by rw [h1]; exact h2
section NUM
variable {α : Type} {a b : Nat} {x y : α}
theorem q_le (h : a ≤ b) (hb : b < 2147483648) : (if nI a ≤ nI b then x else y) = x := if_pos (nI_le h (by omega))
theorem q_nle (h : b < a) (ha : a < 2147483648) : (if nI a ≤ nI b then x else y) = y := if_neg (nI_ge h (by omega))
theorem q_lt (h : a < b) (hb : b < 2147483648) : (if nI a < nI b then x else y) = x := if_pos (nI_lt h (by omega))
theorem q_nlt (h : b ≤ a) (ha : a < 2147483648) : (if nI a < nI b then x else y) = y := if_neg (nI_nlt h (by omega))
theorem q_eq (h : a = b) : (if nI a = nI b then x else y) = x := if_pos (by rw [h])
theorem q_ne (h : a ≠ b) (ha : a < 2147483648) (hb : b < 2147483648) : (if nI a = nI b then x else y) = y := if_neg (fun e => h ((nI_eq (by omega) (by omega)).mp e))
end NUM
theorem m1_toInt : ((-1 : Int32)).toInt = -1 := by decide
theorem nI_nm1 {a : Nat} (h : a < 2147483648) : ¬ nI a = (-1 : Int32) := fun e => by
  have h1 := nI_toInt (n := a) (by omega)
  rw [e, m1_toInt] at h1
  omega
theorem nI_nm5 {a : Nat} (h : a < 2147483648) : ¬ nI a = (-5 : Int32) := fun e => by
  have h1 := nI_toInt (n := a) (by omega)
  rw [e, show ((-5 : Int32)).toInt = -5 by decide] at h1
  omega
theorem q_m1 {α : Type} {a : Nat} {x y : α} (h : a < 2147483648) : (if nI a = (-1 : Int32) then x else y) = y := if_neg (nI_nm1 h)
theorem q_m5 {α : Type} {a : Nat} {x y : α} (h : a < 2147483648) : (if nI a = (-5 : Int32) then x else y) = y := if_neg (nI_nm5 h)
theorem rd_n {α : Type} {n i : Nat} {f : Nat → α} (h : i < n) (hn : n < 2147483648) : rd n f (nI i) = some (f i) := by
  unfold rd
  rw [if_neg (nI_in h (by omega)), nI_clamp (by omega)]
theorem wr_n {n i : Nat} {f : Nat → Int32} {v : Int32} (h : i < n) (hn : n < 2147483648) : wr n f (nI i) v = some (upd f i v) := by
  unfold wr
  rw [if_neg (nI_in h (by omega)), nI_clamp (by omega)]
theorem wrL_n {n i : Nat} {f : Nat → Int64} {v : Int64} (h : i < n) (hn : n < 2147483648) : wrL n f (nI i) v = some (vp_updL f i v) := by
  unfold wrL
  rw [if_neg (nI_in h (by omega)), nI_clamp (by omega)]
theorem ixo_n {n i : Nat} (h : i < n) (hn : n < 2147483648) : ixo n (nI i) = some i := by
  unfold ixo
  rw [if_neg (nI_in h (by omega)), nI_clamp (by omega)]
theorem dvo_n {a d : Nat} (ha : a < 2147483648) (h0 : 0 < d) (hd : d < 2147483648) : dvo (nI a) (nI d) = some (nI (a / d)) := by
  unfold dvo
  rw [if_neg (nI_ne0 h0 (by omega)), pk_div (by omega) h0 (by omega)]
theorem rmo_n {a d : Nat} (ha : a < 2147483648) (h0 : 0 < d) (hd : d < 2147483648) : rmo (nI a) (nI d) = some (nI (a % d)) := by
  unfold rmo
  rw [if_neg (nI_ne0 h0 (by omega)), pk_rem (by omega) h0 (by omega)]
theorem zro_0 : zro (nI 0) = some (nI 0) := by decide
theorem zro_1 : zro (nI 1) = some (nI 1) := by decide
/-- an int is a natural number or below zero -/
theorem i_cases (x : Int32) : (∃ k, k < 2147483648 ∧ x = nI k) ∨ x < nI 0 := by
  by_cases h : x < nI 0
  · exact Or.inr h
  · obtain ⟨j, h1, h2⟩ := nI_of (x := x) h
    exact Or.inl ⟨j, by omega, h2⟩
theorem neg_toInt {x : Int32} (h : x < nI 0) : x.toInt < 0 := by
  have := Int32.lt_iff_toInt_lt.mp h
  rwa [nI_toInt (by omega)] at this
theorem neg_lt {x : Int32} (h : x < nI 0) {a : Nat} (ha : a < 2147483648) : x < nI a := by
  rw [Int32.lt_iff_toInt_lt, nI_toInt (by omega)]
  have := neg_toInt h
  omega
theorem neg_nle {x : Int32} (h : x < nI 0) {a : Nat} (ha : a < 2147483648) : ¬ nI a ≤ x := by
  rw [Int32.le_iff_toInt_le, nI_toInt (by omega)]
  have := neg_toInt h
  omega
theorem neg_ne {x : Int32} (h : x < nI 0) {a : Nat} (ha : a < 2147483648) : ¬ x = nI a := fun e => by
  have := neg_toInt h
  rw [e, nI_toInt (by omega)] at this
  omega
theorem upd_s {f : Nat → Int32} {k : Nat} {x : Int32} : upd f k x k = x := by simp [upd]
theorem upd_n {f : Nat → Int32} {k j : Nat} {x : Int32} (h : j ≠ k) : upd f k x j = f j := by simp [upd, h]
/-- the reference's test of a range, over longs made of ints -/
theorem lg_lt (x y : Int64) : lg_cmp x y < nI 0 ↔ ¬ y ≤ x := by
  rw [← lg_cmp_ge x y]
  exact Int32.not_le.symm
theorem lg_gt (x y : Int64) : nI 0 < lg_cmp x y ↔ ¬ x ≤ y := by
  rw [← lg_cmp_le x y]
  exact Int32.not_le.symm
theorem in_ok (x : Int64) (lo hi : Int64) : fX7_in x lo hi = some (if lo ≤ x ∧ x ≤ hi then nI 1 else nI 0) := by
  unfold fX7_in
  by_cases h1 : lo ≤ x
  · rw [if_neg (fun h => (lg_lt _ _).mp h h1)]
    by_cases h2 : x ≤ hi
    · rw [if_neg (fun h => (lg_gt _ _).mp h h2), if_pos ⟨h1, h2⟩]
    · rw [if_pos ((lg_gt _ _).mpr h2), if_neg (fun h => h2 h.2)]
  · rw [if_pos ((lg_lt _ _).mpr h1), if_neg (fun h => h1 h.1)]
theorem nl_toInt {n : Nat} (h : n < 2147483648) : ((nI n).toInt64).toInt = n := by
  rw [Int32.toInt_toInt64, nI_toInt (by omega)]
theorem ra {n : Nat} {P : Nat → Bool} (h : (List.range n).all P = true) {i : Nat} (hi : i < n) : P i = true := List.all_eq_true.mp h i (List.mem_range.mpr hi)
