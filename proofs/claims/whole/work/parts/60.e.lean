/-! enumeration: every row that is a tree's has a place -/
/-- the number that digits tell, in a base, the first digit the highest -/
def digN (b : Nat) : List Nat → Nat
  | [] => 0
  | d :: l => d * b ^ l.length + digN b l
def treeB : List Nat → Bool
  | [] => true
  | d :: l => decide (d ≤ l.length) && (List.range d).all (fun j => decide (j + l.getD j 0 < d)) && treeB l
def placeB (l : List Nat) : Bool := (List.range (cntF l.length)).any fun k => decide (cdF (fstF l.length + k) = digN 16 l) && decide (dcF (fstF l.length + k) = digN 10 l)
def rowsB : Nat → List (List Nat)
  | 0 => [[]]
  | n + 1 => (List.range (n + 1)).flatMap fun d => (rowsB n).map fun l => d :: l
theorem rows_mem : ∀ (n : Nat) (l : List Nat), l.length = n → treeB l = true → l ∈ rowsB n
  | 0, l, h, _ => by
    cases l with
    | nil => exact List.mem_singleton.mpr rfl
    | cons d l => simp at h
  | n + 1, l, h, ht => by
    cases l with
    | nil => simp at h
    | cons d l =>
      have hl : l.length = n := by simpa using h
      simp only [treeB, Bool.and_eq_true, decide_eq_true_eq] at ht
      exact List.mem_flatMap.mpr ⟨d, List.mem_range.mpr (by omega), List.mem_map.mpr ⟨l, rows_mem n l hl ht.2, rfl⟩⟩
theorem k_enum : (List.range 8).all (fun n => (rowsB n).all fun l => !(treeB l) || decide (n = 0) || placeB l) = true := by decide +kernel
theorem enum_ok (l : List Nat) (h7 : l.length ≤ 7) (h0 : 0 < l.length) (ht : treeB l = true) : ∃ p, 0 < p ∧ p < 626 ∧ szF p = l.length ∧ cdF p = digN 16 l ∧ dcF p = digN 10 l := by
  have h1 := List.all_eq_true.mp (ra k_enum (show l.length < 8 by omega)) l (rows_mem _ l rfl ht)
  simp only [ht, Bool.not_true, Bool.false_or, Bool.or_eq_true, decide_eq_true_eq] at h1
  rcases h1 with h1 | h1
  · omega
  · obtain ⟨k, hk, h2⟩ := List.any_eq_true.mp h1
    simp only [Bool.and_eq_true, decide_eq_true_eq] at h2
    have hk := List.mem_range.mp hk
    have hf := fst_lt l.length (by omega)
    unfold cntF at hk
    exact ⟨fstF l.length + k, by omega, by omega, sz_of (by omega) (by omega) (by omega) (by omega), h2.1, h2.2⟩
