/-! reading: the class's stack and the reference's recursion -/
def stp {X Y : Type} (B : X → Option (X ⊕ Y)) : Nat → X → Option X
  | 0, x => some x
  | k + 1, x => match B x with
    | some (.inl y) => stp B k y
    | _ => none
theorem stp_1 {X Y : Type} {B : X → Option (X ⊕ Y)} {x y z : X} {k : Nat} (h : B x = some (.inl y)) (g : stp B k y = some z) : stp B (k + 1) x = some z := by
  rw [stp, h]
  exact g
theorem stp_add {X Y : Type} {B : X → Option (X ⊕ Y)} : ∀ (k l : Nat) (x y z : X), stp B k x = some y → stp B l y = some z → stp B (k + l) x = some z
  | 0, l, x, y, z, h, g => by
    rw [stp] at h
    have e := Option.some.inj h
    subst e
    rw [Nat.zero_add]
    exact g
  | k + 1, l, x, y, z, h, g => by
    rw [stp] at h
    rw [show k + 1 + l = (k + l) + 1 by omega, stp]
    split at h
    · next w hw => exact stp_add k l w y z h g
    · cases h
theorem stp_it {X Y : Type} {B : X → Option (X ⊕ Y)} {r : Y} : ∀ (k n : Nat) (x y : X), stp B k x = some y → it B (n + 1) y = some r → it B (n + 1 + k) x = some r
  | 0, n, x, y, h, g => by
    rw [stp] at h
    have e := Option.some.inj h
    subst e
    exact g
  | k + 1, n, x, y, h, g => by
    rw [stp] at h
    split at h
    · next w hw =>
      rw [show n + 1 + (k + 1) = (n + 1 + k) + 1 by omega, it, hw]
      exact stp_it k n w y h g
    · cases h
theorem stp_go {X Y : Type} {B : X → Option (X ⊕ Y)} {k : Nat} {x y : X} {r : Y} (hk : k < 1000) (h : stp B k x = some y) (g : B y = some (.inr r)) : it B FU x = some r := by
  have e : FU = (FU - k - 1) + 1 + k := by unfold FU; omega
  rw [e]
  refine stp_it k _ x y h ?_
  rw [it, g]
  rfl
/-- the end of a part below the frame o - 1 -/
def ES (o : Nat) (aw on : Nat → Int32) (num : Nat) : (Nat → Int32) × (Nat → Int32) × Nat :=
  if o = 0 then (aw, on, num) else if aw (o - 1) = nI 0 then (upd aw (o - 1) (nI 1), upd on (o - 1) (nI num), num + 1) else (upd aw (o - 1) (nI 2), on, num)
theorem c_ES {o num : Nat} {aw on : Nat → Int32} (ho : o ≤ 7) (hn : num < 100) : fX4_endSubtree aw on (nI o) (nI num) = some ((ES o aw on num).1, (ES o aw on num).2.1, nI (ES o aw on num).2.2) := by
  unfold fX4_endSubtree ES
  by_cases h : o = 0
  · rw [h]
    simp (disch := omega) only [Option.bind_some, Sum.elim_inl, Sum.elim_inr, q_le, q_nle, q_lt, q_nlt, q_eq, q_ne, q_m1, q_m5, rd_n, wr_n, ixo_n, dvo_n, rmo_n, nI_add, pk_sub, pk_mul, if_true, if_false]
  · rw [if_neg h]
    by_cases h2 : aw (o - 1) = nI 0
    · simp (disch := omega) only [Option.bind_some, Sum.elim_inl, Sum.elim_inr, q_le, q_nle, q_lt, q_nlt, q_eq, q_ne, q_m1, q_m5, rd_n, wr_n, ixo_n, dvo_n, rmo_n, nI_add, pk_sub, pk_mul, if_true, if_false, h2]
    · simp (disch := omega) only [Option.bind_some, Sum.elim_inl, Sum.elim_inr, q_le, q_nle, q_lt, q_nlt, q_eq, q_ne, q_m1, q_m5, rd_n, wr_n, ixo_n, dvo_n, rmo_n, nI_add, pk_sub, pk_mul, if_true, if_false, if_neg h2]
theorem c_awNow {o : Nat} {aw : Nat → Int32} (ho : o ≤ 7) : fX4_awaitedNow aw (nI o) = some (if o = 0 then nI 2 else aw (o - 1)) := by
  unfold fX4_awaitedNow
  by_cases h : o = 0
  · rw [h]
    simp (disch := omega) only [Option.bind_some, Sum.elim_inl, Sum.elim_inr, q_le, q_nle, q_lt, q_nlt, q_eq, q_ne, q_m1, q_m5, rd_n, wr_n, ixo_n, dvo_n, rmo_n, nI_add, pk_sub, pk_mul, if_true, if_false]
  · simp (disch := omega) only [Option.bind_some, Sum.elim_inl, Sum.elim_inr, q_le, q_nle, q_lt, q_nlt, q_eq, q_ne, q_m1, q_m5, rd_n, wr_n, ixo_n, dvo_n, rmo_n, nI_add, pk_sub, pk_mul, if_true, if_false]
    rw [if_neg h]
theorem c_open {o opd : Nat} {aw : Nat → Int32} (ho : o ≤ opd) (hopd : opd < 7) (h : opd = 0 ∨ (0 < o ∧ ¬ aw (o - 1) = nI 2)) : fX4_opensNode aw (nI o) (nI opd) = some (nI 1, upd aw o (nI 0), nI (o + 1), nI (opd + 1)) := by
  unfold fX4_opensNode fX4_opensNode_J12 fX4_opensNode_J45
  rcases h with h | ⟨h1, h2⟩
  · rw [h]
    have e : o = 0 := by omega
    rw [e]
    simp (disch := omega) only [Option.bind_some, Sum.elim_inl, Sum.elim_inr, q_le, q_nle, q_lt, q_nlt, q_eq, q_ne, q_m1, q_m5, rd_n, wr_n, ixo_n, dvo_n, rmo_n, nI_add, pk_sub, pk_mul, if_true, if_false]
  · have e : ¬ o = 0 := by omega
    simp (disch := omega) only [Option.bind_some, Sum.elim_inl, Sum.elim_inr, q_le, q_nle, q_lt, q_nlt, q_eq, q_ne, q_m1, q_m5, rd_n, wr_n, ixo_n, dvo_n, rmo_n, nI_add, pk_sub, pk_mul, if_true, if_false, c_awNow (show o ≤ 7 by omega), if_neg e, if_neg h2]
theorem c_open7 {o : Nat} {aw : Nat → Int32} (ho : o ≤ 7) : fX4_opensNode aw (nI o) (nI 7) = some (nI 0, aw, nI o, nI 7) := by
  unfold fX4_opensNode fX4_opensNode_J12
  simp (disch := omega) only [Option.bind_some, Sum.elim_inl, Sum.elim_inr, q_le, q_nle, q_lt, q_nlt, q_eq, q_ne, q_m1, q_m5, rd_n, wr_n, ixo_n, dvo_n, rmo_n, nI_add, pk_sub, pk_mul, if_true, if_false]
theorem c_openNo {o opd : Nat} {aw : Nat → Int32} (ho : o ≤ opd) (hopd : opd ≤ 7) (h : 0 < opd) (h2 : o = 0 ∨ aw (o - 1) = nI 2) : fX4_opensNode aw (nI o) (nI opd) = some (nI 0, aw, nI o, nI opd) := by
  unfold fX4_opensNode fX4_opensNode_J12
  have hn : fX4_awaitedNow aw (nI o) = some (nI 2) := by
    rw [c_awNow (by omega)]
    by_cases e : o = 0
    · rw [if_pos e]
    · rw [if_neg e]
      exact congrArg some (h2.resolve_left e)
  by_cases h7 : opd = 7
  · rw [h7]
    simp (disch := omega) only [Option.bind_some, Sum.elim_inl, Sum.elim_inr, q_le, q_nle, q_lt, q_nlt, q_eq, q_ne, q_m1, q_m5, rd_n, wr_n, ixo_n, dvo_n, rmo_n, nI_add, pk_sub, pk_mul, if_true, if_false]
  · simp (disch := omega) only [Option.bind_some, Sum.elim_inl, Sum.elim_inr, q_le, q_nle, q_lt, q_nlt, q_eq, q_ne, q_m1, q_m5, rd_n, wr_n, ixo_n, dvo_n, rmo_n, nI_add, pk_sub, pk_mul, if_true, if_false, hn]
