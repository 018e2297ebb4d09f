theorem vis2_ok {full : Bool} {n a i c v : Nat} {s : (Nat → Option Nat) × (Nat → Nat) × Nat} (h0 : 0 < n) (h7 : n < 8) (H : BI full n a s.1 s.2.1 s.2.2) (H7 : BI7 s.1 s.2.1 s.2.2 i) (hv : s.2.1 i = v) (hc : c < n) : BI full n a (vis2 full (fstF n) v c s).1 (vis2 full (fstF n) v c s).2.1 (vis2 full (fstF n) v c s).2.2 ∧ BI7 (vis2 full (fstF n) v c s).1 (vis2 full (fstF n) v c s).2.1 (vis2 full (fstF n) v c s).2.2 i ∧ EXT s (vis2 full (fstF n) v c s) ∧ EDG (fstF n) v (upF (fstF n + v) c) (vis2 full (fstF n) v c s).1 ∧ (full = true → EDG (fstF n) v (bkF (fstF n + v) c) (vis2 full (fstF n) v c s).1) := by
  subst hv
  obtain ⟨A1, A2, A3, A4, -⟩ := vis_ok (w := upF (fstF n + s.2.1 i) c) h0 h7 H H7 (Or.inr ⟨c, hc, Or.inl rfl⟩)
  cases full with
  | false => exact ⟨A1, A2, A3, A4, fun h => by cases h⟩
  | true =>
    have eQ := A3.2.1 i H7.1
    have B := vis_ok (w := bkF (fstF n + s.2.1 i) c) h0 h7 A1 A2 (Or.inr ⟨c, hc, Or.inr ⟨rfl, by rw [eQ]⟩⟩)
    rw [eQ] at B
    obtain ⟨B1, B2, B3, B4, -⟩ := B
    exact ⟨B1, B2, A3.tr B3, A4.up B3, fun _ => B4⟩
theorem visN_ok {full : Bool} {n a i v : Nat} {s : (Nat → Option Nat) × (Nat → Nat) × Nat} (h0 : 0 < n) (h7 : n < 8) (H : BI full n a s.1 s.2.1 s.2.2) (H7 : BI7 s.1 s.2.1 s.2.2 i) (hv : s.2.1 i = v) : ∀ c, c ≤ n → BI full n a (visN full (fstF n) v s c).1 (visN full (fstF n) v s c).2.1 (visN full (fstF n) v s c).2.2 ∧ BI7 (visN full (fstF n) v s c).1 (visN full (fstF n) v s c).2.1 (visN full (fstF n) v s c).2.2 i ∧ EXT s (visN full (fstF n) v s c) ∧ ∀ c', c' < c → EDG (fstF n) v (upF (fstF n + v) c') (visN full (fstF n) v s c).1 ∧ (full = true → EDG (fstF n) v (bkF (fstF n + v) c') (visN full (fstF n) v s c).1)
  | 0, _ => ⟨H, H7, EXT.rf _, fun c' h => absurd h (Nat.not_lt_zero _)⟩
  | c + 1, hc => by
    obtain ⟨A1, A2, A3, A4⟩ := visN_ok h0 h7 H H7 hv c (by omega)
    obtain ⟨B1, B2, B3, B4, B5⟩ := vis2_ok h0 h7 A1 A2 ((A3.2.1 i H7.1).trans hv) (show c < n by omega)
    refine ⟨B1, B2, A3.tr B3, fun c' h => ?_⟩
    rcases Nat.lt_or_ge c' c with z | z
    · exact ⟨(A4 c' z).1.up B3, fun hf => ((A4 c' z).2 hf).up B3⟩
    · rw [show c' = c by omega]
      exact ⟨B4, B5⟩
theorem cU_all : ∀ c, cU (fun _ => none) c = c
  | 0 => rfl
  | c + 1 => by rw [cU, cU_all c, if_pos rfl]
theorem bi_0 {full : Bool} {n a : Nat} (ha : a < cntF n) : BI full n a (bf full n a 0).1 (bf full n a 0).2.1 (bf full n a 0).2.2 := by
  have hu := cU_upd (D := fun _ => none) (k := a) (m := 0) rfl (cntF n) ha
  rw [cU_all] at hu
  have hs : updO (fun _ => none) a (some 0) a = some 0 := uo_s
  refine ⟨?_, fun j hj => ⟨ha, 0, Nat.zero_le _, hs⟩, fun k hk m hm => ⟨0, Nat.lt_succ_self 0, ?_⟩, fun k hk m hm => ?_, fun i j m l _ _ h1 h2 => ?_, hs, fun k hk => ?_⟩
  · show 1 + cU (updO (fun _ => none) a (some 0)) (cntF n) = cntF n
    omega
  · show a = k
    by_cases e : k = a
    · exact e.symm
    · have hm' : updO (fun _ => none) a (some 0) k = some m := hm
      rw [uo_n e] at hm'
      cases hm'
  · have hm' : updO (fun _ => none) a (some 0) k = some (m + 1) := hm
    by_cases e : k = a
    · rw [e, uo_s] at hm'
      cases hm'
    · rw [uo_n e] at hm'
      cases hm'
  · have h1' : updO (fun _ => none) a (some 0) a = some m := h1
    rw [uo_s] at h1'
    have := Option.some.inj h1'
    omega
  · have hk' : updO (fun _ => none) a (some 0) k = some 0 := hk
    by_cases e : k = a
    · exact e
    · rw [uo_n e] at hk'
      cases hk'
def CLD (full : Bool) (n i : Nat) (s : (Nat → Option Nat) × (Nat → Nat) × Nat) : Prop := ∀ j, j < i → ∀ c, c < n → EDG (fstF n) (s.2.1 j) (upF (fstF n + s.2.1 j) c) s.1 ∧ (full = true → EDG (fstF n) (s.2.1 j) (bkF (fstF n + s.2.1 j) c) s.1)
theorem bf_ok {full : Bool} {n a : Nat} (h0 : 0 < n) (h7 : n < 8) (ha : a < cntF n) : ∀ i, (∀ j, j < i → j < (bf full n a j).2.2) → BI full n a (bf full n a i).1 (bf full n a i).2.1 (bf full n a i).2.2 ∧ (i < (bf full n a i).2.2 → BI7 (bf full n a i).1 (bf full n a i).2.1 (bf full n a i).2.2 i) ∧ CLD full n i (bf full n a i) ∧ i ≤ (bf full n a i).2.2
  | 0, _ => by
    refine ⟨bi_0 ha, fun h => ⟨h, fun j m l hj h1 h2 => ?_⟩, fun j hj => absurd hj (Nat.not_lt_zero _), Nat.zero_le _⟩
    have h2' : updO (fun _ => none) a (some 0) a = some l := h2
    rw [uo_s] at h2'
    have := Option.some.inj h2'
    omega
  | i + 1, hall => by
    obtain ⟨A1, A2, A3, A4⟩ := bf_ok h0 h7 ha i (fun j hj => hall j (by omega))
    have hi := hall i (by omega)
    obtain ⟨B1, B2, B3, B4⟩ := visN_ok h0 h7 A1 (A2 hi) rfl n (Nat.le_refl _)
    refine ⟨B1, fun h => ⟨h, fun j m l hj h1 h2 => ?_⟩, fun j hj c hc => ?_, ?_⟩
    · obtain ⟨hv, mi, _, hmi⟩ := B1.b2 i B2.1
      have e1 := B1.b5 i (i + 1) mi m (by omega) h hmi h1
      have e2 := B2.2 j mi l hj hmi h2
      omega
    · have ej : (bf full n a (i + 1)).2.1 j = (bf full n a i).2.1 j := B3.2.1 j (by omega)
      rw [ej]
      rcases Nat.lt_or_ge j i with z | z
      · exact ⟨(A3 j z c hc).1.up B3, fun hf => ((A3 j z c hc).2 hf).up B3⟩
      · rw [show j = i by omega]
        exact B4 c hc
    · have := B2.1
      exact this
/-- the last state: nothing waits -/
def BFE (full : Bool) (n a i : Nat) : Prop := (∀ j, j < i → j < (bf full n a j).2.2) ∧ (bf full n a i).2.2 ≤ i
theorem bfe_un {full : Bool} {n a i j : Nat} (h : BFE full n a i) (g : BFE full n a j) : i = j := by
  rcases Nat.lt_trichotomy i j with z | z | z
  · have := g.1 i z
    have := h.2
    omega
  · exact z
  · have := h.1 j z
    have := g.2
    omega
theorem bfe_ok {full : Bool} {n a i : Nat} (h0 : 0 < n) (h7 : n < 8) (ha : a < cntF n) (h : BFE full n a i) : BI full n a (bf full n a i).1 (bf full n a i).2.1 (bf full n a i).2.2 ∧ ∀ k m, k < cntF n → (bf full n a i).1 k = some m → m < 429 ∧ ∀ c, c < n → EDG (fstF n) k (upF (fstF n + k) c) (bf full n a i).1 ∧ (full = true → EDG (fstF n) k (bkF (fstF n + k) c) (bf full n a i).1) := by
  obtain ⟨A1, A2, A3, A4⟩ := bf_ok h0 h7 ha i h.1
  refine ⟨A1, fun k m hk hm => ?_⟩
  obtain ⟨j, hj, hq⟩ := A1.b3 k hk m hm
  obtain ⟨_, l, hl, hDl⟩ := A1.b2 j hj
  rw [hq, hm] at hDl
  have el := Option.some.inj hDl
  have hb := A1.b1
  have hc := cnt_le n h7
  refine ⟨by omega, fun c hc => ?_⟩
  have := A3 j (by have := h.2; omega) c hc
  rw [hq] at this
  exact this
/-- by turns up and down all are reached -/
theorem bfe_all {n a i : Nat} (h0 : 0 < n) (h7 : n < 8) (ha : a < cntF n) (h : BFE true n a i) : ∀ k, k < cntF n → ∃ m, m < 429 ∧ (bf true n a i).1 k = some m := by
  obtain ⟨A1, A2⟩ := bfe_ok h0 h7 ha h
  have hf := fst_lt n h7
  have hc := cnt_le n h7
  have down : ∀ k, k < cntF n → (∃ m, (bf true n a i).1 k = some m) → ∃ m, (bf true n a i).1 0 = some m := by
    intro k
    induction k using Nat.strongRecOn with
    | ind k ih =>
      intro hk hm
      obtain ⟨m, hm⟩ := hm
      by_cases e : k = 0
      · exact ⟨m, by rw [← e]; exact hm⟩
      · obtain ⟨z0, z1, z2⟩ := pl_ok h0 h7 hk
        obtain ⟨c, hc1, hc2⟩ := dn_at z0 z1 (by rw [z2]; omega)
        rw [z2] at hc1
        obtain ⟨b1, b2, b3⟩ := bk_ok z0 z1 (by omega) hc2
        have hpl := pl_ix (show 0 < bkF (fstF n + k) c by omega) (by omega)
        rw [b2, z2] at hpl
        obtain ⟨m1, l, e1, e2, e3⟩ := ((A2 k m hk hm).2 c hc1).2 rfl hc2
        exact ih (bkF (fstF n + k) c - fstF n) (by omega) hpl.1 ⟨l, e2⟩
  have h00 := down a ha ⟨0, A1.b6⟩
  intro k
  induction k using Nat.strongRecOn with
  | ind k ih =>
    intro hk
    by_cases e : k = 0
    · rw [e]
      obtain ⟨m, hm⟩ := h00
      exact ⟨m, (A2 0 m (by omega) hm).1, hm⟩
    · obtain ⟨z0, z1, z2⟩ := pl_ok h0 h7 hk
      obtain ⟨c, hc1, hc2⟩ := dn_at z0 z1 (by rw [z2]; omega)
      rw [z2] at hc1
      obtain ⟨b1, b2, b3⟩ := bk_ok z0 z1 (by omega) hc2
      have hpl := pl_ix (show 0 < bkF (fstF n + k) c by omega) (by omega)
      rw [b2, z2] at hpl
      obtain ⟨m, hm1, hm2⟩ := ih (bkF (fstF n + k) c - fstF n) (by omega) hpl.1
      have := ((A2 _ m hpl.1 hm2).2 c hc1).1
      rw [hpl.2, b3] at this
      obtain ⟨m1, l, e1, e2, e3⟩ := this (by omega)
      rw [show fstF n + k - fstF n = k by omega] at e2
      exact ⟨l, (A2 k l hk e2).1, e2⟩
