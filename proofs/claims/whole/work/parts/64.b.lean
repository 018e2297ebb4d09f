/-! going out from a tree by turns, first come first served: the common ground of both programs -/
def oI : Option Nat → Int32
  | none => (-1 : Int32)
  | some m => nI m
def updO (D : Nat → Option Nat) (k : Nat) (v : Option Nat) : Nat → Option Nat := fun j => if j = k then v else D j
def updN (Q : Nat → Nat) (k v : Nat) : Nat → Nat := fun j => if j = k then v else Q j
theorem uo_s {D : Nat → Option Nat} {k : Nat} {v : Option Nat} : updO D k v k = v := if_pos rfl
theorem uo_n {D : Nat → Option Nat} {k j : Nat} {v : Option Nat} (h : j ≠ k) : updO D k v j = D j := if_neg h
theorem un_s {Q : Nat → Nat} {k v : Nat} : updN Q k v k = v := if_pos rfl
theorem un_n {Q : Nat → Nat} {k j v : Nat} (h : j ≠ k) : updN Q k v j = Q j := if_neg h
def vis (f v w : Nat) (s : (Nat → Option Nat) × (Nat → Nat) × Nat) : (Nat → Option Nat) × (Nat → Nat) × Nat :=
  if w = 0 then s else if s.1 (w - f) = none then (updO s.1 (w - f) (some ((s.1 v).getD 0 + 1)), updN s.2.1 s.2.2 (w - f), s.2.2 + 1) else s
def vis2 (full : Bool) (f v c : Nat) (s : (Nat → Option Nat) × (Nat → Nat) × Nat) : (Nat → Option Nat) × (Nat → Nat) × Nat :=
  if full then vis f v (bkF (f + v) c) (vis f v (upF (f + v) c) s) else vis f v (upF (f + v) c) s
def visN (full : Bool) (f v : Nat) (s : (Nat → Option Nat) × (Nat → Nat) × Nat) : Nat → (Nat → Option Nat) × (Nat → Nat) × Nat
  | 0 => s
  | c + 1 => vis2 full f v c (visN full f v s c)
def bf (full : Bool) (n a : Nat) : Nat → (Nat → Option Nat) × (Nat → Nat) × Nat
  | 0 => (updO (fun _ => none) a (some 0), fun _ => a, 1)
  | i + 1 => visN full (fstF n) ((bf full n a i).2.1 i) (bf full n a i) n
/-- how many are not reached -/
def cU (D : Nat → Option Nat) : Nat → Nat
  | 0 => 0
  | k + 1 => cU D k + (if D k = none then 1 else 0)
theorem cU_c {D E : Nat → Option Nat} : ∀ c, (∀ j, j < c → D j = E j) → cU D c = cU E c
  | 0, _ => rfl
  | c + 1, h => by rw [cU, cU, cU_c c (fun j hj => h j (by omega)), h c (by omega)]
theorem cU_upd {D : Nat → Option Nat} {k m : Nat} (hk : D k = none) : ∀ c, k < c → cU (updO D k (some m)) c + 1 = cU D c
  | 0, h => absurd h (Nat.not_lt_zero _)
  | c + 1, h => by
    rw [cU, cU]
    by_cases e : k = c
    · subst e
      rw [uo_s, hk, cU_c (E := D) k (fun j hj => uo_n (by omega))]
      simp
    · rw [uo_n (by omega)]
      have := cU_upd (m := m) hk c (by omega)
      omega
theorem cU_pos {D : Nat → Option Nat} {k : Nat} (hk : D k = none) {c : Nat} (h : k < c) : 0 < cU D c := by
  have := cU_upd (m := 0) hk c h
  omega
/-- a neighbour, by a turn up, or also down -/
def nbr (full : Bool) (n k w : Nat) : Prop := ∃ c, c < n ∧ (upF (fstF n + k) c = w ∨ (full = true ∧ bkF (fstF n + k) c = w))
def BI (full : Bool) (n a : Nat) (D : Nat → Option Nat) (Q : Nat → Nat) (h : Nat) : Prop :=
  (h + cU D (cntF n) = cntF n) ∧
  (∀ j, j < h → Q j < cntF n ∧ ∃ m, m ≤ j ∧ D (Q j) = some m) ∧
  (∀ k, k < cntF n → ∀ m, D k = some m → ∃ j, j < h ∧ Q j = k) ∧
  (∀ k, k < cntF n → ∀ m, D k = some (m + 1) → ∃ x, x < cntF n ∧ D x = some m ∧ nbr full n x (fstF n + k)) ∧
  (∀ i j m l, i ≤ j → j < h → D (Q i) = some m → D (Q j) = some l → m ≤ l) ∧
  (D a = some 0) ∧
  (∀ k, D k = some 0 → k = a)
theorem BI.b1 {full : Bool} {n a : Nat} {D : Nat → Option Nat} {Q : Nat → Nat} {h : Nat} (H : BI full n a D Q h) : h + cU D (cntF n) = cntF n := H.1
theorem BI.b2 {full : Bool} {n a : Nat} {D : Nat → Option Nat} {Q : Nat → Nat} {h : Nat} (H : BI full n a D Q h) : ∀ j, j < h → Q j < cntF n ∧ ∃ m, m ≤ j ∧ D (Q j) = some m := H.2.1
theorem BI.b3 {full : Bool} {n a : Nat} {D : Nat → Option Nat} {Q : Nat → Nat} {h : Nat} (H : BI full n a D Q h) : ∀ k, k < cntF n → ∀ m, D k = some m → ∃ j, j < h ∧ Q j = k := H.2.2.1
theorem BI.b4 {full : Bool} {n a : Nat} {D : Nat → Option Nat} {Q : Nat → Nat} {h : Nat} (H : BI full n a D Q h) : ∀ k, k < cntF n → ∀ m, D k = some (m + 1) → ∃ x, x < cntF n ∧ D x = some m ∧ nbr full n x (fstF n + k) := H.2.2.2.1
theorem BI.b5 {full : Bool} {n a : Nat} {D : Nat → Option Nat} {Q : Nat → Nat} {h : Nat} (H : BI full n a D Q h) : ∀ i j m l, i ≤ j → j < h → D (Q i) = some m → D (Q j) = some l → m ≤ l := H.2.2.2.2.1
theorem BI.b6 {full : Bool} {n a : Nat} {D : Nat → Option Nat} {Q : Nat → Nat} {h : Nat} (H : BI full n a D Q h) : D a = some 0 := H.2.2.2.2.2.1
theorem BI.b7 {full : Bool} {n a : Nat} {D : Nat → Option Nat} {Q : Nat → Nat} {h : Nat} (H : BI full n a D Q h) : ∀ k, D k = some 0 → k = a := H.2.2.2.2.2.2
def BI7 (D : Nat → Option Nat) (Q : Nat → Nat) (h i : Nat) : Prop := i < h ∧ ∀ j m l, j < h → D (Q i) = some m → D (Q j) = some l → l ≤ m + 1
def EXT (s t : (Nat → Option Nat) × (Nat → Nat) × Nat) : Prop := (∀ k m, s.1 k = some m → t.1 k = some m) ∧ (∀ j, j < s.2.2 → t.2.1 j = s.2.1 j) ∧ s.2.2 ≤ t.2.2
theorem EXT.rf (s : (Nat → Option Nat) × (Nat → Nat) × Nat) : EXT s s := ⟨fun _ _ h => h, fun _ _ => rfl, Nat.le_refl _⟩
theorem EXT.tr {s t u : (Nat → Option Nat) × (Nat → Nat) × Nat} (h : EXT s t) (g : EXT t u) : EXT s u := ⟨fun k m e => g.1 k m (h.1 k m e), fun j hj => (g.2.1 j (Nat.lt_of_lt_of_le hj h.2.2)).trans (h.2.1 j hj), Nat.le_trans h.2.2 g.2.2⟩
/-- the neighbour w of v is reached, no farther than one turn more -/
def EDG (f v w : Nat) (D : Nat → Option Nat) : Prop := w ≠ 0 → ∃ m l, D v = some m ∧ D (w - f) = some l ∧ l ≤ m + 1
theorem EDG.up {f v w : Nat} {s t : (Nat → Option Nat) × (Nat → Nat) × Nat} (h : EDG f v w s.1) (e : EXT s t) : EDG f v w t.1 := fun hw => by
  obtain ⟨m, l, h1, h2, h3⟩ := h hw
  exact ⟨m, l, e.1 _ _ h1, e.1 _ _ h2, h3⟩
theorem nb_ok {full : Bool} {n k w : Nat} (h0 : 0 < n) (h7 : n < 8) (hk : k < cntF n) (hw : nbr full n k w) (hw0 : w ≠ 0) : ∃ x, x < cntF n ∧ w = fstF n + x ∧ 0 < w ∧ w < 626 ∧ szF w = n := by
  obtain ⟨z0, z1, z2⟩ := pl_ok h0 h7 hk
  obtain ⟨c, hc, hh⟩ := hw
  have hs : w < 626 ∧ szF w = n := by
    rcases hh with rfl | ⟨_, rfl⟩
    · have := up_ok z0 z1 (by omega) hw0
      exact ⟨by omega, by omega⟩
    · have := bk_ok z0 z1 (by omega) hw0
      exact ⟨by omega, by omega⟩
  have h1 := pl_ix (show 0 < w by omega) hs.1
  rw [hs.2] at h1
  exact ⟨w - fstF n, h1.1, h1.2.symm, by omega, hs.1, hs.2⟩
theorem vis_ok {full : Bool} {n a i w : Nat} {s : (Nat → Option Nat) × (Nat → Nat) × Nat} (h0 : 0 < n) (h7 : n < 8) (H : BI full n a s.1 s.2.1 s.2.2) (H7 : BI7 s.1 s.2.1 s.2.2 i) (hw : w = 0 ∨ nbr full n (s.2.1 i) w) : BI full n a (vis (fstF n) (s.2.1 i) w s).1 (vis (fstF n) (s.2.1 i) w s).2.1 (vis (fstF n) (s.2.1 i) w s).2.2 ∧ BI7 (vis (fstF n) (s.2.1 i) w s).1 (vis (fstF n) (s.2.1 i) w s).2.1 (vis (fstF n) (s.2.1 i) w s).2.2 i ∧ EXT s (vis (fstF n) (s.2.1 i) w s) ∧ EDG (fstF n) (s.2.1 i) w (vis (fstF n) (s.2.1 i) w s).1 ∧ (w ≠ 0 → s.1 (w - fstF n) = none → s.2.2 < cntF n ∧ w - fstF n < cntF n) := by
  obtain ⟨D, Q, h⟩ := s
  dsimp only at *
  obtain ⟨hi, h7b⟩ := H7
  obtain ⟨hv, m, hmi, hDv⟩ := H.b2 i hi
  by_cases hw0 : w = 0
  · have e : vis (fstF n) (Q i) w (D, Q, h) = (D, Q, h) := if_pos hw0
    rw [e]
    exact ⟨H, ⟨hi, h7b⟩, EXT.rf _, fun h => absurd hw0 h, fun h => absurd hw0 h⟩
  · have hnb := hw.resolve_left hw0
    obtain ⟨x, hx, rfl, -, -, -⟩ := nb_ok h0 h7 hv hnb hw0
    have ex : fstF n + x - fstF n = x := by omega
    by_cases hD : D x = none
    · have e : vis (fstF n) (Q i) (fstF n + x) (D, Q, h) = (updO D x (some (m + 1)), updN Q h x, h + 1) := by
        unfold vis
        rw [if_neg hw0]
        dsimp only
        rw [ex, if_pos hD, hDv]
        rfl
      rw [e, ex]
      have hp := cU_pos hD hx
      have hu := cU_upd (m := m + 1) hD (cntF n) hx
      have hb1 := H.b1
      have hne : ∀ j, j < h → Q j ≠ x := fun j hj e => by
        obtain ⟨_, l, _, hl⟩ := H.b2 j hj
        rw [e, hD] at hl
        cases hl
      have hxa : x ≠ a := fun e => by
        have := H.b6
        rw [← e, hD] at this
        cases this
      have keep : ∀ k l, D k = some l → updO D x (some (m + 1)) k = some l := fun k l hk => by
        rw [uo_n (fun e => by rw [e, hD] at hk; cases hk)]
        exact hk
      have dq : ∀ j, j < h → updO D x (some (m + 1)) (updN Q h x j) = D (Q j) := fun j hj => by
        rw [un_n (by omega), uo_n (hne j hj)]
      have dh : updO D x (some (m + 1)) (updN Q h x h) = some (m + 1) := by rw [un_s, uo_s]
      refine ⟨⟨by dsimp only; omega, fun j hj => ?_, fun k hk l hl => ?_, fun k hk l hl => ?_, fun p q l1 l2 hpq hq h1 h2 => ?_, keep _ _ H.b6, fun k hk => ?_⟩, ⟨by dsimp only; omega, fun j l1 l2 hj h1 h2 => ?_⟩, ⟨keep, fun j hj => un_n (Nat.ne_of_lt hj), Nat.le_succ _⟩, fun _ => ⟨m, m + 1, keep _ _ hDv, ?_, Nat.le_refl _⟩, fun _ _ => ⟨by omega, hx⟩⟩
      · dsimp only at hj ⊢
        rcases Nat.lt_or_ge j h with z | z
        · rw [dq j z, un_n (by omega)]
          exact H.b2 j z
        · have ej : j = h := by omega
          subst ej
          rw [dh, un_s]
          exact ⟨hx, m + 1, by omega, rfl⟩
      · dsimp only at hl ⊢
        by_cases e : k = x
        · exact ⟨h, by omega, by rw [un_s, e]⟩
        · rw [uo_n e] at hl
          obtain ⟨j, hj, hq⟩ := H.b3 k hk l hl
          exact ⟨j, by omega, by rw [un_n (by omega)]; exact hq⟩
      · dsimp only at hl ⊢
        by_cases e : k = x
        · subst e
          rw [uo_s] at hl
          have el : m = l := by
            have := Option.some.inj hl
            omega
          subst el
          exact ⟨Q i, hv, keep _ _ hDv, hnb⟩
        · rw [uo_n e] at hl
          obtain ⟨y, y1, y2, y3⟩ := H.b4 k hk l hl
          exact ⟨y, y1, keep _ _ y2, y3⟩
      · dsimp only at hq h1 h2
        rcases Nat.lt_or_ge q h with z | z
        · rw [dq q z] at h2
          rw [dq p (by omega)] at h1
          exact H.b5 p q l1 l2 hpq z h1 h2
        · have eq : q = h := by omega
          subst eq
          rw [dh] at h2
          have el := Option.some.inj h2
          rcases Nat.lt_or_ge p q with z2 | z2
          · rw [dq p z2] at h1
            have := h7b p m l1 z2 hDv h1
            omega
          · have ep : p = q := by omega
            subst ep
            rw [dh] at h1
            have := Option.some.inj h1
            omega
      · dsimp only at hk
        by_cases e : k = x
        · subst e
          rw [uo_s] at hk
          cases hk
        · rw [uo_n e] at hk
          exact H.b7 k hk
      · dsimp only at hj h1 h2
        rw [dq i hi, hDv] at h1
        have e1 := Option.some.inj h1
        rcases Nat.lt_or_ge j h with z | z
        · rw [dq j z] at h2
          have := h7b j m l2 z hDv h2
          omega
        · have ej : j = h := by omega
          subst ej
          rw [dh] at h2
          have := Option.some.inj h2
          omega
      · dsimp only
        rw [ex, uo_s]
    · have e : vis (fstF n) (Q i) (fstF n + x) (D, Q, h) = (D, Q, h) := by
        unfold vis
        rw [if_neg hw0]
        dsimp only
        rw [ex, if_neg hD]
      rw [e]
      refine ⟨H, ⟨hi, h7b⟩, EXT.rf _, fun _ => ?_, fun _ h => absurd (by rw [ex] at h; exact h) hD⟩
      cases hDx : D x with
      | none => exact absurd hDx hD
      | some l =>
        obtain ⟨j, hj, hq⟩ := H.b3 x hx l hDx
        refine ⟨m, l, hDv, ?_, h7b j m l hj hDv (by rw [hq]; exact hDx)⟩
        dsimp only
        rw [ex]
        exact hDx
