/-! setting one tree over or under another -/
theorem un_v1 (a b v1 c : Int32) : fX7_under_B45 a b v1 c = fX7_under_B45 a b (nI 0) c := rfl
theorem k_under : (List.range 197).all (fun p => decide (p = 0) || (List.range 8).all fun m => !(decide (szF p + m ≤ 7)) || decide (it (fX7_under_B45 (nI (szF p)) (nI (dcF p)) (nI 0) (nI m)) FU (nI (dcF p), nI 0) = some (nI (unN p m (szF p))))) = true := by decide +kernel
theorem m_under {p m : Nat} {v1 : Int32} (h0 : 0 < p) (hp : p < 626) (hm0 : 0 < m) (hm : szF p + m ≤ 7) : it (fX7_under_B45 (nI (szF p)) (nI (dcF p)) v1 (nI m)) FU (nI (dcF p), nI 0) = some (nI (unN p m (szF p))) := by
  have hs := sz_pos hp h0
  have hlt : p < 197 := by
    have h6 : szF p ≤ 6 := by omega
    have hm1 : ∀ n, n ≤ 6 → fstF (n + 1) ≤ 197 := by decide
    have := hm1 _ h6
    omega
  rw [un_v1]
  have h := ra k_under hlt
  rw [Bool.or_eq_true] at h
  rcases h with h | h
  · have := of_decide_eq_true h
    omega
  · have h := ra h (show m < 8 by omega)
    simpa [hm] using h
theorem sz_197 {p : Nat} (h0 : 0 < p) (hp : p < 626) (h : szF p ≤ 6) : p < 197 := by
  have hs := sz_pos hp h0
  have hm1 : ∀ n, n ≤ 6 → fstF (n + 1) ≤ 197 := by decide
  have := hm1 _ h
  omega
theorem c_setOver {p q : Nat} (h0 : 0 < p) (hp : p < 626) (hq0 : 0 < q) (hq : q < 626) (h : szF q + szF p ≤ 7) : ∃ r, 0 < r ∧ r < 626 ∧ fX0_setOver cF sF (nI q) (nI p) = some (nI r) ∧ szF r = szF q + szF p ∧ dcF r = dcF q * 10 ^ szF p + dcF p := by
  have hs := sz_pos hp h0
  have hs2 := sz_pos hq hq0
  have h1 := ra (ra k_setOver (sz_197 hq0 hq (by omega))) (sz_197 h0 hp (by omega))
  rw [Bool.or_eq_true] at h1
  rcases h1 with h1 | h1
  · simp [h0, hq0, h] at h1
  · exact okP_ok h1
theorem c_setUnder {p q : Nat} (h0 : 0 < p) (hp : p < 626) (hq0 : 0 < q) (hq : q < 626) (h : szF p + szF q ≤ 7) : ∃ r, 0 < r ∧ r < 626 ∧ fX0_setUnder cF sF (nI p) (nI q) = some (nI r) ∧ szF r = szF p + szF q ∧ dcF r = unN p (szF q) (szF p) * 10 ^ szF q + dcF q := by
  have hs := sz_pos hp h0
  have hs2 := sz_pos hq hq0
  have h1 := ra (ra k_setUnder (sz_197 h0 hp (by omega))) (sz_197 hq0 hq (by omega))
  rw [Bool.or_eq_true] at h1
  rcases h1 with h1 | h1
  · simp [h0, hq0, h] at h1
  · exact okP_ok h1
