/-! all alike; the start -/
theorem al_all : AlAll Rel := ⟨al_nodes, al_row, al_of, al_number, al_which, al_many, al_digits, al_turn, al_back, al_mayTurn, al_mirror, al_off, al_below, al_meet, al_meetAll, al_between, al_way, al_chain, al_mark, al_pairs, al_far, al_canopy, al_inClass, al_likeness, al_keep, al_lay, al_lose, al_over, al_under, al_shelf, al_list, al_put, al_get, al_play, al_film, al_feed, al_wipe, al_read, al_written, al_image, al_undo, al_count⟩
theorem st_4 : szF 4 = 3 ∧ dcF 4 = 0 := by decide +kernel
theorem rel_0 : Rel (Mc0 cF sF) Mr0 := by
  refine rel_mk ⟨rfl, rfl⟩ (tr_of (q := 4) (n := 3) (t := 0) (by omega) (by omega) st_4.1 st_4.2) (fun s h4 => Or.inl ⟨rfl, rfl⟩) ⟨0, by omega, rfl, rfl, fun i hi => absurd hi (by omega)⟩ ⟨fun l hl => ?_, fun l i hl hi => rfl⟩ ⟨0, by omega, rfl, rfl, fun i hi => absurd hi (by omega)⟩ (Or.inl ⟨rfl, rfl⟩) (Or.inl rfl) (fun n h0 h7 => Or.inl ⟨rfl, fun w c _ _ _ _ => ⟨rfl, rfl⟩⟩) (Or.inl rfl)
  rcases (show l = 0 ∨ l = 1 ∨ l = 2 by omega) with rfl | rfl | rfl
  · exact ⟨rfl, Or.inl rfl⟩
  · exact ⟨rfl, Or.inl rfl⟩
  · exact ⟨rfl, Or.inl rfl⟩
theorem whole_start {p : Program} {e : Env} {s : State} {m : MethodId} {below : List Frame} {meth : Method} {c : Code} (l : Launch) (hflags : l.flags = flags0) {b L : Nat} {xs : Nat → Int32} (hL : L ≤ 2560) (C0 : lw_At p s m meth c b L xs) : W p l e room_1 s m #[Value.ref b] below meth c s.heap [] 0 0 (lw_Z below #[Value.ref b] s) (entryFrame m ([Value.ref b] : List Value).toArray 4) := whole_open l hL C0 fev al_all rel_0
