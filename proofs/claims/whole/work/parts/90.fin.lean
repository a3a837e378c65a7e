theorem μ0_z {c : Nat} (h : c ≠ 44) (i : Nat) : μ0 c i = 0 := by
  unfold μ0
  rw [if_neg h]
theorem μ0_44 {k : Nat} (h : k < 4) : μ0 44 k = -9 := by
  rcases (show k = 0 ∨ k = 1 ∨ k = 2 ∨ k = 3 by omega) with rfl | rfl | rfl | rfl <;> rfl
theorem inv0 : Inv μ0 := by
  refine ⟨⟨fun _ _ => 0, ⟨Nat.zero_le _, Nat.zero_le _, Nat.zero_le _, Nat.zero_le _, Nat.zero_le _, fun k hk => absurd hk (Nat.not_lt_zero _), fun k hk => absurd hk (Nat.not_lt_zero _), Iff.rfl⟩, ⟨μ0_z (by omega) _, μ0_z (by omega) _, μ0_z (by omega) _, μ0_z (by omega) _, μ0_z (by omega) _, fun k hk => absurd hk (Nat.not_lt_zero _), fun k hk => absurd hk (Nat.not_lt_zero _)⟩, ⟨μ0_z (by omega) _, μ0_z (by omega) _, μ0_z (by omega) _, μ0_z (by omega) _, μ0_z (by omega) _, fun k hk => absurd hk (Nat.not_lt_zero _), fun k hk => absurd hk (Nat.not_lt_zero _)⟩, .inl (μ0_z (by omega) _), fun k hk => ⟨.inl ⟨μ0_z (by omega) _, μ0_44 hk⟩, ⟨0, by omega, μ0_z (by omega) _, μ0_z (by omega) _⟩, fun j hj => by rw [μ0_z (by omega), μ0_z (by omega)]⟩, ⟨0, by omega, μ0_z (by omega) _, μ0_z (by omega) _, fun k hk => absurd hk (Nat.not_lt_zero _)⟩⟩, ?_, ?_⟩
  · rw [μ0_z (by omega), μ0_z (by omega)]
  · rw [μ0_z (by omega), μ0_z (by omega)]
theorem steps_all : Steps Inv :=
  ⟨t_books, t_ofLeft, t_ofRight, t_letters, t_price, t_move, t_best, t_ofPair, t_cost, t_day, t_by, t_enough, t_reading, t_back, t_kinds, t_letterings, t_odds, t_sheet, t_lose, t_put, t_cell, t_copy, t_tell, t_read, t_as, t_trace, t_fault, t_many⟩
theorem whole_start {p : Program} {e : Env} {s : State} {m : MethodId} {below : List Frame} {meth : Method} {c : Code} (l : Launch) (_ : l.flags = flags0) {b L : Nat} {xs : Nat → Int32} (hL : L ≤ 3072) (C0 : lw_At p s m meth c b L xs) : W p l e room_1 s m #[Value.ref b] below meth c s.heap [] 0 0 (lw_Z below #[Value.ref b] s) (entryFrame m ([Value.ref b] : List Value).toArray 4) := whole_open inv0 steps_all l hL C0
