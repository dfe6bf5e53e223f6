/-! the start -/
theorem ivx_start : IVx server0 model0 0 :=
  ⟨0, fun _ => c00 0, fun _ => (1, 4), [], fun _ => 0, fun _ => 0, 0, Nat.le_refl _,
    ⟨by omega, rfl, rfl, rfl, rfl, ⟨15, by omega, rfl⟩,
      fun k hk => ⟨⟨Or.inl rfl, Or.inl rfl, ⟨fun _ => rfl, fun _ => rfl⟩, fun q => absurd rfl q⟩, ⟨rfl, fun q => absurd rfl q⟩, Or.inl rfl, ⟨Nat.le_refl _, by show 4 ≤ 6; omega⟩, fun q => absurd q (show ¬ (0 : Int32) = 1 by decide)⟩,
      ⟨rfl, Nat.zero_le _, fun i h => absurd h (Nat.not_lt_zero i)⟩, ⟨rfl, fun i h => absurd h (Nat.not_lt_zero i)⟩,
      ⟨fun k hk => LIk.none rfl ⟨0, by omega, rfl⟩ (fun e he => (nomatch he)), fun e he => (nomatch he)⟩,
      fun k hk => ⟨rfl, Nat.le_refl _⟩, rfl, fun k _ a _ => by cases (show (false = true) from a)⟩,
    Or.inl ⟨rfl, rfl⟩⟩
