/-- at the start -/
theorem cost0 : (fun i => cs_20 i) = (fun i => upd (upd (upd (upd (upd (fun _ => (0 : Int32)) 0 20) 1 20) 2 20) 3 20) 4 20 i) := by
  funext i
  unfold cs_20 upd
  by_cases h : i < 5
  · rw [if_pos h]
    rcases (show i = 0 ∨ i = 1 ∨ i = 2 ∨ i = 3 ∨ i = 4 by omega) with rfl | rfl | rfl | rfl | rfl <;> rfl
  · rw [if_neg h, if_neg (by omega), if_neg (by omega), if_neg (by omega), if_neg (by omega), if_neg (by omega)]
theorem r00 (lo : Nat) : rng 0 0 lo := ⟨0, rfl, by omega, by omega⟩
theorem rel_0 : Rel M0C M0R := by
  refine ⟨⟨⟨rfl, rfl, rfl, rfl, rfl, rfl, rfl⟩, ⟨rfl, rfl, rfl, rfl, rfl, rfl, rfl, rfl⟩, ⟨rfl, rfl, rfl, rfl, rfl⟩, ⟨rfl, rfl, rfl, rfl, rfl, rfl, rfl⟩, ⟨rfl, rfl, rfl, cost0, rfl, rfl⟩, ⟨rfl, rfl, rfl, rfl, rfl⟩⟩, fun i hi => rfl, ?_, ⟨?_, Or.inl ⟨rfl, rfl⟩⟩, 0, 0, 0, 0, 0, 0, ⟨⟨⟨rfl, by omega⟩, ⟨rfl, by omega⟩, ⟨rfl, by omega⟩, ⟨rfl, by omega⟩, ⟨rfl, by omega⟩, ⟨rfl, by omega⟩, ⟨300, rfl, by omega, by omega⟩⟩, ⟨fun j hj => absurd hj (by omega), fun j hj => rfl⟩, fun c hc => ?_, ⟨fun j hj => absurd hj (by omega), fun i j a b h1 h2 => absurd h2 (by omega)⟩, fun r hr => absurd hr (by omega), fun k hk => absurd hk (by omega), fun k hk => r00 255, fun k hk => ?_, fun k hk => r00 1, fun k hk => r00 1⟩, ⟨fun j h1 h2 => rfl, fun r hr => absurd hr (by omega)⟩, rfl, rfl⟩
  · show (0 : Int32) = nI (cnt (fun _ => 0) 40)
    decide +kernel
  · show (0 : Int32) = nI (cnt (fun _ => 0) 40)
    decide +kernel
  · exact ⟨r00 1, fun q => absurd (show (0 : Int32) = 1 from q) (by decide +kernel), r00 12, fun k hk => r00 25, fun s hs => r00 1⟩
  · rcases (show k = 0 ∨ k = 1 ∨ k = 2 ∨ k = 3 ∨ k = 4 by omega) with rfl | rfl | rfl | rfl | rfl <;> exact ⟨20, rfl, by omega, by omega⟩
