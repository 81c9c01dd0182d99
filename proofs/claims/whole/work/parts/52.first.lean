/-! the beginning -/
def a0 : kY := fun i j => if i = 1 then (((7 * j) % 30 : Nat) : Int) else if i = 2 then 100 else if i = 3 then 1 else 0
theorem Ok_a0 : Ok a0 := by
  refine ⟨by decide, by decide, fun i hi => ?_, fun m hm => ⟨by rw [show a0 2 m = 100 from rfl]; omega, Or.inr rfl⟩, fun k hk => absurd hk (by rw [show nn a0 = 0 from rfl]; omega)⟩
  have : a0 1 i = (((7 * i) % 30 : Nat) : Int) := rfl
  rw [this]
  omega
theorem z_y : (∀ i, i < 12 → st0.1 (1 + 1) i = iI (a0 1 i)) ∧ (∀ m, m < 4 → st0.1 (1 + 2) m = iI (a0 2 m)) ∧ st0.1 1 0 = iI (a0 0 0) ∧ st0.1 1 1 = iI (a0 0 1) ∧ st0.1 1 2 = iI (um a0) := by decide +kernel
theorem z_s : ∀ s : Nat, s < 4 → st0.1 (51 + 2 * s) 0 = 0 ∧ st0.1 (51 + 2 * s) 1 = 0 ∧ st0.1 65 s = 0 ∧ st0.1 66 s = 0 := by decide +kernel
theorem z_t : (∀ j : Nat, j < 120 → st0.1 47 j = 0 ∧ st0.1 64 j = 0) ∧ (∀ i : Nat, i < 7 → st0.1 50 i = 0 ∧ st0.1 61 i = 0) ∧ st0.1 0 3 = 0 ∧ st0.1 46 1 = 0 ∧ st0.1 59 18 = 0 ∧ st0.1 59 5 = 0 := by decide +kernel
theorem z_r : st0.1 60 0 = iI (a0 0 0) ∧ st0.1 60 1 = iI (a0 0 1) ∧ (∀ i, i < 12 → st0.1 60 (2 + i) = iI (a0 1 i)) ∧ ∀ m, m < 4 → st0.1 60 (14 + 2 * m) = iI (a0 2 m) ∧ st0.1 60 (14 + 2 * m + 1) = iI (a0 3 m) := by decide +kernel
theorem nn_a0 : nn a0 = 0 := by decide
theorem Iv_st0 : Iv st0 := by
  refine ⟨a0, a0, fun _ _ => 0, fun _ _ => 0, ⟨⟨Ok_a0, by decide⟩, Or.inl rfl, ⟨0, by omega, rfl⟩, fun j hj => ⟨0, by omega, rfl⟩, fun s hs => ⟨Or.inl rfl, 0, by omega, rfl⟩⟩, ?_, ?_⟩
  · refine ⟨⟨⟨z_y.2.2.1, z_y.2.2.2.1, z_y.2.2.2.2⟩, z_y.1, z_y.2.1, fun k hk => absurd hk (by rw [nn_a0]; omega)⟩, fun e => absurd e (by decide), z_t.2.2.1, z_t.2.2.2.1, fun j hj => (z_t.1 j hj).1, fun s hs => ⟨(z_s s hs).1, (z_s s hs).2.1, fun j hj => rfl⟩, fun i hi => (z_t.2.1 i hi).1⟩
  · refine ⟨⟨z_r.1, z_r.2.1, z_r.2.2.1, z_r.2.2.2, fun k hk => absurd hk (by rw [nn_a0]; omega)⟩, fun e => absurd e (by decide), z_t.2.2.2.2.1, z_t.2.2.2.2.2, fun j hj => (z_t.1 j hj).2, fun s hs => ⟨(z_s s hs).2.2.1, (z_s s hs).2.2.2, fun j hj => rfl⟩, fun i hi => (z_t.2.1 i hi).2⟩
