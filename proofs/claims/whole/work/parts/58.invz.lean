/-! the memory behind the constructors keeps the invariant -/
def zC (os : List (Nat × Nat)) : Bool := os.all (fun p => (MR2 p.1 p.2).toBitVec.toNat == 0)
theorem zC_at {os : List (Nat × Nat)} (h : zC os = true) {o j : Nat} (hm : (o, j) ∈ os) : MR2 o j = nI 0 := by
  unfold zC at h
  have h1 := List.all_eq_true.mp h (o, j) hm
  have h2 : (MR2 o j).toBitVec.toNat = 0 := by simpa using h1
  apply Int32.toBitVec_inj.1
  apply BitVec.eq_of_toNat_eq
  rw [h2]; rfl
theorem z_small : zC [(1, 0), (1, 1), (1, 2), (128, 16), (128, 17), (128, 18), (128, 19), (37, 1), (37, 2), (37, 3), (38, 0), (38, 1), (38, 2), (35, 0), (128, 0), (0, 15), (128, 30), (41, 0), (41, 1), (128, 26), (0, 7), (141, 0), (141, 1), (117, 0), (117, 1), (117, 2), (128, 31), (128, 33)] = true := by decide +kernel
theorem z_six : ∀ r, r < 6 → (MR2 39 r).toBitVec.toNat = 0 ∧ (MR2 40 r).toBitVec.toNat = 0 := by decide +kernel
theorem z_now : ∀ j, j < 23 → (MR2 136 j).toBitVec.toNat = 0 := by decide +kernel
theorem z_fault : MR2 0 14 = MR2 128 7 := by decide +kernel
theorem z_of {v : Int32} (h : v.toBitVec.toNat = 0) : v = nI 0 := by
  apply Int32.toBitVec_inj.1
  apply BitVec.eq_of_toNat_eq
  rw [h]; rfl
theorem inv_z : InvX Mz := by
  have z : ∀ o j, (o, j) ∈ [(1, 0), (1, 1), (1, 2), (128, 16), (128, 17), (128, 18), (128, 19), (37, 1), (37, 2), (37, 3), (38, 0), (38, 1), (38, 2), (35, 0), (128, 0), (0, 15), (128, 30), (41, 0), (41, 1), (128, 26), (0, 7), (141, 0), (141, 1), (117, 0), (117, 1), (117, 2), (128, 31), (128, 33)] → MR2 o j = nI 0 := fun o j h => zC_at z_small h
  have hEQ : EQ 0 0 0 (fun _ => 0) := ⟨⟨Nat.zero_le _, Nat.le_refl _, by show 0 < 2; omega, by show 0 < 2; omega, by show 0 < 2 ^ 0; omega, fun p hp => absurd hp (by omega), fun p q hp => absurd hp (by omega), fun p hp => absurd hp (by omega), fun p q hp => absurd hp (by omega), fun r _ => Nat.zero_le _⟩, Nat.zero_le _, fun _ => rfl⟩
  refine ⟨1, 0, 0, 0, 0, fun _ => 0, fun _ => 0, fun _ => 0, fun _ => 0, ?_, ⟨hEQ, ?_, ?_⟩, ?_, ?_, ?_, ?_, ?_, ?_, ?_⟩
  · refine ⟨⟨Or.inl ⟨rfl, rfl, rfl⟩, by show 0 < 2 ^ 0; omega, by decide, fun i hi => absurd hi (by omega), fun i hi => absurd hi (by omega), fun i hi => absurd hi (by omega)⟩, mr_0.1, mr_0.2.1, ⟨Or.inl rfl, z _ _ (by simp), z _ _ (by simp), z _ _ (by simp), fun h => absurd h (by omega), fun i hi => absurd hi (by omega), fun i hi => absurd hi (by omega), fun i hi => absurd hi (by omega)⟩, ⟨z _ _ (by simp), z _ _ (by simp), z _ _ (by simp), z _ _ (by simp), fun i hi => absurd hi (by omega), fun i hi => absurd hi (by omega), fun i hi => absurd hi (by omega)⟩⟩
  · exact ⟨z _ _ (by simp), z _ _ (by simp), z _ _ (by simp), ⟨z _ _ (by simp), z _ _ (by simp), z _ _ (by simp)⟩, fun r hr => z_of (z_six r hr).1, fun r hr => z_of (z_six r hr).2⟩
  · exact fun j hj => z_of (z_now j hj)
  · exact ⟨0, fun _ => 0, by omega, z _ _ (by simp), z _ _ (by simp), fun i hi => absurd hi (by omega)⟩
  · exact z_fault
  · exact ⟨0, by omega, z _ _ (by simp), z _ _ (by simp)⟩
  · exact ⟨0, 0, fun _ _ => 0, by omega, by omega, fun i hi => absurd hi (by omega), ⟨z _ _ (by simp), z _ _ (by simp), fun i hi => absurd hi (by omega)⟩, ⟨z _ _ (by simp), fun i hi => absurd hi (by omega)⟩⟩
  · refine ⟨0, by omega, z _ _ (by simp), fun i hi => ⟨?_, fun h => ?_⟩⟩
    · rw [Nat.zero_testBit]
      rcases (show i = 0 ∨ i = 1 by omega) with rfl | rfl
      · exact z _ _ (by simp)
      · exact z _ _ (by simp)
    · rw [Nat.zero_testBit] at h
      exact absurd h (by simp)
  · exact ⟨0, fun _ => 0, fun _ => 0, by omega, fun _ => rfl, z _ _ (by simp), z _ _ (by simp), z _ _ (by simp), fun i hi => absurd hi (by omega)⟩
  · exact ⟨0, fun _ => 0, fun _ => 0, by omega, z _ _ (by simp), z _ _ (by simp), fun i hi => absurd hi (by omega)⟩
