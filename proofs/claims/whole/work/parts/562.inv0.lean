/-! THE START KEEPS WHAT IS TO BE KEPT -/
def S0 : St := (fun v r c => bif Nat.beq v 903 then 6 else bif Nat.beq v 202 then (if r = c then 0 else 10) else 0, fun v _ _ => bif Nat.beq v 505 then 2147483647 else bif Nat.beq v 506 then -2147483648 else 0, fun _ => [])
theorem no0 {P : Prop} {i n : Nat} (h : i < n) (e : n = 0) : P := absurd (e ▸ h) (Nat.not_lt_zero i)
theorem WF_0 : WF S0 := by
  refine ⟨⟨by decide, fun i h => no0 h rfl⟩, ⟨by decide, by decide, fun t h => no0 h rfl, fun t _ => ⟨Nat.zero_le _, fun k h => no0 h rfl, fun k h => no0 h rfl⟩, fun _ _ => rfl⟩, ⟨by decide, fun p h => no0 h rfl, fun _ _ => rfl⟩, ⟨by decide, fun l h => no0 h rfl⟩, ⟨by decide, fun k h => no0 h rfl, fun l v hl hv => ⟨?_, ?_⟩⟩,
    ⟨⟨by decide, by decide⟩, by decide, fun p _ => (by show (0 : Nat) < 2 ^ 0; decide), fun k h => no0 h rfl, fun p l v _ _ => ⟨fun _ k h => no0 h rfl, fun _ h => absurd (show (0 : Nat).testBit l = true from h) (by simp)⟩⟩, ⟨by decide, fun b h => no0 h rfl, fun u v _ _ => ?_⟩, ⟨by decide, fun d h => no0 h rfl, fun _ _ _ _ => Nat.zero_le _⟩⟩
  · show (2147483647 : Int32) ≤ v ↔ _
    refine ⟨fun h => ?_, fun ⟨k, h, _⟩ => no0 h rfl⟩
    exfalso
    have h1 := Int32.le_iff_toInt_le.mp h
    rw [show (2147483647 : Int32).toInt = 2147483647 by decide] at h1
    unfold bd6 at hv
    omega
  · show v ≤ (-2147483648 : Int32) ↔ _
    refine ⟨fun h => ?_, fun ⟨k, h, _⟩ => no0 h rfl⟩
    exfalso
    have h1 := Int32.le_iff_toInt_le.mp h
    rw [show (-2147483648 : Int32).toInt = -2147483648 by decide] at h1
    unfold bd6 at hv
    omega
  · show (if u = v then 0 else 10) ≤ 99
    split <;> decide
theorem m0_sl {u v : Nat} (hv : v < 8) : mI mem0 202 u v = nI (sN S0 202 u v) := by
  show fillF (gSl u) 8 v = nI (if u = v then 0 else 10)
  unfold fillF gSl
  rw [if_pos hv]
  by_cases e : u = v
  · rw [if_pos e, if_pos e]
  · rw [if_neg e, if_neg e]
theorem m0_sl8 {u v : Nat} (hu : u < 8) (hv : v < 8) : mI mem0 1349 0 (8 * u + v) = nI (sN S0 202 u v) := by
  show fillF gSl8 64 (8 * u + v) = nI (if u = v then 0 else 10)
  unfold fillF gSl8
  rw [if_pos (by omega), show (8 * u + v) / 8 = u by omega, show (8 * u + v) % 8 = v by omega]
  by_cases e : u = v
  · rw [if_pos e, if_pos e]
  · rw [if_neg e, if_neg e]
theorem m0_neg {p : Nat} (h : p < 16) : mI mem0 909 0 p = -1 := by
  show fillF gNeg 16 p = -1
  unfold fillF gNeg
  rw [if_pos h]
theorem CR_0 : CR S0 mem0 := by
  refine ⟨⟨z00.symm, fun i h => no0 h rfl⟩, ⟨z00.symm, z00.symm, fun t h => no0 h rfl, fun t _ => ⟨z00.symm, fun k h => no0 h rfl⟩⟩, ⟨z00.symm, fun p h => no0 h rfl, fun _ _ => z00.symm⟩, ⟨z00.symm, fun l h => no0 h rfl⟩, ⟨z00.symm, fun l hl => ⟨?_, ?_⟩⟩,
    ⟨rfl, z00.symm, fun p _ => ⟨z00.symm, fun _ _ => ⟨rfl, rfl⟩⟩⟩, ⟨z00.symm, fun b h => no0 h rfl, fun u v _ hv => m0_sl hv⟩, ⟨z00.symm, fun d h => no0 h rfl, fun _ _ _ _ => z00.symm⟩, ⟨z00.symm, fun p hp => Or.inl (m0_neg hp), fun p hp _ => m0_neg hp, Or.inl rfl, fun p h => no0 h rfl, fun p h => no0 h rfl⟩, ⟨fun p q h => no0 h rfl, fun p q _ h => no0 h rfl, fun p h => no0 h rfl⟩⟩
  · show fillF gMax 6 l = 2147483647
    unfold fillF gMax
    rw [if_pos hl]
  · show fillF gMin 6 l = -2147483648
    unfold fillF gMin
    rw [if_pos hl]
theorem MR_0 : MR S0 mem0 :=
  ⟨⟨z00.symm, fun i h => no0 h rfl⟩, ⟨z00.symm, fun t h => no0 h rfl, fun t _ => ⟨z00.symm, fun k h => no0 h rfl⟩⟩, ⟨z00.symm, fun p h => no0 h rfl⟩, ⟨z00.symm, fun l h => no0 h rfl⟩, ⟨z00.symm, fun k h => no0 h rfl⟩, ⟨rfl, z00.symm, fun k h => no0 h rfl⟩, ⟨z00.symm, fun b h => no0 h rfl, fun u v hu hv => m0_sl8 hu hv⟩, ⟨z00.symm, fun d h => no0 h rfl, fun _ _ _ _ => z00.symm⟩⟩
theorem INV_0 : INV 0 mem0 := ⟨S0, WF_0, CR_0, MR_0, Nat.le_refl _, fun _ _ _ => z00.symm⟩
