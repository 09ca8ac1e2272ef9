/-- the first world: what the constructors leave -/
def s00 : St := fun k => match k with
  | 9 => tabF 10
  | 10 => upd (fun _ => 0) 0 (nI 10)
  | 31 => tabF 10
  | 32 => upd (fun _ => 0) 0 (nI 10)
  | _ => fun _ => 0
def m00 : St := fun k => match k with
  | 1 => upd (upd (mtF 10) 530 (nI 10)) 1089 (nI 0)
  | _ => fun _ => 0
theorem b_00 : ∀ J, J < 1090 → (bnd J).1 ≤ (m00 1 J).toInt ∧ (m00 1 J).toInt ≤ (bnd J).2 := by decide +kernel
theorem c_00 : ctm (m00 1) 240 ≤ (m00 1 1088).toNatClampNeg := by decide +kernel
theorem l_00 : (m00 1 1087).toNatClampNeg = 0 := by decide +kernel
theorem v_00 : (m00 1 1089).toNatClampNeg = 0 := by decide +kernel
theorem e_00 : ∀ J, J < 1089 → s00 (1 + (ip J).1) (ip J).2 = m00 1 J := by decide +kernel
theorem rel_0 : Rel s00 m00 := by
  refine ⟨⟨b_00, c_00, fun i _ h2 => ?_⟩, ⟨fun K j J hK => ?_, ?_, fun i _ h2 => ?_⟩, fun s hs => ?_, rfl, Or.inl ⟨rfl, rfl⟩⟩
  · rw [l_00] at h2
    exact absurd h2 (Nat.not_lt_zero i)
  · have h1 := e_00 J (po_lt hK).1
    rw [po_ip hK] at h1
    exact h1
  · rw [v_00]
    exact Nat.zero_le _
  · rw [l_00] at h2
    exact absurd h2 (Nat.not_lt_zero i)
  · rcases (show s = 0 ∨ s = 1 ∨ s = 2 ∨ s = 3 by omega) with rfl | rfl | rfl | rfl <;> exact ⟨rfl, rfl, Nb.z, Nb.z, fun i _ => rfl⟩
