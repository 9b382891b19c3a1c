/-! THE FIRST STATE holds an empty town -/
def sg0 : Sg := (fun _ _ => 0, [], fun _ => none, [])
theorem s0_i {k : Nat} (h : k ≠ 129) (j : Nat) : sd_S0.1 k j = 0 := by
  show ((if k = 129 then _ else _ : Nat → Int32)) j = _
  rw [if_neg h]
theorem wf0 : WF sg0 := by
  refine ⟨⟨Nat.zero_le _, fun p hp => absurd hp (Nat.not_lt_zero p), Nat.zero_le _, fun p hp => absurd hp (Nat.not_lt_zero p), Nat.zero_le _, fun p hp => absurd hp (Nat.not_lt_zero p), Nat.zero_le _, Nat.zero_le _⟩, fun p hp => absurd hp (Nat.not_lt_zero p), ⟨Nat.zero_le _, fun w s t n h => (by cases h)⟩, fun m z r h => (by cases h), Nat.zero_le _, fun c h => (by cases h)⟩
theorem ic0 : IC sd_S0 sg0 := by
  refine ⟨⟨⟨s0_i (by decide) _, fun p hp => absurd hp (Nat.not_lt_zero p), s0_i (by decide) _, fun p hp => absurd hp (Nat.not_lt_zero p), s0_i (by decide) _, fun p hp => absurd hp (Nat.not_lt_zero p), s0_i (by decide) _, s0_i (by decide) _⟩, fun p hp => absurd hp (Nat.not_lt_zero p), s0_i (by decide) _⟩, ⟨s0_i (by decide) _, fun i w s t n h => (by cases h)⟩, fun m hm => Or.inl ⟨rfl, s0_i (by decide) _⟩, ⟨s0_i (by decide) _, fun i c h => (by cases h)⟩, Or.inl (s0_i (by decide) _), fun p hp => Or.inl ?_⟩
  show (if p < 12 then (-2 : Int32) else 0) = -2
  rw [if_pos hp]
theorem ir0 : IR sd_S0 sg0 := by
  refine ⟨⟨⟨s0_i (by decide) _, s0_i (by decide) _, s0_i (by decide) _, fun p hp => absurd hp (Nat.not_lt_zero p), s0_i (by decide) _, fun p hp => absurd hp (Nat.not_lt_zero p), s0_i (by decide) _, fun p hp => absurd hp (Nat.not_lt_zero p)⟩, s0_i (by decide) _, fun i w s t n h => (by cases h)⟩, fun m hm => Or.inl ⟨rfl, s0_i (by decide) _⟩, ⟨s0_i (by decide) _, fun i c h => (by cases h)⟩, ?_⟩
  decide +kernel
