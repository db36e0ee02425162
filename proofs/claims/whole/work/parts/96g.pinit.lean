/-! ===== PURE: the new objects ===== -/
def aNew : AS := (fun k => if k = 4 then 1 else 0, fun _ _ => 0, fun k _ => if k = 1 then -1 else 0, fun _ _ => 0)
theorem rel_new : Rel0 0 sX0 sM0 := by
  have e0 : ∀ k, (0 : Nat).testBit k = false := fun k => Nat.zero_testBit k
  refine ⟨aNew, ?_, ?_, ?_, ?_, ?_, ?_, ?_⟩
  · refine ⟨by decide, fun x _ => ⟨Nat.zero_le 399, Nat.zero_le 399⟩, ⟨by decide, fun x hx => ⟨Nat.le_refl _, Nat.zero_le 40, Nat.zero_le 40, ?_, fun i hi => absurd hi (Nat.not_lt_zero i), fun i hi => absurd hi (Nat.not_lt_zero i)⟩⟩, by decide, by decide, fun r hr => absurd hr (Nat.not_lt_zero r)⟩
    show (0 : Nat).testBit x = true ↔ 0 < 0
    rw [e0]; simp
  · refine ⟨⟨by decide, by decide, by decide, fun k hk => absurd hk (Nat.not_lt_zero k)⟩, ⟨by decide, by decide, by decide, by decide⟩, fun h _ => Nat.zero_le 0, fun h h' _ _ hz => absurd rfl hz, fun h _ _ => rfl, fun h _ hz => absurd rfl hz, fun k hk => absurd hk (Nat.not_lt_zero k), fun k hk => absurd hk (Nat.not_lt_zero k), fun k hk => absurd hk (Nat.not_lt_zero k), fun k j hk => absurd hk (Nat.not_lt_zero k)⟩
  · refine ⟨fun k _ => ⟨Nat.zero_lt_one, fun z => absurd rfl z⟩, fun i _ => Nat.zero_le 0, by decide, fun k r g _ _ _ _ => rfl⟩
  · exact fun k hk => absurd hk (Nat.not_lt_zero k)
  · refine ⟨⟨rfl, fun i hi => absurd hi (Nat.not_lt_zero i)⟩, rfl, fun x _ => ⟨rfl, rfl⟩, ⟨rfl, fun x _ => ⟨rfl, rfl, rfl⟩, fun x g _ _ => ⟨rfl, rfl, rfl⟩, fun x g _ _ => ⟨rfl, rfl, rfl⟩⟩, ⟨rfl, rfl, fun r hr => absurd hr (Nat.not_lt_zero r)⟩, ⟨rfl, rfl, fun k hk => absurd hk (Nat.not_lt_zero k), fun k hk => absurd hk (Nat.not_lt_zero k)⟩, ⟨rfl, rfl, rfl, ⟨0, by decide, rfl, fun k _ => ?_⟩, fun h hh => ?_, fun k _ => rfl, fun k hk => absurd hk (Nat.not_lt_zero k), fun k hk => absurd hk (Nat.not_lt_zero k), fun k hk => absurd hk (Nat.not_lt_zero k), fun h _ hz => absurd rfl hz⟩, ⟨rfl, fun k _ => rfl, fun i _ => rfl, fun i _ => rfl⟩⟩
    · rw [e0]
      constructor
      · intro z; cases z
      · rintro ⟨h, -, z⟩; exact absurd z (by show ¬ (0 = k + 1); omega)
    · rcases (show h = 0 ∨ h = 1 ∨ h = 2 by omega) with rfl | rfl | rfl <;> rfl
  · refine ⟨⟨rfl, fun i hi => absurd hi (Nat.not_lt_zero i)⟩, rfl, fun x _ => ⟨rfl, rfl⟩, ⟨fun x _ => ⟨rfl, rfl, rfl⟩, fun x i _ hi => absurd hi (Nat.not_lt_zero i), fun x i _ hi => absurd hi (Nat.not_lt_zero i)⟩, ⟨rfl, fun r hr => absurd hr (Nat.not_lt_zero r)⟩, ⟨0, by decide, rfl, rfl, fun k hk => absurd hk (Nat.not_lt_zero k), fun k hk => absurd hk (Nat.not_lt_zero k)⟩, ⟨rfl, rfl, fun h hh => ?_, fun k _ => rfl, fun k hk => absurd hk (Nat.not_lt_zero k), fun k hk => absurd hk (Nat.not_lt_zero k), fun k hk => absurd hk (Nat.not_lt_zero k), fun h _ hz => absurd rfl hz⟩, ⟨fun k r _ _ => ?_, fun i _ => ⟨rfl, rfl⟩, fun i _ => rfl⟩⟩
    · rcases (show h = 0 ∨ h = 1 ∨ h = 2 by omega) with rfl | rfl | rfl <;> rfl
    · show (0 : Int32) = if (0 : Nat).testBit r = true then 1 else 0
      rw [e0]; rfl
  · exact ⟨rfl, rfl, rfl, rfl, rfl, rfl, rfl, rfl, rfl⟩
theorem sim_but_read (h : SimStep Rel0 (fX10_read FU) (fX11_read FU)) : Sim Rel0 :=
  ⟨rel_new, fun _ _ _ h => rel_same h, sim_feed, sim_back, h, sim_place, sim_span, sim_row, sim_land, sim_reader, sim_rights, fun x y hy => sim_hold x y hy, sim_reads, sim_hosts, sim_tick, sim_plan, sim_order, sim_foreseen, sim_sure, sim_step, sim_value, sim_sent, sim_marks, sim_table, sim_count⟩
