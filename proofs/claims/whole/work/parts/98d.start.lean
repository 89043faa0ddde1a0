/-! the start: both memories, and that they are related -/
def Mc0 : Mem := (fun c => if c = 6 ∨ c = 7 then fl_ (fun _ => 0) 0 41 (-9) else if c = 18 then fl_ (fun _ => 0) 0 36 (-9) else if c = 104 ∨ c = 118 ∨ c = 119 ∨ c = 120 then (fun _ => -9) else if c = 105 then (fun _ => 1) else (fun _ => 0), fun _ _ => 0, fun _ _ => none, fun _ _ => 0, fun _ _ => 0, fun _ => 0)
def Mm0 : Mem := (fun c => if c = 101 then (fun _ => 1) else if c = 40 then upd (upd (upd (upd (upd (fun _ => 0) 1 (-9)) 2 (-9)) 3 (-9)) 4 (-9)) 5 (-9) else (fun _ => 0), fun _ _ => 0, fun _ _ => none, fun _ _ => 0, fun _ _ => 0, fun _ => 0)
theorem rel0 : Rel Mc0 Mm0 := by
  have zf : ∀ {P : Prop}, zb (0 : Int32) = true → P := fun h => absurd h (by decide)
  refine ⟨1, 0, 0, 0, 0, ⟨rfl, rfl, by omega, by omega, rfl, rfl, rfl⟩, ⟨rfl, rfl, by omega, rfl, rfl, by omega, ⟨rfl, rfl, rfl, rfl, rfl⟩, fun k hk => absurd hk (by omega), ⟨fun p hp => ?_, fun k hk => absurd hk (by omega), fun p hp => ?_⟩, fun k hk => absurd hk (by omega), fun k hk => absurd hk (by omega), fun a ha => absurd ha (by omega), fun k hk => absurd hk (by omega), fun a b _ hb => absurd hb (by omega)⟩,
    ⟨fun a ha => absurd ha (by omega), fun j _ hj => ?_⟩, ⟨rfl, fun k _ => rfl, fun j => ?_, fun k hk => absurd hk (by omega)⟩, ⟨rfl, rfl, by omega, rfl, fun r hr => absurd hr (by omega), fun r _ => rfl, fun r hr => absurd hr (by omega)⟩,
    ⟨rfl, rfl, rfl, rfl, rfl, fun _ k hk => ?_, fun h => absurd rfl h⟩, ⟨fun a ha => absurd ha (by omega), rfl, rfl, by omega, 0, by omega, rfl, ⟨fun t ht => absurd ht (by omega), fun s j h => absurd (show (none : Option Nat) = some j from h) (by simp), fun s s' j h => absurd (show (none : Option Nat) = some j from h) (by simp)⟩⟩, ⟨zf, zf, zf, zf, zf, zf⟩⟩
  · rcases hp with z | z
    · omega
    · subst z; rfl
  · rcases hp with z | z
    · omega
    · subst z; exact .inl ⟨rfl, fun k hk => absurd hk (by omega)⟩
  · show fl_ (fun _ => 0) 0 36 (-9) j = -9
    exact fl_in ⟨by omega, hj⟩
  · show vp_nar .byte 0 = 0
    rw [vp_nar_byte]; decide
  · match k, hk with
    | 0, _ => rfl
    | 1, _ => rfl
    | 2, _ => rfl
    | 3, _ => rfl
theorem simAll : SimAll Rel := ⟨sim_size, sim_term, sim_sum, sim_loop, sim_test, sim_act, sim_aim, sim_node, sim_hold, sim_note, sim_held, sim_noted, sim_copy, sim_array, sim_row, sim_tear, sim_lay, sim_get, sim_asked, sim_visits, sim_visit, sim_has, sim_points, sim_needs, sim_carried, sim_distance, sim_free, sim_swap, sim_lean, sim_back, sim_shift, sim_tile, sim_part, sim_join, sim_undo, sim_order, sim_allowed, sim_why, sim_run, sim_ended, sim_fetched, sim_best, sim_lines, sim_written, sim_count, sim_finding, sim_findings, sim_digest⟩
