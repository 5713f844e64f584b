/-! THE LAW, pure -/
theorem R36_0 : R36 0 := fun k _ => b6_0 k
theorem inv_0 : Inv 0 W00 := by
  have z : ∀ j, 42 ≤ j ∨ (0 < j ∧ j < 6) → clK (fun _ => 0) 36 j = 0 := fun j hj => by
    unfold clK
    rw [if_neg (by omega), if_neg (by omega)]
  refine Inv_i (T := []) (Nat.le_refl 0) ⟨⟨rfl, R36_0⟩, Or.inl ⟨rfl, rfl, fun c hc => ?_⟩, ⟨0, fun _ => 0, fun _ => 0, Nat.zero_le _, (by decide : (0:Nat) < 49), rfl, z 1 (Or.inr (by omega)), rfl, z 2 (Or.inr (by omega)), fun i hi => absurd hi (Nat.not_lt_zero _)⟩, IL_0 (z 3 (Or.inr (by omega))), IL_0 (z 4 (Or.inr (by omega))), IL_0 (z 5 (Or.inr (by omega)))⟩ (fun q => absurd q (by decide)) (Or.inl ⟨rfl, rfl⟩) (Or.inl rfl) (IX_0 rfl rfl) (fun t ht => ?_)
  · unfold clK
    rw [if_neg (by omega), if_pos (by omega)]
  · have e : (upd (upd (upd (upd (upd (upd (fun _ => 0) 0 (-1)) 1 (-1)) 2 (-1)) 3 (-1)) 4 (-1)) 5 (-1)) t = -1 := (by decide : ∀ t, t < 6 → (upd (upd (upd (upd (upd (upd (fun _ => 0) 0 (-1)) 1 (-1)) 2 (-1)) 3 (-1)) 4 (-1)) 5 (-1)) t = -1) t ht
    exact ⟨0, Nat.zero_le _, e.symm, Or.inl e, fun _ => rfl, rfl, rfl, fun i hi => rfl⟩
theorem ops_all {cl : sxX} {sc : sxS} (hE : cl = sxE sc 99) : Ops cl Inv :=
  ⟨op_cell hE, op_fill hE, op_lay hE, op_turn hE, op_begin hE, op_walk hE, op_feed hE, op_read hE, op_ofs hE, op_told hE, op_word hE, op_height hE, op_far hE, op_centre hE, op_walked hE, op_winds hE, op_coverings hE, op_firsts hE, op_weight hE, op_barred hE, op_see hE, op_fits hE, op_odds hE, op_mean hE, op_event hE, op_after hE, op_book hE, op_looked hE, op_judge hE, op_image hE, op_undo hE, op_count hE, op_tape hE, op_item hE, op_peek hE, op_shift hE⟩
theorem lawOK : LawOK := by
  intro L xs hL
  refine ent (d := 99) (call := sxE (L, xs) sxD) rfl rfl (fun cl hE hm => ?_)
  refine law_init hm hE ?_
  exact law_loop (sc := (L, xs)) hm (ops_all hE) Inv_W Inv_mo hL (fun hp => rfl) 513 0 0 81 5565 W00 rfl rfl inv_0 (Nat.le_refl _) (Nat.le_refl _)
