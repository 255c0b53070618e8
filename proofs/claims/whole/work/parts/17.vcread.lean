/-! the methods that answer from what is kept -/
theorem i_vc_value {k : Nat} {u : SX} {v : SY} (I : i_Rel k u v) (hk : k + 5 ≤ 2563) (v1 : Int32) (v2 : Int32) : wpX_value (fun r => wpY_value (fun r' => r' = r ∧ i_Rel (k + 5) u v) v v1 v2) u v1 v2 := by
  have I' := I
  obtain ⟨B, C, R, f_converted, f_reachable, f_guardCount, f_recordForm, f_ranBlocks, f_heldGuards, a_inputs, a_sizes, a_ops, a_dests, a_args, a_tests, a_trueTargets, a_falseTargets, a_onEveryWayTo, a_onEveryPath, a_guardNumbers, a_guardsOnTrue, a_guardsOnFalse, a_heldOnEntry, a_restoredTests, a_restoredTrue, a_restoredFalse, a_finalRegs, f_recorded, f_recForm, f_recC, a_complete, a_guard, rfl, rfl, hBd, hS, hcv, hrec⟩ := I
  obtain ⟨b1, b2, c1, c2, r1, r2⟩ := id hBd
  unfold wpX_value
  rcases ic_cls v1 (n := R) (by omega) with h | ⟨r, hr, rfl⟩
  · refine xm_ir_no (by omega) h (br_t rfl ?_)
    unfold wpY_value
    exact ym_out R rfl (by omega) h (br_t rfl ⟨rfl, I'⟩)
  refine xm_ir (by omega) hr (br_f (by decide) ?_)
  by_cases e0 : v2 = 0
  · refine br_t e0 ⟨ic_v8 (by omega), ?_⟩
    unfold wpY_value
    exact ym_in r R rfl rfl (by omega) hr (br_f (by decide) (br_t e0 ⟨ic_v8 (by omega), rfl, I'⟩))
  refine br_f e0 ?_
  by_cases e1 : v2 = 1
  · refine br_t e1 ?_
    rcases hrec with ⟨q1, q2⟩ | ⟨q1, q2, q3⟩
    · refine br_t q1 ?_
      unfold wpY_value
      exact ym_in r R rfl rfl (by omega) hr (br_f (by decide) (br_f e0 (br_t e1 (br_t q2 ⟨rfl, I'⟩))))
    · have q : ¬ f_recordForm = -1 := by
        rcases q3 with z | z | ⟨z, _⟩
        · rw [z]; decide
        · rw [z]; decide
        · rw [z]; decide
      refine br_f q ⟨ic_v8 (by omega), ?_⟩
      unfold wpY_value
      exact ym_in r R rfl rfl (by omega) hr (br_f (by decide) (br_f e0 (br_t e1 (br_f (by rw [q1]; decide) ⟨ic_v8 (by omega), rfl, I'⟩))))
  · refine br_f e1 ?_
    unfold wpY_value
    exact ym_in r R rfl rfl (by omega) hr (br_f (by decide) (br_f e0 (br_f e1 ⟨rfl, I'⟩)))
theorem i_vc_ran {k : Nat} {u : SX} {v : SY} (I : i_Rel k u v) (hk : k + 5 ≤ 2563) (v1 : Int32) : wpX_ran (fun r => wpY_ran (fun r' => r' = r ∧ i_Rel (k + 5) u v) v v1) u v1 := by
  have I' := I
  obtain ⟨B, C, R, f_converted, f_reachable, f_guardCount, f_recordForm, f_ranBlocks, f_heldGuards, a_inputs, a_sizes, a_ops, a_dests, a_args, a_tests, a_trueTargets, a_falseTargets, a_onEveryWayTo, a_onEveryPath, a_guardNumbers, a_guardsOnTrue, a_guardsOnFalse, a_heldOnEntry, a_restoredTests, a_restoredTrue, a_restoredFalse, a_finalRegs, f_recorded, f_recForm, f_recC, a_complete, a_guard, rfl, rfl, hBd, hS, hcv, hrec⟩ := I
  obtain ⟨b1, b2, c1, c2, r1, r2⟩ := id hBd
  rcases hrec with ⟨q1, q2⟩ | ⟨q1, q2, q3⟩
  · exact br_t q1 (br_t q2 ⟨rfl, I'⟩)
  · have q : ¬ f_recordForm = -1 := by
      rcases q3 with z | z | ⟨z, _⟩
      · rw [z]; decide
      · rw [z]; decide
      · rw [z]; decide
    have q0 : ¬ f_recorded = 0 := by rw [q1]; decide
    refine br_f q ?_
    rcases ic_cls v1 (n := B) (by omega) with h | ⟨b, hb, rfl⟩
    · exact xm_ib_no (by omega) h (br_t rfl (br_f q0 (ym_out B rfl (by omega) h (br_t rfl ⟨rfl, I'⟩))))
    refine xm_ib (by omega) hb (br_f (by decide) ?_)
    refine xm_has b rfl (by omega) (fun e => br_f (by decide) ?_) (fun e => br_t rfl ?_)
    · refine br_f q0 (ym_in b B rfl rfl (by omega) hb (br_f (by decide) ?_))
      refine ym_has b rfl (by omega) (fun _ => br_f (by decide) ⟨rfl, I'⟩) (fun e2 => ?_)
      rw [e] at e2
      cases e2
    · refine br_f q0 (ym_in b B rfl rfl (by omega) hb (br_f (by decide) ?_))
      refine ym_has b rfl (by omega) (fun e2 => ?_) (fun _ => br_t rfl ⟨rfl, I'⟩)
      rw [e] at e2
      cases e2
theorem i_vc_source {k : Nat} {u : SX} {v : SY} (I : i_Rel k u v) (hk : k + 5 ≤ 2563) (v1 : Int32) (v2 : Int32) : wpX_source (fun r => wpY_source (fun r' => r' = r ∧ i_Rel (k + 5) u v) v v1 v2) u v1 v2 := by
  have I' := I
  obtain ⟨B, C, R, f_converted, f_reachable, f_guardCount, f_recordForm, f_ranBlocks, f_heldGuards, a_inputs, a_sizes, a_ops, a_dests, a_args, a_tests, a_trueTargets, a_falseTargets, a_onEveryWayTo, a_onEveryPath, a_guardNumbers, a_guardsOnTrue, a_guardsOnFalse, a_heldOnEntry, a_restoredTests, a_restoredTrue, a_restoredFalse, a_finalRegs, f_recorded, f_recForm, f_recC, a_complete, a_guard, rfl, rfl, hBd, hS, hcv, hrec⟩ := I
  obtain ⟨b1, b2, c1, c2, r1, r2⟩ := id hBd
  unfold wpX_source
  rcases ic_cls v1 (n := B) (by omega) with h | ⟨b, hb, rfl⟩
  · refine xm_ib_no (by omega) h (br_t rfl ?_)
    unfold wpY_source
    exact ym_out B rfl (by omega) h (br_t rfl ⟨rfl, I'⟩)
  refine xm_ib (by omega) hb (br_f (by decide) ?_)
  have v12 : vp_in (nI b) 12 := ic_v12 (by omega)
  rcases ic_cls v2 (n := 4) (by omega) with h | ⟨j, hj, rfl⟩
  · have Y : wpY_source (fun r' => r' = -1 ∧ i_Rel (k + 5) (nI B, nI C, nI R, f_converted, f_reachable, f_guardCount, f_recordForm, f_ranBlocks, f_heldGuards, a_inputs, a_sizes, a_ops, a_dests, a_args, a_tests, a_trueTargets, a_falseTargets, a_onEveryWayTo, a_onEveryPath, a_guardNumbers, a_guardsOnTrue, a_guardsOnFalse, a_heldOnEntry, a_restoredTests, a_restoredTrue, a_restoredFalse, a_finalRegs) (nI B, nI C, nI R, f_converted, f_recorded, f_recForm, f_ranBlocks, f_recC, a_ops, a_dests, a_args, a_sizes, a_tests, a_trueTargets, a_falseTargets, a_inputs, a_finalRegs, a_complete, a_guard)) (nI B, nI C, nI R, f_converted, f_recorded, f_recForm, f_ranBlocks, f_recC, a_ops, a_dests, a_args, a_sizes, a_tests, a_trueTargets, a_falseTargets, a_inputs, a_finalRegs, a_complete, a_guard) (nI b) v2 := by
      unfold wpY_source
      exact ym_in b B rfl rfl (by omega) hb (br_f (by decide) (ym_out 4 (by decide) (by omega) h (br_t rfl ⟨rfl, I'⟩)))
    rcases h with h | h
    · exact br_t h Y
    · have g := ic_not_lt (n := 3) (by omega) h
      exact br_f g.1 (br_t g.2 Y)
  · have h4 : j = 0 ∨ j = 1 ∨ j = 2 ∨ j = 3 := by omega
    have Y : ∀ r, ((nI j = 3 → (vp_in (nI b) 12 ∧ (a_sizes (nI b).toNatClampNeg = r ∧ i_Rel (k + 5) (nI B, nI C, nI R, f_converted, f_reachable, f_guardCount, f_recordForm, f_ranBlocks, f_heldGuards, a_inputs, a_sizes, a_ops, a_dests, a_args, a_tests, a_trueTargets, a_falseTargets, a_onEveryWayTo, a_onEveryPath, a_guardNumbers, a_guardsOnTrue, a_guardsOnFalse, a_heldOnEntry, a_restoredTests, a_restoredTrue, a_restoredFalse, a_finalRegs) (nI B, nI C, nI R, f_converted, f_recorded, f_recForm, f_ranBlocks, f_recC, a_ops, a_dests, a_args, a_sizes, a_tests, a_trueTargets, a_falseTargets, a_inputs, a_finalRegs, a_complete, a_guard)))) ∧ (¬ nI j = 3 → (((nI j = 0 → (vp_in (nI b) 12 ∧ (a_tests (nI b).toNatClampNeg = r ∧ i_Rel (k + 5) (nI B, nI C, nI R, f_converted, f_reachable, f_guardCount, f_recordForm, f_ranBlocks, f_heldGuards, a_inputs, a_sizes, a_ops, a_dests, a_args, a_tests, a_trueTargets, a_falseTargets, a_onEveryWayTo, a_onEveryPath, a_guardNumbers, a_guardsOnTrue, a_guardsOnFalse, a_heldOnEntry, a_restoredTests, a_restoredTrue, a_restoredFalse, a_finalRegs) (nI B, nI C, nI R, f_converted, f_recorded, f_recForm, f_ranBlocks, f_recC, a_ops, a_dests, a_args, a_sizes, a_tests, a_trueTargets, a_falseTargets, a_inputs, a_finalRegs, a_complete, a_guard)))) ∧ (¬ nI j = 0 → (((nI j = 1 → (vp_in (nI b) 12 ∧ (a_trueTargets (nI b).toNatClampNeg = r ∧ i_Rel (k + 5) (nI B, nI C, nI R, f_converted, f_reachable, f_guardCount, f_recordForm, f_ranBlocks, f_heldGuards, a_inputs, a_sizes, a_ops, a_dests, a_args, a_tests, a_trueTargets, a_falseTargets, a_onEveryWayTo, a_onEveryPath, a_guardNumbers, a_guardsOnTrue, a_guardsOnFalse, a_heldOnEntry, a_restoredTests, a_restoredTrue, a_restoredFalse, a_finalRegs) (nI B, nI C, nI R, f_converted, f_recorded, f_recForm, f_ranBlocks, f_recC, a_ops, a_dests, a_args, a_sizes, a_tests, a_trueTargets, a_falseTargets, a_inputs, a_finalRegs, a_complete, a_guard)))) ∧ (¬ nI j = 1 → (vp_in (nI b) 12 ∧ (a_falseTargets (nI b).toNatClampNeg = r ∧ i_Rel (k + 5) (nI B, nI C, nI R, f_converted, f_reachable, f_guardCount, f_recordForm, f_ranBlocks, f_heldGuards, a_inputs, a_sizes, a_ops, a_dests, a_args, a_tests, a_trueTargets, a_falseTargets, a_onEveryWayTo, a_onEveryPath, a_guardNumbers, a_guardsOnTrue, a_guardsOnFalse, a_heldOnEntry, a_restoredTests, a_restoredTrue, a_restoredFalse, a_finalRegs) (nI B, nI C, nI R, f_converted, f_recorded, f_recForm, f_ranBlocks, f_recC, a_ops, a_dests, a_args, a_sizes, a_tests, a_trueTargets, a_falseTargets, a_inputs, a_finalRegs, a_complete, a_guard))))))))))) → wpY_source (fun r' => r' = r ∧ i_Rel (k + 5) (nI B, nI C, nI R, f_converted, f_reachable, f_guardCount, f_recordForm, f_ranBlocks, f_heldGuards, a_inputs, a_sizes, a_ops, a_dests, a_args, a_tests, a_trueTargets, a_falseTargets, a_onEveryWayTo, a_onEveryPath, a_guardNumbers, a_guardsOnTrue, a_guardsOnFalse, a_heldOnEntry, a_restoredTests, a_restoredTrue, a_restoredFalse, a_finalRegs) (nI B, nI C, nI R, f_converted, f_recorded, f_recForm, f_ranBlocks, f_recC, a_ops, a_dests, a_args, a_sizes, a_tests, a_trueTargets, a_falseTargets, a_inputs, a_finalRegs, a_complete, a_guard)) (nI B, nI C, nI R, f_converted, f_recorded, f_recForm, f_ranBlocks, f_recC, a_ops, a_dests, a_args, a_sizes, a_tests, a_trueTargets, a_falseTargets, a_inputs, a_finalRegs, a_complete, a_guard) (nI b) (nI j) := by
      intro r H
      unfold wpY_source
      exact ym_in b B rfl rfl (by omega) hb (br_f (by decide) (ym_in j 4 rfl (by decide) (by omega) hj (br_f (by decide) H)))
    refine br_f (nI_pos (by omega)) (br_f (nI_nlt (a := 3) (by omega) (by omega)) ?_)
    rcases h4 with rfl | rfl | rfl | rfl
    · exact br_t (by decide) ⟨v12, Y _ (br_f (by decide) (br_t (by decide) ⟨v12, rfl, I'⟩))⟩
    · exact br_f (by decide) (br_t (by decide) ⟨v12, Y _ (br_f (by decide) (br_f (by decide) (br_t (by decide) ⟨v12, rfl, I'⟩)))⟩)
    · exact br_f (by decide) (br_f (by decide) (br_t (by decide) ⟨v12, Y _ (br_f (by decide) (br_f (by decide) (br_f (by decide) ⟨v12, rfl, I'⟩)))⟩))
    · exact br_f (by decide) (br_f (by decide) (br_f (by decide) (br_t (by decide) ⟨v12, Y _ (br_t (by decide) ⟨v12, rfl, I'⟩)⟩)))
theorem i_vc_cell {k : Nat} {u : SX} {v : SY} (I : i_Rel k u v) (hk : k + 5 ≤ 2563) (v1 : Int32) (v2 : Int32) (v3 : Int32) : wpX_cell (fun r => wpY_cell (fun r' => r' = r ∧ i_Rel (k + 5) u v) v v1 v2 v3) u v1 v2 v3 := by
  have I' := I
  obtain ⟨B, C, R, f_converted, f_reachable, f_guardCount, f_recordForm, f_ranBlocks, f_heldGuards, a_inputs, a_sizes, a_ops, a_dests, a_args, a_tests, a_trueTargets, a_falseTargets, a_onEveryWayTo, a_onEveryPath, a_guardNumbers, a_guardsOnTrue, a_guardsOnFalse, a_heldOnEntry, a_restoredTests, a_restoredTrue, a_restoredFalse, a_finalRegs, f_recorded, f_recForm, f_recC, a_complete, a_guard, rfl, rfl, hBd, hS, hcv, hrec⟩ := I
  obtain ⟨b1, b2, c1, c2, r1, r2⟩ := id hBd
  unfold wpX_cell
  rcases ic_cls v1 (n := B) (by omega) with h | ⟨b, hb, rfl⟩
  · refine xm_ib_no (by omega) h (br_t rfl ?_)
    unfold wpY_cell
    exact ym_out B rfl (by omega) h (br_t rfl ⟨rfl, I'⟩)
  refine xm_ib (by omega) hb (br_f (by decide) ?_)
  have v12 : vp_in (nI b) 12 := ic_v12 (by omega)
  obtain ⟨s1, s2, s3⟩ := ic_Src_s hS c2 hb
  have cb : a_sizes (nI b).toNatClampNeg = nI (ic_N a_sizes b) := (ic_g (by omega)).trans s1
  rcases ic_cls v2 (n := ic_N a_sizes b) (by omega) with h | ⟨i, hi, rfl⟩
  · have Y : wpY_cell (fun r' => r' = -1 ∧ i_Rel (k + 5) (nI B, nI C, nI R, f_converted, f_reachable, f_guardCount, f_recordForm, f_ranBlocks, f_heldGuards, a_inputs, a_sizes, a_ops, a_dests, a_args, a_tests, a_trueTargets, a_falseTargets, a_onEveryWayTo, a_onEveryPath, a_guardNumbers, a_guardsOnTrue, a_guardsOnFalse, a_heldOnEntry, a_restoredTests, a_restoredTrue, a_restoredFalse, a_finalRegs) (nI B, nI C, nI R, f_converted, f_recorded, f_recForm, f_ranBlocks, f_recC, a_ops, a_dests, a_args, a_sizes, a_tests, a_trueTargets, a_falseTargets, a_inputs, a_finalRegs, a_complete, a_guard)) (nI B, nI C, nI R, f_converted, f_recorded, f_recForm, f_ranBlocks, f_recC, a_ops, a_dests, a_args, a_sizes, a_tests, a_trueTargets, a_falseTargets, a_inputs, a_finalRegs, a_complete, a_guard) (nI b) v2 v3 := by
      unfold wpY_cell
      exact ym_in b B rfl rfl (by omega) hb (br_f (by decide) ⟨v12, ym_out (ic_N a_sizes b) cb (by omega) h (br_t rfl ⟨rfl, I'⟩)⟩)
    rcases h with h | h
    · exact br_t h Y
    · refine br_f (ic_not_le (by omega) h) ⟨v12, br_f ?_ Y⟩
      rw [cb]
      exact Int32.not_lt.mpr h
  refine br_f (nI_pos (by omega)) ⟨v12, br_t (by rw [cb]; exact nI_lt hi (by omega)) ?_⟩
  unfold wpX_placeOf
  have v48 : vp_in (nI b * 4 + nI i) 48 := by
    rw [ic_4]
    exact ic_v48 (by omega)
  rcases ic_cls v3 (n := 3) (by omega) with h | ⟨j, hj, rfl⟩
  · have Y : wpY_cell (fun r' => r' = -1 ∧ i_Rel (k + 5) (nI B, nI C, nI R, f_converted, f_reachable, f_guardCount, f_recordForm, f_ranBlocks, f_heldGuards, a_inputs, a_sizes, a_ops, a_dests, a_args, a_tests, a_trueTargets, a_falseTargets, a_onEveryWayTo, a_onEveryPath, a_guardNumbers, a_guardsOnTrue, a_guardsOnFalse, a_heldOnEntry, a_restoredTests, a_restoredTrue, a_restoredFalse, a_finalRegs) (nI B, nI C, nI R, f_converted, f_recorded, f_recForm, f_ranBlocks, f_recC, a_ops, a_dests, a_args, a_sizes, a_tests, a_trueTargets, a_falseTargets, a_inputs, a_finalRegs, a_complete, a_guard)) (nI B, nI C, nI R, f_converted, f_recorded, f_recForm, f_ranBlocks, f_recC, a_ops, a_dests, a_args, a_sizes, a_tests, a_trueTargets, a_falseTargets, a_inputs, a_finalRegs, a_complete, a_guard) (nI b) (nI i) v3 := by
      unfold wpY_cell
      exact ym_in b B rfl rfl (by omega) hb (br_f (by decide) ⟨v12, ym_in i (ic_N a_sizes b) rfl cb (by omega) hi (br_f (by decide) (ym_out 3 (by decide) (by omega) h (br_t rfl ⟨rfl, I'⟩)))⟩)
    rcases h with h | h
    · exact br_t h Y
    · have g := ic_not_lt (n := 2) (by omega) h
      exact br_f g.1 (br_t g.2 Y)
  · have h3 : j = 0 ∨ j = 1 ∨ j = 2 := by omega
    have Y : ∀ r, ((nI j = 0 → (vp_in (nI b * 4 + nI i) 48 ∧ (a_ops (nI b * 4 + nI i).toNatClampNeg = r ∧ i_Rel (k + 5) (nI B, nI C, nI R, f_converted, f_reachable, f_guardCount, f_recordForm, f_ranBlocks, f_heldGuards, a_inputs, a_sizes, a_ops, a_dests, a_args, a_tests, a_trueTargets, a_falseTargets, a_onEveryWayTo, a_onEveryPath, a_guardNumbers, a_guardsOnTrue, a_guardsOnFalse, a_heldOnEntry, a_restoredTests, a_restoredTrue, a_restoredFalse, a_finalRegs) (nI B, nI C, nI R, f_converted, f_recorded, f_recForm, f_ranBlocks, f_recC, a_ops, a_dests, a_args, a_sizes, a_tests, a_trueTargets, a_falseTargets, a_inputs, a_finalRegs, a_complete, a_guard)))) ∧ (¬ nI j = 0 → (((nI j = 1 → (vp_in (nI b * 4 + nI i) 48 ∧ (a_dests (nI b * 4 + nI i).toNatClampNeg = r ∧ i_Rel (k + 5) (nI B, nI C, nI R, f_converted, f_reachable, f_guardCount, f_recordForm, f_ranBlocks, f_heldGuards, a_inputs, a_sizes, a_ops, a_dests, a_args, a_tests, a_trueTargets, a_falseTargets, a_onEveryWayTo, a_onEveryPath, a_guardNumbers, a_guardsOnTrue, a_guardsOnFalse, a_heldOnEntry, a_restoredTests, a_restoredTrue, a_restoredFalse, a_finalRegs) (nI B, nI C, nI R, f_converted, f_recorded, f_recForm, f_ranBlocks, f_recC, a_ops, a_dests, a_args, a_sizes, a_tests, a_trueTargets, a_falseTargets, a_inputs, a_finalRegs, a_complete, a_guard)))) ∧ (¬ nI j = 1 → (vp_in (nI b * 4 + nI i) 48 ∧ (a_args (nI b * 4 + nI i).toNatClampNeg = r ∧ i_Rel (k + 5) (nI B, nI C, nI R, f_converted, f_reachable, f_guardCount, f_recordForm, f_ranBlocks, f_heldGuards, a_inputs, a_sizes, a_ops, a_dests, a_args, a_tests, a_trueTargets, a_falseTargets, a_onEveryWayTo, a_onEveryPath, a_guardNumbers, a_guardsOnTrue, a_guardsOnFalse, a_heldOnEntry, a_restoredTests, a_restoredTrue, a_restoredFalse, a_finalRegs) (nI B, nI C, nI R, f_converted, f_recorded, f_recForm, f_ranBlocks, f_recC, a_ops, a_dests, a_args, a_sizes, a_tests, a_trueTargets, a_falseTargets, a_inputs, a_finalRegs, a_complete, a_guard)))))))) → wpY_cell (fun r' => r' = r ∧ i_Rel (k + 5) (nI B, nI C, nI R, f_converted, f_reachable, f_guardCount, f_recordForm, f_ranBlocks, f_heldGuards, a_inputs, a_sizes, a_ops, a_dests, a_args, a_tests, a_trueTargets, a_falseTargets, a_onEveryWayTo, a_onEveryPath, a_guardNumbers, a_guardsOnTrue, a_guardsOnFalse, a_heldOnEntry, a_restoredTests, a_restoredTrue, a_restoredFalse, a_finalRegs) (nI B, nI C, nI R, f_converted, f_recorded, f_recForm, f_ranBlocks, f_recC, a_ops, a_dests, a_args, a_sizes, a_tests, a_trueTargets, a_falseTargets, a_inputs, a_finalRegs, a_complete, a_guard)) (nI B, nI C, nI R, f_converted, f_recorded, f_recForm, f_ranBlocks, f_recC, a_ops, a_dests, a_args, a_sizes, a_tests, a_trueTargets, a_falseTargets, a_inputs, a_finalRegs, a_complete, a_guard) (nI b) (nI i) (nI j) := by
      intro r H
      unfold wpY_cell
      exact ym_in b B rfl rfl (by omega) hb (br_f (by decide) ⟨v12, ym_in i (ic_N a_sizes b) rfl cb (by omega) hi (br_f (by decide) (ym_in j 3 rfl (by decide) (by omega) hj (br_f (by decide) (nm_e H))))⟩)
    refine br_f (nI_pos (by omega)) (br_f (nI_nlt (a := 2) (by omega) (by omega)) ?_)
    rcases h3 with rfl | rfl | rfl
    · exact br_t (by decide) ⟨v48, Y _ (br_t (by decide) ⟨v48, rfl, I'⟩)⟩
    · exact br_f (by decide) (br_t (by decide) ⟨v48, Y _ (br_f (by decide) (br_t (by decide) ⟨v48, rfl, I'⟩))⟩)
    · exact br_f (by decide) (br_f (by decide) (br_t (by decide) ⟨v48, Y _ (br_f (by decide) (br_f (by decide) ⟨v48, rfl, I'⟩))⟩))
