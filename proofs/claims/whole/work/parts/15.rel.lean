/-! the relation, and the small methods of both sides -/
def ic_Bd (B C R : Nat) : Prop := 2 ≤ B ∧ B ≤ 12 ∧ 1 ≤ C ∧ C ≤ 4 ∧ 2 ≤ R ∧ R ≤ 8
def i_Rel (_ : Nat) (u : SX) (v : SY) : Prop :=
  ∃ (B C R : Nat) (f_converted f_reachable f_guardCount f_recordForm f_ranBlocks f_heldGuards : Int32) (a_inputs a_sizes a_ops a_dests a_args a_tests a_trueTargets a_falseTargets a_onEveryWayTo a_onEveryPath a_guardNumbers a_guardsOnTrue a_guardsOnFalse a_heldOnEntry a_restoredTests a_restoredTrue a_restoredFalse a_finalRegs : Nat → Int32) (f_recorded f_recForm f_recC : Int32) (a_complete a_guard : Nat → Int32), u = (nI B, nI C, nI R, f_converted, f_reachable, f_guardCount, f_recordForm, f_ranBlocks, f_heldGuards, a_inputs, a_sizes, a_ops, a_dests, a_args, a_tests, a_trueTargets, a_falseTargets, a_onEveryWayTo, a_onEveryPath, a_guardNumbers, a_guardsOnTrue, a_guardsOnFalse, a_heldOnEntry, a_restoredTests, a_restoredTrue, a_restoredFalse, a_finalRegs) ∧ v = (nI B, nI C, nI R, f_converted, f_recorded, f_recForm, f_ranBlocks, f_recC, a_ops, a_dests, a_args, a_sizes, a_tests, a_trueTargets, a_falseTargets, a_inputs, a_finalRegs, a_complete, a_guard) ∧
    ic_Bd B C R ∧ ic_Src B C R a_sizes a_ops a_dests a_args a_tests a_trueTargets a_falseTargets ∧ (f_converted = 0 ∨ (f_converted = 1 ∧ ic_CV B (ic_N a_trueTargets) (ic_N a_falseTargets) a_tests f_reachable f_guardCount a_onEveryPath a_guardNumbers a_guardsOnTrue a_guardsOnFalse a_restoredTests a_restoredTrue a_restoredFalse)) ∧ ((f_recordForm = -1 ∧ f_recorded = 0) ∨ (f_recorded = 1 ∧ f_recForm = f_recordForm ∧ (f_recordForm = 0 ∨ f_recordForm = 2 ∨ (f_recordForm = 1 ∧ f_converted = 1 ∧ ∃ V c, f_recC = nI c ∧ ic_Inv B (ic_N a_trueTargets) (ic_N a_falseTargets) V c (bt f_heldGuards) ∧ ∀ y, (bt f_ranBlocks y = true ↔ y ∈ V)))))
theorem i_up {k : Nat} {u : SX} {v : SY} (h : i_Rel k u v) : i_Rel (k + 5) u v := h
theorem ic_not_lt {n : Nat} {x : Int32} (hn : n + 1 < 2 ^ 31) (h : nI (n + 1) ≤ x) : ¬ x < 0 ∧ nI n < x := by
  rw [Int32.le_iff_toInt_le, nI_toInt hn] at h
  rw [Int32.lt_iff_toInt_lt, Int32.lt_iff_toInt_lt, nI_toInt (by omega), show (0 : Int32).toInt = 0 from by decide]
  omega
theorem ic_not_le {n : Nat} {x : Int32} (hn : n < 2 ^ 31) (h : nI n ≤ x) : ¬ x < 0 := by
  rw [Int32.le_iff_toInt_le, nI_toInt hn] at h
  rw [Int32.lt_iff_toInt_lt, show (0 : Int32).toInt = 0 from by decide]
  omega
theorem ic_cls (x : Int32) {n : Nat} (hn : n < 2 ^ 31) : (x < 0 ∨ nI n ≤ x) ∨ ∃ j : Nat, j < n ∧ x = nI j := by
  rcases pk_ix x hn with h | h | h
  · exact Or.inl (Or.inl h)
  · exact Or.inl (Or.inr h)
  · exact Or.inr h
/-- a target of block b -/
theorem ic_tgt (x : Int32) {b B : Nat} (hB : B ≤ 12) (hb : b < B) : x ≤ nI b ∨ (¬ x ≤ nI b ∧ nI B < x) ∨ ∃ j : Nat, b < j ∧ j ≤ B ∧ x = nI j := by
  by_cases h : x ≤ nI b
  · exact Or.inl h
  · by_cases h2 : nI B < x
    · exact Or.inr (Or.inl ⟨h, h2⟩)
    · have h0 : ¬ x < 0 := by
        rw [Int32.le_iff_toInt_le, nI_toInt (by omega)] at h
        rw [Int32.lt_iff_toInt_lt, show (0 : Int32).toInt = 0 from by decide]
        omega
      obtain ⟨j, hj, e⟩ := nI_of h0
      rw [e, nI_leI hj (by omega)] at h
      rw [e, nI_ltI (by omega) hj] at h2
      exact Or.inr (Or.inr ⟨j, by omega, by omega, e⟩)
section
variable {B C R k : Nat} {f_recorded f_recForm f_recC : Int32} {a_complete a_guard : Nat → Int32} {f_blockCount f_cellCount f_regCount f_converted f_reachable f_guardCount f_recordForm f_ranBlocks f_heldGuards : Int32} {a_inputs a_sizes a_ops a_dests a_args a_tests a_trueTargets a_falseTargets a_onEveryWayTo a_onEveryPath a_guardNumbers a_guardsOnTrue a_guardsOnFalse a_heldOnEntry a_restoredTests a_restoredTrue a_restoredFalse a_finalRegs : Nat → Int32}
theorem ic_mk (h1 : ic_Bd B C R) (h2 : ic_Src B C R a_sizes a_ops a_dests a_args a_tests a_trueTargets a_falseTargets) (h3 : (f_converted = 0 ∨ (f_converted = 1 ∧ ic_CV B (ic_N a_trueTargets) (ic_N a_falseTargets) a_tests f_reachable f_guardCount a_onEveryPath a_guardNumbers a_guardsOnTrue a_guardsOnFalse a_restoredTests a_restoredTrue a_restoredFalse))) (h4 : ((f_recordForm = -1 ∧ f_recorded = 0) ∨ (f_recorded = 1 ∧ f_recForm = f_recordForm ∧ (f_recordForm = 0 ∨ f_recordForm = 2 ∨ (f_recordForm = 1 ∧ f_converted = 1 ∧ ∃ V c, f_recC = nI c ∧ ic_Inv B (ic_N a_trueTargets) (ic_N a_falseTargets) V c (bt f_heldGuards) ∧ ∀ y, (bt f_ranBlocks y = true ↔ y ∈ V)))))) : i_Rel k (nI B, nI C, nI R, f_converted, f_reachable, f_guardCount, f_recordForm, f_ranBlocks, f_heldGuards, a_inputs, a_sizes, a_ops, a_dests, a_args, a_tests, a_trueTargets, a_falseTargets, a_onEveryWayTo, a_onEveryPath, a_guardNumbers, a_guardsOnTrue, a_guardsOnFalse, a_heldOnEntry, a_restoredTests, a_restoredTrue, a_restoredFalse, a_finalRegs) (nI B, nI C, nI R, f_converted, f_recorded, f_recForm, f_ranBlocks, f_recC, a_ops, a_dests, a_args, a_sizes, a_tests, a_trueTargets, a_falseTargets, a_inputs, a_finalRegs, a_complete, a_guard) :=
  ⟨B, C, R, f_converted, f_reachable, f_guardCount, f_recordForm, f_ranBlocks, f_heldGuards, a_inputs, a_sizes, a_ops, a_dests, a_args, a_tests, a_trueTargets, a_falseTargets, a_onEveryWayTo, a_onEveryPath, a_guardNumbers, a_guardsOnTrue, a_guardsOnFalse, a_heldOnEntry, a_restoredTests, a_restoredTrue, a_restoredFalse, a_finalRegs, f_recorded, f_recForm, f_recC, a_complete, a_guard, rfl, rfl, h1, h2, h3, h4⟩
theorem xm_ib_no {post : Int32 → Prop} {p0 : Int32} (hB : B < 2 ^ 31) (h : p0 < 0 ∨ nI B ≤ p0) (hp : post 0) : wpX_isBlock post (nI B, f_cellCount, f_regCount, f_converted, f_reachable, f_guardCount, f_recordForm, f_ranBlocks, f_heldGuards, a_inputs, a_sizes, a_ops, a_dests, a_args, a_tests, a_trueTargets, a_falseTargets, a_onEveryWayTo, a_onEveryPath, a_guardNumbers, a_guardsOnTrue, a_guardsOnFalse, a_heldOnEntry, a_restoredTests, a_restoredTrue, a_restoredFalse, a_finalRegs) p0 := by
  rcases h with h | h
  · exact br_t h hp
  · exact br_f (ic_not_le hB h) (br_t h hp)
theorem xm_ib {post : Int32 → Prop} {b : Nat} (hB : B < 2 ^ 31) (h : b < B) (hp : post 1) : wpX_isBlock post (nI B, f_cellCount, f_regCount, f_converted, f_reachable, f_guardCount, f_recordForm, f_ranBlocks, f_heldGuards, a_inputs, a_sizes, a_ops, a_dests, a_args, a_tests, a_trueTargets, a_falseTargets, a_onEveryWayTo, a_onEveryPath, a_guardNumbers, a_guardsOnTrue, a_guardsOnFalse, a_heldOnEntry, a_restoredTests, a_restoredTrue, a_restoredFalse, a_finalRegs) (nI b) :=
  br_f (nI_pos (by omega)) (br_f (nI_ge h hB) hp)
theorem xm_ir_no {post : Int32 → Prop} {p0 : Int32} (hB : R < 2 ^ 31) (h : p0 < 0 ∨ nI R ≤ p0) (hp : post 0) : wpX_isRegister post (f_blockCount, f_cellCount, nI R, f_converted, f_reachable, f_guardCount, f_recordForm, f_ranBlocks, f_heldGuards, a_inputs, a_sizes, a_ops, a_dests, a_args, a_tests, a_trueTargets, a_falseTargets, a_onEveryWayTo, a_onEveryPath, a_guardNumbers, a_guardsOnTrue, a_guardsOnFalse, a_heldOnEntry, a_restoredTests, a_restoredTrue, a_restoredFalse, a_finalRegs) p0 := by
  rcases h with h | h
  · exact br_t h hp
  · exact br_f (ic_not_le hB h) (br_t h hp)
theorem xm_ir {post : Int32 → Prop} {b : Nat} (hB : R < 2 ^ 31) (h : b < R) (hp : post 1) : wpX_isRegister post (f_blockCount, f_cellCount, nI R, f_converted, f_reachable, f_guardCount, f_recordForm, f_ranBlocks, f_heldGuards, a_inputs, a_sizes, a_ops, a_dests, a_args, a_tests, a_trueTargets, a_falseTargets, a_onEveryWayTo, a_onEveryPath, a_guardNumbers, a_guardsOnTrue, a_guardsOnFalse, a_heldOnEntry, a_restoredTests, a_restoredTrue, a_restoredFalse, a_finalRegs) (nI b) :=
  br_f (nI_pos (by omega)) (br_f (nI_ge h hB) hp)
theorem xm_it_no {post : Int32 → Prop} {p0 p1 : Int32} (h : p1 ≤ p0 ∨ (¬ p1 ≤ p0 ∧ nI B < p1)) (hp : post 0) : wpX_isTargetOf post (nI B, f_cellCount, f_regCount, f_converted, f_reachable, f_guardCount, f_recordForm, f_ranBlocks, f_heldGuards, a_inputs, a_sizes, a_ops, a_dests, a_args, a_tests, a_trueTargets, a_falseTargets, a_onEveryWayTo, a_onEveryPath, a_guardNumbers, a_guardsOnTrue, a_guardsOnFalse, a_heldOnEntry, a_restoredTests, a_restoredTrue, a_restoredFalse, a_finalRegs) p0 p1 := by
  rcases h with h | ⟨h, h2⟩
  · exact br_t h hp
  · exact br_f h (br_t h2 hp)
theorem xm_it {post : Int32 → Prop} {b j : Nat} (hB : B < 2 ^ 31) (h1 : b < j) (h2 : j ≤ B) (hp : post 1) : wpX_isTargetOf post (nI B, f_cellCount, f_regCount, f_converted, f_reachable, f_guardCount, f_recordForm, f_ranBlocks, f_heldGuards, a_inputs, a_sizes, a_ops, a_dests, a_args, a_tests, a_trueTargets, a_falseTargets, a_onEveryWayTo, a_onEveryPath, a_guardNumbers, a_guardsOnTrue, a_guardsOnFalse, a_heldOnEntry, a_restoredTests, a_restoredTrue, a_restoredFalse, a_finalRegs) (nI b) (nI j) :=
  br_f (nI_ge h1 (by omega)) (br_f (nI_nlt h2 hB) hp)
theorem xm_end {post : SX → Prop} {b : Nat} {p1 p2 p3 : Int32} (hb : b < 12) (hp : post (f_blockCount, f_cellCount, f_regCount, f_converted, f_reachable, f_guardCount, f_recordForm, f_ranBlocks, f_heldGuards, a_inputs, a_sizes, a_ops, a_dests, a_args, upd a_tests b p1, upd a_trueTargets b p2, upd a_falseTargets b p3, a_onEveryWayTo, a_onEveryPath, a_guardNumbers, a_guardsOnTrue, a_guardsOnFalse, a_heldOnEntry, a_restoredTests, a_restoredTrue, a_restoredFalse, a_finalRegs)) : wpX_setEnding post (f_blockCount, f_cellCount, f_regCount, f_converted, f_reachable, f_guardCount, f_recordForm, f_ranBlocks, f_heldGuards, a_inputs, a_sizes, a_ops, a_dests, a_args, a_tests, a_trueTargets, a_falseTargets, a_onEveryWayTo, a_onEveryPath, a_guardNumbers, a_guardsOnTrue, a_guardsOnFalse, a_heldOnEntry, a_restoredTests, a_restoredTrue, a_restoredFalse, a_finalRegs) (nI b) p1 p2 p3 :=
  ⟨ic_v12 hb, nm_r (ic_u (by omega)) ⟨ic_v12 hb, nm_r (ic_u (by omega)) ⟨ic_v12 hb, nm_r (ic_u (by omega)) hp⟩⟩⟩
theorem xm_emit45 {post : Int32 → SX → Prop} {b s : Nat} {x2 x3 x4 : Int32} (hb : b < 12) (hs : a_sizes b = nI s) (hs4 : s < 4) (h : s < C) (hC : C ≤ 4) (hp : post 1 (f_blockCount, nI C, f_regCount, 0, f_reachable, f_guardCount, -1, f_ranBlocks, f_heldGuards, a_inputs, upd a_sizes b (nI (s + 1)), upd a_ops (b * 4 + s) x2, upd a_dests (b * 4 + s) x3, upd a_args (b * 4 + s) x4, a_tests, a_trueTargets, a_falseTargets, a_onEveryWayTo, a_onEveryPath, a_guardNumbers, a_guardsOnTrue, a_guardsOnFalse, a_heldOnEntry, a_restoredTests, a_restoredTrue, a_restoredFalse, a_finalRegs)) : wX_emit_45 post (nI b) x2 x3 x4 f_blockCount (nI C) f_regCount f_converted f_reachable f_guardCount f_recordForm f_ranBlocks f_heldGuards a_inputs a_sizes a_ops a_dests a_args a_tests a_trueTargets a_falseTargets a_onEveryWayTo a_onEveryPath a_guardNumbers a_guardsOnTrue a_guardsOnFalse a_heldOnEntry a_restoredTests a_restoredTrue a_restoredFalse a_finalRegs := by
  have c1 : (nI b).toNatClampNeg = b := nI_clamp (by omega)
  refine ⟨ic_v12 hb, br_t (by rw [c1, hs]; exact nI_lt h (by omega)) ⟨ic_v12 hb, ?_⟩⟩
  unfold wpX_placeOf
  rw [c1, hs, ic_4]
  exact ⟨ic_v48 (by omega), nm_r (ic_u (by omega)) ⟨ic_v48 (by omega), nm_r (ic_u (by omega)) ⟨ic_v48 (by omega), nm_r (ic_u (by omega)) ⟨ic_v12 hb, ic_v12 hb, nm_r (by rw [nI_1]) hp⟩⟩⟩⟩
theorem xm_emit45_no {post : Int32 → SX → Prop} {b s : Nat} {x2 x3 x4 : Int32} (hb : b < 12) (hs : a_sizes b = nI s) (hs4 : s ≤ 4) (h : ¬ s < C) (hp : post (-3) (f_blockCount, nI C, f_regCount, f_converted, f_reachable, f_guardCount, f_recordForm, f_ranBlocks, f_heldGuards, a_inputs, a_sizes, a_ops, a_dests, a_args, a_tests, a_trueTargets, a_falseTargets, a_onEveryWayTo, a_onEveryPath, a_guardNumbers, a_guardsOnTrue, a_guardsOnFalse, a_heldOnEntry, a_restoredTests, a_restoredTrue, a_restoredFalse, a_finalRegs)) : wX_emit_45 post (nI b) x2 x3 x4 f_blockCount (nI C) f_regCount f_converted f_reachable f_guardCount f_recordForm f_ranBlocks f_heldGuards a_inputs a_sizes a_ops a_dests a_args a_tests a_trueTargets a_falseTargets a_onEveryWayTo a_onEveryPath a_guardNumbers a_guardsOnTrue a_guardsOnFalse a_heldOnEntry a_restoredTests a_restoredTrue a_restoredFalse a_finalRegs :=
  ⟨ic_v12 hb, br_f (by rw [nI_clamp (by omega), hs]; exact nI_nlt (by omega) (by omega)) hp⟩
theorem xm_icb_no {post : Int32 → Prop} {p0 : Int32} (hB : B < 2 ^ 31) (h : f_converted = 0 ∨ (p0 < 0 ∨ nI B ≤ p0)) (hp : post 0) : wpX_isConvertedBlock post (nI B, f_cellCount, f_regCount, f_converted, f_reachable, f_guardCount, f_recordForm, f_ranBlocks, f_heldGuards, a_inputs, a_sizes, a_ops, a_dests, a_args, a_tests, a_trueTargets, a_falseTargets, a_onEveryWayTo, a_onEveryPath, a_guardNumbers, a_guardsOnTrue, a_guardsOnFalse, a_heldOnEntry, a_restoredTests, a_restoredTrue, a_restoredFalse, a_finalRegs) p0 := by
  by_cases q : f_converted = 0
  · exact br_t q hp
  · exact br_f q (xm_ib_no hB (h.resolve_left q) (br_t rfl hp))
theorem xm_icb {T F : Nat → Nat} {post : Int32 → Prop} {b : Nat} (hB : B ≤ 12) (hb : b < B) (hR : ∀ b, b < B → (bt f_reachable b = true ↔ ic_Re B T F b)) (h1 : ic_Re B T F b → post 1) (h0 : ¬ ic_Re B T F b → post 0) : wpX_isConvertedBlock post (nI B, f_cellCount, f_regCount, 1, f_reachable, f_guardCount, f_recordForm, f_ranBlocks, f_heldGuards, a_inputs, a_sizes, a_ops, a_dests, a_args, a_tests, a_trueTargets, a_falseTargets, a_onEveryWayTo, a_onEveryPath, a_guardNumbers, a_guardsOnTrue, a_guardsOnFalse, a_heldOnEntry, a_restoredTests, a_restoredTrue, a_restoredFalse, a_finalRegs) (nI b) := by
  refine br_f (by decide) (xm_ib (by omega) hb (br_f (by decide) ?_))
  refine xm_has b rfl (by omega) (fun e => br_f (by decide) (h1 ((hR b hb).mp e))) (fun e => br_t rfl (h0 (fun r => ?_)))
  have := (hR b hb).mpr r
  rw [e] at this
  cases this
end
section
variable {B C R k : Nat} {T F : Nat → Nat} {f_blocks f_cells f_regs f_converted f_recorded f_recForm f_recRan f_recC : Int32} {a_ops a_dests a_args a_size a_test a_onTrue a_onFalse a_inputs a_recRegs a_complete a_guard : Nat → Int32}
theorem ym_in {post : Int32 → Prop} {p0 p1 : Int32} (n N : Nat) (e0 : p0 = nI n) (e1 : p1 = nI N) (hN : N < 2 ^ 31) (h : n < N) (hp : post 1) : wpY_within post (f_blocks, f_cells, f_regs, f_converted, f_recorded, f_recForm, f_recRan, f_recC, a_ops, a_dests, a_args, a_size, a_test, a_onTrue, a_onFalse, a_inputs, a_recRegs, a_complete, a_guard) p0 p1 := by
  subst e0
  subst e1
  exact br_f (nI_pos (by omega)) (br_f (nI_ge h hN) hp)
theorem ym_out {post : Int32 → Prop} {p0 p1 : Int32} (N : Nat) (e1 : p1 = nI N) (hN : N < 2 ^ 31) (h : p0 < 0 ∨ nI N ≤ p0) (hp : post 0) : wpY_within post (f_blocks, f_cells, f_regs, f_converted, f_recorded, f_recForm, f_recRan, f_recC, a_ops, a_dests, a_args, a_size, a_test, a_onTrue, a_onFalse, a_inputs, a_recRegs, a_complete, a_guard) p0 p1 := by
  subst e1
  rcases h with h | h
  · exact br_t h hp
  · exact br_f (ic_not_le hN h) (br_t h hp)
theorem ym_end {post : Int32 → SY → Prop} {b : Nat} {p1 p2 p3 : Int32} (hb : b < 12) (hp : post 1 (f_blocks, f_cells, f_regs, 0, 0, f_recForm, f_recRan, f_recC, a_ops, a_dests, a_args, a_size, upd a_test b p1, upd a_onTrue b p2, upd a_onFalse b p3, a_inputs, a_recRegs, a_complete, a_guard)) : wpY_ending post (f_blocks, f_cells, f_regs, f_converted, f_recorded, f_recForm, f_recRan, f_recC, a_ops, a_dests, a_args, a_size, a_test, a_onTrue, a_onFalse, a_inputs, a_recRegs, a_complete, a_guard) (nI b) p1 p2 p3 :=
  ⟨ic_v12 hb, nm_r (ic_u (by omega)) ⟨ic_v12 hb, nm_r (ic_u (by omega)) ⟨ic_v12 hb, nm_r (ic_u (by omega)) hp⟩⟩⟩
theorem ym_emit54 {post : Int32 → SY → Prop} {b s : Nat} {x2 x3 x4 : Int32} (hb : b < 12) (hs : a_size b = nI s) (hs4 : s < 4) (h : s < C) (hC : C ≤ 4) (hp : post 1 (f_blocks, nI C, f_regs, 0, 0, f_recForm, f_recRan, f_recC, upd a_ops (b * 4 + s) x2, upd a_dests (b * 4 + s) x3, upd a_args (b * 4 + s) x4, upd a_size b (nI (s + 1)), a_test, a_onTrue, a_onFalse, a_inputs, a_recRegs, a_complete, a_guard)) : wY_emit_54 post (nI b) x2 x3 x4 f_blocks (nI C) f_regs f_converted f_recorded f_recForm f_recRan f_recC a_ops a_dests a_args a_size a_test a_onTrue a_onFalse a_inputs a_recRegs a_complete a_guard := by
  have c1 : (nI b).toNatClampNeg = b := nI_clamp (by omega)
  refine ⟨ic_v12 hb, br_t (by rw [c1, hs]; exact nI_lt h (by omega)) ⟨ic_v12 hb, nm_r (e' := nI (b * 4 + s)) (by rw [c1, hs, ic_4]) ?_⟩⟩
  exact ⟨ic_v48 (by omega), nm_r (ic_u (by omega)) ⟨ic_v48 (by omega), nm_r (ic_u (by omega)) ⟨ic_v48 (by omega), nm_r (ic_u (by omega)) ⟨ic_v12 hb, ic_v12 hb, nm_r (by rw [c1, hs, nI_1]) hp⟩⟩⟩⟩
theorem ym_emit54_no {post : Int32 → SY → Prop} {b s : Nat} {x2 x3 x4 : Int32} (hb : b < 12) (hs : a_size b = nI s) (hs4 : s ≤ 4) (h : ¬ s < C) (hp : post (-3) (f_blocks, nI C, f_regs, f_converted, f_recorded, f_recForm, f_recRan, f_recC, a_ops, a_dests, a_args, a_size, a_test, a_onTrue, a_onFalse, a_inputs, a_recRegs, a_complete, a_guard)) : wY_emit_54 post (nI b) x2 x3 x4 f_blocks (nI C) f_regs f_converted f_recorded f_recForm f_recRan f_recC a_ops a_dests a_args a_size a_test a_onTrue a_onFalse a_inputs a_recRegs a_complete a_guard :=
  ⟨ic_v12 hb, br_f (by rw [nI_clamp (by omega), hs]; exact nI_nlt (by omega) (by omega)) hp⟩
theorem ym_gof_no {post : Int32 → SY → Prop} {p0 : Int32} (hB : B < 2 ^ 31) (h : f_converted = 0 ∨ (p0 < 0 ∨ nI B ≤ p0)) (hp : post (-1) (nI B, f_cells, f_regs, f_converted, f_recorded, f_recForm, f_recRan, f_recC, a_ops, a_dests, a_args, a_size, a_test, a_onTrue, a_onFalse, a_inputs, a_recRegs, a_complete, a_guard)) : wpY_guardOf post (nI B, f_cells, f_regs, f_converted, f_recorded, f_recForm, f_recRan, f_recC, a_ops, a_dests, a_args, a_size, a_test, a_onTrue, a_onFalse, a_inputs, a_recRegs, a_complete, a_guard) p0 := by
  by_cases q : f_converted = 0
  · exact br_t q hp
  · exact br_f q (ym_out B rfl hB (h.resolve_left q) (br_t rfl hp))
theorem ym_gof (ok : ic_Ok B T F) (hB : B ≤ 12) (hT : ∀ b, b < B → a_onTrue b = nI (T b) ∧ a_onFalse b = nI (F b)) {post : Int32 → SY → Prop} {b : Nat} (hb : b < B)
    (hp : ∀ cm g, (∀ b, b < B → g b = ic_gy B T F b) → post (ic_gy B T F b) (nI B, f_cells, f_regs, 1, f_recorded, f_recForm, f_recRan, f_recC, a_ops, a_dests, a_args, a_size, a_test, a_onTrue, a_onFalse, a_inputs, a_recRegs, cm, g)) : wpY_guardOf post (nI B, f_cells, f_regs, 1, f_recorded, f_recForm, f_recRan, f_recC, a_ops, a_dests, a_args, a_size, a_test, a_onTrue, a_onFalse, a_inputs, a_recRegs, a_complete, a_guard) (nI b) := by
  refine br_f (by decide) (ym_in b B rfl rfl (by omega) hb (br_f (by decide) ?_))
  refine ym_ng ok hB hT (fun cm g hg => ?_)
  refine ⟨ic_v12 (by omega), ?_⟩
  rw [nI_clamp (by omega), hg b hb]
  exact hp cm g hg
end
/-! the source under edits -/
section
variable {B C R : Nat} {sizes ops dests args tests tt ff : Nat → Int32}
theorem ic_Src_emit (h : ic_Src B C R sizes ops dests args tests tt ff) (hC : C ≤ 4) {b s o d : Nat} {x : Int32} (hb : b < B) (hs : sizes b = nI s) (hsC : s < C) (ho : o < 8) (hd : d < R) (hx : o = 0 ∨ ∃ j, j < R ∧ x = nI j) :
    ic_Src B C R (upd sizes b (nI (s + 1))) (upd ops (b * 4 + s) (nI o)) (upd dests (b * 4 + s) (nI d)) (upd args (b * 4 + s) x) tests tt ff := by
  intro b' hb'
  obtain ⟨⟨s', k1, k2, k3⟩, h2⟩ := h b' hb'
  refine ⟨?_, h2⟩
  have keep : ∀ i, i < s' → b' * 4 + i ≠ b * 4 + s → ic_Cell R (upd ops (b * 4 + s) (nI o)) (upd dests (b * 4 + s) (nI d)) (upd args (b * 4 + s) x) (b' * 4 + i) := by
    intro i hi ne
    unfold ic_Cell
    rw [pk_un ne, pk_un ne, pk_un ne]
    exact k3 i hi
  by_cases e : b' = b
  · have es : s' = s := by
      rw [e, hs] at k2
      exact (nI_eq (by omega) (by omega)).mp k2.symm
    refine ⟨s + 1, by omega, by rw [e, pk_us], fun i hi => ?_⟩
    by_cases ei : i = s
    · rw [e, ei]
      unfold ic_Cell
      rw [pk_us, pk_us, pk_us]
      exact ⟨o, d, ho, hd, rfl, rfl, hx⟩
    · exact keep i (by omega) (by omega)
  · exact ⟨s', k1, by rw [pk_un e]; exact k2, fun i hi => keep i hi (by omega)⟩
theorem ic_Src_end (h : ic_Src B C R sizes ops dests args tests tt ff) {b t f : Nat} {r : Int32} (hr : r = -1 ∨ ∃ j, j < R ∧ r = nI j) (ht : b < t ∧ t ≤ B) (hf : b < f ∧ f ≤ B) :
    ic_Src B C R sizes ops dests args (upd tests b r) (upd tt b (nI t)) (upd ff b (nI f)) := by
  intro b' hb'
  obtain ⟨k1, k2⟩ := h b' hb'
  refine ⟨k1, ?_⟩
  by_cases e : b' = b
  · rw [e, pk_us, pk_us, pk_us]
    exact ⟨hr, ⟨t, rfl, ht⟩, ⟨f, rfl, hf⟩⟩
  · rw [pk_un e, pk_un e, pk_un e]
    exact k2
theorem ic_Src_clr (h : ic_Src B C R sizes ops dests args tests tt ff) {b : Nat} : ic_Src B C R (upd sizes b 0) ops dests args tests tt ff := by
  intro b' hb'
  obtain ⟨⟨s', k1, k2, k3⟩, h2⟩ := h b' hb'
  refine ⟨?_, h2⟩
  by_cases e : b' = b
  · exact ⟨0, by omega, by rw [e, pk_us]; exact nI_0.symm, fun i hi => absurd hi (Nat.not_lt_zero i)⟩
  · exact ⟨s', k1, by rw [pk_un e]; exact k2, k3⟩
end
