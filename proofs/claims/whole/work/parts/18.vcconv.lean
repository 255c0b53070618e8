/-! what the conversion shows -/
theorem i_vc_convert {k : Nat} {u : SX} {v : SY} (I : i_Rel k u v) (hk : k + 5 ≤ 2563) : wpX_convert (fun r u' => wpY_convert (fun r' v' => r' = r ∧ i_Rel (k + 5) u' v') v) u := by
  obtain ⟨B, C, R, f_converted, f_reachable, f_guardCount, f_recordForm, f_ranBlocks, f_heldGuards, a_inputs, a_sizes, a_ops, a_dests, a_args, a_tests, a_trueTargets, a_falseTargets, a_onEveryWayTo, a_onEveryPath, a_guardNumbers, a_guardsOnTrue, a_guardsOnFalse, a_heldOnEntry, a_restoredTests, a_restoredTrue, a_restoredFalse, a_finalRegs, f_recorded, f_recForm, f_recC, a_complete, a_guard, rfl, rfl, hBd, hS, hcv, hrec⟩ := I
  obtain ⟨b1, b2, c1, c2, r1, r2⟩ := id hBd
  have ok := ic_Src_ok hS b2
  have hT : ∀ b, b < B → a_trueTargets b = nI (ic_N a_trueTargets b) ∧ a_falseTargets b = nI (ic_N a_falseTargets b) := fun b hb => ic_Src_T hS b2 hb
  rcases hcv with rfl | ⟨rfl, cv⟩
  · refine xm_convert ok b2 (by omega) hT rfl (fun ρ D P g gT gF he rt rT rF cv => ?_)
    unfold wpY_convert
    refine ym_ng ok b2 hT (fun cm gd hg => ⟨rfl, ic_mk hBd hS (Or.inr ⟨rfl, cv⟩) ?_⟩)
    rcases hrec with h | ⟨h1, h2, h3 | h3 | ⟨_, h3, _⟩⟩
    · exact Or.inl h
    · exact Or.inr ⟨h1, h2, Or.inl h3⟩
    · exact Or.inr ⟨h1, h2, Or.inr (Or.inl h3)⟩
    · exact absurd h3 (by decide)
  · refine br_f (by decide) ?_
    unfold wpY_convert
    exact ym_ng ok b2 hT (fun cm gd hg => ⟨cv.2.2.1.symm, ic_mk hBd hS (Or.inr ⟨rfl, cv⟩) hrec⟩)
theorem i_vc_guards {k : Nat} {u : SX} {v : SY} (I : i_Rel k u v) (hk : k + 5 ≤ 2563) : wpX_guards (fun r => wpY_guards (fun r' v' => r' = r ∧ i_Rel (k + 5) u v') v) u := by
  obtain ⟨B, C, R, f_converted, f_reachable, f_guardCount, f_recordForm, f_ranBlocks, f_heldGuards, a_inputs, a_sizes, a_ops, a_dests, a_args, a_tests, a_trueTargets, a_falseTargets, a_onEveryWayTo, a_onEveryPath, a_guardNumbers, a_guardsOnTrue, a_guardsOnFalse, a_heldOnEntry, a_restoredTests, a_restoredTrue, a_restoredFalse, a_finalRegs, f_recorded, f_recForm, f_recC, a_complete, a_guard, rfl, rfl, hBd, hS, hcv, hrec⟩ := I
  obtain ⟨b1, b2, c1, c2, r1, r2⟩ := id hBd
  have ok := ic_Src_ok hS b2
  have hT : ∀ b, b < B → a_trueTargets b = nI (ic_N a_trueTargets b) ∧ a_falseTargets b = nI (ic_N a_falseTargets b) := fun b hb => ic_Src_T hS b2 hb
  rcases hcv with rfl | ⟨rfl, cv⟩
  · exact br_t rfl (br_t rfl ⟨rfl, ic_mk hBd hS (Or.inl rfl) hrec⟩)
  · refine br_f (by decide) (br_f (by decide) ?_)
    exact ym_ng ok b2 hT (fun cm gd hg => ⟨cv.2.2.1.symm, ic_mk hBd hS (Or.inr ⟨rfl, cv⟩) hrec⟩)
theorem i_vc_guardOf {k : Nat} {u : SX} {v : SY} (I : i_Rel k u v) (hk : k + 5 ≤ 2563) (v1 : Int32) : wpX_guardOf (fun r => wpY_guardOf (fun r' v' => r' = r ∧ i_Rel (k + 5) u v') v v1) u v1 := by
  obtain ⟨B, C, R, f_converted, f_reachable, f_guardCount, f_recordForm, f_ranBlocks, f_heldGuards, a_inputs, a_sizes, a_ops, a_dests, a_args, a_tests, a_trueTargets, a_falseTargets, a_onEveryWayTo, a_onEveryPath, a_guardNumbers, a_guardsOnTrue, a_guardsOnFalse, a_heldOnEntry, a_restoredTests, a_restoredTrue, a_restoredFalse, a_finalRegs, f_recorded, f_recForm, f_recC, a_complete, a_guard, rfl, rfl, hBd, hS, hcv, hrec⟩ := I
  obtain ⟨b1, b2, c1, c2, r1, r2⟩ := id hBd
  have ok := ic_Src_ok hS b2
  have hT : ∀ b, b < B → a_trueTargets b = nI (ic_N a_trueTargets b) ∧ a_falseTargets b = nI (ic_N a_falseTargets b) := fun b hb => ic_Src_T hS b2 hb
  unfold wpX_guardOf
  rcases hcv with rfl | ⟨rfl, cv⟩
  · exact xm_icb_no (by omega) (Or.inl rfl) (br_t rfl (ym_gof_no (by omega) (Or.inl rfl) ⟨rfl, ic_mk hBd hS (Or.inl rfl) hrec⟩))
  rcases ic_cls v1 (n := B) (by omega) with h | ⟨b, hb, rfl⟩
  · exact xm_icb_no (by omega) (Or.inr h) (br_t rfl (ym_gof_no (by omega) (Or.inr h) ⟨rfl, ic_mk hBd hS (Or.inr ⟨rfl, cv⟩) hrec⟩))
  refine xm_icb b2 hb cv.1 (fun r => br_f (by decide) ⟨ic_v12 (by omega), ?_⟩) (fun r => br_t rfl ?_)
  · refine ym_gof ok b2 hT hb (fun cm gd hg => ⟨?_, ic_mk hBd hS (Or.inr ⟨rfl, cv⟩) hrec⟩)
    rw [nI_clamp (by omega), cv.2.2.2.1 b hb, ic_gn_t r, ic_gy_t r]
  · exact ym_gof ok b2 hT hb (fun cm gd hg => ⟨ic_gy_f r, ic_mk hBd hS (Or.inr ⟨rfl, cv⟩) hrec⟩)
/-- x is no reachable block -/
def ic_NB (B : Nat) (T F : Nat → Nat) (x : Int32) : Prop := (x < 0 ∨ nI B ≤ x) ∨ ∃ b, b < B ∧ x = nI b ∧ ¬ ic_Re B T F b
theorem ic_NBc (x : Int32) {B : Nat} {T F : Nat → Nat} (hB : B ≤ 12) : ic_NB B T F x ∨ ∃ b, b < B ∧ x = nI b ∧ ic_Re B T F b := by
  rcases ic_cls x (n := B) (by omega) with h | ⟨b, hb, rfl⟩
  · exact Or.inl (Or.inl h)
  · rcases Classical.em (ic_Re B T F b) with r | r
    · exact Or.inr ⟨b, hb, rfl, r⟩
    · exact Or.inl (Or.inr ⟨b, hb, rfl, r⟩)
section
variable {B C R : Nat} {T F : Nat → Nat} {f_blocks f_cells f_regs f_converted f_recorded f_recForm f_recRan f_recC : Int32} {a_ops a_dests a_args a_size a_test a_onTrue a_onFalse a_inputs a_recRegs a_complete a_guard : Nat → Int32}
/-- guardOf of what is no reachable block -/
theorem ym_gof_nb (ok : ic_Ok B T F) (hB : B ≤ 12) (hT : ∀ b, b < B → a_onTrue b = nI (T b) ∧ a_onFalse b = nI (F b)) {post : Int32 → SY → Prop} {p0 : Int32} (h : f_converted = 0 ∨ (f_converted = 1 ∧ ic_NB B T F p0))
    (hp : ∀ cm g, post (-1) (nI B, f_cells, f_regs, f_converted, f_recorded, f_recForm, f_recRan, f_recC, a_ops, a_dests, a_args, a_size, a_test, a_onTrue, a_onFalse, a_inputs, a_recRegs, cm, g)) : wpY_guardOf post (nI B, f_cells, f_regs, f_converted, f_recorded, f_recForm, f_recRan, f_recC, a_ops, a_dests, a_args, a_size, a_test, a_onTrue, a_onFalse, a_inputs, a_recRegs, a_complete, a_guard) p0 := by
  rcases h with h | ⟨rfl, h | ⟨b, hb, rfl, r⟩⟩
  · exact ym_gof_no (by omega) (Or.inl h) (hp _ _)
  · exact ym_gof_no (by omega) (Or.inr h) (hp _ _)
  · refine ym_gof ok hB hT hb (fun cm g hg => ?_)
    rw [ic_gy_f r]
    exact hp cm g
theorem ym_gof_re (ok : ic_Ok B T F) (hB : B ≤ 12) (hT : ∀ b, b < B → a_onTrue b = nI (T b) ∧ a_onFalse b = nI (F b)) {post : Int32 → SY → Prop} {b : Nat} (hb : b < B) (r : ic_Re B T F b)
    (hp : ∀ cm g x, ¬ x = -1 → post x (nI B, f_cells, f_regs, 1, f_recorded, f_recForm, f_recRan, f_recC, a_ops, a_dests, a_args, a_size, a_test, a_onTrue, a_onFalse, a_inputs, a_recRegs, cm, g)) : wpY_guardOf post (nI B, f_cells, f_regs, 1, f_recorded, f_recForm, f_recRan, f_recC, a_ops, a_dests, a_args, a_size, a_test, a_onTrue, a_onFalse, a_inputs, a_recRegs, a_complete, a_guard) (nI b) :=
  ym_gof ok hB hT hb (fun cm g hg => hp cm g _ (fun e => (ic_gy_m1 hB hb).mp e r))
theorem ym_dep_no (ok : ic_Ok B T F) (hB : B ≤ 12) (hT : ∀ b, b < B → a_onTrue b = nI (T b) ∧ a_onFalse b = nI (F b)) {post : Int32 → SY → Prop} {v1 v2 v3 : Int32} (hc : f_converted = 0 ∨ f_converted = 1)
    (h : f_converted = 0 ∨ ic_NB B T F v1 ∨ ic_NB B T F v2 ∨ (v3 < 0 ∨ nI 2 ≤ v3))
    (hp : ∀ cm g, post (-1) (nI B, f_cells, f_regs, f_converted, f_recorded, f_recForm, f_recRan, f_recC, a_ops, a_dests, a_args, a_size, a_test, a_onTrue, a_onFalse, a_inputs, a_recRegs, cm, g)) : wpY_depends post (nI B, f_cells, f_regs, f_converted, f_recorded, f_recForm, f_recRan, f_recC, a_ops, a_dests, a_args, a_size, a_test, a_onTrue, a_onFalse, a_inputs, a_recRegs, a_complete, a_guard) v1 v2 v3 := by
  unfold wpY_depends
  rcases ic_cls v3 (n := 2) (by omega) with h3 | ⟨w, hw, rfl⟩
  · exact ym_out 2 (by decide) (by omega) h3 (br_t rfl (hp _ _))
  refine ym_in w 2 rfl (by decide) (by omega) hw (br_f (by decide) ?_)
  rcases hc with rfl | rfl
  · exact ym_gof_nb ok hB hT (Or.inl rfl) (fun cm g => br_t rfl (hp cm g))
  rcases ic_NBc v1 hB (T := T) (F := F) with n1 | ⟨b, hb, rfl, rb⟩
  · exact ym_gof_nb ok hB hT (Or.inr ⟨rfl, n1⟩) (fun cm g => br_t rfl (hp cm g))
  refine ym_gof_re ok hB hT hb rb (fun cm g x hx => br_f hx ?_)
  rcases ic_NBc v2 hB (T := T) (F := F) with n2 | ⟨a, ha, rfl, ra⟩
  · exact ym_gof_nb ok hB hT (Or.inr ⟨rfl, n2⟩) (fun cm g => br_t rfl (hp cm g))
  have nb : ∀ c, c < B → ic_Re B T F c → ¬ ic_NB B T F (nI c) := by
    intro c hcB rc n
    rcases n with (n | n) | ⟨d, hd, e, rd⟩
    · exact nI_pos (by omega) n
    · exact nI_ge hcB (by omega) n
    · rw [nI_eq (by omega) (by omega)] at e
      rw [e] at rc
      exact rd rc
  rcases h with h | h | h | h | h
  · exact absurd h (by decide)
  · exact absurd h (nb b hb rb)
  · exact absurd h (nb a ha ra)
  · exact absurd h (nI_pos (by omega))
  · exact absurd h (nI_ge hw (by omega))
theorem ym_dep (ok : ic_Ok B T F) (hB : B ≤ 12) (hT : ∀ b, b < B → a_onTrue b = nI (T b) ∧ a_onFalse b = nI (F b)) {post : Int32 → SY → Prop} {a b w z : Nat} (ha : a < B) (ra : ic_Re B T F a) (hb : b < B) (rb : ic_Re B T F b) (hw : (w = 1 ∧ T a = z) ∨ (w = 0 ∧ F a = z))
    (h1 : ∀ cm g, (ic_A B T F z b ∧ ¬ ic_A B T F a b) → post 1 (nI B, f_cells, f_regs, 1, f_recorded, f_recForm, f_recRan, f_recC, a_ops, a_dests, a_args, a_size, a_test, a_onTrue, a_onFalse, a_inputs, a_recRegs, cm, g)) (h0 : ∀ cm g, ¬ (ic_A B T F z b ∧ ¬ ic_A B T F a b) → post 0 (nI B, f_cells, f_regs, 1, f_recorded, f_recForm, f_recRan, f_recC, a_ops, a_dests, a_args, a_size, a_test, a_onTrue, a_onFalse, a_inputs, a_recRegs, cm, g)) : wpY_depends post (nI B, f_cells, f_regs, 1, f_recorded, f_recForm, f_recRan, f_recC, a_ops, a_dests, a_args, a_size, a_test, a_onTrue, a_onFalse, a_inputs, a_recRegs, a_complete, a_guard) (nI b) (nI a) (nI w) := by
  have o := ok a ha
  have hz : z ≤ B := by rcases hw with ⟨_, e⟩ | ⟨_, e⟩ <;> omega
  unfold wpY_depends
  refine ym_in w 2 rfl (by decide) (by omega) (by omega) (br_f (by decide) ?_)
  refine ym_gof_re ok hB hT hb rb (fun cm g x hx => br_f hx ?_)
  refine ym_gof_re ok hB hT ha ra (fun cm g x hx => br_f hx ?_)
  have H : ∀ z0, z0 = nI z → wY_depends_49 post (nI b) (nI a) z0 (nI B) f_cells f_regs 1 f_recorded f_recForm f_recRan f_recC a_ops a_dests a_args a_size a_test a_onTrue a_onFalse a_inputs a_recRegs cm g := by
    intro z0 ez
    unfold wY_depends_49
    refine ym_all ok hB hT hz hb ez (fun p1 => br_f (by decide) ?_) (fun p1 => br_t rfl (h0 _ _ (fun k => p1 k.1)))
    exact ym_all ok hB hT (by omega) hb rfl (fun p2 => br_f (by decide) (h0 _ _ (fun k => k.2 p2))) (fun p2 => br_t rfl (h1 _ _ ⟨p1, p2⟩))
  rcases hw with ⟨rfl, e⟩ | ⟨rfl, e⟩
  · exact br_t (by decide) ⟨ic_v12 (by omega), H _ (by rw [nI_clamp (by omega), (hT a ha).1, e])⟩
  · exact br_f (by decide) ⟨ic_v12 (by omega), H _ (by rw [nI_clamp (by omega), (hT a ha).2, e])⟩
end
section
variable {B C R : Nat} {T F : Nat → Nat} {f_blockCount f_cellCount f_regCount f_converted f_reachable f_guardCount f_recordForm f_ranBlocks f_heldGuards : Int32} {a_inputs a_sizes a_ops a_dests a_args a_tests a_trueTargets a_falseTargets a_onEveryWayTo a_onEveryPath a_guardNumbers a_guardsOnTrue a_guardsOnFalse a_heldOnEntry a_restoredTests a_restoredTrue a_restoredFalse a_finalRegs : Nat → Int32}
theorem xm_icb_nb {post : Int32 → Prop} {p0 : Int32} (hB : B ≤ 12) (h : f_converted = 0 ∨ (f_converted = 1 ∧ (∀ b, b < B → (bt f_reachable b = true ↔ ic_Re B T F b)) ∧ ic_NB B T F p0)) (hp : post 0) : wpX_isConvertedBlock post (nI B, f_cellCount, f_regCount, f_converted, f_reachable, f_guardCount, f_recordForm, f_ranBlocks, f_heldGuards, a_inputs, a_sizes, a_ops, a_dests, a_args, a_tests, a_trueTargets, a_falseTargets, a_onEveryWayTo, a_onEveryPath, a_guardNumbers, a_guardsOnTrue, a_guardsOnFalse, a_heldOnEntry, a_restoredTests, a_restoredTrue, a_restoredFalse, a_finalRegs) p0 := by
  rcases h with h | ⟨rfl, hR, h | ⟨b, hb, rfl, r⟩⟩
  · exact xm_icb_no (by omega) (Or.inl h) hp
  · exact xm_icb_no (by omega) (Or.inr h) hp
  · exact xm_icb hB hb hR (fun q => absurd q r) (fun _ => hp)
end
section
variable {B C R : Nat} {T F : Nat → Nat} {f_blocks f_cells f_regs f_converted f_recorded f_recForm f_recRan f_recC : Int32} {a_ops a_dests a_args a_size a_test a_onTrue a_onFalse a_inputs a_recRegs a_complete a_guard : Nat → Int32}
theorem ym_src_mono {post post' : Int32 → Prop} {p0 p1 : Int32} (h : ∀ r, post r → post' r) (H : wpY_source post (f_blocks, f_cells, f_regs, f_converted, f_recorded, f_recForm, f_recRan, f_recC, a_ops, a_dests, a_args, a_size, a_test, a_onTrue, a_onFalse, a_inputs, a_recRegs, a_complete, a_guard) p0 p1) : wpY_source post' (f_blocks, f_cells, f_regs, f_converted, f_recorded, f_recForm, f_recRan, f_recC, a_ops, a_dests, a_args, a_size, a_test, a_onTrue, a_onFalse, a_inputs, a_recRegs, a_complete, a_guard) p0 p1 := by
  have W : ∀ {q q' : Int32 → Prop} {a b : Int32}, (∀ r, q r → q' r) → wpY_within q (f_blocks, f_cells, f_regs, f_converted, f_recorded, f_recForm, f_recRan, f_recC, a_ops, a_dests, a_args, a_size, a_test, a_onTrue, a_onFalse, a_inputs, a_recRegs, a_complete, a_guard) a b → wpY_within q' (f_blocks, f_cells, f_regs, f_converted, f_recorded, f_recForm, f_recRan, f_recC, a_ops, a_dests, a_args, a_size, a_test, a_onTrue, a_onFalse, a_inputs, a_recRegs, a_complete, a_guard) a b := fun hq H => ⟨fun c => hq _ (H.1 c), fun c => ⟨fun d => hq _ ((H.2 c).1 d), fun d => hq _ ((H.2 c).2 d)⟩⟩
  unfold wpY_source at H ⊢
  refine W (fun r K => ⟨fun c => h _ (K.1 c), fun c => W (fun r K => ⟨fun c => h _ (K.1 c), fun c => ?_⟩) (K.2 c)⟩) H
  have K := K.2 c
  exact ⟨fun c => ⟨(K.1 c).1, h _ (K.1 c).2⟩, fun c => ⟨fun d => ⟨((K.2 c).1 d).1, h _ ((K.2 c).1 d).2⟩, fun d => ⟨fun f => ⟨(((K.2 c).2 d).1 f).1, h _ (((K.2 c).2 d).1 f).2⟩, fun f => ⟨(((K.2 c).2 d).2 f).1, h _ (((K.2 c).2 d).2 f).2⟩⟩⟩⟩
end
theorem i_vc_depends {k : Nat} {u : SX} {v : SY} (I : i_Rel k u v) (hk : k + 5 ≤ 2563) (v1 : Int32) (v2 : Int32) (v3 : Int32) : wpX_depends (fun r => wpY_depends (fun r' v' => r' = r ∧ i_Rel (k + 5) u v') v v1 v2 v3) u v1 v2 v3 := by
  obtain ⟨B, C, R, f_converted, f_reachable, f_guardCount, f_recordForm, f_ranBlocks, f_heldGuards, a_inputs, a_sizes, a_ops, a_dests, a_args, a_tests, a_trueTargets, a_falseTargets, a_onEveryWayTo, a_onEveryPath, a_guardNumbers, a_guardsOnTrue, a_guardsOnFalse, a_heldOnEntry, a_restoredTests, a_restoredTrue, a_restoredFalse, a_finalRegs, f_recorded, f_recForm, f_recC, a_complete, a_guard, rfl, rfl, hBd, hS, hcv, hrec⟩ := I
  obtain ⟨b1, b2, c1, c2, r1, r2⟩ := id hBd
  have ok := ic_Src_ok hS b2
  have hT : ∀ b, b < B → a_trueTargets b = nI (ic_N a_trueTargets b) ∧ a_falseTargets b = nI (ic_N a_falseTargets b) := fun b hb => ic_Src_T hS b2 hb
  unfold wpX_depends
  rcases hcv with rfl | ⟨rfl, cv⟩
  · exact xm_icb_no (by omega) (Or.inl rfl) (br_t rfl (ym_dep_no ok b2 hT (Or.inl rfl) (Or.inl rfl) (fun cm g => ⟨rfl, ic_mk hBd hS (Or.inl rfl) hrec⟩)))
  have M : ∀ cm g, i_Rel (k + 5) (nI B, nI C, nI R, 1, f_reachable, f_guardCount, f_recordForm, f_ranBlocks, f_heldGuards, a_inputs, a_sizes, a_ops, a_dests, a_args, a_tests, a_trueTargets, a_falseTargets, a_onEveryWayTo, a_onEveryPath, a_guardNumbers, a_guardsOnTrue, a_guardsOnFalse, a_heldOnEntry, a_restoredTests, a_restoredTrue, a_restoredFalse, a_finalRegs) (nI B, nI C, nI R, 1, f_recorded, f_recForm, f_ranBlocks, f_recC, a_ops, a_dests, a_args, a_sizes, a_tests, a_trueTargets, a_falseTargets, a_inputs, a_finalRegs, cm, g) := fun cm g => ic_mk hBd hS (Or.inr ⟨rfl, cv⟩) hrec
  rcases ic_NBc v1 b2 (T := ic_N a_trueTargets) (F := ic_N a_falseTargets) with n1 | ⟨b, hb, rfl, rb⟩
  · exact xm_icb_nb b2 (Or.inr ⟨rfl, cv.1, n1⟩) (br_t rfl (ym_dep_no ok b2 hT (Or.inr rfl) (Or.inr (Or.inl n1)) (fun cm g => ⟨rfl, M cm g⟩)))
  refine xm_icb b2 hb cv.1 (fun _ => br_f (by decide) ?_) (fun q => absurd rb q)
  rcases ic_NBc v2 b2 (T := ic_N a_trueTargets) (F := ic_N a_falseTargets) with n2 | ⟨a, ha, rfl, ra⟩
  · exact xm_icb_nb b2 (Or.inr ⟨rfl, cv.1, n2⟩) (br_t rfl (ym_dep_no ok b2 hT (Or.inr rfl) (Or.inr (Or.inr (Or.inl n2))) (fun cm g => ⟨rfl, M cm g⟩)))
  refine xm_icb b2 ha cv.1 (fun _ => br_f (by decide) ?_) (fun q => absurd ra q)
  rcases ic_cls v3 (n := 2) (by omega) with h | ⟨w, hw, rfl⟩
  · have Y : wpY_depends (fun r' v' => r' = -1 ∧ i_Rel (k + 5) (nI B, nI C, nI R, 1, f_reachable, f_guardCount, f_recordForm, f_ranBlocks, f_heldGuards, a_inputs, a_sizes, a_ops, a_dests, a_args, a_tests, a_trueTargets, a_falseTargets, a_onEveryWayTo, a_onEveryPath, a_guardNumbers, a_guardsOnTrue, a_guardsOnFalse, a_heldOnEntry, a_restoredTests, a_restoredTrue, a_restoredFalse, a_finalRegs) v') (nI B, nI C, nI R, 1, f_recorded, f_recForm, f_ranBlocks, f_recC, a_ops, a_dests, a_args, a_sizes, a_tests, a_trueTargets, a_falseTargets, a_inputs, a_finalRegs, a_complete, a_guard) (nI b) (nI a) v3 :=
      ym_dep_no ok b2 hT (Or.inr rfl) (Or.inr (Or.inr (Or.inr h))) (fun cm g => ⟨rfl, M cm g⟩)
    rcases h with h | h
    · exact br_t h Y
    · have g := ic_not_lt (n := 1) (by omega) h
      exact br_f g.1 (br_f (Int32.not_le.mpr g.2) Y)
  have o := ok a ha
  have H : ∀ z z0, z0 = nI z → z ≤ B → ((w = 1 ∧ ic_N a_trueTargets a = z) ∨ (w = 0 ∧ ic_N a_falseTargets a = z)) → wX_depends_47 (fun r => wpY_depends (fun r' v' => r' = r ∧ i_Rel (k + 5) (nI B, nI C, nI R, 1, f_reachable, f_guardCount, f_recordForm, f_ranBlocks, f_heldGuards, a_inputs, a_sizes, a_ops, a_dests, a_args, a_tests, a_trueTargets, a_falseTargets, a_onEveryWayTo, a_onEveryPath, a_guardNumbers, a_guardsOnTrue, a_guardsOnFalse, a_heldOnEntry, a_restoredTests, a_restoredTrue, a_restoredFalse, a_finalRegs) v') (nI B, nI C, nI R, 1, f_recorded, f_recForm, f_ranBlocks, f_recC, a_ops, a_dests, a_args, a_sizes, a_tests, a_trueTargets, a_falseTargets, a_inputs, a_finalRegs, a_complete, a_guard) (nI b) (nI a) (nI w)) (nI b) (nI a) z0 (nI B) (nI C) (nI R) 1 f_reachable f_guardCount f_recordForm f_ranBlocks f_heldGuards a_inputs a_sizes a_ops a_dests a_args a_tests a_trueTargets a_falseTargets a_onEveryWayTo a_onEveryPath a_guardNumbers a_guardsOnTrue a_guardsOnFalse a_heldOnEntry a_restoredTests a_restoredTrue a_restoredFalse a_finalRegs := by
    intro z z0 ez hz hzw
    unfold wX_depends_47
    refine xm_dep b2 cv.2.1 ha ez hz (fun q hq => ?_)
    have hqb := hq b (by omega)
    refine xm_has b rfl (by omega) (fun e => br_f (by decide) ?_) (fun e => br_t rfl ?_)
    · exact ym_dep ok b2 hT ha ra hb rb hzw (fun cm g _ => ⟨rfl, M cm g⟩) (fun cm g n => absurd (hqb.mp e) n)
    · refine ym_dep ok b2 hT ha ra hb rb hzw (fun cm g n => ?_) (fun cm g _ => ⟨rfl, M cm g⟩)
      have := hqb.mpr n
      rw [e] at this
      cases this
  refine br_f (nI_pos (by omega)) (br_t (nI_le (b := 1) (by omega) (by omega)) ?_)
  have h2 : w = 0 ∨ w = 1 := by omega
  rcases h2 with rfl | rfl
  · exact br_f (by decide) ⟨ic_v12 (by omega), H (ic_N a_falseTargets a) _ ((ic_g (by omega)).trans (hT a ha).2) o.2.2.2 (Or.inr ⟨rfl, rfl⟩)⟩
  · exact br_t (by decide) ⟨ic_v12 (by omega), H (ic_N a_trueTargets a) _ ((ic_g (by omega)).trans (hT a ha).1) o.2.1 (Or.inl ⟨rfl, rfl⟩)⟩
theorem i_vc_restored {k : Nat} {u : SX} {v : SY} (I : i_Rel k u v) (hk : k + 5 ≤ 2563) (v1 : Int32) (v2 : Int32) : wpX_restored (fun r => wpY_restored (fun r' v' => r' = r ∧ i_Rel (k + 5) u v') v v1 v2) u v1 v2 := by
  obtain ⟨B, C, R, f_converted, f_reachable, f_guardCount, f_recordForm, f_ranBlocks, f_heldGuards, a_inputs, a_sizes, a_ops, a_dests, a_args, a_tests, a_trueTargets, a_falseTargets, a_onEveryWayTo, a_onEveryPath, a_guardNumbers, a_guardsOnTrue, a_guardsOnFalse, a_heldOnEntry, a_restoredTests, a_restoredTrue, a_restoredFalse, a_finalRegs, f_recorded, f_recForm, f_recC, a_complete, a_guard, rfl, rfl, hBd, hS, hcv, hrec⟩ := I
  obtain ⟨b1, b2, c1, c2, r1, r2⟩ := id hBd
  have ok := ic_Src_ok hS b2
  have hT : ∀ b, b < B → a_trueTargets b = nI (ic_N a_trueTargets b) ∧ a_falseTargets b = nI (ic_N a_falseTargets b) := fun b hb => ic_Src_T hS b2 hb
  unfold wpX_restored
  rcases hcv with rfl | ⟨rfl, cv⟩
  · refine xm_icb_no (by omega) (Or.inl rfl) (br_t rfl ?_)
    unfold wpY_restored
    exact ym_gof_no (by omega) (Or.inl rfl) (br_t rfl ⟨rfl, ic_mk hBd hS (Or.inl rfl) hrec⟩)
  have M : ∀ cm g, i_Rel (k + 5) (nI B, nI C, nI R, 1, f_reachable, f_guardCount, f_recordForm, f_ranBlocks, f_heldGuards, a_inputs, a_sizes, a_ops, a_dests, a_args, a_tests, a_trueTargets, a_falseTargets, a_onEveryWayTo, a_onEveryPath, a_guardNumbers, a_guardsOnTrue, a_guardsOnFalse, a_heldOnEntry, a_restoredTests, a_restoredTrue, a_restoredFalse, a_finalRegs) (nI B, nI C, nI R, 1, f_recorded, f_recForm, f_ranBlocks, f_recC, a_ops, a_dests, a_args, a_sizes, a_tests, a_trueTargets, a_falseTargets, a_inputs, a_finalRegs, cm, g) := fun cm g => ic_mk hBd hS (Or.inr ⟨rfl, cv⟩) hrec
  rcases ic_NBc v1 b2 (T := ic_N a_trueTargets) (F := ic_N a_falseTargets) with n1 | ⟨b, hb, rfl, rb⟩
  · refine xm_icb_nb b2 (Or.inr ⟨rfl, cv.1, n1⟩) (br_t rfl ?_)
    unfold wpY_restored
    exact ym_gof_nb ok b2 hT (Or.inr ⟨rfl, n1⟩) (fun cm g => br_t rfl ⟨rfl, M cm g⟩)
  refine xm_icb b2 hb cv.1 (fun _ => br_f (by decide) ?_) (fun q => absurd rb q)
  have v12 : vp_in (nI b) 12 := ic_v12 (by omega)
  have cb : (nI b).toNatClampNeg = b := nI_clamp (by omega)
  obtain ⟨t1, t2, t3, t4⟩ := cv.2.2.2.2.2 b hb rb
  have o := ok b hb
  have hTb := hT b hb
  have Y : ∀ r, (∀ cm g, ((v2 = 0 → (vp_in (nI b) 12 ∧ (vp_in (nI b) 12 ∧ (((a_trueTargets (nI b).toNatClampNeg) = (a_falseTargets (nI b).toNatClampNeg) → (-1 = r)) ∧ (¬ (a_trueTargets (nI b).toNatClampNeg) = (a_falseTargets (nI b).toNatClampNeg) → wpY_source (fun r' => r' = r) (nI B, nI C, nI R, 1, f_recorded, f_recForm, f_ranBlocks, f_recC, a_ops, a_dests, a_args, a_sizes, a_tests, a_trueTargets, a_falseTargets, a_inputs, a_finalRegs, cm, g) (nI b) v2))))) ∧ (¬ v2 = 0 → wpY_source (fun r' => r' = r) (nI B, nI C, nI R, 1, f_recorded, f_recForm, f_ranBlocks, f_recC, a_ops, a_dests, a_args, a_sizes, a_tests, a_trueTargets, a_falseTargets, a_inputs, a_finalRegs, cm, g) (nI b) v2))) → wpY_restored (fun r' v' => r' = r ∧ i_Rel (k + 5) (nI B, nI C, nI R, 1, f_reachable, f_guardCount, f_recordForm, f_ranBlocks, f_heldGuards, a_inputs, a_sizes, a_ops, a_dests, a_args, a_tests, a_trueTargets, a_falseTargets, a_onEveryWayTo, a_onEveryPath, a_guardNumbers, a_guardsOnTrue, a_guardsOnFalse, a_heldOnEntry, a_restoredTests, a_restoredTrue, a_restoredFalse, a_finalRegs) v') (nI B, nI C, nI R, 1, f_recorded, f_recForm, f_ranBlocks, f_recC, a_ops, a_dests, a_args, a_sizes, a_tests, a_trueTargets, a_falseTargets, a_inputs, a_finalRegs, a_complete, a_guard) (nI b) v2 := by
    intro r H
    unfold wpY_restored
    refine ym_gof_re ok b2 hT hb rb (fun cm g x hx => br_f hx ?_)
    have S : wpY_source (fun r' => r' = r) (nI B, nI C, nI R, 1, f_recorded, f_recForm, f_ranBlocks, f_recC, a_ops, a_dests, a_args, a_sizes, a_tests, a_trueTargets, a_falseTargets, a_inputs, a_finalRegs, cm, g) (nI b) v2 → wY_restored_32 (fun r' v' => r' = r ∧ i_Rel (k + 5) (nI B, nI C, nI R, 1, f_reachable, f_guardCount, f_recordForm, f_ranBlocks, f_heldGuards, a_inputs, a_sizes, a_ops, a_dests, a_args, a_tests, a_trueTargets, a_falseTargets, a_onEveryWayTo, a_onEveryPath, a_guardNumbers, a_guardsOnTrue, a_guardsOnFalse, a_heldOnEntry, a_restoredTests, a_restoredTrue, a_restoredFalse, a_finalRegs) v') (nI b) v2 (nI B) (nI C) (nI R) 1 f_recorded f_recForm f_ranBlocks f_recC a_ops a_dests a_args a_sizes a_tests a_trueTargets a_falseTargets a_inputs a_finalRegs cm g := by
      intro h
      unfold wY_restored_32
      exact ym_src_mono (fun r' e => ⟨e, M cm g⟩) h
    refine br_c (fun e => ?_) (fun e => S ((H cm g).2 e))
    have h := (H cm g).1 e
    exact ⟨v12, v12, br_c (fun e2 => ⟨h.2.2.1 e2, M cm g⟩) (fun e2 => S (h.2.2.2 e2))⟩
  rcases ic_cls v2 (n := 4) (by omega) with h | ⟨j, hj, rfl⟩
  · have n0 : ¬ v2 = 0 := by
      rintro rfl
      rcases h with h | h
      · exact absurd h (by decide)
      · exact absurd h (by decide)
    have YY := Y (-1) (fun cm g => br_f n0 (by
      unfold wpY_source
      exact ym_in b B rfl rfl (by omega) hb (br_f (by decide) (ym_out 4 (by decide) (by omega) h (br_t rfl rfl)))))
    rcases h with h | h
    · exact br_t h YY
    · have g := ic_not_lt (n := 3) (by omega) h
      exact br_f g.1 (br_t g.2 YY)
  · have h4 : j = 0 ∨ j = 1 ∨ j = 2 ∨ j = 3 := by omega
    refine br_f (nI_pos (by omega)) (br_f (nI_nlt (a := 3) (by omega) (by omega)) ?_)
    rcases h4 with rfl | rfl | rfl | rfl
    · refine br_t (by decide) ⟨v12, Y _ (fun cm g => br_t (by decide) ⟨v12, v12, ?_⟩)⟩
      rw [cb, hTb.1, hTb.2]
      refine pk_eq (ic_N a_trueTargets b) (ic_N a_falseTargets b) (fun e => (t3 e).symm) (fun e => ?_)
      unfold wpY_source
      exact ym_in b B rfl rfl (by omega) hb (br_f (by decide) (ym_in 0 4 rfl (by decide) (by omega) (by omega) (br_f (by decide) (br_f (by decide) (br_t (by decide) ⟨v12, by rw [cb, t4 e]⟩)))))
    · refine br_f (by decide) (br_t (by decide) ⟨v12, Y _ (fun cm g => br_f (by decide) ?_)⟩)
      unfold wpY_source
      exact ym_in b B rfl rfl (by omega) hb (br_f (by decide) (ym_in 1 4 rfl (by decide) (by omega) (by omega) (br_f (by decide) (br_f (by decide) (br_f (by decide) (br_t (by decide) ⟨v12, by rw [cb, t1, hTb.1]⟩))))))
    · refine br_f (by decide) (br_f (by decide) (br_t (by decide) ⟨v12, Y _ (fun cm g => br_f (by decide) ?_)⟩))
      unfold wpY_source
      exact ym_in b B rfl rfl (by omega) hb (br_f (by decide) (ym_in 2 4 rfl (by decide) (by omega) (by omega) (br_f (by decide) (br_f (by decide) (br_f (by decide) (br_f (by decide) ⟨v12, by rw [cb, t2, hTb.2]⟩))))))
    · refine br_f (by decide) (br_f (by decide) (br_f (by decide) (br_t (by decide) ⟨v12, Y _ (fun cm g => br_f (by decide) ?_)⟩)))
      unfold wpY_source
      exact ym_in b B rfl rfl (by omega) hb (br_f (by decide) (ym_in 3 4 rfl (by decide) (by omega) (by omega) (br_f (by decide) (br_t (by decide) ⟨v12, rfl⟩))))
