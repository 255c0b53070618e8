/-! run and holds -/
section
variable {B C R : Nat} {T F : Nat → Nat} {f_blocks f_cells f_regs f_converted f_recorded f_recForm f_recRan f_recC : Int32} {a_ops a_dests a_args a_size a_test a_onTrue a_onFalse a_inputs a_recRegs a_complete a_guard : Nat → Int32}
theorem ym_run (hB : B ≤ 12) (hC : C ≤ 4) (hR : R ≤ 8) (hS : ic_Src B C R a_size a_ops a_dests a_args a_test a_onTrue a_onFalse) {post : Int32 → SY → Prop} {f stop : Nat} (hf : f < 3) (hst : stop ≤ B) (hc : f = 0 ∨ ¬ f_converted = 0) (hp : post (nI (ic_rn a_size a_ops a_dests a_args a_test a_onTrue a_onFalse (ic_cp a_inputs a_recRegs R) stop).1) (nI B, f_cells, nI R, f_converted, 1, nI f, (ic_rn a_size a_ops a_dests a_args a_test a_onTrue a_onFalse (ic_cp a_inputs a_recRegs R) stop).2.2, nI (ic_rn a_size a_ops a_dests a_args a_test a_onTrue a_onFalse (ic_cp a_inputs a_recRegs R) stop).1, a_ops, a_dests, a_args, a_size, a_test, a_onTrue, a_onFalse, a_inputs, (ic_rn a_size a_ops a_dests a_args a_test a_onTrue a_onFalse (ic_cp a_inputs a_recRegs R) stop).2.1, a_complete, a_guard)) :
    wpY_run post (nI B, f_cells, nI R, f_converted, f_recorded, f_recForm, f_recRan, f_recC, a_ops, a_dests, a_args, a_size, a_test, a_onTrue, a_onFalse, a_inputs, a_recRegs, a_complete, a_guard) (nI f) (nI stop) := by
  have H : wY_run_38 post (nI f) (nI stop) (nI B) f_cells (nI R) f_converted f_recorded f_recForm f_recRan f_recC a_ops a_dests a_args a_size a_test a_onTrue a_onFalse a_inputs a_recRegs a_complete a_guard := ym_38 hB hC hR hS rfl hst hp
  unfold wpY_run
  refine ym_in f 3 rfl (by decide) (by omega) hf (br_f (by decide) (br_f (nI_pos (by omega)) (br_t (nI_le hst (by omega)) ?_)))
  by_cases e : f = 0
  · exact br_t (by rw [e]; exact nI_0) H
  · exact br_f (nI_ne0 (by omega) (by omega)) (br_f (hc.resolve_left e) H)
theorem ym_h63 {post : Int32 → SY → Prop} {J : Int32 → Prop} {x3 : Int32} {g : Nat} (hB : B ≤ 12) (h0 : ∀ b, b < B → a_guard b = nI g → bt (f_recRan ||| x3) b = false → post 0 (nI B, f_cells, f_regs, f_converted, f_recorded, f_recForm, f_recRan, f_recC, a_ops, a_dests, a_args, a_size, a_test, a_onTrue, a_onFalse, a_inputs, a_recRegs, a_complete, a_guard))
    (h1 : (∀ b, b < B → a_guard b = nI g → bt (f_recRan ||| x3) b = true) → ∀ y, y = x3 + 1 → J y) :
    ∀ d b, b + d = B → (∀ c, c < b → a_guard c = nI g → bt (f_recRan ||| x3) c = true) → ∀ n, d < n → wY_holds_63 post J (nI g) x3 (nI B) f_cells f_regs f_converted f_recorded f_recForm f_recRan f_recC a_ops a_dests a_args a_size a_test a_onTrue a_onFalse a_inputs a_recRegs a_complete a_guard n (nI b) := by
  intro d
  induction d with
  | zero =>
    intro b hb h n hn
    cases n with
    | zero => exact absurd hn (Nat.not_lt_zero _)
    | succ n =>
      have e : b = B := by omega
      rw [e] at h
      exact br_t (nI_le (by omega) (by omega)) (h1 h)
  | succ d ih =>
    intro b hb h n hn
    cases n with
    | zero => exact absurd hn (Nat.not_lt_zero _)
    | succ n =>
      have N : (a_guard b = nI g → bt (f_recRan ||| x3) b = true) → ∀ y, y = nI b + 1 → wY_holds_63 post J (nI g) x3 (nI B) f_cells f_regs f_converted f_recorded f_recForm f_recRan f_recC a_ops a_dests a_args a_size a_test a_onTrue a_onFalse a_inputs a_recRegs a_complete a_guard n y := by
        intro q
        refine nm_r (nI_1 b) (ih (b + 1) (by omega) (fun c hc => ?_) n (by omega))
        by_cases e : c = b
        · rw [e]
          exact q
        · exact h c (by omega)
      refine br_f (nI_ge (by omega) (by omega)) ⟨ic_v12 (by omega), br_c (fun q => ?_) (fun q => N (fun z => ?_))⟩
      · rw [nI_clamp (by omega)] at q
        exact ym_has b rfl (by omega) (fun e => br_f (by decide) (N (fun _ => e))) (fun e => br_t rfl (h0 b (by omega) q e))
      · rw [nI_clamp (by omega)] at q
        exact absurd z q
theorem ym_h35 (ok : ic_Ok B T F) (hB : B ≤ 12) (hT : ∀ b, b < B → a_onTrue b = nI (T b) ∧ a_onFalse b = nI (F b)) {post : Int32 → SY → Prop} {g c : Nat} (hc : c ≤ B) (ec : f_recC = nI c)
    (h0 : ¬ (∀ s, s < 2 ^ B → ic_YP B T F s.testBit c → ∀ b, b < B → a_guard b = nI g → bt (f_recRan ||| nI s) b = true) → post 0 (nI B, f_cells, f_regs, f_converted, f_recorded, f_recForm, f_recRan, f_recC, a_ops, a_dests, a_args, a_size, a_test, a_onTrue, a_onFalse, a_inputs, a_recRegs, a_complete, a_guard))
    (h1 : (∀ s, s < 2 ^ B → ic_YP B T F s.testBit c → ∀ b, b < B → a_guard b = nI g → bt (f_recRan ||| nI s) b = true) → post 1 (nI B, f_cells, f_regs, f_converted, f_recorded, f_recForm, f_recRan, f_recC, a_ops, a_dests, a_args, a_size, a_test, a_onTrue, a_onFalse, a_inputs, a_recRegs, a_complete, a_guard)) :
    ∀ d m, m + d = 2 ^ B → (∀ s, s < m → ic_YP B T F s.testBit c → ∀ b, b < B → a_guard b = nI g → bt (f_recRan ||| nI s) b = true) → ∀ n, d < n → wY_holds_35 post (nI g) (nI B) f_cells f_regs f_converted f_recorded f_recForm f_recRan f_recC a_ops a_dests a_args a_size a_test a_onTrue a_onFalse a_inputs a_recRegs a_complete a_guard n (nI m) := by
  have h2 := ic_pB hB
  intro d
  induction d with
  | zero =>
    intro m hm h n hn
    cases n with
    | zero => exact absurd hn (Nat.not_lt_zero _)
    | succ n =>
      have e : m = 2 ^ B := by omega
      rw [e] at h
      exact br_t (by rw [ic_p2 B (by omega)]; exact nI_le (by omega) (by omega)) (h1 h)
  | succ d ih =>
    intro m hm h n hn
    cases n with
    | zero => exact absurd hn (Nat.not_lt_zero _)
    | succ n =>
      have N : (ic_YP B T F m.testBit c → ∀ b, b < B → a_guard b = nI g → bt (f_recRan ||| nI m) b = true) → ∀ y, y = nI m + 1 → wY_holds_35 post (nI g) (nI B) f_cells f_regs f_converted f_recorded f_recForm f_recRan f_recC a_ops a_dests a_args a_size a_test a_onTrue a_onFalse a_inputs a_recRegs a_complete a_guard n y := by
        intro q
        refine nm_r (nI_1 m) (ih (m + 1) (by omega) (fun s hs => ?_) n (by omega))
        by_cases e : s = m
        · rw [e]
          exact q
        · exact h s (by omega)
      refine br_f (by rw [ic_p2 B (by omega)]; exact nI_ge (by omega) (by omega)) ?_
      refine ym_path ok hB hT hc (by omega) ec (fun q => br_f (by decide) ?_) (fun q => br_t rfl (N (fun z => absurd z q)))
      refine ⟨B + 1, ym_h63 hB (fun b hb e1 e2 => h0 (fun K => ?_)) (fun H => N (fun _ => H)) B 0 (by omega) (fun c hc => absurd hc (Nat.not_lt_zero c)) (B + 1) (by omega)⟩
      have := K m (by omega) q b hb e1
      rw [e2] at this
      cases this
end
theorem i_vc_holds {k : Nat} {u : SX} {v : SY} (I : i_Rel k u v) (hk : k + 5 ≤ 2563) (v1 : Int32) : wpX_holds (fun r => wpY_holds (fun r' v' => r' = r ∧ i_Rel (k + 5) u v') v v1) u v1 := by
  obtain ⟨B, C, R, f_converted, f_reachable, f_guardCount, f_recordForm, f_ranBlocks, f_heldGuards, a_inputs, a_sizes, a_ops, a_dests, a_args, a_tests, a_trueTargets, a_falseTargets, a_onEveryWayTo, a_onEveryPath, a_guardNumbers, a_guardsOnTrue, a_guardsOnFalse, a_heldOnEntry, a_restoredTests, a_restoredTrue, a_restoredFalse, a_finalRegs, f_recorded, f_recForm, f_recC, a_complete, a_guard, rfl, rfl, hBd, hS, hcv, hrec⟩ := I
  obtain ⟨b1, b2, c1, c2, r1, r2⟩ := id hBd
  have ok := ic_Src_ok hS b2
  have hT : ∀ b, b < B → a_trueTargets b = nI (ic_N a_trueTargets b) ∧ a_falseTargets b = nI (ic_N a_falseTargets b) := fun b hb => ic_Src_T hS b2 hb
  have M : ∀ cm g, i_Rel (k + 5) (nI B, nI C, nI R, f_converted, f_reachable, f_guardCount, f_recordForm, f_ranBlocks, f_heldGuards, a_inputs, a_sizes, a_ops, a_dests, a_args, a_tests, a_trueTargets, a_falseTargets, a_onEveryWayTo, a_onEveryPath, a_guardNumbers, a_guardsOnTrue, a_guardsOnFalse, a_heldOnEntry, a_restoredTests, a_restoredTrue, a_restoredFalse, a_finalRegs) (nI B, nI C, nI R, f_converted, f_recorded, f_recForm, f_ranBlocks, f_recC, a_ops, a_dests, a_args, a_sizes, a_tests, a_trueTargets, a_falseTargets, a_inputs, a_finalRegs, cm, g) := fun cm g => ic_mk hBd hS hcv hrec
  rcases hrec with ⟨q1, q2⟩ | ⟨q1, q2, q3 | q3 | ⟨q3, q4, V, c, ec, J, hV⟩⟩
  · exact br_f (by rw [q1]; decide) (br_t q2 ⟨rfl, M _ _⟩)
  · exact br_f (by rw [q3]; decide) (br_f (by rw [q1]; decide) (br_f (by rw [q2, q3]; decide) ⟨rfl, M _ _⟩))
  · exact br_f (by rw [q3]; decide) (br_f (by rw [q1]; decide) (br_f (by rw [q2, q3]; decide) ⟨rfl, M _ _⟩))
  have cv := (hcv.resolve_left (by rw [q4]; decide)).2
  have gc := cv.2.2.1
  have hcnt := ic_cnt_le (B := B) (T := ic_N a_trueTargets) (F := ic_N a_falseTargets) B
  refine br_t q3 ?_
  have P : ∀ r, (∀ cm g, (∀ b, b < B → g b = ic_gy B (ic_N a_trueTargets) (ic_N a_falseTargets) b) → wpY_within (fun r_23 => (((r_23 = 0 → (-1 = r ∧ i_Rel (k + 5) (nI B, nI C, nI R, f_converted, f_reachable, f_guardCount, f_recordForm, f_ranBlocks, f_heldGuards, a_inputs, a_sizes, a_ops, a_dests, a_args, a_tests, a_trueTargets, a_falseTargets, a_onEveryWayTo, a_onEveryPath, a_guardNumbers, a_guardsOnTrue, a_guardsOnFalse, a_heldOnEntry, a_restoredTests, a_restoredTrue, a_restoredFalse, a_finalRegs) (nI B, nI C, nI R, f_converted, f_recorded, f_recForm, f_ranBlocks, f_recC, a_ops, a_dests, a_args, a_sizes, a_tests, a_trueTargets, a_falseTargets, a_inputs, a_finalRegs, cm, g))) ∧ (¬ r_23 = 0 → (∃ n35 : Nat, wY_holds_35 (fun r' v' => r' = r ∧ i_Rel (k + 5) (nI B, nI C, nI R, f_converted, f_reachable, f_guardCount, f_recordForm, f_ranBlocks, f_heldGuards, a_inputs, a_sizes, a_ops, a_dests, a_args, a_tests, a_trueTargets, a_falseTargets, a_onEveryWayTo, a_onEveryPath, a_guardNumbers, a_guardsOnTrue, a_guardsOnFalse, a_heldOnEntry, a_restoredTests, a_restoredTrue, a_restoredFalse, a_finalRegs) v') v1 (nI B) (nI C) (nI R) f_converted f_recorded f_recForm f_ranBlocks f_recC a_ops a_dests a_args a_sizes a_tests a_trueTargets a_falseTargets a_inputs a_finalRegs cm g n35 0))))) (nI B, nI C, nI R, f_converted, f_recorded, f_recForm, f_ranBlocks, f_recC, a_ops, a_dests, a_args, a_sizes, a_tests, a_trueTargets, a_falseTargets, a_inputs, a_finalRegs, cm, g) v1 (nI (ic_cnt B (ic_N a_trueTargets) (ic_N a_falseTargets) B))) → wpY_holds (fun r' v' => r' = r ∧ i_Rel (k + 5) (nI B, nI C, nI R, f_converted, f_reachable, f_guardCount, f_recordForm, f_ranBlocks, f_heldGuards, a_inputs, a_sizes, a_ops, a_dests, a_args, a_tests, a_trueTargets, a_falseTargets, a_onEveryWayTo, a_onEveryPath, a_guardNumbers, a_guardsOnTrue, a_guardsOnFalse, a_heldOnEntry, a_restoredTests, a_restoredTrue, a_restoredFalse, a_finalRegs) v') (nI B, nI C, nI R, f_converted, f_recorded, f_recForm, f_ranBlocks, f_recC, a_ops, a_dests, a_args, a_sizes, a_tests, a_trueTargets, a_falseTargets, a_inputs, a_finalRegs, a_complete, a_guard) v1 := by
    intro r H
    refine br_f (by rw [q1]; decide) (br_t (by rw [q2, q3]) ?_)
    exact ym_ng ok b2 hT (fun cm g hg => H cm g hg)
  rcases ic_cls v1 (n := ic_cnt B (ic_N a_trueTargets) (ic_N a_falseTargets) B) (by omega) with h | ⟨g, hg, rfl⟩
  · have YY := P (-1) (fun cm gd _ => ym_out _ rfl (by omega) h (br_t rfl ⟨rfl, M cm gd⟩))
    rcases h with h | h
    · exact br_t h YY
    · refine br_f (ic_not_le (by omega) h) (br_f ?_ YY)
      rw [gc]
      exact Int32.not_lt.mpr h
  refine br_f (nI_pos (by omega)) (br_t (by rw [gc]; exact nI_lt hg (by omega)) ?_)
  have E := ic_holds J hg
  have hcB := J.2.1
  have Q : ∀ gd : Nat → Int32, (∀ b, b < B → gd b = ic_gy B (ic_N a_trueTargets) (ic_N a_falseTargets) b) → ((∀ s, s < 2 ^ B → ic_YP B (ic_N a_trueTargets) (ic_N a_falseTargets) s.testBit c → ∀ b, b < B → gd b = nI g → bt (f_ranBlocks ||| nI s) b = true) ↔ bt f_heldGuards g = true) := by
    intro gd hgd
    rw [ic_set_H b2 hV (by omega) hgd, E]
  refine xm_has g rfl (by omega) (fun e => br_f (by decide) ?_) (fun e => br_t rfl ?_)
  · refine P 1 (fun cm gd hgd => ?_)
    refine ym_in g _ rfl rfl (by omega) hg (br_f (by decide) ⟨2 ^ B + 1, ?_⟩)
    exact ym_h35 ok b2 hT hcB ec (fun n => absurd ((Q gd hgd).mpr e) n) (fun _ => ⟨rfl, M cm gd⟩) (2 ^ B) 0 (by omega) (fun s hs => absurd hs (Nat.not_lt_zero s)) (2 ^ B + 1) (by omega)
  · refine P 0 (fun cm gd hgd => ?_)
    refine ym_in g _ rfl rfl (by omega) hg (br_f (by decide) ⟨2 ^ B + 1, ?_⟩)
    refine ym_h35 ok b2 hT hcB ec (fun _ => ⟨rfl, M cm gd⟩) (fun n => ?_) (2 ^ B) 0 (by omega) (fun s hs => absurd hs (Nat.not_lt_zero s)) (2 ^ B + 1) (by omega)
    have := (Q gd hgd).mp n
    rw [e] at this
    cases this
theorem i_vc_run {k : Nat} {u : SX} {v : SY} (I : i_Rel k u v) (hk : k + 5 ≤ 2563) (v1 : Int32) (v2 : Int32) : wpX_run (fun r u' => wpY_run (fun r' v' => r' = r ∧ i_Rel (k + 5) u' v') v v1 v2) u v1 v2 := by
  have I' := I
  obtain ⟨B, C, R, f_converted, f_reachable, f_guardCount, f_recordForm, f_ranBlocks, f_heldGuards, a_inputs, a_sizes, a_ops, a_dests, a_args, a_tests, a_trueTargets, a_falseTargets, a_onEveryWayTo, a_onEveryPath, a_guardNumbers, a_guardsOnTrue, a_guardsOnFalse, a_heldOnEntry, a_restoredTests, a_restoredTrue, a_restoredFalse, a_finalRegs, f_recorded, f_recForm, f_recC, a_complete, a_guard, rfl, rfl, hBd, hS, hcv, hrec⟩ := I
  obtain ⟨b1, b2, c1, c2, r1, r2⟩ := id hBd
  have ok := ic_Src_ok hS b2
  have hT : ∀ b, b < B → a_trueTargets b = nI (ic_N a_trueTargets b) ∧ a_falseTargets b = nI (ic_N a_falseTargets b) := fun b hb => ic_Src_T hS b2 hb
  rcases ic_cls v1 (n := 3) (by omega) with h | ⟨f, hf, rfl⟩
  · have Y : wpY_run (fun r' v' => r' = -2 ∧ i_Rel (k + 5) (nI B, nI C, nI R, f_converted, f_reachable, f_guardCount, f_recordForm, f_ranBlocks, f_heldGuards, a_inputs, a_sizes, a_ops, a_dests, a_args, a_tests, a_trueTargets, a_falseTargets, a_onEveryWayTo, a_onEveryPath, a_guardNumbers, a_guardsOnTrue, a_guardsOnFalse, a_heldOnEntry, a_restoredTests, a_restoredTrue, a_restoredFalse, a_finalRegs) v') (nI B, nI C, nI R, f_converted, f_recorded, f_recForm, f_ranBlocks, f_recC, a_ops, a_dests, a_args, a_sizes, a_tests, a_trueTargets, a_falseTargets, a_inputs, a_finalRegs, a_complete, a_guard) v1 v2 := by
      unfold wpY_run
      exact ym_out 3 (by decide) (by omega) h (br_t rfl ⟨rfl, I'⟩)
    rcases h with h | h
    · exact br_t h Y
    · have g := ic_not_lt (n := 2) (by omega) h
      exact br_f g.1 (br_t g.2 Y)
  refine br_f (nI_pos (by omega)) (br_f (nI_nlt (a := 2) (by omega) (by omega)) ?_)
  rcases ic_cls v2 (n := B + 1) (by omega) with h | ⟨stop, hs, rfl⟩
  · rcases h with h | h
    · refine br_t h ?_
      unfold wpY_run
      exact ym_in f 3 rfl (by decide) (by omega) hf (br_f (by decide) (br_t h ⟨rfl, I'⟩))
    · have g := ic_not_lt (n := B) (by omega) h
      refine br_f g.1 (br_f (Int32.not_le.mpr g.2) ?_)
      unfold wpY_run
      exact ym_in f 3 rfl (by decide) (by omega) hf (br_f (by decide) (br_f g.1 (br_f (Int32.not_le.mpr g.2) ⟨rfl, I'⟩)))
  have hst : stop ≤ B := by omega
  refine br_f (nI_pos (by omega)) (br_t (nI_le hst (by omega)) ?_)
  have h3 : f = 0 ∨ f = 1 ∨ f = 2 := by omega
  rcases h3 with rfl | rfl | rfl
  · refine br_t (by decide) ?_
    unfold wX_run_38
    refine xm_start r2 (br_f (by decide) (br_f (by decide) ?_))
    refine xm_rbS b2 c2 r2 hS (fun b hb _ => ⟨(hT b hb).1, (hT b hb).2, Or.inl rfl⟩) hst ?_
    exact ym_run b2 c2 r2 hS hf hst (Or.inl rfl) ⟨rfl, ic_mk hBd hS hcv (Or.inr ⟨rfl, rfl, Or.inl nI_0⟩)⟩
  · refine br_f (by decide) ?_
    rcases hcv with rfl | ⟨rfl, cv⟩
    · refine br_t rfl ?_
      unfold wpY_run
      exact ym_in 1 3 rfl (by decide) (by omega) hf (br_f (by decide) (br_f (nI_pos (by omega)) (br_t (nI_le hst (by omega)) (br_f (by decide) (br_t rfl ⟨rfl, I'⟩)))))
    · refine br_f (by decide) ?_
      unfold wX_run_38
      refine xm_start r2 (br_t (by decide) ?_)
      refine xm_rs b2 (by omega) c2 r2 hS cv.2.2.2.1 cv.2.2.2.2.1 hst (fun h V hV J => ?_)
      exact ym_run b2 c2 r2 hS hf hst (Or.inr (by decide)) ⟨rfl, ic_mk hBd hS (Or.inr ⟨rfl, cv⟩) (Or.inr ⟨rfl, rfl, Or.inr (Or.inr ⟨by decide, rfl, V, _, rfl, J, hV.2.2.2.2⟩)⟩)⟩
  · refine br_f (by decide) ?_
    rcases hcv with rfl | ⟨rfl, cv⟩
    · refine br_t rfl ?_
      unfold wpY_run
      exact ym_in 2 3 rfl (by decide) (by omega) hf (br_f (by decide) (br_f (nI_pos (by omega)) (br_t (nI_le hst (by omega)) (br_f (by decide) (br_t rfl ⟨rfl, I'⟩)))))
    · refine br_f (by decide) ?_
      unfold wX_run_38
      refine xm_start r2 (br_f (by decide) (br_t (by decide) ?_))
      refine xm_rbR b2 c2 r2 hS (fun b hb rb => ?_) hst ?_
      · obtain ⟨t1, t2, t3, t4⟩ := cv.2.2.2.2.2 b hb rb
        refine ⟨t1, t2, ?_⟩
        by_cases e : ic_N a_trueTargets b = ic_N a_falseTargets b
        · exact Or.inr ⟨e, t3 e⟩
        · exact Or.inl (t4 e)
      · exact ym_run b2 c2 r2 hS hf hst (Or.inr (by decide)) ⟨rfl, ic_mk hBd hS (Or.inr ⟨rfl, cv⟩) (Or.inr ⟨rfl, rfl, Or.inr (Or.inl (by decide))⟩)⟩
