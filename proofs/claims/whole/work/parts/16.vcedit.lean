/-! the start, and the edits -/
theorem ic_clamp (lo hi : Nat) {l h : Int32} (el : l = nI lo) (eh : h = nI hi) (hl : lo ≤ hi) (hh : hi < 2 ^ 31) (p : Int32) : ∃ n, lo ≤ n ∧ n ≤ hi ∧ ∀ W : Int32 → Prop, W (nI n) → ((l ≤ p → ((p ≤ h → W p) ∧ (¬ p ≤ h → W h))) ∧ (¬ l ≤ p → W l)) := by
  subst el
  subst eh
  by_cases g : nI lo ≤ p
  · by_cases g2 : p ≤ nI hi
    · obtain ⟨j, hj, rfl⟩ := nI_of (ic_not_le (by omega) g)
      rw [nI_leI (by omega) hj] at g
      rw [nI_leI hj hh] at g2
      exact ⟨j, g, g2, fun W w => br_t (nI_le g hj) (br_t (nI_le g2 hh) w)⟩
    · exact ⟨hi, hl, Nat.le_refl _, fun W w => br_t g (br_f g2 w)⟩
  · exact ⟨lo, Nat.le_refl _, hl, fun W w => br_f g w⟩
theorem ic_cp_0 : ∀ n, ic_cp (fun _ => 0) (fun _ => 0) n = fun _ => 0 := by
  intro n
  induction n with
  | zero => rfl
  | succ n ih =>
    funext j
    show upd (ic_cp (fun _ => 0) (fun _ => 0) n) n 0 j = 0
    rw [ih]
    by_cases e : j = n
    · rw [e, pk_us]
    · rw [pk_un e]
theorem ic_cp_at {e g : Nat → Int32} : ∀ n j, j < n → ic_cp e g n j = e j := by
  intro n
  induction n with
  | zero => exact fun j hj => absurd hj (Nat.not_lt_zero j)
  | succ n ih =>
    intro j hj
    show upd (ic_cp e g n) n (e n) j = e j
    by_cases q : j = n
    · rw [q, pk_us]
    · rw [pk_un q]
      exact ih j (by omega)
section
variable {B C R : Nat} {t0 u0 w0 : Nat → Int32} {f_blockCount f_cellCount f_regCount f_converted f_reachable f_guardCount f_recordForm f_ranBlocks f_heldGuards : Int32} {a_inputs a_sizes a_ops a_dests a_args a_tests a_trueTargets a_falseTargets a_onEveryWayTo a_onEveryPath a_guardNumbers a_guardsOnTrue a_guardsOnFalse a_heldOnEntry a_restoredTests a_restoredTrue a_restoredFalse a_finalRegs : Nat → Int32}
theorem xm_init (hB : B ≤ 12) {post : SX → Prop} (hp : post (nI B, f_cellCount, f_regCount, f_converted, f_reachable, f_guardCount, f_recordForm, f_ranBlocks, f_heldGuards, a_inputs, a_sizes, a_ops, a_dests, a_args, ic_cp (fun _ => -1) t0 B, ic_cp (fun b => nI (b + 1)) u0 B, ic_cp (fun b => nI (b + 1)) w0 B, a_onEveryWayTo, a_onEveryPath, a_guardNumbers, a_guardsOnTrue, a_guardsOnFalse, a_heldOnEntry, a_restoredTests, a_restoredTrue, a_restoredFalse, a_finalRegs)) :
    ∀ d i, i + d = B → ∀ n, d < n → wX_init_213 post n (nI i) (nI B) f_cellCount f_regCount f_converted f_reachable f_guardCount f_recordForm f_ranBlocks f_heldGuards a_inputs a_sizes a_ops a_dests a_args (ic_cp (fun _ => -1) t0 i) (ic_cp (fun b => nI (b + 1)) u0 i) (ic_cp (fun b => nI (b + 1)) w0 i) a_onEveryWayTo a_onEveryPath a_guardNumbers a_guardsOnTrue a_guardsOnFalse a_heldOnEntry a_restoredTests a_restoredTrue a_restoredFalse a_finalRegs := by
  intro d
  induction d with
  | zero =>
    intro i hi n hn
    cases n with
    | zero => exact absurd hn (Nat.not_lt_zero _)
    | succ n =>
      have e : i = B := by omega
      rw [e]
      exact br_t (nI_le (by omega) (by omega)) hp
  | succ d ih =>
    intro i hi n hn
    cases n with
    | zero => exact absurd hn (Nat.not_lt_zero _)
    | succ n =>
      refine br_f (nI_ge (by omega) (by omega)) ?_
      rw [nI_1]
      exact xm_end (by omega) (nm_e (ih (i + 1) (by omega) n (by omega)))
end
section
variable {B C R : Nat} {s0 t0 u0 w0 : Nat → Int32} {f_blocks f_cells f_regs f_converted f_recorded f_recForm f_recRan f_recC : Int32} {a_ops a_dests a_args a_size a_test a_onTrue a_onFalse a_inputs a_recRegs a_complete a_guard : Nat → Int32}
theorem ym_clear (hB : B ≤ 12) {post : Int32 → SY → Prop} {b : Nat} (hb : b < B) (hp : post 1 (nI B, f_cells, f_regs, 0, 0, f_recForm, f_recRan, f_recC, a_ops, a_dests, a_args, upd a_size b 0, upd a_test b (-1), upd a_onTrue b (nI (b + 1)), upd a_onFalse b (nI (b + 1)), a_inputs, a_recRegs, a_complete, a_guard)) : wpY_clear post (nI B, f_cells, f_regs, f_converted, f_recorded, f_recForm, f_recRan, f_recC, a_ops, a_dests, a_args, a_size, a_test, a_onTrue, a_onFalse, a_inputs, a_recRegs, a_complete, a_guard) (nI b) := by
  unfold wpY_clear
  refine ym_in b B rfl rfl (by omega) hb (br_f (by decide) ⟨ic_v12 (by omega), nm_r (ic_u (by omega)) ?_⟩)
  rw [nI_1]
  exact ym_end (by omega) hp
theorem ym_init (hB : B ≤ 12) {post : SY → Prop} (hp : post (nI B, f_cells, f_regs, 0, 0, f_recForm, f_recRan, f_recC, a_ops, a_dests, a_args, ic_cp (fun _ => 0) s0 B, ic_cp (fun _ => -1) t0 B, ic_cp (fun b => nI (b + 1)) u0 B, ic_cp (fun b => nI (b + 1)) w0 B, a_inputs, a_recRegs, a_complete, a_guard)) :
    ∀ d i, i + d = B → ∀ n, d < n → wY_init_169 post n (nI i) (nI B) f_cells f_regs 0 0 f_recForm f_recRan f_recC a_ops a_dests a_args (ic_cp (fun _ => 0) s0 i) (ic_cp (fun _ => -1) t0 i) (ic_cp (fun b => nI (b + 1)) u0 i) (ic_cp (fun b => nI (b + 1)) w0 i) a_inputs a_recRegs a_complete a_guard := by
  intro d
  induction d with
  | zero =>
    intro i hi n hn
    cases n with
    | zero => exact absurd hn (Nat.not_lt_zero _)
    | succ n =>
      have e : i = B := by omega
      rw [e]
      exact br_t (nI_le (by omega) (by omega)) hp
  | succ d ih =>
    intro i hi n hn
    cases n with
    | zero => exact absurd hn (Nat.not_lt_zero _)
    | succ n =>
      refine br_f (nI_ge (by omega) (by omega)) ?_
      exact ym_clear hB (by omega) (nm_r (nI_1 i) (ih (i + 1) (by omega) n (by omega)))
end
theorem ic_Src_0 {B C R : Nat} {a1 a2 a3 t0 u0 w0 : Nat → Int32} : ic_Src B C R (fun _ => 0) a1 a2 a3 (ic_cp (fun _ => -1) t0 B) (ic_cp (fun b => nI (b + 1)) u0 B) (ic_cp (fun b => nI (b + 1)) w0 B) := by
  intro b hb
  rw [ic_cp_at B b hb, ic_cp_at B b hb, ic_cp_at B b hb]
  exact ⟨⟨0, Nat.zero_le _, rfl, fun i hi => absurd hi (Nat.not_lt_zero i)⟩, Or.inl rfl, ⟨b + 1, rfl, by omega, by omega⟩, ⟨b + 1, rfl, by omega, by omega⟩⟩
theorem i_vc0 (k0 : Int32) (k1 : Int32) (k2 : Int32) : wpX_init (fun u => wpY_init (fun v => i_Rel 3 u v) k0 k1 k2) k0 k1 k2 := by
  obtain ⟨B, b1, b2, KB⟩ := ic_clamp 2 12 (l := 2) (h := 12) (by decide) (by decide) (by omega) (by omega) k0
  obtain ⟨C, c1, c2, KC⟩ := ic_clamp 1 4 (l := 1) (h := 4) (by decide) (by decide) (by omega) (by omega) k1
  obtain ⟨R, r1, r2, KR⟩ := ic_clamp 2 8 (l := 2) (h := 8) (by decide) (by decide) (by omega) (by omega) k2
  have XB : ∀ W : Int32 → Prop, W (nI B) → wpX_clamp W k0 2 12 := fun W w => KB W w
  have XC : ∀ W : Int32 → Prop, W (nI C) → wpX_clamp W k1 1 4 := fun W w => KC W w
  have XR : ∀ W : Int32 → Prop, W (nI R) → wpX_clamp W k2 2 8 := fun W w => KR W w
  unfold wpX_init
  refine XB _ ?_
  refine XC _ ?_
  refine XR _ ?_
  refine ⟨B + 1, xm_init b2 ?_ B 0 (by omega) (B + 1) (by omega)⟩
  unfold wpY_init
  refine KB (fun x => wY_init_115 _ k1 k2 x 0 0 0 0 0 0 0 0 (fun _ => 0) (fun _ => 0) (fun _ => 0) (fun _ => 0) (fun _ => 0) (fun _ => 0) (fun _ => 0) (fun _ => 0) (fun _ => 0) (fun _ => 0) (fun _ => 0)) ?_
  unfold wY_init_115
  refine KC (fun x => wY_init_138 _ k2 x (nI B) 0 0 0 0 0 0 0 (fun _ => 0) (fun _ => 0) (fun _ => 0) (fun _ => 0) (fun _ => 0) (fun _ => 0) (fun _ => 0) (fun _ => 0) (fun _ => 0) (fun _ => 0) (fun _ => 0)) ?_
  unfold wY_init_138
  refine KR (fun x => ∃ n169 : Nat, wY_init_169 _ n169 0 (nI B) (nI C) x 0 0 0 0 0 (fun _ => 0) (fun _ => 0) (fun _ => 0) (fun _ => 0) (fun _ => 0) (fun _ => 0) (fun _ => 0) (fun _ => 0) (fun _ => 0) (fun _ => 0) (fun _ => 0)) ?_
  refine ⟨B + 1, ym_init b2 ?_ B 0 (by omega) (B + 1) (by omega)⟩
  rw [ic_cp_0]
  exact ic_mk ⟨b1, b2, c1, c2, r1, r2⟩ ic_Src_0 (Or.inl rfl) (Or.inl ⟨rfl, rfl⟩)
theorem i_vc_emit {k : Nat} {u : SX} {v : SY} (I : i_Rel k u v) (hk : k + 5 ≤ 2563) (v1 : Int32) (v2 : Int32) (v3 : Int32) (v4 : Int32) : wpX_emit (fun r u' => wpY_emit (fun r' v' => r' = r ∧ i_Rel (k + 5) u' v') v v1 v2 v3 v4) u v1 v2 v3 v4 := by
  obtain ⟨B, C, R, f_converted, f_reachable, f_guardCount, f_recordForm, f_ranBlocks, f_heldGuards, a_inputs, a_sizes, a_ops, a_dests, a_args, a_tests, a_trueTargets, a_falseTargets, a_onEveryWayTo, a_onEveryPath, a_guardNumbers, a_guardsOnTrue, a_guardsOnFalse, a_heldOnEntry, a_restoredTests, a_restoredTrue, a_restoredFalse, a_finalRegs, f_recorded, f_recForm, f_recC, a_complete, a_guard, rfl, rfl, hBd, hS, hcv, hrec⟩ := I
  obtain ⟨b1, b2, c1, c2, r1, r2⟩ := id hBd
  unfold wpX_emit
  rcases ic_cls v1 (n := B) (by omega) with h | ⟨b, hb, rfl⟩
  · refine xm_ib_no (by omega) h (br_t rfl ?_)
    unfold wpY_emit
    exact ym_out B rfl (by omega) h (br_t rfl ⟨rfl, ic_mk hBd hS hcv hrec⟩)
  refine xm_ib (by omega) hb (br_f (by decide) ?_)
  rcases ic_cls v2 (n := 8) (by omega) with h | ⟨o, ho, rfl⟩
  · have Y : wpY_emit (fun r' v' => r' = -2 ∧ i_Rel (k + 5) (nI B, nI C, nI R, f_converted, f_reachable, f_guardCount, f_recordForm, f_ranBlocks, f_heldGuards, a_inputs, a_sizes, a_ops, a_dests, a_args, a_tests, a_trueTargets, a_falseTargets, a_onEveryWayTo, a_onEveryPath, a_guardNumbers, a_guardsOnTrue, a_guardsOnFalse, a_heldOnEntry, a_restoredTests, a_restoredTrue, a_restoredFalse, a_finalRegs) v') (nI B, nI C, nI R, f_converted, f_recorded, f_recForm, f_ranBlocks, f_recC, a_ops, a_dests, a_args, a_sizes, a_tests, a_trueTargets, a_falseTargets, a_inputs, a_finalRegs, a_complete, a_guard) (nI b) v2 v3 v4 := by
      unfold wpY_emit
      exact ym_in b B rfl rfl (by omega) hb (br_f (by decide) (ym_out 8 (by decide) (by omega) h (br_t rfl ⟨rfl, ic_mk hBd hS hcv hrec⟩)))
    rcases h with h | h
    · exact br_t h Y
    · have g := ic_not_lt (n := 7) (by omega) h
      exact br_f g.1 (br_t g.2 Y)
  refine br_f (nI_pos (by omega)) (br_f (nI_nlt (a := 7) (by omega) (by omega)) ?_)
  rcases ic_cls v3 (n := R) (by omega) with h | ⟨d, hd, rfl⟩
  · refine xm_ir_no (by omega) h (br_t rfl ?_)
    unfold wpY_emit
    exact ym_in b B rfl rfl (by omega) hb (br_f (by decide) (ym_in o 8 rfl (by decide) (by omega) ho (br_f (by decide) (ym_out R rfl (by omega) h (br_t rfl ⟨rfl, ic_mk hBd hS hcv hrec⟩)))))
  refine xm_ir (by omega) hd (br_f (by decide) ?_)
  obtain ⟨s1, s2, s3⟩ := ic_Src_s hS c2 hb
  have P : ∀ r u', wY_emit_54 (fun r' v' => r' = r ∧ i_Rel (k + 5) u' v') (nI b) (nI o) (nI d) v4 (nI B) (nI C) (nI R) f_converted f_recorded f_recForm f_ranBlocks f_recC a_ops a_dests a_args a_sizes a_tests a_trueTargets a_falseTargets a_inputs a_finalRegs a_complete a_guard → (o = 0 ∨ ∃ j, j < R ∧ v4 = nI j) → wpY_emit (fun r' v' => r' = r ∧ i_Rel (k + 5) u' v') (nI B, nI C, nI R, f_converted, f_recorded, f_recForm, f_ranBlocks, f_recC, a_ops, a_dests, a_args, a_sizes, a_tests, a_trueTargets, a_falseTargets, a_inputs, a_finalRegs, a_complete, a_guard) (nI b) (nI o) (nI d) v4 := by
    intro r u' H hx
    unfold wpY_emit
    refine ym_in b B rfl rfl (by omega) hb (br_f (by decide) (ym_in o 8 rfl (by decide) (by omega) ho (br_f (by decide) (ym_in d R rfl rfl (by omega) hd (br_f (by decide) ?_)))))
    by_cases e : o = 0
    · exact br_t (by rw [e]; exact nI_0) H
    · obtain ⟨j, hj, ej⟩ := hx.resolve_left e
      exact br_f (nI_ne0 (by omega) (by omega)) (ym_in j R ej rfl (by omega) hj (br_f (by decide) H))
  have D : (o = 0 ∨ ∃ j, j < R ∧ v4 = nI j) → wX_emit_45 (fun r u' => wpY_emit (fun r' v' => r' = r ∧ i_Rel (k + 5) u' v') (nI B, nI C, nI R, f_converted, f_recorded, f_recForm, f_ranBlocks, f_recC, a_ops, a_dests, a_args, a_sizes, a_tests, a_trueTargets, a_falseTargets, a_inputs, a_finalRegs, a_complete, a_guard) (nI b) (nI o) (nI d) v4) (nI b) (nI o) (nI d) v4 (nI B) (nI C) (nI R) f_converted f_reachable f_guardCount f_recordForm f_ranBlocks f_heldGuards a_inputs a_sizes a_ops a_dests a_args a_tests a_trueTargets a_falseTargets a_onEveryWayTo a_onEveryPath a_guardNumbers a_guardsOnTrue a_guardsOnFalse a_heldOnEntry a_restoredTests a_restoredTrue a_restoredFalse a_finalRegs := by
    intro hx
    by_cases g : ic_N a_sizes b < C
    · refine xm_emit45 (by omega) s1 (by omega) g c2 ?_
      exact P _ _ (ym_emit54 (by omega) s1 (by omega) g c2 ⟨rfl, ic_mk hBd (ic_Src_emit hS c2 hb s1 g ho hd hx) (Or.inl rfl) (Or.inl ⟨rfl, rfl⟩)⟩) hx
    · refine xm_emit45_no (by omega) s1 (by omega) g ?_
      exact P _ _ (ym_emit54_no (by omega) s1 (by omega) g ⟨rfl, ic_mk hBd hS hcv hrec⟩) hx
  by_cases e : o = 0
  · exact br_t (by rw [e]; exact nI_0) (D (Or.inl e))
  · refine br_f (nI_ne0 (by omega) (by omega)) ?_
    rcases ic_cls v4 (n := R) (by omega) with h | ⟨j, hj, rfl⟩
    · refine xm_ir_no (by omega) h (br_t rfl ?_)
      unfold wpY_emit
      exact ym_in b B rfl rfl (by omega) hb (br_f (by decide) (ym_in o 8 rfl (by decide) (by omega) ho (br_f (by decide) (ym_in d R rfl rfl (by omega) hd (br_f (by decide) (br_f (nI_ne0 (by omega) (by omega)) (ym_out R rfl (by omega) h (br_t rfl ⟨rfl, ic_mk hBd hS hcv hrec⟩))))))))
    · exact xm_ir (by omega) hj (br_f (by decide) (D (Or.inr ⟨j, hj, rfl⟩)))
theorem i_vc_jump {k : Nat} {u : SX} {v : SY} (I : i_Rel k u v) (hk : k + 5 ≤ 2563) (v1 : Int32) (v2 : Int32) : wpX_jump (fun r u' => wpY_jump (fun r' v' => r' = r ∧ i_Rel (k + 5) u' v') v v1 v2) u v1 v2 := by
  obtain ⟨B, C, R, f_converted, f_reachable, f_guardCount, f_recordForm, f_ranBlocks, f_heldGuards, a_inputs, a_sizes, a_ops, a_dests, a_args, a_tests, a_trueTargets, a_falseTargets, a_onEveryWayTo, a_onEveryPath, a_guardNumbers, a_guardsOnTrue, a_guardsOnFalse, a_heldOnEntry, a_restoredTests, a_restoredTrue, a_restoredFalse, a_finalRegs, f_recorded, f_recForm, f_recC, a_complete, a_guard, rfl, rfl, hBd, hS, hcv, hrec⟩ := I
  obtain ⟨b1, b2, c1, c2, r1, r2⟩ := id hBd
  unfold wpX_jump
  rcases ic_cls v1 (n := B) (by omega) with h | ⟨b, hb, rfl⟩
  · refine xm_ib_no (by omega) h (br_t rfl ?_)
    unfold wpY_jump
    exact ym_out B rfl (by omega) h (br_t rfl ⟨rfl, ic_mk hBd hS hcv hrec⟩)
  refine xm_ib (by omega) hb (br_f (by decide) ?_)
  rcases ic_tgt v2 b2 hb with h | ⟨h1, h2⟩ | ⟨j, hj1, hj2, rfl⟩
  · refine xm_it_no (Or.inl h) (br_t rfl ?_)
    unfold wpY_jump
    exact ym_in b B rfl rfl (by omega) hb (br_f (by decide) (br_t h ⟨rfl, ic_mk hBd hS hcv hrec⟩))
  · refine xm_it_no (Or.inr ⟨h1, h2⟩) (br_t rfl ?_)
    unfold wpY_jump
    exact ym_in b B rfl rfl (by omega) hb (br_f (by decide) (br_f h1 (br_f (Int32.not_le.mpr h2) ⟨rfl, ic_mk hBd hS hcv hrec⟩)))
  · refine xm_it (by omega) hj1 hj2 (br_f (by decide) ?_)
    refine xm_end (by omega) ?_
    unfold wpX_acceptEdit
    unfold wpY_jump
    exact ym_in b B rfl rfl (by omega) hb (br_f (by decide) (br_f (nI_ge hj1 (by omega)) (br_t (nI_le hj2 (by omega)) (ym_end (by omega) ⟨rfl, ic_mk hBd (ic_Src_end hS (Or.inl rfl) ⟨hj1, hj2⟩ ⟨hj1, hj2⟩) (Or.inl rfl) (Or.inl ⟨rfl, rfl⟩)⟩))))
theorem i_vc_branch {k : Nat} {u : SX} {v : SY} (I : i_Rel k u v) (hk : k + 5 ≤ 2563) (v1 : Int32) (v2 : Int32) (v3 : Int32) (v4 : Int32) : wpX_branch (fun r u' => wpY_branch (fun r' v' => r' = r ∧ i_Rel (k + 5) u' v') v v1 v2 v3 v4) u v1 v2 v3 v4 := by
  obtain ⟨B, C, R, f_converted, f_reachable, f_guardCount, f_recordForm, f_ranBlocks, f_heldGuards, a_inputs, a_sizes, a_ops, a_dests, a_args, a_tests, a_trueTargets, a_falseTargets, a_onEveryWayTo, a_onEveryPath, a_guardNumbers, a_guardsOnTrue, a_guardsOnFalse, a_heldOnEntry, a_restoredTests, a_restoredTrue, a_restoredFalse, a_finalRegs, f_recorded, f_recForm, f_recC, a_complete, a_guard, rfl, rfl, hBd, hS, hcv, hrec⟩ := I
  obtain ⟨b1, b2, c1, c2, r1, r2⟩ := id hBd
  unfold wpX_branch
  rcases ic_cls v1 (n := B) (by omega) with h | ⟨b, hb, rfl⟩
  · refine xm_ib_no (by omega) h (br_t rfl ?_)
    unfold wpY_branch
    exact ym_out B rfl (by omega) h (br_t rfl ⟨rfl, ic_mk hBd hS hcv hrec⟩)
  refine xm_ib (by omega) hb (br_f (by decide) ?_)
  rcases ic_cls v2 (n := R) (by omega) with h | ⟨r, hr, rfl⟩
  · refine xm_ir_no (by omega) h (br_t rfl ?_)
    unfold wpY_branch
    exact ym_in b B rfl rfl (by omega) hb (br_f (by decide) (ym_out R rfl (by omega) h (br_t rfl ⟨rfl, ic_mk hBd hS hcv hrec⟩)))
  refine xm_ir (by omega) hr (br_f (by decide) ?_)
  rcases ic_tgt v3 b2 hb with h | ⟨h1, h2⟩ | ⟨t, ht1, ht2, rfl⟩
  · refine xm_it_no (Or.inl h) (br_t rfl ?_)
    unfold wpY_branch
    exact ym_in b B rfl rfl (by omega) hb (br_f (by decide) (ym_in r R rfl rfl (by omega) hr (br_f (by decide) (br_t h ⟨rfl, ic_mk hBd hS hcv hrec⟩))))
  · refine xm_it_no (Or.inr ⟨h1, h2⟩) (br_t rfl ?_)
    unfold wpY_branch
    exact ym_in b B rfl rfl (by omega) hb (br_f (by decide) (ym_in r R rfl rfl (by omega) hr (br_f (by decide) (br_f h1 (br_t h2 ⟨rfl, ic_mk hBd hS hcv hrec⟩)))))
  refine xm_it (by omega) ht1 ht2 (br_f (by decide) ?_)
  rcases ic_tgt v4 b2 hb with h | ⟨h1, h2⟩ | ⟨f, hf1, hf2, rfl⟩
  · refine xm_it_no (Or.inl h) (br_t rfl ?_)
    unfold wpY_branch
    exact ym_in b B rfl rfl (by omega) hb (br_f (by decide) (ym_in r R rfl rfl (by omega) hr (br_f (by decide) (br_f (nI_ge ht1 (by omega)) (br_f (nI_nlt ht2 (by omega)) (br_t h ⟨rfl, ic_mk hBd hS hcv hrec⟩))))))
  · refine xm_it_no (Or.inr ⟨h1, h2⟩) (br_t rfl ?_)
    unfold wpY_branch
    exact ym_in b B rfl rfl (by omega) hb (br_f (by decide) (ym_in r R rfl rfl (by omega) hr (br_f (by decide) (br_f (nI_ge ht1 (by omega)) (br_f (nI_nlt ht2 (by omega)) (br_f h1 (br_f (Int32.not_le.mpr h2) ⟨rfl, ic_mk hBd hS hcv hrec⟩)))))))
  refine xm_it (by omega) hf1 hf2 (br_f (by decide) ?_)
  refine xm_end (by omega) ?_
  unfold wpX_acceptEdit
  unfold wpY_branch
  exact ym_in b B rfl rfl (by omega) hb (br_f (by decide) (ym_in r R rfl rfl (by omega) hr (br_f (by decide) (br_f (nI_ge ht1 (by omega)) (br_f (nI_nlt ht2 (by omega)) (br_f (nI_ge hf1 (by omega)) (br_t (nI_le hf2 (by omega)) (ym_end (by omega) ⟨rfl, ic_mk hBd (ic_Src_end hS (Or.inr ⟨r, hr, rfl⟩) ⟨ht1, ht2⟩ ⟨hf1, hf2⟩) (Or.inl rfl) (Or.inl ⟨rfl, rfl⟩)⟩))))))))
theorem i_vc_clear {k : Nat} {u : SX} {v : SY} (I : i_Rel k u v) (hk : k + 5 ≤ 2563) (v1 : Int32) : wpX_clear (fun r u' => wpY_clear (fun r' v' => r' = r ∧ i_Rel (k + 5) u' v') v v1) u v1 := by
  obtain ⟨B, C, R, f_converted, f_reachable, f_guardCount, f_recordForm, f_ranBlocks, f_heldGuards, a_inputs, a_sizes, a_ops, a_dests, a_args, a_tests, a_trueTargets, a_falseTargets, a_onEveryWayTo, a_onEveryPath, a_guardNumbers, a_guardsOnTrue, a_guardsOnFalse, a_heldOnEntry, a_restoredTests, a_restoredTrue, a_restoredFalse, a_finalRegs, f_recorded, f_recForm, f_recC, a_complete, a_guard, rfl, rfl, hBd, hS, hcv, hrec⟩ := I
  obtain ⟨b1, b2, c1, c2, r1, r2⟩ := id hBd
  unfold wpX_clear
  rcases ic_cls v1 (n := B) (by omega) with h | ⟨b, hb, rfl⟩
  · refine xm_ib_no (by omega) h (br_t rfl ?_)
    unfold wpY_clear
    exact ym_out B rfl (by omega) h (br_t rfl ⟨rfl, ic_mk hBd hS hcv hrec⟩)
  refine xm_ib (by omega) hb (br_f (by decide) ⟨ic_v12 (by omega), nm_r (ic_u (by omega)) ?_⟩)
  rw [nI_1]
  refine xm_end (by omega) ?_
  unfold wpX_acceptEdit
  exact ym_clear b2 hb ⟨rfl, ic_mk hBd (ic_Src_end (ic_Src_clr hS) (Or.inl rfl) ⟨by omega, by omega⟩ ⟨by omega, by omega⟩) (Or.inl rfl) (Or.inl ⟨rfl, rfl⟩)⟩
theorem i_vc_input {k : Nat} {u : SX} {v : SY} (I : i_Rel k u v) (hk : k + 5 ≤ 2563) (v1 : Int32) (v2 : Int32) : wpX_input (fun r u' => wpY_input (fun r' v' => r' = r ∧ i_Rel (k + 5) u' v') v v1 v2) u v1 v2 := by
  obtain ⟨B, C, R, f_converted, f_reachable, f_guardCount, f_recordForm, f_ranBlocks, f_heldGuards, a_inputs, a_sizes, a_ops, a_dests, a_args, a_tests, a_trueTargets, a_falseTargets, a_onEveryWayTo, a_onEveryPath, a_guardNumbers, a_guardsOnTrue, a_guardsOnFalse, a_heldOnEntry, a_restoredTests, a_restoredTrue, a_restoredFalse, a_finalRegs, f_recorded, f_recForm, f_recC, a_complete, a_guard, rfl, rfl, hBd, hS, hcv, hrec⟩ := I
  obtain ⟨b1, b2, c1, c2, r1, r2⟩ := id hBd
  unfold wpX_input
  rcases ic_cls v1 (n := R) (by omega) with h | ⟨r, hr, rfl⟩
  · refine xm_ir_no (by omega) h (br_t rfl ?_)
    unfold wpY_input
    exact ym_out R rfl (by omega) h (br_t rfl ⟨rfl, ic_mk hBd hS hcv hrec⟩)
  refine xm_ir (by omega) hr (br_f (by decide) ⟨ic_v8 (by omega), nm_r (ic_u (by omega)) ?_⟩)
  unfold wpY_input
  exact ym_in r R rfl rfl (by omega) hr (br_f (by decide) ⟨ic_v8 (by omega), nm_r (ic_u (by omega)) ⟨rfl, ic_mk hBd hS hcv hrec⟩⟩)
