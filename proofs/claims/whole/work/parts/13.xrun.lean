/-! X: a run -/
theorem xm_res {post : Int32 → Prop} {k : Nat} {p0 l r : Int32} (hk : k < 8) (ho : p0 = nI k) (hp : post (ic_res p0 l r)) : wpX_resultOf post p0 l r := by
  subst ho
  have h : k = 0 ∨ k = 1 ∨ k = 2 ∨ k = 3 ∨ k = 4 ∨ k = 5 ∨ k = 6 ∨ k = 7 := by omega
  rcases h with rfl | rfl | rfl | rfl | rfl | rfl | rfl | rfl
  · exact br_t (by decide) hp
  · exact br_t (by decide) hp
  · exact br_f (by decide) (br_f (by decide) (br_t (by decide) hp))
  · exact br_f (by decide) (br_f (by decide) (br_f (by decide) (br_t (by decide) hp)))
  · exact br_f (by decide) (br_f (by decide) (br_f (by decide) (br_f (by decide) (br_t (by decide) hp))))
  · exact br_f (by decide) (br_f (by decide) (br_f (by decide) (br_f (by decide) (br_f (by decide) (br_t (by decide) hp)))))
  · have hp : post (if l < r then 1 else 0) := hp
    refine br_f (by decide) (br_f (by decide) (br_f (by decide) (br_f (by decide) (br_f (by decide) (br_f (by decide) (br_t (by decide) (br_c (fun h => ?_) (fun h => ?_))))))))
    · rw [if_neg (Int32.not_lt.mpr h)] at hp
      exact hp
    · rw [if_pos (Int32.not_le.mp h)] at hp
      exact hp
  · have hp : post (if l = r then 1 else 0) := hp
    refine br_f (by decide) (br_f (by decide) (br_f (by decide) (br_f (by decide) (br_f (by decide) (br_f (by decide) (br_f (by decide) (br_t (by decide) (br_c (fun h => ?_) (fun h => ?_)))))))))
    · rw [if_pos h] at hp
      exact hp
    · rw [if_neg h] at hp
      exact hp
section
variable {B C R : Nat} {g0 : Nat → Int32} {f_blockCount f_cellCount f_regCount f_converted f_reachable f_guardCount f_recordForm f_ranBlocks f_heldGuards : Int32} {a_inputs a_sizes a_ops a_dests a_args a_tests a_trueTargets a_falseTargets a_onEveryWayTo a_onEveryPath a_guardNumbers a_guardsOnTrue a_guardsOnFalse a_heldOnEntry a_restoredTests a_restoredTrue a_restoredFalse a_finalRegs : Nat → Int32}
theorem xm_start17 (hR : R ≤ 8) {post : SX → Prop} {g : Nat → Int32} (hp : post (f_blockCount, f_cellCount, nI R, f_converted, f_reachable, f_guardCount, f_recordForm, f_ranBlocks, f_heldGuards, a_inputs, a_sizes, a_ops, a_dests, a_args, a_tests, a_trueTargets, a_falseTargets, a_onEveryWayTo, a_onEveryPath, a_guardNumbers, a_guardsOnTrue, a_guardsOnFalse, a_heldOnEntry, a_restoredTests, a_restoredTrue, a_restoredFalse, ic_cp a_inputs g R)) :
    ∀ d i, i + d = R → ∀ n, d < n → wX_startRecord_17 post f_blockCount f_cellCount (nI R) f_converted f_reachable f_guardCount f_recordForm f_ranBlocks f_heldGuards n (nI i) a_inputs a_sizes a_ops a_dests a_args a_tests a_trueTargets a_falseTargets a_onEveryWayTo a_onEveryPath a_guardNumbers a_guardsOnTrue a_guardsOnFalse a_heldOnEntry a_restoredTests a_restoredTrue a_restoredFalse (ic_cp a_inputs g i) := by
  intro d
  induction d with
  | zero =>
    intro i hi n hn
    cases n with
    | zero => exact absurd hn (Nat.not_lt_zero _)
    | succ n =>
      have e : i = R := by omega
      rw [e]
      exact br_t (nI_le (by omega) (by omega)) hp
  | succ d ih =>
    intro i hi n hn
    cases n with
    | zero => exact absurd hn (Nat.not_lt_zero _)
    | succ n =>
      exact br_f (nI_ge (by omega) (by omega)) ⟨ic_v8 (by omega), ic_v8 (by omega), nm_r (e' := ic_cp a_inputs g (i + 1)) (by rw [nI_clamp (n := i) (by omega)] <;> rfl) (nm_r (nI_1 i) (ih (i + 1) (by omega) n (by omega)))⟩
theorem xm_start (hR : R ≤ 8) {post : SX → Prop} {p0 : Int32} (hp : post (f_blockCount, f_cellCount, nI R, f_converted, f_reachable, f_guardCount, p0, 0, 1, a_inputs, a_sizes, a_ops, a_dests, a_args, a_tests, a_trueTargets, a_falseTargets, a_onEveryWayTo, a_onEveryPath, a_guardNumbers, a_guardsOnTrue, a_guardsOnFalse, a_heldOnEntry, a_restoredTests, a_restoredTrue, a_restoredFalse, ic_cp a_inputs a_finalRegs R)) : wpX_startRecord post (f_blockCount, f_cellCount, nI R, f_converted, f_reachable, f_guardCount, f_recordForm, f_ranBlocks, f_heldGuards, a_inputs, a_sizes, a_ops, a_dests, a_args, a_tests, a_trueTargets, a_falseTargets, a_onEveryWayTo, a_onEveryPath, a_guardNumbers, a_guardsOnTrue, a_guardsOnFalse, a_heldOnEntry, a_restoredTests, a_restoredTrue, a_restoredFalse, a_finalRegs) p0 :=
  ⟨R + 1, xm_start17 hR hp R 0 (by omega) (R + 1) (by omega)⟩
theorem xm_ins (hR : R ≤ 8) {post : SX → Prop} {p : Nat} {p0 : Int32} (ep : p0 = nI p) (hp : p < 48) (hc : ic_Cell R a_ops a_dests a_args p) (h : post (f_blockCount, f_cellCount, f_regCount, f_converted, f_reachable, f_guardCount, f_recordForm, f_ranBlocks, f_heldGuards, a_inputs, a_sizes, a_ops, a_dests, a_args, a_tests, a_trueTargets, a_falseTargets, a_onEveryWayTo, a_onEveryPath, a_guardNumbers, a_guardsOnTrue, a_guardsOnFalse, a_heldOnEntry, a_restoredTests, a_restoredTrue, a_restoredFalse, ic_exe a_ops a_dests a_args a_finalRegs p)) : wpX_runInstruction post (f_blockCount, f_cellCount, f_regCount, f_converted, f_reachable, f_guardCount, f_recordForm, f_ranBlocks, f_heldGuards, a_inputs, a_sizes, a_ops, a_dests, a_args, a_tests, a_trueTargets, a_falseTargets, a_onEveryWayTo, a_onEveryPath, a_guardNumbers, a_guardsOnTrue, a_guardsOnFalse, a_heldOnEntry, a_restoredTests, a_restoredTrue, a_restoredFalse, a_finalRegs) p0 := by
  subst ep
  obtain ⟨o, d, ho, hd, e1, e2, e3⟩ := hc
  have c1 : (nI p).toNatClampNeg = p := nI_clamp (by omega)
  have c2 : (nI d).toNatClampNeg = d := nI_clamp (by omega)
  refine ⟨ic_v48 hp, nm_r (e' := nI d) (by rw [c1, e2]) ⟨ic_v48 hp, ?_⟩⟩
  by_cases e : o = 0
  · have z : a_ops p = 0 := by rw [e1, e]; exact nI_0
    refine br_t (by rw [c1]; exact z) ⟨ic_v48 hp, ic_v48 hp, ic_v8 (by omega), ?_⟩
    refine xm_res ho (by rw [c1, e1]) ⟨ic_v8 (by omega), nm_r (e' := ic_exe a_ops a_dests a_args a_finalRegs p) ?_ h⟩
    unfold ic_exe
    rw [c1, e2, c2, if_pos z]
  · have z : ¬ a_ops p = 0 := by rw [e1]; exact nI_ne0 (by omega) (by omega)
    obtain ⟨x, hx, e4⟩ := e3.resolve_left e
    have c3 : (nI x).toNatClampNeg = x := nI_clamp (by omega)
    refine br_f (by rw [c1]; exact z) ⟨ic_v48 hp, by rw [c1, e4]; exact ic_v8 (by omega), ic_v48 hp, ic_v8 (by omega), ?_⟩
    refine xm_res ho (by rw [c1, e1]) ⟨ic_v8 (by omega), nm_r (e' := ic_exe a_ops a_dests a_args a_finalRegs p) ?_ h⟩
    unfold ic_exe
    rw [c1, e2, c2, if_neg z]
theorem xm_blk14 (hR : R ≤ 8) {post : SX → Prop} {b s : Nat} {g : Nat → Int32} (hb : b < 12) (hs : a_sizes b = nI s) (hs4 : s ≤ 4) (hc : ∀ i, i < s → ic_Cell R a_ops a_dests a_args (b * 4 + i))
    (hp : post (f_blockCount, f_cellCount, f_regCount, f_converted, f_reachable, f_guardCount, f_recordForm, f_ranBlocks, f_heldGuards, a_inputs, a_sizes, a_ops, a_dests, a_args, a_tests, a_trueTargets, a_falseTargets, a_onEveryWayTo, a_onEveryPath, a_guardNumbers, a_guardsOnTrue, a_guardsOnFalse, a_heldOnEntry, a_restoredTests, a_restoredTrue, a_restoredFalse, ic_blk a_ops a_dests a_args b s g)) :
    ∀ d i, i + d = s → ∀ n, d < n → wX_runBlock_14 post (nI b) n (nI i) f_blockCount f_cellCount f_regCount f_converted f_reachable f_guardCount f_recordForm f_ranBlocks f_heldGuards a_inputs a_sizes a_ops a_dests a_args a_tests a_trueTargets a_falseTargets a_onEveryWayTo a_onEveryPath a_guardNumbers a_guardsOnTrue a_guardsOnFalse a_heldOnEntry a_restoredTests a_restoredTrue a_restoredFalse (ic_blk a_ops a_dests a_args b i g) := by
  intro d
  induction d with
  | zero =>
    intro i hi n hn
    cases n with
    | zero => exact absurd hn (Nat.not_lt_zero _)
    | succ n =>
      have e : i = s := by omega
      rw [e]
      exact ⟨ic_v12 hb, br_t (by rw [nI_clamp (by omega), hs]; exact nI_le (by omega) (by omega)) hp⟩
  | succ d ih =>
    intro i hi n hn
    cases n with
    | zero => exact absurd hn (Nat.not_lt_zero _)
    | succ n =>
      refine ⟨ic_v12 hb, br_f (by rw [nI_clamp (by omega), hs]; exact nI_ge (by omega) (by omega)) ?_⟩
      unfold wpX_placeOf
      refine xm_ins hR (ic_4 b i) (by omega) (hc i (by omega)) ?_
      exact nm_r (nI_1 i) (ih (i + 1) (by omega) n (by omega))
theorem xm_blk (hR : R ≤ 8) {post : SX → Prop} {b s : Nat} (hb : b < 12) (hs : a_sizes b = nI s) (hs4 : s ≤ 4) (hc : ∀ i, i < s → ic_Cell R a_ops a_dests a_args (b * 4 + i))
    (hp : post (f_blockCount, f_cellCount, f_regCount, f_converted, f_reachable, f_guardCount, f_recordForm, f_ranBlocks ||| ((1 : Int32) <<< (nI b &&& 31)), f_heldGuards, a_inputs, a_sizes, a_ops, a_dests, a_args, a_tests, a_trueTargets, a_falseTargets, a_onEveryWayTo, a_onEveryPath, a_guardNumbers, a_guardsOnTrue, a_guardsOnFalse, a_heldOnEntry, a_restoredTests, a_restoredTrue, a_restoredFalse, ic_blk a_ops a_dests a_args b s a_finalRegs)) : wpX_runBlock post (f_blockCount, f_cellCount, f_regCount, f_converted, f_reachable, f_guardCount, f_recordForm, f_ranBlocks, f_heldGuards, a_inputs, a_sizes, a_ops, a_dests, a_args, a_tests, a_trueTargets, a_falseTargets, a_onEveryWayTo, a_onEveryPath, a_guardNumbers, a_guardsOnTrue, a_guardsOnFalse, a_heldOnEntry, a_restoredTests, a_restoredTrue, a_restoredFalse, a_finalRegs) (nI b) :=
  nm_e ⟨s + 1, xm_blk14 hR hb hs hs4 hc hp s 0 (by omega) (s + 1) (by omega)⟩
theorem xm_go (hR : R ≤ 8) {post : Int32 → Prop} {p0 t : Int32} (e : p0 = t) (ht : t = -1 ∨ ∃ r, r < R ∧ t = nI r) (h1 : ic_go t a_finalRegs = true → post 1) (h0 : ic_go t a_finalRegs = false → post 0) : wpX_goesOnTrue post (f_blockCount, f_cellCount, f_regCount, f_converted, f_reachable, f_guardCount, f_recordForm, f_ranBlocks, f_heldGuards, a_inputs, a_sizes, a_ops, a_dests, a_args, a_tests, a_trueTargets, a_falseTargets, a_onEveryWayTo, a_onEveryPath, a_guardNumbers, a_guardsOnTrue, a_guardsOnFalse, a_heldOnEntry, a_restoredTests, a_restoredTrue, a_restoredFalse, a_finalRegs) p0 := by
  subst e
  refine br_c (fun q => h1 (decide_eq_true (Or.inl q))) (fun q => ⟨?_, br_c (fun z => h0 (decide_eq_false (fun k => k.elim q (fun k => k z)))) (fun z => h1 (decide_eq_true (Or.inr z)))⟩)
  rcases ht with k | ⟨r, hr, k⟩
  · exact absurd k q
  · rw [k]
    exact ic_v8 (by omega)
theorem xm_rbS6 (hB : B ≤ 12) (hC : C ≤ 4) (hR : R ≤ 8) (hS : ic_Src B C R a_sizes a_ops a_dests a_args a_tests a_trueTargets a_falseTargets)
    (hq : ∀ b, b < B → ic_Re B (ic_N a_trueTargets) (ic_N a_falseTargets) b → a_trueTargets b = nI (ic_N a_trueTargets b) ∧ a_falseTargets b = nI (ic_N a_falseTargets b) ∧ (a_tests b = a_tests b ∨ (ic_N a_trueTargets b = ic_N a_falseTargets b ∧ a_tests b = -1)))
    {post : Int32 → SX → Prop} {stop : Nat} (hst : stop ≤ B) (hp : post (nI (ic_rn a_sizes a_ops a_dests a_args a_tests a_trueTargets a_falseTargets g0 stop).1) (f_blockCount, f_cellCount, f_regCount, f_converted, f_reachable, f_guardCount, f_recordForm, (ic_rn a_sizes a_ops a_dests a_args a_tests a_trueTargets a_falseTargets g0 stop).2.2, f_heldGuards, a_inputs, a_sizes, a_ops, a_dests, a_args, a_tests, a_trueTargets, a_falseTargets, a_onEveryWayTo, a_onEveryPath, a_guardNumbers, a_guardsOnTrue, a_guardsOnFalse, a_heldOnEntry, a_restoredTests, a_restoredTrue, a_restoredFalse, (ic_rn a_sizes a_ops a_dests a_args a_tests a_trueTargets a_falseTargets g0 stop).2.1)) :
    ∀ d b, b + d = stop → ∀ n, d < n → wX_runBranching__tests_trueTargets_falseTargets_6 post (nI stop) n (nI (ic_rn a_sizes a_ops a_dests a_args a_tests a_trueTargets a_falseTargets g0 b).1) (nI b) f_blockCount f_cellCount f_regCount f_converted f_reachable f_guardCount f_recordForm ((ic_rn a_sizes a_ops a_dests a_args a_tests a_trueTargets a_falseTargets g0 b).2.2) f_heldGuards a_inputs a_sizes a_ops a_dests a_args a_tests a_trueTargets a_falseTargets a_onEveryWayTo a_onEveryPath a_guardNumbers a_guardsOnTrue a_guardsOnFalse a_heldOnEntry a_restoredTests a_restoredTrue a_restoredFalse ((ic_rn a_sizes a_ops a_dests a_args a_tests a_trueTargets a_falseTargets g0 b).2.1) := by
  intro d
  induction d with
  | zero =>
    intro b hb n hn
    cases n with
    | zero => exact absurd hn (Nat.not_lt_zero _)
    | succ n =>
      have e : b = stop := by omega
      rw [e]
      exact br_t (nI_le (by omega) (by omega)) hp
  | succ d ih =>
    intro b hb n hn
    cases n with
    | zero => exact absurd hn (Nat.not_lt_zero _)
    | succ n =>
      obtain ⟨V, v1, v2, v3, v4, v5⟩ := ic_rn_V (g0 := g0) hS hB b (by omega)
      have hbB : b < B := by omega
      have k := ih (b + 1) (by omega) n (by omega)
      refine br_f (nI_ge (by omega) (by omega)) (pk_eq b (ic_rn a_sizes a_ops a_dests a_args a_tests a_trueTargets a_falseTargets g0 b).1 (fun q => ?_) (fun q => ?_))
      · rw [← q] at v1
        obtain ⟨q1, q2, q3⟩ := hq b hbB ⟨V, v1⟩
        obtain ⟨s1, s2, s3⟩ := ic_Src_s hS hC hbB
        have ht := (hS b hbB).2.1
        rw [ic_rn_s b q] at k
        refine xm_blk hR (by omega) s1 (by omega) s3 ?_
        refine ⟨ic_v12 (by omega), ?_⟩
        refine xm_go (t := a_tests b) hR (ic_g (by omega)) (q3.elim (fun z => by rw [z]; exact ht) (fun z => Or.inl z.2)) (fun e => br_f (by decide) ?_) (fun e => br_t rfl ?_)
        · refine ⟨ic_v12 (by omega), nm_r (e' := nI (ic_N a_trueTargets b)) (by rw [nI_clamp (by omega), q1]) (nm_r (nI_1 b) ?_)⟩
          rcases q3 with z | ⟨z, _⟩
          · rw [z] at e
            rw [if_pos e] at k
            exact k
          · rw [← z, ite_self] at k
            exact k
        · refine ⟨ic_v12 (by omega), nm_r (e' := nI (ic_N a_falseTargets b)) (by rw [nI_clamp (by omega), q2]) (nm_r (nI_1 b) ?_)⟩
          rcases q3 with z | ⟨z, _⟩
          · rw [z] at e
            rw [if_neg (by rw [e]; decide)] at k
            exact k
          · rw [z, ite_self] at k
            exact k
      · rw [ic_rn_n b q] at k
        exact nm_r (nI_1 b) k
theorem xm_rbS (hB : B ≤ 12) (hC : C ≤ 4) (hR : R ≤ 8) (hS : ic_Src B C R a_sizes a_ops a_dests a_args a_tests a_trueTargets a_falseTargets)
    (hq : ∀ b, b < B → ic_Re B (ic_N a_trueTargets) (ic_N a_falseTargets) b → a_trueTargets b = nI (ic_N a_trueTargets b) ∧ a_falseTargets b = nI (ic_N a_falseTargets b) ∧ (a_tests b = a_tests b ∨ (ic_N a_trueTargets b = ic_N a_falseTargets b ∧ a_tests b = -1)))
    {post : Int32 → SX → Prop} {stop : Nat} (hst : stop ≤ B) (hp : post (nI (ic_rn a_sizes a_ops a_dests a_args a_tests a_trueTargets a_falseTargets g0 stop).1) (f_blockCount, f_cellCount, f_regCount, f_converted, f_reachable, f_guardCount, f_recordForm, (ic_rn a_sizes a_ops a_dests a_args a_tests a_trueTargets a_falseTargets g0 stop).2.2, f_heldGuards, a_inputs, a_sizes, a_ops, a_dests, a_args, a_tests, a_trueTargets, a_falseTargets, a_onEveryWayTo, a_onEveryPath, a_guardNumbers, a_guardsOnTrue, a_guardsOnFalse, a_heldOnEntry, a_restoredTests, a_restoredTrue, a_restoredFalse, (ic_rn a_sizes a_ops a_dests a_args a_tests a_trueTargets a_falseTargets g0 stop).2.1)) : wpX_runBranching__tests_trueTargets_falseTargets post (f_blockCount, f_cellCount, f_regCount, f_converted, f_reachable, f_guardCount, f_recordForm, 0, f_heldGuards, a_inputs, a_sizes, a_ops, a_dests, a_args, a_tests, a_trueTargets, a_falseTargets, a_onEveryWayTo, a_onEveryPath, a_guardNumbers, a_guardsOnTrue, a_guardsOnFalse, a_heldOnEntry, a_restoredTests, a_restoredTrue, a_restoredFalse, g0) (nI stop) :=
  ⟨stop + 1, xm_rbS6 hB hC hR hS hq hst hp stop 0 (by omega) (stop + 1) (by omega)⟩
theorem xm_rbR6 (hB : B ≤ 12) (hC : C ≤ 4) (hR : R ≤ 8) (hS : ic_Src B C R a_sizes a_ops a_dests a_args a_tests a_trueTargets a_falseTargets)
    (hq : ∀ b, b < B → ic_Re B (ic_N a_trueTargets) (ic_N a_falseTargets) b → a_restoredTrue b = nI (ic_N a_trueTargets b) ∧ a_restoredFalse b = nI (ic_N a_falseTargets b) ∧ (a_restoredTests b = a_tests b ∨ (ic_N a_trueTargets b = ic_N a_falseTargets b ∧ a_restoredTests b = -1)))
    {post : Int32 → SX → Prop} {stop : Nat} (hst : stop ≤ B) (hp : post (nI (ic_rn a_sizes a_ops a_dests a_args a_tests a_trueTargets a_falseTargets g0 stop).1) (f_blockCount, f_cellCount, f_regCount, f_converted, f_reachable, f_guardCount, f_recordForm, (ic_rn a_sizes a_ops a_dests a_args a_tests a_trueTargets a_falseTargets g0 stop).2.2, f_heldGuards, a_inputs, a_sizes, a_ops, a_dests, a_args, a_tests, a_trueTargets, a_falseTargets, a_onEveryWayTo, a_onEveryPath, a_guardNumbers, a_guardsOnTrue, a_guardsOnFalse, a_heldOnEntry, a_restoredTests, a_restoredTrue, a_restoredFalse, (ic_rn a_sizes a_ops a_dests a_args a_tests a_trueTargets a_falseTargets g0 stop).2.1)) :
    ∀ d b, b + d = stop → ∀ n, d < n → wX_runBranching__restoredTests_restoredTrue_restoredFalse_6 post (nI stop) n (nI (ic_rn a_sizes a_ops a_dests a_args a_tests a_trueTargets a_falseTargets g0 b).1) (nI b) f_blockCount f_cellCount f_regCount f_converted f_reachable f_guardCount f_recordForm ((ic_rn a_sizes a_ops a_dests a_args a_tests a_trueTargets a_falseTargets g0 b).2.2) f_heldGuards a_inputs a_sizes a_ops a_dests a_args a_tests a_trueTargets a_falseTargets a_onEveryWayTo a_onEveryPath a_guardNumbers a_guardsOnTrue a_guardsOnFalse a_heldOnEntry a_restoredTests a_restoredTrue a_restoredFalse ((ic_rn a_sizes a_ops a_dests a_args a_tests a_trueTargets a_falseTargets g0 b).2.1) := by
  intro d
  induction d with
  | zero =>
    intro b hb n hn
    cases n with
    | zero => exact absurd hn (Nat.not_lt_zero _)
    | succ n =>
      have e : b = stop := by omega
      rw [e]
      exact br_t (nI_le (by omega) (by omega)) hp
  | succ d ih =>
    intro b hb n hn
    cases n with
    | zero => exact absurd hn (Nat.not_lt_zero _)
    | succ n =>
      obtain ⟨V, v1, v2, v3, v4, v5⟩ := ic_rn_V (g0 := g0) hS hB b (by omega)
      have hbB : b < B := by omega
      have k := ih (b + 1) (by omega) n (by omega)
      refine br_f (nI_ge (by omega) (by omega)) (pk_eq b (ic_rn a_sizes a_ops a_dests a_args a_tests a_trueTargets a_falseTargets g0 b).1 (fun q => ?_) (fun q => ?_))
      · rw [← q] at v1
        obtain ⟨q1, q2, q3⟩ := hq b hbB ⟨V, v1⟩
        obtain ⟨s1, s2, s3⟩ := ic_Src_s hS hC hbB
        have ht := (hS b hbB).2.1
        rw [ic_rn_s b q] at k
        refine xm_blk hR (by omega) s1 (by omega) s3 ?_
        refine ⟨ic_v12 (by omega), ?_⟩
        refine xm_go (t := a_restoredTests b) hR (ic_g (by omega)) (q3.elim (fun z => by rw [z]; exact ht) (fun z => Or.inl z.2)) (fun e => br_f (by decide) ?_) (fun e => br_t rfl ?_)
        · refine ⟨ic_v12 (by omega), nm_r (e' := nI (ic_N a_trueTargets b)) (by rw [nI_clamp (by omega), q1]) (nm_r (nI_1 b) ?_)⟩
          rcases q3 with z | ⟨z, _⟩
          · rw [z] at e
            rw [if_pos e] at k
            exact k
          · rw [← z, ite_self] at k
            exact k
        · refine ⟨ic_v12 (by omega), nm_r (e' := nI (ic_N a_falseTargets b)) (by rw [nI_clamp (by omega), q2]) (nm_r (nI_1 b) ?_)⟩
          rcases q3 with z | ⟨z, _⟩
          · rw [z] at e
            rw [if_neg (by rw [e]; decide)] at k
            exact k
          · rw [z, ite_self] at k
            exact k
      · rw [ic_rn_n b q] at k
        exact nm_r (nI_1 b) k
theorem xm_rbR (hB : B ≤ 12) (hC : C ≤ 4) (hR : R ≤ 8) (hS : ic_Src B C R a_sizes a_ops a_dests a_args a_tests a_trueTargets a_falseTargets)
    (hq : ∀ b, b < B → ic_Re B (ic_N a_trueTargets) (ic_N a_falseTargets) b → a_restoredTrue b = nI (ic_N a_trueTargets b) ∧ a_restoredFalse b = nI (ic_N a_falseTargets b) ∧ (a_restoredTests b = a_tests b ∨ (ic_N a_trueTargets b = ic_N a_falseTargets b ∧ a_restoredTests b = -1)))
    {post : Int32 → SX → Prop} {stop : Nat} (hst : stop ≤ B) (hp : post (nI (ic_rn a_sizes a_ops a_dests a_args a_tests a_trueTargets a_falseTargets g0 stop).1) (f_blockCount, f_cellCount, f_regCount, f_converted, f_reachable, f_guardCount, f_recordForm, (ic_rn a_sizes a_ops a_dests a_args a_tests a_trueTargets a_falseTargets g0 stop).2.2, f_heldGuards, a_inputs, a_sizes, a_ops, a_dests, a_args, a_tests, a_trueTargets, a_falseTargets, a_onEveryWayTo, a_onEveryPath, a_guardNumbers, a_guardsOnTrue, a_guardsOnFalse, a_heldOnEntry, a_restoredTests, a_restoredTrue, a_restoredFalse, (ic_rn a_sizes a_ops a_dests a_args a_tests a_trueTargets a_falseTargets g0 stop).2.1)) : wpX_runBranching__restoredTests_restoredTrue_restoredFalse post (f_blockCount, f_cellCount, f_regCount, f_converted, f_reachable, f_guardCount, f_recordForm, 0, f_heldGuards, a_inputs, a_sizes, a_ops, a_dests, a_args, a_tests, a_trueTargets, a_falseTargets, a_onEveryWayTo, a_onEveryPath, a_guardNumbers, a_guardsOnTrue, a_guardsOnFalse, a_heldOnEntry, a_restoredTests, a_restoredTrue, a_restoredFalse, g0) (nI stop) :=
  ⟨stop + 1, xm_rbR6 hB hC hR hS hq hst hp stop 0 (by omega) (stop + 1) (by omega)⟩
theorem xm_rs2 (hB : B ≤ 12) (hC : C ≤ 4) (hR : R ≤ 8) (hS : ic_Src B C R a_sizes a_ops a_dests a_args a_tests a_trueTargets a_falseTargets) (hg : ∀ b, b < B → a_guardNumbers b = nI (ic_gn B (ic_N a_trueTargets) (ic_N a_falseTargets) b)) (hG : ic_GD B (ic_N a_trueTargets) (ic_N a_falseTargets) B a_guardsOnTrue a_guardsOnFalse)
    {post : Int32 → SX → Prop} {stop : Nat} (hst : stop ≤ B)
    (hp : ∀ h V, ic_RV B (ic_N a_trueTargets) (ic_N a_falseTargets) stop (ic_rn a_sizes a_ops a_dests a_args a_tests a_trueTargets a_falseTargets g0 stop).1 (ic_rn a_sizes a_ops a_dests a_args a_tests a_trueTargets a_falseTargets g0 stop).2.2 V → ic_Inv B (ic_N a_trueTargets) (ic_N a_falseTargets) V (ic_rn a_sizes a_ops a_dests a_args a_tests a_trueTargets a_falseTargets g0 stop).1 (bt h) → post (nI (ic_rn a_sizes a_ops a_dests a_args a_tests a_trueTargets a_falseTargets g0 stop).1) (nI B, f_cellCount, f_regCount, f_converted, f_reachable, f_guardCount, f_recordForm, (ic_rn a_sizes a_ops a_dests a_args a_tests a_trueTargets a_falseTargets g0 stop).2.2, h, a_inputs, a_sizes, a_ops, a_dests, a_args, a_tests, a_trueTargets, a_falseTargets, a_onEveryWayTo, a_onEveryPath, a_guardNumbers, a_guardsOnTrue, a_guardsOnFalse, a_heldOnEntry, a_restoredTests, a_restoredTrue, a_restoredFalse, (ic_rn a_sizes a_ops a_dests a_args a_tests a_trueTargets a_falseTargets g0 stop).2.1)) :
    ∀ d b h V, b + d = stop → ic_RV B (ic_N a_trueTargets) (ic_N a_falseTargets) b (ic_rn a_sizes a_ops a_dests a_args a_tests a_trueTargets a_falseTargets g0 b).1 (ic_rn a_sizes a_ops a_dests a_args a_tests a_trueTargets a_falseTargets g0 b).2.2 V → ic_Inv B (ic_N a_trueTargets) (ic_N a_falseTargets) V (ic_rn a_sizes a_ops a_dests a_args a_tests a_trueTargets a_falseTargets g0 b).1 (bt h) → ∀ n, d < n → wX_runStraight_2 post (nI stop) n (nI b) (nI B) f_cellCount f_regCount f_converted f_reachable f_guardCount f_recordForm ((ic_rn a_sizes a_ops a_dests a_args a_tests a_trueTargets a_falseTargets g0 b).2.2) h a_inputs a_sizes a_ops a_dests a_args a_tests a_trueTargets a_falseTargets a_onEveryWayTo a_onEveryPath a_guardNumbers a_guardsOnTrue a_guardsOnFalse a_heldOnEntry a_restoredTests a_restoredTrue a_restoredFalse ((ic_rn a_sizes a_ops a_dests a_args a_tests a_trueTargets a_falseTargets g0 b).2.1) := by
  have ok := ic_Src_ok hS hB
  intro d
  induction d with
  | zero =>
    intro b h V hb hV I n hn
    cases n with
    | zero => exact absurd hn (Nat.not_lt_zero _)
    | succ n =>
      have e : b = stop := by omega
      rw [e] at hV I ⊢
      obtain ⟨v1, v2, v3, v4, v5⟩ := hV
      refine br_t (nI_le (by omega) (by omega)) ?_
      refine xm_next (z := (ic_rn a_sizes a_ops a_dests a_args a_tests a_trueTargets a_falseTargets g0 stop).1) hB hg rfl v3 v4 (fun x k1 k2 => ?_) (fun k2 => (ic_held ok I v2 v3 k2 (Nat.le_refl _)).mpr rfl) (hp h V ⟨v1, v2, v3, v4, v5⟩ I)
      cases ee : bt h (ic_gn B (ic_N a_trueTargets) (ic_N a_falseTargets) x) with
      | false => rfl
      | true =>
        have := (ic_held ok I v2 k1 (by omega) (by omega)).mp ee
        omega
  | succ d ih =>
    intro b h V hb hV I n hn
    cases n with
    | zero => exact absurd hn (Nat.not_lt_zero _)
    | succ n =>
      have hbB : b < B := by omega
      have hgn := ic_gn_le (B := B) (T := ic_N a_trueTargets) (F := ic_N a_falseTargets) hbB hB
      have hh := ic_held ok I hV.2.1 (Nat.le_refl b) hbB hV.2.2.1
      refine br_f (nI_ge (by omega) (by omega)) ⟨ic_v12 (by omega), ?_⟩
      refine xm_has (ic_gn B (ic_N a_trueTargets) (ic_N a_falseTargets) b) ((ic_g (by omega)).trans (hg b hbB)) (by omega) (fun e => br_f (by decide) ?_) (fun e => br_t rfl ?_)
      · have q := hh.mp e
        obtain ⟨s1, s2, s3⟩ := ic_Src_s hS hC hbB
        have ht := (hS b hbB).2.1
        have k := ih (b + 1)
        rw [ic_rn_s b q] at k
        have r : ic_Re B (ic_N a_trueTargets) (ic_N a_falseTargets) b := by
          have := hV.1
          rw [← q] at this
          exact ⟨V, this⟩
        have I2 := I
        rw [← q] at I2
        refine xm_blk hR (by omega) s1 (by omega) s3 ?_
        refine ⟨ic_v12 (by omega), ?_⟩
        refine xm_go (t := a_tests b) hR (ic_g (by omega)) ht (fun e => br_f (by decide) ?_) (fun e => br_t rfl ?_)
        · rw [if_pos e] at k
          refine ⟨ic_v12 (by omega), nm_r (e' := h ||| a_guardsOnTrue b) (by rw [nI_clamp (by omega)]) (nm_r (nI_1 b) ?_)⟩
          exact k (h ||| a_guardsOnTrue b) (V ++ [b]) (by omega) (ic_RV_s ok hB hV q hbB (Or.inl rfl)) (ic_Inv_s ok hB I2 hbB (Or.inl rfl) (fun k hk => by rw [b_or, Bool.or_eq_true, (hG b hbB r k hk).1])) n (by omega)
        · rw [if_neg (by rw [e]; decide)] at k
          refine ⟨ic_v12 (by omega), nm_r (e' := h ||| a_guardsOnFalse b) (by rw [nI_clamp (by omega)]) (nm_r (nI_1 b) ?_)⟩
          exact k (h ||| a_guardsOnFalse b) (V ++ [b]) (by omega) (ic_RV_s ok hB hV q hbB (Or.inr rfl)) (ic_Inv_s ok hB I2 hbB (Or.inr rfl) (fun k hk => by rw [b_or, Bool.or_eq_true, (hG b hbB r k hk).2])) n (by omega)
      · have q : ¬ b = (ic_rn a_sizes a_ops a_dests a_args a_tests a_trueTargets a_falseTargets g0 b).1 := fun z => by
          have := hh.mpr z
          rw [e] at this
          cases this
        have k := ih (b + 1) h V
        rw [ic_rn_n b q] at k
        exact nm_r (nI_1 b) (k (by omega) (ic_RV_n hV q) I n (by omega))
theorem xm_rs (hB : B ≤ 12) (hB1 : 1 ≤ B) (hC : C ≤ 4) (hR : R ≤ 8) (hS : ic_Src B C R a_sizes a_ops a_dests a_args a_tests a_trueTargets a_falseTargets) (hg : ∀ b, b < B → a_guardNumbers b = nI (ic_gn B (ic_N a_trueTargets) (ic_N a_falseTargets) b)) (hG : ic_GD B (ic_N a_trueTargets) (ic_N a_falseTargets) B a_guardsOnTrue a_guardsOnFalse)
    {post : Int32 → SX → Prop} {stop : Nat} (hst : stop ≤ B)
    (hp : ∀ h V, ic_RV B (ic_N a_trueTargets) (ic_N a_falseTargets) stop (ic_rn a_sizes a_ops a_dests a_args a_tests a_trueTargets a_falseTargets g0 stop).1 (ic_rn a_sizes a_ops a_dests a_args a_tests a_trueTargets a_falseTargets g0 stop).2.2 V → ic_Inv B (ic_N a_trueTargets) (ic_N a_falseTargets) V (ic_rn a_sizes a_ops a_dests a_args a_tests a_trueTargets a_falseTargets g0 stop).1 (bt h) → post (nI (ic_rn a_sizes a_ops a_dests a_args a_tests a_trueTargets a_falseTargets g0 stop).1) (nI B, f_cellCount, f_regCount, f_converted, f_reachable, f_guardCount, f_recordForm, (ic_rn a_sizes a_ops a_dests a_args a_tests a_trueTargets a_falseTargets g0 stop).2.2, h, a_inputs, a_sizes, a_ops, a_dests, a_args, a_tests, a_trueTargets, a_falseTargets, a_onEveryWayTo, a_onEveryPath, a_guardNumbers, a_guardsOnTrue, a_guardsOnFalse, a_heldOnEntry, a_restoredTests, a_restoredTrue, a_restoredFalse, (ic_rn a_sizes a_ops a_dests a_args a_tests a_trueTargets a_falseTargets g0 stop).2.1)) :
    wpX_runStraight post (nI B, f_cellCount, f_regCount, f_converted, f_reachable, f_guardCount, f_recordForm, 0, 1, a_inputs, a_sizes, a_ops, a_dests, a_args, a_tests, a_trueTargets, a_falseTargets, a_onEveryWayTo, a_onEveryPath, a_guardNumbers, a_guardsOnTrue, a_guardsOnFalse, a_heldOnEntry, a_restoredTests, a_restoredTrue, a_restoredFalse, g0) (nI stop) :=
  ⟨stop + 1, xm_rs2 hB hC hR hS hg hG hst hp stop 0 1 [] (by omega) ic_RV_0 (ic_Inv_0 hB1 (fun k hk => ic_b1 k (by omega)) hB) (stop + 1) (by omega)⟩
end
