/-! X's small methods, and the ways to the blocks -/
theorem ic_u {a : Nat → Int32} {b : Nat} {x : Int32} (hb : b < 2 ^ 31) : upd a (nI b).toNatClampNeg x = upd a b x := by rw [nI_clamp hb]
theorem ic_g {a : Nat → Int32} {b : Nat} (hb : b < 2 ^ 31) : a (nI b).toNatClampNeg = a b := by rw [nI_clamp hb]
theorem ic_v12 {b : Nat} (hb : b < 12) : vp_in (nI b) 12 := vp_in_nI hb (by decide)
theorem ic_v8 {b : Nat} (hb : b < 8) : vp_in (nI b) 8 := vp_in_nI hb (by decide)
theorem ic_v48 {b : Nat} (hb : b < 48) : vp_in (nI b) 48 := vp_in_nI hb (by decide)
theorem ic_nt {x : Bool} (h : ¬ x = false) : x = true := by
  cases x with
  | true => rfl
  | false => exact absurd rfl h
theorem xm_has {post : Int32 → Prop} {s m : Int32} (n : Nat) (hm : m = nI n) (hn : n < 32) (h1 : bt s n = true → post 1) (h0 : bt s n = false → post 0) : wpX_has post s m := by
  subst hm
  exact ⟨fun z => h0 ((ic_h0 s hn).mp z), fun z => h1 (ic_nt (fun e => z ((ic_h0 s hn).mpr e)))⟩
section
variable {B : Nat} {T F : Nat → Nat} {f_blockCount f_cellCount f_regCount f_converted f_reachable f_guardCount f_recordForm f_ranBlocks f_heldGuards : Int32} {a_inputs a_sizes a_ops a_dests a_args a_tests a_trueTargets a_falseTargets a_onEveryWayTo a_onEveryPath a_guardNumbers a_guardsOnTrue a_guardsOnFalse a_heldOnEntry a_restoredTests a_restoredTrue a_restoredFalse a_finalRegs : Nat → Int32}
theorem xm_addWayTo {post : SX → Prop} {p0 q : Int32} {z : Nat} (hB : B ≤ 12) (hp : p0 = nI z) (hz : z ≤ B)
    (h1 : z < B → post (nI B, f_cellCount, f_regCount, f_converted, f_reachable ||| ((1 : Int32) <<< (nI z &&& 31)), f_guardCount, f_recordForm, f_ranBlocks, f_heldGuards, a_inputs, a_sizes, a_ops, a_dests, a_args, a_tests, a_trueTargets, a_falseTargets, upd a_onEveryWayTo z (a_onEveryWayTo z &&& q), a_onEveryPath, a_guardNumbers, a_guardsOnTrue, a_guardsOnFalse, a_heldOnEntry, a_restoredTests, a_restoredTrue, a_restoredFalse, a_finalRegs))
    (h2 : ¬ z < B → post (nI B, f_cellCount, f_regCount, f_converted, f_reachable, f_guardCount, f_recordForm, f_ranBlocks, f_heldGuards, a_inputs, a_sizes, a_ops, a_dests, a_args, a_tests, a_trueTargets, a_falseTargets, a_onEveryWayTo, a_onEveryPath, a_guardNumbers, a_guardsOnTrue, a_guardsOnFalse, a_heldOnEntry, a_restoredTests, a_restoredTrue, a_restoredFalse, a_finalRegs)) : wpX_addWayTo post (nI B, f_cellCount, f_regCount, f_converted, f_reachable, f_guardCount, f_recordForm, f_ranBlocks, f_heldGuards, a_inputs, a_sizes, a_ops, a_dests, a_args, a_tests, a_trueTargets, a_falseTargets, a_onEveryWayTo, a_onEveryPath, a_guardNumbers, a_guardsOnTrue, a_guardsOnFalse, a_heldOnEntry, a_restoredTests, a_restoredTrue, a_restoredFalse, a_finalRegs) p0 q := by
  subst hp
  by_cases g : z < B
  · exact br_f (nI_ge g (by omega)) (nm_e ⟨ic_v12 (by omega), ic_v12 (by omega), nm_r (by rw [nI_clamp (by omega)]) (h1 g)⟩)
  · exact br_t (nI_le (by omega) (by omega)) (h2 g)
theorem xm_ways37 (ok : ic_Ok B T F) (hB : B ≤ 12) (hT : ∀ b, b < B → a_trueTargets b = nI (T b) ∧ a_falseTargets b = nI (F b)) {post : SX → Prop}
    (hp : ∀ ρ D, ic_WD B T F ρ D → post (nI B, f_cellCount, f_regCount, f_converted, ρ, f_guardCount, f_recordForm, f_ranBlocks, f_heldGuards, a_inputs, a_sizes, a_ops, a_dests, a_args, a_tests, a_trueTargets, a_falseTargets, D, a_onEveryPath, a_guardNumbers, a_guardsOnTrue, a_guardsOnFalse, a_heldOnEntry, a_restoredTests, a_restoredTrue, a_restoredFalse, a_finalRegs)) :
    ∀ d i ρ D, i + d = B → ic_WI B T F (ic_Es B T F i) ρ D → ∀ n, d < n → wX_findWaysToBlocks_37 post n (nI i) (nI B) f_cellCount f_regCount f_converted ρ f_guardCount f_recordForm f_ranBlocks f_heldGuards a_inputs a_sizes a_ops a_dests a_args a_tests a_trueTargets a_falseTargets D a_onEveryPath a_guardNumbers a_guardsOnTrue a_guardsOnFalse a_heldOnEntry a_restoredTests a_restoredTrue a_restoredFalse a_finalRegs := by
  intro d
  induction d with
  | zero =>
    intro i ρ D hi h n hn
    cases n with
    | zero => exact absurd hn (Nat.not_lt_zero _)
    | succ n =>
      have e : i = B := by omega
      rw [e] at h
      exact br_t (nI_le (by omega) (by omega)) (hp ρ D (ic_WI_B h))
  | succ d ih =>
    intro i ρ D hi h n hn
    cases n with
    | zero => exact absurd hn (Nat.not_lt_zero _)
    | succ n =>
      have hiB : i < B := by omega
      have hw := h i hiB
      refine br_f (nI_ge hiB (by omega)) ?_
      refine xm_has i rfl (by omega) (fun e => br_f (by decide) ?_) (fun e => br_t rfl ?_)
      · have r : ic_Re B T F i := (ic_Es_Re ok hiB).mp (hw.1.mp e)
        have hq : ∀ a, a < B → (bt (D i ||| ((1 : Int32) <<< (nI i &&& 31))) a = true ↔ (ic_Do B T F i a ∨ a = i)) := by
          intro a ha
          rw [b_or, ic_sh (n := i) (by omega), Bool.or_eq_true, decide_eq_true_iff, hw.2 a ha, ic_Es_Do ok hiB]
        refine ⟨ic_v12 (by omega), nm_r (e' := D i ||| ((1 : Int32) <<< (nI i &&& 31))) (by rw [nI_clamp (by omega)]) ⟨ic_v12 (by omega), ?_⟩⟩
        refine xm_addWayTo hB ((ic_g (by omega)).trans (hT i hiB).1) (ok i hiB).2.1 (fun g1 => ?_) (fun g1 => ?_)
        · refine ⟨ic_v12 (by omega), ?_⟩
          refine xm_addWayTo hB ((ic_g (by omega)).trans (hT i hiB).2) (ok i hiB).2.2.2 (fun g2 => ?_) (fun g2 => ?_)
          · exact nm_r (nI_1 i) (ih (i + 1) _ _ (by omega) (ic_WI_2 ok hB hiB r h hq ⟨fun _ => ⟨rfl, rfl⟩, fun z => absurd g1 z⟩ ⟨fun _ => ⟨rfl, rfl⟩, fun z => absurd g2 z⟩) n (by omega))
          · exact nm_r (nI_1 i) (ih (i + 1) _ _ (by omega) (ic_WI_2 ok hB hiB r h hq ⟨fun _ => ⟨rfl, rfl⟩, fun z => absurd g1 z⟩ ⟨fun z => absurd z g2, fun _ => ⟨rfl, rfl⟩⟩) n (by omega))
        · refine ⟨ic_v12 (by omega), ?_⟩
          refine xm_addWayTo hB ((ic_g (by omega)).trans (hT i hiB).2) (ok i hiB).2.2.2 (fun g2 => ?_) (fun g2 => ?_)
          · exact nm_r (nI_1 i) (ih (i + 1) _ _ (by omega) (ic_WI_2 ok hB hiB r h hq ⟨fun z => absurd z g1, fun _ => ⟨rfl, rfl⟩⟩ ⟨fun _ => ⟨rfl, rfl⟩, fun z => absurd g2 z⟩) n (by omega))
          · exact nm_r (nI_1 i) (ih (i + 1) _ _ (by omega) (ic_WI_2 ok hB hiB r h hq ⟨fun z => absurd z g1, fun _ => ⟨rfl, rfl⟩⟩ ⟨fun z => absurd z g2, fun _ => ⟨rfl, rfl⟩⟩) n (by omega))
      · have r : ¬ ic_Re B T F i := fun k => by
          have := hw.1.mpr ((ic_Es_Re ok hiB).mpr k)
          rw [e] at this
          cases this
        exact nm_r (nI_1 i) (ih (i + 1) ρ D (by omega) (ic_WI_c h (fun p b _ => ic_Es_n r p b)) n (by omega))
theorem xm_ways14 (ok : ic_Ok B T F) (hB : B ≤ 12) (hT : ∀ b, b < B → a_trueTargets b = nI (T b) ∧ a_falseTargets b = nI (F b)) {post : SX → Prop}
    (hp : ∀ ρ D, ic_WD B T F ρ D → post (nI B, f_cellCount, f_regCount, f_converted, ρ, f_guardCount, f_recordForm, f_ranBlocks, f_heldGuards, a_inputs, a_sizes, a_ops, a_dests, a_args, a_tests, a_trueTargets, a_falseTargets, D, a_onEveryPath, a_guardNumbers, a_guardsOnTrue, a_guardsOnFalse, a_heldOnEntry, a_restoredTests, a_restoredTrue, a_restoredFalse, a_finalRegs)) :
    ∀ d i D, i + d = B → D 0 = 0 → (∀ b, 1 ≤ b → b < i → D b = -1) → 1 ≤ i → ∀ n, d < n → wX_findWaysToBlocks_14 post (nI B) f_cellCount f_regCount f_converted 1 f_guardCount f_recordForm f_ranBlocks f_heldGuards n (nI i) a_inputs a_sizes a_ops a_dests a_args a_tests a_trueTargets a_falseTargets D a_onEveryPath a_guardNumbers a_guardsOnTrue a_guardsOnFalse a_heldOnEntry a_restoredTests a_restoredTrue a_restoredFalse a_finalRegs := by
  intro d
  induction d with
  | zero =>
    intro i D hi h0 h1 hi1 n hn
    cases n with
    | zero => exact absurd hn (Nat.not_lt_zero _)
    | succ n =>
      exact br_t (nI_le (by omega) (by omega)) ⟨B + 1, xm_ways37 ok hB hT hp B 0 1 D (by omega) (ic_WI_0 hB h0 (fun b k1 k2 => h1 b k1 (by omega))) (B + 1) (by omega)⟩
  | succ d ih =>
    intro i D hi h0 h1 hi1 n hn
    cases n with
    | zero => exact absurd hn (Nat.not_lt_zero _)
    | succ n =>
      refine br_f (nI_ge (by omega) (by omega)) ⟨ic_v12 (by omega), nm_r (ic_u (by omega)) (nm_r (nI_1 i) (ih (i + 1) _ (by omega) ?_ ?_ (by omega) n (by omega)))⟩
      · rw [pk_un (by omega)]
        exact h0
      · intro b k1 k2
        by_cases e : b = i
        · rw [e, pk_us]
        · rw [pk_un e]
          exact h1 b k1 (by omega)
theorem xm_ways (ok : ic_Ok B T F) (hB : B ≤ 12) (hB1 : 1 ≤ B) (hT : ∀ b, b < B → a_trueTargets b = nI (T b) ∧ a_falseTargets b = nI (F b)) {post : SX → Prop}
    (hp : ∀ ρ D, ic_WD B T F ρ D → post (nI B, f_cellCount, f_regCount, f_converted, ρ, f_guardCount, f_recordForm, f_ranBlocks, f_heldGuards, a_inputs, a_sizes, a_ops, a_dests, a_args, a_tests, a_trueTargets, a_falseTargets, D, a_onEveryPath, a_guardNumbers, a_guardsOnTrue, a_guardsOnFalse, a_heldOnEntry, a_restoredTests, a_restoredTrue, a_restoredFalse, a_finalRegs)) : wpX_findWaysToBlocks post (nI B, f_cellCount, f_regCount, f_converted, f_reachable, f_guardCount, f_recordForm, f_ranBlocks, f_heldGuards, a_inputs, a_sizes, a_ops, a_dests, a_args, a_tests, a_trueTargets, a_falseTargets, a_onEveryWayTo, a_onEveryPath, a_guardNumbers, a_guardsOnTrue, a_guardsOnFalse, a_heldOnEntry, a_restoredTests, a_restoredTrue, a_restoredFalse, a_finalRegs) :=
  nm_e ⟨B, xm_ways14 ok hB hT hp (B - 1) 1 _ (by omega) pk_us (fun b k1 k2 => by omega) (Nat.le_refl _) B (by omega)⟩
end
