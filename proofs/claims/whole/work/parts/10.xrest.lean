/-! X: the next held block, the restored endings, the whole conversion -/
section
variable {B : Nat} {T F : Nat → Nat} {f_blockCount f_cellCount f_regCount f_converted f_reachable f_guardCount f_recordForm f_ranBlocks f_heldGuards : Int32} {a_inputs a_sizes a_ops a_dests a_args a_tests a_trueTargets a_falseTargets a_onEveryWayTo a_onEveryPath a_guardNumbers a_guardsOnTrue a_guardsOnFalse a_heldOnEntry a_restoredTests a_restoredTrue a_restoredFalse a_finalRegs : Nat → Int32}
theorem xm_next2 (hB : B ≤ 12) (hg : ∀ b, b < B → a_guardNumbers b = nI (ic_gn B T F b)) {post : Int32 → Prop} {h : Int32} {z : Nat} (hz : z ≤ B) (h2 : z < B → bt h (ic_gn B T F z) = true) (hp : post (nI z)) :
    ∀ d i, i + d = z → (∀ x, i ≤ x → x < z → bt h (ic_gn B T F x) = false) → ∀ n, d < n → wX_nextHeldBlock_2 post h (nI B) f_cellCount f_regCount f_converted f_reachable f_guardCount f_recordForm f_ranBlocks f_heldGuards a_inputs a_sizes a_ops a_dests a_args a_tests a_trueTargets a_falseTargets a_onEveryWayTo a_onEveryPath a_guardNumbers a_guardsOnTrue a_guardsOnFalse a_heldOnEntry a_restoredTests a_restoredTrue a_restoredFalse a_finalRegs n (nI i) := by
  intro d
  induction d with
  | zero =>
    intro i hi h1 n hn
    cases n with
    | zero => exact absurd hn (Nat.not_lt_zero _)
    | succ n =>
      have e : i = z := by omega
      subst e
      by_cases g : i < B
      · have hgn := ic_gn_le (B := B) (T := T) (F := F) g hB
        refine br_f (nI_ge g (by omega)) ⟨ic_v12 (by omega), ?_⟩
        refine xm_has (ic_gn B T F i) ((ic_g (by omega)).trans (hg i g)) (by omega) (fun _ => br_f (by decide) hp) (fun e => ?_)
        rw [h2 g] at e
        cases e
      · have e : i = B := by omega
        rw [e] at hp
        exact br_t (nI_le (by omega) (by omega)) hp
  | succ d ih =>
    intro i hi h1 n hn
    cases n with
    | zero => exact absurd hn (Nat.not_lt_zero _)
    | succ n =>
      have g : i < B := by omega
      have hgn := ic_gn_le (B := B) (T := T) (F := F) g hB
      refine br_f (nI_ge g (by omega)) ⟨ic_v12 (by omega), ?_⟩
      refine xm_has (ic_gn B T F i) ((ic_g (by omega)).trans (hg i g)) (by omega) (fun e => ?_) (fun _ => br_t rfl ?_)
      · rw [h1 i (Nat.le_refl _) (by omega)] at e
        cases e
      · exact nm_r (nI_1 i) (ih (i + 1) (by omega) (fun x k1 k2 => h1 x (by omega) k2) n (by omega))
theorem xm_next (hB : B ≤ 12) (hg : ∀ b, b < B → a_guardNumbers b = nI (ic_gn B T F b)) {post : Int32 → Prop} {h p0 : Int32} {i z : Nat} (hi : p0 = nI i) (hiz : i ≤ z) (hz : z ≤ B) (h1 : ∀ x, i ≤ x → x < z → bt h (ic_gn B T F x) = false) (h2 : z < B → bt h (ic_gn B T F z) = true) (hp : post (nI z)) :
    wpX_nextHeldBlock post (nI B, f_cellCount, f_regCount, f_converted, f_reachable, f_guardCount, f_recordForm, f_ranBlocks, f_heldGuards, a_inputs, a_sizes, a_ops, a_dests, a_args, a_tests, a_trueTargets, a_falseTargets, a_onEveryWayTo, a_onEveryPath, a_guardNumbers, a_guardsOnTrue, a_guardsOnFalse, a_heldOnEntry, a_restoredTests, a_restoredTrue, a_restoredFalse, a_finalRegs) p0 h := by
  subst hi
  exact ⟨z + 1, xm_next2 hB hg hz h2 hp (z - i) i (by omega) h1 (z + 1) (by omega)⟩
theorem xm_edge (ok : ic_Ok B T F) (hB : B ≤ 12) (hg : ∀ b, b < B → a_guardNumbers b = nI (ic_gn B T F b)) {post : Int32 → SX → Prop} {m : Int32} {V : List Nat} {i z : Nat} (I : ic_Inv B T F V i (bt (a_heldOnEntry i))) (hi : i < B) (hz : T i = z ∨ F i = z) (hm : ∀ k, k ≤ 12 → (bt m k = true ↔ ic_Mk B T F i z k))
    (h1 : ∀ h, ic_Inv B T F (V ++ [i]) z (bt h) → z < B → post (nI z) (nI B, f_cellCount, f_regCount, f_converted, f_reachable, f_guardCount, f_recordForm, f_ranBlocks, f_heldGuards, a_inputs, a_sizes, a_ops, a_dests, a_args, a_tests, a_trueTargets, a_falseTargets, a_onEveryWayTo, a_onEveryPath, a_guardNumbers, a_guardsOnTrue, a_guardsOnFalse, upd a_heldOnEntry z h, a_restoredTests, a_restoredTrue, a_restoredFalse, a_finalRegs)) (h2 : ¬ z < B → post (nI z) (nI B, f_cellCount, f_regCount, f_converted, f_reachable, f_guardCount, f_recordForm, f_ranBlocks, f_heldGuards, a_inputs, a_sizes, a_ops, a_dests, a_args, a_tests, a_trueTargets, a_falseTargets, a_onEveryWayTo, a_onEveryPath, a_guardNumbers, a_guardsOnTrue, a_guardsOnFalse, a_heldOnEntry, a_restoredTests, a_restoredTrue, a_restoredFalse, a_finalRegs)) :
    wpX_restoreEdge post (nI B, f_cellCount, f_regCount, f_converted, f_reachable, f_guardCount, f_recordForm, f_ranBlocks, f_heldGuards, a_inputs, a_sizes, a_ops, a_dests, a_args, a_tests, a_trueTargets, a_falseTargets, a_onEveryWayTo, a_onEveryPath, a_guardNumbers, a_guardsOnTrue, a_guardsOnFalse, a_heldOnEntry, a_restoredTests, a_restoredTrue, a_restoredFalse, a_finalRegs) (nI i) m := by
  obtain ⟨J, j1, j2, j3, j4⟩ := ic_edge ok hB I hi hz hm
  refine ⟨ic_v12 (by omega), nm_r (e' := a_heldOnEntry i ||| m) (by rw [nI_clamp (by omega)]) ?_⟩
  refine xm_next (T := T) (F := F) hB hg (nI_1 i) j1 j2 j3 j4 ?_
  by_cases g : z < B
  · exact br_f (nI_ge g (by omega)) ⟨ic_v12 (by omega), nm_r (ic_u (by omega)) (h1 _ J g)⟩
  · exact br_t (nI_le (by omega) (by omega)) (h2 g)
theorem xm_rest9 (ok : ic_Ok B T F) (hB : B ≤ 12) (hR : ∀ b, b < B → (bt f_reachable b = true ↔ ic_Re B T F b)) (hg : ∀ b, b < B → a_guardNumbers b = nI (ic_gn B T F b)) (hG : ic_GD B T F B a_guardsOnTrue a_guardsOnFalse) {post : SX → Prop}
    (hp : ∀ he rt rT rF, ic_RS B T F B a_tests rt rT rF → post (nI B, f_cellCount, f_regCount, f_converted, f_reachable, f_guardCount, f_recordForm, f_ranBlocks, f_heldGuards, a_inputs, a_sizes, a_ops, a_dests, a_args, a_tests, a_trueTargets, a_falseTargets, a_onEveryWayTo, a_onEveryPath, a_guardNumbers, a_guardsOnTrue, a_guardsOnFalse, he, rt, rT, rF, a_finalRegs)) :
    ∀ d i he rt rT rF, i + d = B → ic_HE B T F (ic_Es B T F i) he → ic_RS B T F i a_tests rt rT rF → ∀ n, d < n → wX_restoreEndings_9 post n (nI i) (nI B) f_cellCount f_regCount f_converted f_reachable f_guardCount f_recordForm f_ranBlocks f_heldGuards a_inputs a_sizes a_ops a_dests a_args a_tests a_trueTargets a_falseTargets a_onEveryWayTo a_onEveryPath a_guardNumbers a_guardsOnTrue a_guardsOnFalse he rt rT rF a_finalRegs := by
  intro d
  induction d with
  | zero =>
    intro i he rt rT rF hi hE h n hn
    cases n with
    | zero => exact absurd hn (Nat.not_lt_zero _)
    | succ n =>
      have e : i = B := by omega
      rw [e] at h
      exact br_t (nI_le (by omega) (by omega)) (hp he rt rT rF h)
  | succ d ih =>
    intro i he rt rT rF hi hE h n hn
    cases n with
    | zero => exact absurd hn (Nat.not_lt_zero _)
    | succ n =>
      have hiB : i < B := by omega
      refine br_f (nI_ge (by omega) (by omega)) ?_
      refine xm_has i rfl (by omega) (fun e => br_f (by decide) ?_) (fun e => br_t rfl ?_)
      · have r := (hR i hiB).mp e
        obtain ⟨V, I⟩ := hE i hiB ((ic_Es_Re ok hiB).mpr r)
        have o := ok i hiB
        have m1 : ∀ k, k ≤ 12 → (bt (a_guardsOnTrue (nI i).toNatClampNeg) k = true ↔ ic_Mk B T F i (T i) k) := by
          rw [nI_clamp (by omega)]
          exact fun k hk => (hG i hiB r k hk).1
        have m2 : ∀ k, k ≤ 12 → (bt (a_guardsOnFalse (nI i).toNatClampNeg) k = true ↔ ic_Mk B T F i (F i) k) := by
          rw [nI_clamp (by omega)]
          exact fun k hk => (hG i hiB r k hk).2
        have S : ∀ he2, ic_HE B T F (ic_Es B T F (i + 1)) he2 → ((T i = F i → ∀ y, y = nI (i + 1) → wX_restoreEndings_9 post n y (nI B) f_cellCount f_regCount f_converted f_reachable f_guardCount f_recordForm f_ranBlocks f_heldGuards a_inputs a_sizes a_ops a_dests a_args a_tests a_trueTargets a_falseTargets a_onEveryWayTo a_onEveryPath a_guardNumbers a_guardsOnTrue a_guardsOnFalse he2 (upd rt i (-1)) (upd rT i (nI (T i))) (upd rF i (nI (F i))) a_finalRegs) ∧
            (T i ≠ F i → ∀ y, y = nI (i + 1) → wX_restoreEndings_9 post n y (nI B) f_cellCount f_regCount f_converted f_reachable f_guardCount f_recordForm f_ranBlocks f_heldGuards a_inputs a_sizes a_ops a_dests a_args a_tests a_trueTargets a_falseTargets a_onEveryWayTo a_onEveryPath a_guardNumbers a_guardsOnTrue a_guardsOnFalse he2 (upd rt i (a_tests i)) (upd rT i (nI (T i))) (upd rF i (nI (F i))) a_finalRegs)) := by
          intro he2 hE2
          constructor
          · intro q y hy
            subst hy
            refine ih (i + 1) _ _ _ _ (by omega) hE2 (fun b hb rb => ?_) n (by omega)
            by_cases eb : b = i
            · rw [eb, pk_us, pk_us, pk_us]
              exact ⟨rfl, rfl, fun _ => rfl, fun z => absurd q z⟩
            · rw [pk_un eb, pk_un eb, pk_un eb]
              exact h b (by omega) rb
          · intro q y hy
            subst hy
            refine ih (i + 1) _ _ _ _ (by omega) hE2 (fun b hb rb => ?_) n (by omega)
            by_cases eb : b = i
            · rw [eb, pk_us, pk_us, pk_us]
              exact ⟨rfl, rfl, fun z => absurd z q, fun _ => rfl⟩
            · rw [pk_un eb, pk_un eb, pk_un eb]
              exact h b (by omega) rb
        have K : ∀ he2, ic_HE B T F (ic_Es B T F (i + 1)) he2 → (vp_in (nI i) 12 ∧ ∀ a_restoredFalse_68, a_restoredFalse_68 = upd rF (nI i).toNatClampNeg (nI (F i)) → (vp_in (nI i) 12 ∧ (vp_in (nI i) 12 ∧ ((((upd rT i (nI (T i))) (nI i).toNatClampNeg) = (a_restoredFalse_68 (nI i).toNatClampNeg) → (vp_in (nI i) 12 ∧ ∀ a_restoredTests_77, a_restoredTests_77 = upd rt (nI i).toNatClampNeg (-1) → (∀ y, y = nI i + 1 → (wX_restoreEndings_9 post n y (nI B) f_cellCount f_regCount f_converted f_reachable f_guardCount f_recordForm f_ranBlocks f_heldGuards a_inputs a_sizes a_ops a_dests a_args a_tests a_trueTargets a_falseTargets a_onEveryWayTo a_onEveryPath a_guardNumbers a_guardsOnTrue a_guardsOnFalse he2 a_restoredTests_77 (upd rT i (nI (T i))) a_restoredFalse_68 a_finalRegs)))) ∧ (¬ ((upd rT i (nI (T i))) (nI i).toNatClampNeg) = (a_restoredFalse_68 (nI i).toNatClampNeg) → (vp_in (nI i) 12 ∧ (vp_in (nI i) 12 ∧ ∀ a_restoredTests_74, a_restoredTests_74 = upd rt (nI i).toNatClampNeg (a_tests (nI i).toNatClampNeg) → (∀ y, y = nI i + 1 → (wX_restoreEndings_9 post n y (nI B) f_cellCount f_regCount f_converted f_reachable f_guardCount f_recordForm f_ranBlocks f_heldGuards a_inputs a_sizes a_ops a_dests a_args a_tests a_trueTargets a_falseTargets a_onEveryWayTo a_onEveryPath a_guardNumbers a_guardsOnTrue a_guardsOnFalse he2 a_restoredTests_74 (upd rT i (nI (T i))) a_restoredFalse_68 a_finalRegs))))))))) := by
          intro he2 hE2
          rw [nI_clamp (by omega), nI_1]
          refine ⟨ic_v12 (by omega), nm_e ⟨ic_v12 (by omega), ic_v12 (by omega), ?_⟩⟩
          rw [pk_us, pk_us]
          refine pk_eq (T i) (F i) (fun q => ?_) (fun q => ?_)
          · exact ⟨ic_v12 (by omega), nm_e ((S he2 hE2).1 q)⟩
          · exact ⟨ic_v12 (by omega), ic_v12 (by omega), nm_e ((S he2 hE2).2 q)⟩
        refine ⟨ic_v12 (by omega), ?_⟩
        refine xm_edge (T := T) (F := F) ok hB hg I hiB (Or.inl rfl) m1 (fun h1 J1 g1 => ?_) (fun g1 => ?_)
        · have hE1 := ic_HE_e (i := i) hE J1
          have I1 : ic_Inv B T F V i (bt (upd he (T i) h1 i)) := by
            rw [pk_un (by omega)]
            exact I
          refine ⟨ic_v12 (by omega), nm_r (ic_u (by omega)) ⟨ic_v12 (by omega), ?_⟩⟩
          refine xm_edge (T := T) (F := F) ok hB hg I1 hiB (Or.inr rfl) m2 (fun h2 J2 g2 => ?_) (fun g2 => ?_)
          · exact K _ (ic_HE_c (ic_HE_e (i := i) hE1 J2) (fun p b _ => ic_HE_s r p b))
          · refine K _ (ic_HE_c hE1 (fun p b hb k => ?_))
            exact (ic_HE_s r p b k).elim id (fun q => by omega)
        · refine ⟨ic_v12 (by omega), nm_r (ic_u (by omega)) ⟨ic_v12 (by omega), ?_⟩⟩
          refine xm_edge (T := T) (F := F) ok hB hg I hiB (Or.inr rfl) m2 (fun h2 J2 g2 => ?_) (fun g2 => ?_)
          · refine K _ (ic_HE_c (ic_HE_e (i := i) hE J2) (fun p b hb k => ?_))
            exact (ic_HE_s r p b k).elim (fun q => q.elim Or.inl (fun q => by omega)) Or.inr
          · refine K _ (ic_HE_c hE (fun p b hb k => ?_))
            exact (ic_HE_s r p b k).elim (fun q => q.elim id (fun q => by omega)) (fun q => by omega)
      · have r : ¬ ic_Re B T F i := fun k => by
          have := (hR i hiB).mpr k
          rw [e] at this
          cases this
        refine nm_r (nI_1 i) (ih (i + 1) _ _ _ _ (by omega) (ic_HE_c hE (fun p b _ => (ic_Es_n r p b).mpr)) (fun a ha ra => ?_) n (by omega))
        by_cases ea : a = i
        · rw [ea] at ra
          exact absurd ra r
        · exact h a (by omega) ra
theorem xm_rest (ok : ic_Ok B T F) (hB : B ≤ 12) (hB1 : 1 ≤ B) (hR : ∀ b, b < B → (bt f_reachable b = true ↔ ic_Re B T F b)) (hg : ∀ b, b < B → a_guardNumbers b = nI (ic_gn B T F b)) (hG : ic_GD B T F B a_guardsOnTrue a_guardsOnFalse) {post : SX → Prop}
    (hp : ∀ he rt rT rF, ic_RS B T F B a_tests rt rT rF → post (nI B, f_cellCount, f_regCount, f_converted, f_reachable, f_guardCount, f_recordForm, f_ranBlocks, f_heldGuards, a_inputs, a_sizes, a_ops, a_dests, a_args, a_tests, a_trueTargets, a_falseTargets, a_onEveryWayTo, a_onEveryPath, a_guardNumbers, a_guardsOnTrue, a_guardsOnFalse, he, rt, rT, rF, a_finalRegs)) : wpX_restoreEndings post (nI B, f_cellCount, f_regCount, f_converted, f_reachable, f_guardCount, f_recordForm, f_ranBlocks, f_heldGuards, a_inputs, a_sizes, a_ops, a_dests, a_args, a_tests, a_trueTargets, a_falseTargets, a_onEveryWayTo, a_onEveryPath, a_guardNumbers, a_guardsOnTrue, a_guardsOnFalse, a_heldOnEntry, a_restoredTests, a_restoredTrue, a_restoredFalse, a_finalRegs) :=
  nm_e ⟨B + 1, xm_rest9 ok hB hR hg hG hp B 0 _ _ _ _ (by omega) (ic_HE_0 hB1 hB) (fun b hb => absurd hb (Nat.not_lt_zero b)) (B + 1) (by omega)⟩
theorem xm_convert (ok : ic_Ok B T F) (hB : B ≤ 12) (hB1 : 1 ≤ B) (hT : ∀ b, b < B → a_trueTargets b = nI (T b) ∧ a_falseTargets b = nI (F b)) {post : Int32 → SX → Prop} (hc : f_converted = 0)
    (hp : ∀ ρ D P g gT gF he rt rT rF, ic_CV B T F a_tests ρ (nI (ic_cnt B T F B)) P g gT gF rt rT rF → post (nI (ic_cnt B T F B)) (nI B, f_cellCount, f_regCount, 1, ρ, nI (ic_cnt B T F B), f_recordForm, f_ranBlocks, f_heldGuards, a_inputs, a_sizes, a_ops, a_dests, a_args, a_tests, a_trueTargets, a_falseTargets, D, P, g, gT, gF, he, rt, rT, rF, a_finalRegs)) :
    wpX_convert post (nI B, f_cellCount, f_regCount, f_converted, f_reachable, f_guardCount, f_recordForm, f_ranBlocks, f_heldGuards, a_inputs, a_sizes, a_ops, a_dests, a_args, a_tests, a_trueTargets, a_falseTargets, a_onEveryWayTo, a_onEveryPath, a_guardNumbers, a_guardsOnTrue, a_guardsOnFalse, a_heldOnEntry, a_restoredTests, a_restoredTrue, a_restoredFalse, a_finalRegs) := by
  refine br_t hc ?_
  refine xm_ways ok hB hB1 hT (fun ρ D hD => ?_)
  refine xm_paths ok hB hT (fun P hP => ?_)
  refine xm_number ok hB hD hP (fun g hg => ?_)
  refine xm_define ok hB hT (fun b hb => (hD b hb).1) hP hg (fun gT gF hG => ?_)
  refine xm_rest ok hB hB1 (fun b hb => (hD b hb).1) hg hG (fun he rt rT rF hS => ?_)
  exact hp ρ D P g gT gF he rt rT rF ⟨fun b hb => (hD b hb).1, hP, rfl, hg, hG, hS⟩
end
