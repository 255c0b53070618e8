/-! X: what lies on every path, the guards' numbers, the guards that endings make true -/
section
variable {B : Nat} {T F : Nat → Nat} {f_blockCount f_cellCount f_regCount f_converted f_reachable f_guardCount f_recordForm f_ranBlocks f_heldGuards : Int32} {a_inputs a_sizes a_ops a_dests a_args a_tests a_trueTargets a_falseTargets a_onEveryWayTo a_onEveryPath a_guardNumbers a_guardsOnTrue a_guardsOnFalse a_heldOnEntry a_restoredTests a_restoredTrue a_restoredFalse a_finalRegs : Nat → Int32}
theorem xm_oep {post : Int32 → Prop} {p0 : Int32} {z : Nat} (hB : B ≤ 12) (hp : p0 = nI z) (hz : z ≤ B) (hP : z < B → ∀ y, bt (a_onEveryPath z) y = true ↔ ic_A B T F z y)
    (h : ∀ q, (∀ y, bt q y = true ↔ ic_A B T F z y) → post q) : wpX_onEveryPathFrom post (nI B, f_cellCount, f_regCount, f_converted, f_reachable, f_guardCount, f_recordForm, f_ranBlocks, f_heldGuards, a_inputs, a_sizes, a_ops, a_dests, a_args, a_tests, a_trueTargets, a_falseTargets, a_onEveryWayTo, a_onEveryPath, a_guardNumbers, a_guardsOnTrue, a_guardsOnFalse, a_heldOnEntry, a_restoredTests, a_restoredTrue, a_restoredFalse, a_finalRegs) p0 := by
  subst hp
  by_cases g : z < B
  · refine br_f (nI_ge g (by omega)) ⟨ic_v12 (by omega), ?_⟩
    refine h _ ?_
    rw [nI_clamp (by omega)]
    exact hP g
  · have e : z = B := by omega
    refine br_t (nI_le (by omega) (by omega)) (h 0 (fun y => ?_))
    rw [b_0, e]
    exact ⟨fun k => (by cases k), fun k => absurd k ic_A_B⟩
theorem xm_paths7 (ok : ic_Ok B T F) (hB : B ≤ 12) (hT : ∀ b, b < B → a_trueTargets b = nI (T b) ∧ a_falseTargets b = nI (F b)) {post : SX → Prop}
    (hp : ∀ P, ic_PD B T F P → post (nI B, f_cellCount, f_regCount, f_converted, f_reachable, f_guardCount, f_recordForm, f_ranBlocks, f_heldGuards, a_inputs, a_sizes, a_ops, a_dests, a_args, a_tests, a_trueTargets, a_falseTargets, a_onEveryWayTo, P, a_guardNumbers, a_guardsOnTrue, a_guardsOnFalse, a_heldOnEntry, a_restoredTests, a_restoredTrue, a_restoredFalse, a_finalRegs)) :
    ∀ j P x1, j ≤ B → x1 = nI j - 1 → (∀ x, j ≤ x → x < B → ∀ y, (bt (P x) y = true ↔ ic_A B T F x y)) → ∀ n, j < n → wX_findPathsFromBlocks_7 post (nI B) f_cellCount f_regCount f_converted f_reachable f_guardCount f_recordForm f_ranBlocks f_heldGuards n x1 a_inputs a_sizes a_ops a_dests a_args a_tests a_trueTargets a_falseTargets a_onEveryWayTo P a_guardNumbers a_guardsOnTrue a_guardsOnFalse a_heldOnEntry a_restoredTests a_restoredTrue a_restoredFalse a_finalRegs := by
  intro j
  induction j with
  | zero =>
    intro P x1 hj hx h n hn
    subst hx
    cases n with
    | zero => exact absurd hn (Nat.not_lt_zero _)
    | succ n => exact br_t (by decide) (hp P (fun x hx => h x (Nat.zero_le _) hx))
  | succ i ih =>
    intro P x1 hj hx h n hn
    rw [nI_pred] at hx
    subst hx
    cases n with
    | zero => exact absurd hn (Nat.not_lt_zero _)
    | succ n =>
      have hi : i < B := by omega
      have o := ok i hi
      refine br_f (nI_pos (by omega)) ⟨ic_v12 (by omega), ?_⟩
      refine xm_oep (T := T) (F := F) (z := T i) hB ((ic_g (by omega)).trans (hT i hi).1) o.2.1 (h (T i) (by omega)) (fun p h1 => ?_)
      refine ⟨ic_v12 (by omega), ?_⟩
      refine xm_oep (T := T) (F := F) (z := F i) hB ((ic_g (by omega)).trans (hT i hi).2) o.2.2.2 (h (F i) (by omega)) (fun q h2 => ?_)
      refine ⟨ic_v12 (by omega), nm_r (ic_u (by omega)) (nm_e (ih _ _ (by omega) (by rw [Int32.sub_eq_add_neg]) ?_ n (by omega)))⟩
      intro x k1 k2 y
      by_cases e : x = i
      · rw [e, pk_us]
        exact ic_PD_s hi h1 h2 hB y
      · rw [pk_un e]
        exact h x (by omega) k2 y
theorem xm_paths (ok : ic_Ok B T F) (hB : B ≤ 12) (hT : ∀ b, b < B → a_trueTargets b = nI (T b) ∧ a_falseTargets b = nI (F b)) {post : SX → Prop}
    (hp : ∀ P, ic_PD B T F P → post (nI B, f_cellCount, f_regCount, f_converted, f_reachable, f_guardCount, f_recordForm, f_ranBlocks, f_heldGuards, a_inputs, a_sizes, a_ops, a_dests, a_args, a_tests, a_trueTargets, a_falseTargets, a_onEveryWayTo, P, a_guardNumbers, a_guardsOnTrue, a_guardsOnFalse, a_heldOnEntry, a_restoredTests, a_restoredTrue, a_restoredFalse, a_finalRegs)) : wpX_findPathsFromBlocks post (nI B, f_cellCount, f_regCount, f_converted, f_reachable, f_guardCount, f_recordForm, f_ranBlocks, f_heldGuards, a_inputs, a_sizes, a_ops, a_dests, a_args, a_tests, a_trueTargets, a_falseTargets, a_onEveryWayTo, a_onEveryPath, a_guardNumbers, a_guardsOnTrue, a_guardsOnFalse, a_heldOnEntry, a_restoredTests, a_restoredTrue, a_restoredFalse, a_finalRegs) :=
  nm_e ⟨B + 1, xm_paths7 ok hB hT hp B _ _ (Nat.le_refl _) rfl (fun x k1 k2 => by omega) (B + 1) (by omega)⟩
theorem xm_share2 (ok : ic_Ok B T F) (hB : B ≤ 12) {ρ : Int32} (hD : ic_WD B T F ρ a_onEveryWayTo) (hP : ic_PD B T F a_onEveryPath) {b : Nat} (hb : b < B) (r : ic_Re B T F b)
    (hg : ∀ a, a < b → a_guardNumbers a = nI (ic_gn B T F a)) {post : Int32 → Prop} (hp : post (nI (ic_G B T F b))) :
    ∀ d i, i + d = b → (∀ a, a < i → ic_Re B T F a → ¬ ic_Tg B T F a b) → ∀ n, d < n → wX_sharedOrNextGuard_2 post (nI b) (nI B) f_cellCount f_regCount f_converted f_reachable (nI (ic_cnt B T F b)) f_recordForm f_ranBlocks f_heldGuards a_inputs a_sizes a_ops a_dests a_args a_tests a_trueTargets a_falseTargets a_onEveryWayTo a_onEveryPath a_guardNumbers a_guardsOnTrue a_guardsOnFalse a_heldOnEntry a_restoredTests a_restoredTrue a_restoredFalse a_finalRegs n (nI i) := by
  intro d
  induction d with
  | zero =>
    intro i hi h n hn
    cases n with
    | zero => exact absurd hn (Nat.not_lt_zero _)
    | succ n =>
      have e : i = b := by omega
      rw [e] at h
      have k := ic_G_new (ic_ldr_of r h)
      rw [k] at hp
      exact br_t (nI_le (by omega) (by omega)) hp
  | succ d ih =>
    intro i hi h n hn
    cases n with
    | zero => exact absurd hn (Nat.not_lt_zero _)
    | succ n =>
      have hs := ic_share ok hD hP (a := i) (b := b) (by omega) hb r
      have no : ¬ (bt (a_onEveryWayTo b) i = true ∧ bt (a_onEveryPath i) b = true) → ∀ a, a < i + 1 → ic_Re B T F a → ¬ ic_Tg B T F a b := by
        intro z a ha ra t
        by_cases e : a = i
        · rw [e] at ra t
          exact z (hs.mpr ⟨ra, t⟩)
        · exact h a (by omega) ra t
      refine br_f (nI_ge (by omega) (by omega)) ⟨ic_v12 (by omega), ?_⟩
      refine xm_has i rfl (by omega) (fun e => br_f (by decide) ?_) (fun e => br_t rfl ?_)
      · rw [nI_clamp (by omega)] at e
        refine ⟨ic_v12 (by omega), ?_⟩
        refine xm_has b rfl (by omega) (fun e2 => br_f (by decide) ?_) (fun e2 => br_t rfl ?_)
        · rw [nI_clamp (by omega)] at e2
          obtain ⟨ra, t⟩ := hs.mp ⟨e, e2⟩
          refine ⟨ic_v12 (by omega), ?_⟩
          rw [nI_clamp (by omega), hg i (by omega), ic_gn_t ra, ← ic_G_eq ra r t]
          exact hp
        · rw [nI_clamp (by omega)] at e2
          exact nm_r (nI_1 i) (ih (i + 1) (by omega) (no (fun z => by rw [e2] at z; exact absurd z.2 (by decide))) n (by omega))
      · rw [nI_clamp (by omega)] at e
        exact nm_r (nI_1 i) (ih (i + 1) (by omega) (no (fun z => by rw [e] at z; exact absurd z.1 (by decide))) n (by omega))
theorem xm_number7 (ok : ic_Ok B T F) (hB : B ≤ 12) (hD : ic_WD B T F f_reachable a_onEveryWayTo) (hP : ic_PD B T F a_onEveryPath) {post : SX → Prop}
    (hp : ∀ g, (∀ b, b < B → g b = nI (ic_gn B T F b)) → post (nI B, f_cellCount, f_regCount, f_converted, f_reachable, nI (ic_cnt B T F B), f_recordForm, f_ranBlocks, f_heldGuards, a_inputs, a_sizes, a_ops, a_dests, a_args, a_tests, a_trueTargets, a_falseTargets, a_onEveryWayTo, a_onEveryPath, g, a_guardsOnTrue, a_guardsOnFalse, a_heldOnEntry, a_restoredTests, a_restoredTrue, a_restoredFalse, a_finalRegs)) :
    ∀ d i g, i + d = B → (∀ b, b < i → g b = nI (ic_gn B T F b)) → ∀ n, d < n → wX_numberGuards_7 post (nI B) f_cellCount f_regCount f_converted f_reachable f_recordForm f_ranBlocks f_heldGuards n (nI i) (nI (ic_cnt B T F i)) a_inputs a_sizes a_ops a_dests a_args a_tests a_trueTargets a_falseTargets a_onEveryWayTo a_onEveryPath g a_guardsOnTrue a_guardsOnFalse a_heldOnEntry a_restoredTests a_restoredTrue a_restoredFalse a_finalRegs := by
  intro d
  induction d with
  | zero =>
    intro i g hi h n hn
    cases n with
    | zero => exact absurd hn (Nat.not_lt_zero _)
    | succ n =>
      have e : i = B := by omega
      rw [e] at h ⊢
      exact br_t (nI_le (by omega) (by omega)) (hp g h)
  | succ d ih =>
    intro i g hi h n hn
    cases n with
    | zero => exact absurd hn (Nat.not_lt_zero _)
    | succ n =>
      have hiB : i < B := by omega
      have hc := ic_cnt_le (B := B) (T := T) (F := F) i
      have hgn := ic_gn_le (B := B) (T := T) (F := F) hiB hB
      have hnew := ic_gn_new (B := B) (T := T) (F := F) (b := i) (by omega)
      have hs : ∀ b, b < i + 1 → upd g i (nI (ic_gn B T F i)) b = nI (ic_gn B T F b) := by
        intro b hb
        by_cases e : b = i
        · rw [e, pk_us]
        · rw [pk_un e]
          exact h b (by omega)
      have H : ∀ z0, z0 = nI (ic_gn B T F i) → wX_numberGuards_41 post (wX_numberGuards_7 post (nI B) f_cellCount f_regCount f_converted f_reachable f_recordForm f_ranBlocks f_heldGuards n) (nI i) z0 (nI i) (nI B) f_cellCount f_regCount f_converted f_reachable (nI (ic_cnt B T F i)) f_recordForm f_ranBlocks f_heldGuards a_inputs a_sizes a_ops a_dests a_args a_tests a_trueTargets a_falseTargets a_onEveryWayTo a_onEveryPath g a_guardsOnTrue a_guardsOnFalse a_heldOnEntry a_restoredTests a_restoredTrue a_restoredFalse a_finalRegs := by
        intro z0 hz
        subst hz
        refine ⟨ic_v12 (by omega), nm_r (ic_u (by omega)) ⟨ic_v12 (by omega), ?_⟩⟩
        rw [nI_clamp (by omega), pk_us]
        refine pk_eq (ic_gn B T F i) (ic_cnt B T F i) (fun e => ?_) (fun e => ?_)
        · refine nm_r (nI_1 _) (nm_r (nI_1 i) ?_)
          rw [← hnew.1 e]
          exact ih (i + 1) _ (by omega) hs n (by omega)
        · refine nm_r (nI_1 i) ?_
          have k := ih (i + 1) _ (by omega) hs n (by omega)
          rw [hnew.2 e] at k
          exact k
      refine br_f (nI_ge (by omega) (by omega)) ?_
      refine xm_has i rfl (by omega) (fun e => br_f (by decide) ?_) (fun e => br_t rfl ?_)
      · have r := (hD i hiB).1.mp e
        refine ⟨i + 1, xm_share2 ok hB hD hP hiB r h ?_ i 0 (by omega) (fun a ha => absurd ha (Nat.not_lt_zero a)) (i + 1) (by omega)⟩
        exact H _ (by rw [ic_gn_t r])
      · have r : ¬ ic_Re B T F i := fun k => by
          have := (hD i hiB).1.mpr k
          rw [e] at this
          cases this
        exact H _ (by rw [ic_gn_f r]; rfl)
theorem xm_number (ok : ic_Ok B T F) (hB : B ≤ 12) (hD : ic_WD B T F f_reachable a_onEveryWayTo) (hP : ic_PD B T F a_onEveryPath) {post : SX → Prop}
    (hp : ∀ g, (∀ b, b < B → g b = nI (ic_gn B T F b)) → post (nI B, f_cellCount, f_regCount, f_converted, f_reachable, nI (ic_cnt B T F B), f_recordForm, f_ranBlocks, f_heldGuards, a_inputs, a_sizes, a_ops, a_dests, a_args, a_tests, a_trueTargets, a_falseTargets, a_onEveryWayTo, a_onEveryPath, g, a_guardsOnTrue, a_guardsOnFalse, a_heldOnEntry, a_restoredTests, a_restoredTrue, a_restoredFalse, a_finalRegs)) : wpX_numberGuards post (nI B, f_cellCount, f_regCount, f_converted, f_reachable, f_guardCount, f_recordForm, f_ranBlocks, f_heldGuards, a_inputs, a_sizes, a_ops, a_dests, a_args, a_tests, a_trueTargets, a_falseTargets, a_onEveryWayTo, a_onEveryPath, a_guardNumbers, a_guardsOnTrue, a_guardsOnFalse, a_heldOnEntry, a_restoredTests, a_restoredTrue, a_restoredFalse, a_finalRegs) :=
  ⟨B + 1, xm_number7 ok hB hD hP hp B 0 _ (by omega) (fun b hb => absurd hb (Nat.not_lt_zero b)) (B + 1) (by omega)⟩
theorem xm_dep (hB : B ≤ 12) (hP : ic_PD B T F a_onEveryPath) {post : Int32 → Prop} {p1 : Int32} {a z : Nat} (ha : a < B) (hp : p1 = nI z) (hz : z ≤ B)
    (h : ∀ q, (∀ y, y < 32 → (bt q y = true ↔ (ic_A B T F z y ∧ ¬ ic_A B T F a y))) → post q) : wpX_dependentsOfEdge post (nI B, f_cellCount, f_regCount, f_converted, f_reachable, f_guardCount, f_recordForm, f_ranBlocks, f_heldGuards, a_inputs, a_sizes, a_ops, a_dests, a_args, a_tests, a_trueTargets, a_falseTargets, a_onEveryWayTo, a_onEveryPath, a_guardNumbers, a_guardsOnTrue, a_guardsOnFalse, a_heldOnEntry, a_restoredTests, a_restoredTrue, a_restoredFalse, a_finalRegs) (nI a) p1 := by
  unfold wpX_dependentsOfEdge
  refine xm_oep (T := T) (F := F) hB hp hz (fun g => hP z g) (fun q hq => ⟨ic_v12 (by omega), h _ (fun y hy => ?_)⟩)
  rw [nI_clamp (by omega)]
  exact ic_dep hq (hP a ha) hy
theorem xm_made13 (hB : B ≤ 12) (hg : ∀ b, b < B → a_guardNumbers b = nI (ic_gn B T F b)) {q : Int32} {post : Int32 → Prop}
    (hp : ∀ m, (∀ k, bt m k = true ↔ ∃ b, b < B ∧ bt q b = true ∧ ic_gn B T F b = k) → post m) :
    ∀ d i m, i + d = B → (∀ k, bt m k = true ↔ ∃ b, b < i ∧ bt q b = true ∧ ic_gn B T F b = k) → ∀ n, d < n → wX_guardsMadeTrue_13 post q (nI B) f_cellCount f_regCount f_converted f_reachable f_guardCount f_recordForm f_ranBlocks f_heldGuards a_inputs a_sizes a_ops a_dests a_args a_tests a_trueTargets a_falseTargets a_onEveryWayTo a_onEveryPath a_guardNumbers a_guardsOnTrue a_guardsOnFalse a_heldOnEntry a_restoredTests a_restoredTrue a_restoredFalse a_finalRegs n m (nI i) := by
  intro d
  induction d with
  | zero =>
    intro i m hi h n hn
    cases n with
    | zero => exact absurd hn (Nat.not_lt_zero _)
    | succ n =>
      have e : i = B := by omega
      rw [e] at h
      exact br_t (nI_le (by omega) (by omega)) (hp m h)
  | succ d ih =>
    intro i m hi h n hn
    cases n with
    | zero => exact absurd hn (Nat.not_lt_zero _)
    | succ n =>
      have hiB : i < B := by omega
      have hgn := ic_gn_le (B := B) (T := T) (F := F) hiB hB
      refine br_f (nI_ge (by omega) (by omega)) ?_
      refine xm_has i rfl (by omega) (fun e => br_f (by decide) ?_) (fun e => br_t rfl ?_)
      · refine ⟨ic_v12 (by omega), nm_r (e' := m ||| ((1 : Int32) <<< (nI (ic_gn B T F i) &&& 31))) (by rw [nI_clamp (by omega), hg i hiB]) (nm_r (nI_1 i) (ih (i + 1) _ (by omega) (fun k => ?_) n (by omega)))⟩
        rw [b_or, ic_sh (n := ic_gn B T F i) (by omega), Bool.or_eq_true, decide_eq_true_iff, h k]
        constructor
        · rintro (⟨b, k1, k2⟩ | k1)
          · exact ⟨b, by omega, k2⟩
          · exact ⟨i, by omega, e, k1.symm⟩
        · rintro ⟨b, k1, k2, k3⟩
          by_cases eb : b = i
          · rw [eb] at k3
            exact Or.inr k3.symm
          · exact Or.inl ⟨b, by omega, k2, k3⟩
      · refine nm_r (nI_1 i) (ih (i + 1) _ (by omega) (fun k => ?_) n (by omega))
        rw [h k]
        constructor
        · rintro ⟨b, k1, k2⟩
          exact ⟨b, by omega, k2⟩
        · rintro ⟨b, k1, k2, k3⟩
          by_cases eb : b = i
          · rw [eb, e] at k2
            cases k2
          · exact ⟨b, by omega, k2, k3⟩
theorem xm_made (ok : ic_Ok B T F) (hB : B ≤ 12) (hP : ic_PD B T F a_onEveryPath) (hg : ∀ b, b < B → a_guardNumbers b = nI (ic_gn B T F b)) {post : Int32 → Prop} {p1 : Int32} {a z : Nat} (ha : a < B) (ra : ic_Re B T F a) (hz : T a = z ∨ F a = z) (hp : p1 = nI z)
    (h : ∀ m, (∀ k, k ≤ 12 → (bt m k = true ↔ ic_Mk B T F a z k)) → post m) : wpX_guardsMadeTrue post (nI B, f_cellCount, f_regCount, f_converted, f_reachable, f_guardCount, f_recordForm, f_ranBlocks, f_heldGuards, a_inputs, a_sizes, a_ops, a_dests, a_args, a_tests, a_trueTargets, a_falseTargets, a_onEveryWayTo, a_onEveryPath, a_guardNumbers, a_guardsOnTrue, a_guardsOnFalse, a_heldOnEntry, a_restoredTests, a_restoredTrue, a_restoredFalse, a_finalRegs) (nI a) p1 := by
  have o := ok a ha
  have hzB : z ≤ B := by rcases hz with e | e <;> omega
  have rz : ic_Re B T F z := ic_Re_s.mpr (Or.inr ⟨a, ha, ra, hz⟩)
  unfold wpX_guardsMadeTrue
  refine xm_dep (T := T) (F := F) hB hP ha hp hzB (fun q hq => ⟨B + 1, ?_⟩)
  refine xm_made13 (T := T) (F := F) hB hg (fun m hm => h m (fun k _ => ?_)) B 0 0 (by omega) (fun k => ?_) (B + 1) (by omega)
  · rw [hm k]
    constructor
    · rintro ⟨b, k1, k2, k3⟩
      rw [hq b (by omega)] at k2
      exact ⟨b, k1, k2.1, k2.2, by rw [← ic_gn_t (ic_A_Re ok hzB rz k2.1)]; exact k3⟩
    · rintro ⟨b, k1, k2, k3, k4⟩
      exact ⟨b, k1, (hq b (by omega)).mpr ⟨k2, k3⟩, by rw [ic_gn_t (ic_A_Re ok hzB rz k2)]; exact k4⟩
  · rw [b_0]
    exact ⟨fun z => (by cases z), fun ⟨b, k1, _⟩ => absurd k1 (Nat.not_lt_zero b)⟩
theorem xm_define2 (ok : ic_Ok B T F) (hB : B ≤ 12) (hT : ∀ b, b < B → a_trueTargets b = nI (T b) ∧ a_falseTargets b = nI (F b)) (hR : ∀ b, b < B → (bt f_reachable b = true ↔ ic_Re B T F b)) (hP : ic_PD B T F a_onEveryPath) (hg : ∀ b, b < B → a_guardNumbers b = nI (ic_gn B T F b)) {post : SX → Prop}
    (hp : ∀ gT gF, ic_GD B T F B gT gF → post (nI B, f_cellCount, f_regCount, f_converted, f_reachable, f_guardCount, f_recordForm, f_ranBlocks, f_heldGuards, a_inputs, a_sizes, a_ops, a_dests, a_args, a_tests, a_trueTargets, a_falseTargets, a_onEveryWayTo, a_onEveryPath, a_guardNumbers, gT, gF, a_heldOnEntry, a_restoredTests, a_restoredTrue, a_restoredFalse, a_finalRegs)) :
    ∀ d i gT gF, i + d = B → ic_GD B T F i gT gF → ∀ n, d < n → wX_defineGuards_2 post (nI B) f_cellCount f_regCount f_converted f_reachable f_guardCount f_recordForm f_ranBlocks f_heldGuards n (nI i) a_inputs a_sizes a_ops a_dests a_args a_tests a_trueTargets a_falseTargets a_onEveryWayTo a_onEveryPath a_guardNumbers gT gF a_heldOnEntry a_restoredTests a_restoredTrue a_restoredFalse a_finalRegs := by
  intro d
  induction d with
  | zero =>
    intro i gT gF hi h n hn
    cases n with
    | zero => exact absurd hn (Nat.not_lt_zero _)
    | succ n =>
      have e : i = B := by omega
      rw [e] at h
      exact br_t (nI_le (by omega) (by omega)) (hp gT gF h)
  | succ d ih =>
    intro i gT gF hi h n hn
    cases n with
    | zero => exact absurd hn (Nat.not_lt_zero _)
    | succ n =>
      have hiB : i < B := by omega
      refine br_f (nI_ge (by omega) (by omega)) ?_
      refine xm_has i rfl (by omega) (fun e => br_f (by decide) ?_) (fun e => br_t rfl ?_)
      · have r := (hR i hiB).mp e
        refine ⟨ic_v12 (by omega), ?_⟩
        refine xm_made (T := T) (F := F) ok hB hP hg hiB r (Or.inl rfl) ((ic_g (by omega)).trans (hT i hiB).1) (fun m1 h1 => ?_)
        refine ⟨ic_v12 (by omega), nm_r (ic_u (by omega)) ⟨ic_v12 (by omega), ?_⟩⟩
        refine xm_made (T := T) (F := F) ok hB hP hg hiB r (Or.inr rfl) ((ic_g (by omega)).trans (hT i hiB).2) (fun m2 h2 => ?_)
        refine ⟨ic_v12 (by omega), nm_r (ic_u (by omega)) (nm_r (nI_1 i) (ih (i + 1) _ _ (by omega) (fun a ha ra k hk => ?_) n (by omega)))⟩
        by_cases ea : a = i
        · rw [ea, pk_us, pk_us]
          exact ⟨h1 k hk, h2 k hk⟩
        · rw [pk_un ea, pk_un ea]
          exact h a (by omega) ra k hk
      · have r : ¬ ic_Re B T F i := fun k => by
          have := (hR i hiB).mpr k
          rw [e] at this
          cases this
        refine nm_r (nI_1 i) (ih (i + 1) _ _ (by omega) (fun a ha ra => ?_) n (by omega))
        by_cases ea : a = i
        · rw [ea] at ra
          exact absurd ra r
        · exact h a (by omega) ra
theorem xm_define (ok : ic_Ok B T F) (hB : B ≤ 12) (hT : ∀ b, b < B → a_trueTargets b = nI (T b) ∧ a_falseTargets b = nI (F b)) (hR : ∀ b, b < B → (bt f_reachable b = true ↔ ic_Re B T F b)) (hP : ic_PD B T F a_onEveryPath) (hg : ∀ b, b < B → a_guardNumbers b = nI (ic_gn B T F b)) {post : SX → Prop}
    (hp : ∀ gT gF, ic_GD B T F B gT gF → post (nI B, f_cellCount, f_regCount, f_converted, f_reachable, f_guardCount, f_recordForm, f_ranBlocks, f_heldGuards, a_inputs, a_sizes, a_ops, a_dests, a_args, a_tests, a_trueTargets, a_falseTargets, a_onEveryWayTo, a_onEveryPath, a_guardNumbers, gT, gF, a_heldOnEntry, a_restoredTests, a_restoredTrue, a_restoredFalse, a_finalRegs)) : wpX_defineGuards post (nI B, f_cellCount, f_regCount, f_converted, f_reachable, f_guardCount, f_recordForm, f_ranBlocks, f_heldGuards, a_inputs, a_sizes, a_ops, a_dests, a_args, a_tests, a_trueTargets, a_falseTargets, a_onEveryWayTo, a_onEveryPath, a_guardNumbers, a_guardsOnTrue, a_guardsOnFalse, a_heldOnEntry, a_restoredTests, a_restoredTrue, a_restoredFalse, a_finalRegs) :=
  ⟨B + 1, xm_define2 ok hB hT hR hP hg hp B 0 _ _ (by omega) (fun a ha => absurd ha (Nat.not_lt_zero a)) (B + 1) (by omega)⟩
end
