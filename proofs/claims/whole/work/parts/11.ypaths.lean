/-! Y: paths as sets, what they all contain, the guards -/
theorem ic_nIf {m : Nat} (hm : m < 2 ^ 31) : bt (nI m) = m.testBit := funext (fun y => ic_nI y hm)
section
variable {B : Nat} {T F : Nat → Nat} {f_blocks f_cells f_regs f_converted f_recorded f_recForm f_recRan f_recC : Int32} {a_ops a_dests a_args a_size a_test a_onTrue a_onFalse a_inputs a_recRegs a_complete a_guard : Nat → Int32}
theorem ym_has {post : Int32 → Prop} {s m : Int32} (n : Nat) (hm : m = nI n) (hn : n < 32) (h1 : bt s n = true → post 1) (h0 : bt s n = false → post 0) : wpY_has post (f_blocks, f_cells, f_regs, f_converted, f_recorded, f_recForm, f_recRan, f_recC, a_ops, a_dests, a_args, a_size, a_test, a_onTrue, a_onFalse, a_inputs, a_recRegs, a_complete, a_guard) s m := by
  subst hm
  refine ⟨fun z => h1 ((ic_h1 s hn).mp z), fun z => h0 ?_⟩
  cases e : bt s n with
  | false => rfl
  | true => exact absurd ((ic_h1 s hn).mpr e) z
theorem ym_path5 (ok : ic_Ok B T F) (hB : B ≤ 12) (hT : ∀ b, b < B → a_onTrue b = nI (T b) ∧ a_onFalse b = nI (F b)) {post : Int32 → Prop} {s : Int32} {x : Nat} (hx : x ≤ B) :
    ∀ d b E x3, b + d = B → ((x3 = -1 ∧ E = fun y => y = x) ∨ ∃ l, l < b ∧ x3 = nI l ∧ E = fun y => T l = y ∨ F l = y) → (ic_PT T F (bt s) d b E → post 1) → (¬ ic_PT T F (bt s) d b E → post 0) → ∀ n, d < n → wY_isPath_5 post s (nI x) (nI B) f_cells f_regs f_converted f_recorded f_recForm f_recRan f_recC a_ops a_dests a_args a_size a_test a_onTrue a_onFalse a_inputs a_recRegs a_complete a_guard n x3 (nI b) := by
  intro d
  induction d with
  | zero =>
    intro b E x3 hb hE h1 h0 n hn
    cases n with
    | zero => exact absurd hn (Nat.not_lt_zero _)
    | succ n =>
      refine br_t (nI_le (by omega) (by omega)) ?_
      rcases hE with ⟨e, eE⟩ | ⟨l, hl, e, eE⟩
      · subst e
        subst eE
        refine br_t rfl (pk_eq x B (fun q => h1 (show b = x by omega)) (fun q => h0 (fun k => q ?_)))
        have k : b = x := k
        omega
      · subst e
        subst eE
        have o := ok l (by omega)
        refine br_f (ic_m1 (by omega)) ⟨ic_v12 (by omega), ?_⟩
        rw [nI_clamp (by omega), (hT l (by omega)).1, (hT l (by omega)).2]
        refine pk_eq (T l) B (fun q => h1 (Or.inl (show T l = b by omega))) (fun q => ⟨ic_v12 (by omega), pk_eq (F l) B (fun q2 => h1 (Or.inr (show F l = b by omega))) (fun q2 => h0 (fun k => ?_))⟩)
        have k : T l = b ∨ F l = b := k
        omega
  | succ d ih =>
    intro b E x3 hb hE h1 h0 n hn
    cases n with
    | zero => exact absurd hn (Nat.not_lt_zero _)
    | succ n =>
      refine br_f (nI_ge (by omega) (by omega)) ?_
      refine ym_has b rfl (by omega) (fun e => br_f (by decide) ?_) (fun e => br_t rfl ?_)
      · have N : ∀ x4, x4 = nI b + 1 → E b → wY_isPath_5 post s (nI x) (nI B) f_cells f_regs f_converted f_recorded f_recForm f_recRan f_recC a_ops a_dests a_args a_size a_test a_onTrue a_onFalse a_inputs a_recRegs a_complete a_guard n (nI b) x4 := by
          intro x4 hx4 q
          rw [nI_1] at hx4
          subst hx4
          exact ih (b + 1) _ (nI b) (by omega) (Or.inr ⟨b, by omega, rfl, rfl⟩) (fun k => h1 ⟨fun _ => ⟨q, k⟩, fun z => by rw [e] at z; cases z⟩) (fun k => h0 (fun K => k (K.1 e).2)) n (by omega)
        rcases hE with ⟨e3, eE⟩ | ⟨l, hl, e3, eE⟩
        · subst e3
          subst eE
          exact br_t rfl (pk_eq b x (fun q x4 h4 => N x4 h4 q) (fun q => h0 (fun K => q (K.1 e).1)))
        · subst e3
          subst eE
          have o := ok l (by omega)
          refine br_f (ic_m1 (by omega)) ⟨ic_v12 (by omega), ?_⟩
          rw [nI_clamp (by omega), (hT l (by omega)).1, (hT l (by omega)).2]
          exact pk_eq (T l) b (fun q x4 h4 => N x4 h4 (Or.inl q)) (fun q => ⟨ic_v12 (by omega), pk_eq (F l) b (fun q2 x4 h4 => N x4 h4 (Or.inr q2)) (fun q2 => h0 (fun K => (K.1 e).1.elim q q2))⟩)
      · refine nm_r (nI_1 b) (ih (b + 1) E x3 (by omega) ?_ (fun k => h1 ⟨fun z => (by rw [e] at z; cases z), fun _ => k⟩) (fun k => h0 (fun K => k (K.2 e))) n (by omega))
        rcases hE with h | ⟨l, hl, h⟩
        · exact Or.inl h
        · exact Or.inr ⟨l, by omega, h⟩
theorem ym_path (ok : ic_Ok B T F) (hB : B ≤ 12) (hT : ∀ b, b < B → a_onTrue b = nI (T b) ∧ a_onFalse b = nI (F b)) {post : Int32 → Prop} {p1 : Int32} {m x : Nat} (hx : x ≤ B) (hm : m < 2 ^ 31) (hp : p1 = nI x)
    (h1 : ic_YP B T F m.testBit x → post 1) (h0 : ¬ ic_YP B T F m.testBit x → post 0) : wpY_isPath post (nI B, f_cells, f_regs, f_converted, f_recorded, f_recForm, f_recRan, f_recC, a_ops, a_dests, a_args, a_size, a_test, a_onTrue, a_onFalse, a_inputs, a_recRegs, a_complete, a_guard) (nI m) p1 := by
  subst hp
  have e := ic_nIf hm
  have P := ic_PT_YP (S := bt (nI m)) (x := x) ok
  rw [← e] at h1 h0
  exact ⟨B + 1, ym_path5 ok hB hT hx B 0 (fun y => y = x) (-1) (by omega) (Or.inl ⟨rfl, rfl⟩) (fun k => h1 (P.mp k)) (fun k => h0 (fun z => k (P.mpr z))) (B + 1) (by omega)⟩
theorem ym_all2 (ok : ic_Ok B T F) (hB : B ≤ 12) (hT : ∀ b, b < B → a_onTrue b = nI (T b) ∧ a_onFalse b = nI (F b)) {post : Int32 → Prop} {x b : Nat} (hx : x ≤ B) (hb : b < B) :
    ∀ d m, m + d = 2 ^ B → ((∀ s, m ≤ s → s < 2 ^ B → ic_YP B T F s.testBit x → s.testBit b = true) → post 1) → (¬ (∀ s, m ≤ s → s < 2 ^ B → ic_YP B T F s.testBit x → s.testBit b = true) → post 0) → ∀ n, d < n → wY_allContain_2 post (nI x) (nI b) (nI B) f_cells f_regs f_converted f_recorded f_recForm f_recRan f_recC a_ops a_dests a_args a_size a_test a_onTrue a_onFalse a_inputs a_recRegs a_complete a_guard n (nI m) := by
  have h2 := ic_pB hB
  intro d
  induction d with
  | zero =>
    intro m hm h1 h0 n hn
    cases n with
    | zero => exact absurd hn (Nat.not_lt_zero _)
    | succ n => exact br_t (by rw [ic_p2 B (by omega)]; exact nI_le (by omega) (by omega)) (h1 (fun s k1 k2 => by omega))
  | succ d ih =>
    intro m hm h1 h0 n hn
    cases n with
    | zero => exact absurd hn (Nat.not_lt_zero _)
    | succ n =>
      have N : (ic_YP B T F m.testBit x → m.testBit b = true) → ∀ y, y = nI m + 1 → wY_allContain_2 post (nI x) (nI b) (nI B) f_cells f_regs f_converted f_recorded f_recForm f_recRan f_recC a_ops a_dests a_args a_size a_test a_onTrue a_onFalse a_inputs a_recRegs a_complete a_guard n y := by
        intro q y hy
        rw [nI_1] at hy
        subst hy
        refine ih (m + 1) (by omega) (fun k => h1 (fun s k1 k2 => ?_)) (fun k => h0 (fun K => k (fun s k1 k2 => K s (by omega) k2))) n (by omega)
        by_cases e : s = m
        · rw [e]
          exact q
        · exact k s (by omega) k2
      refine br_f (by rw [ic_p2 B (by omega)]; exact nI_ge (by omega) (by omega)) ?_
      refine ym_path ok hB hT hx (by omega) rfl (fun q => br_f (by decide) ?_) (fun q => br_t rfl (N (fun z => absurd z q)))
      refine ym_has b rfl (by omega) (fun e => br_f (by decide) (N (fun _ => ?_))) (fun e => br_t rfl (h0 (fun K => ?_)))
      · rw [ic_nI b (by omega)] at e
        exact e
      · have k := K m (Nat.le_refl _) (by omega) q
        rw [ic_nI b (by omega)] at e
        rw [e] at k
        cases k
theorem ym_all (ok : ic_Ok B T F) (hB : B ≤ 12) (hT : ∀ b, b < B → a_onTrue b = nI (T b) ∧ a_onFalse b = nI (F b)) {post : Int32 → Prop} {p0 : Int32} {x b : Nat} (hx : x ≤ B) (hb : b < B) (hp : p0 = nI x)
    (h1 : ic_A B T F x b → post 1) (h0 : ¬ ic_A B T F x b → post 0) : wpY_allContain post (nI B, f_cells, f_regs, f_converted, f_recorded, f_recForm, f_recRan, f_recC, a_ops, a_dests, a_args, a_size, a_test, a_onTrue, a_onFalse, a_inputs, a_recRegs, a_complete, a_guard) p0 (nI b) := by
  subst hp
  have S := ic_set_A (B := B) (T := T) (F := F) (x := x) hb
  exact ⟨2 ^ B + 1, ym_all2 ok hB hT hx hb (2 ^ B) 0 (by omega) (fun k => h1 (S.mp (fun m hm => k m (Nat.zero_le _) hm))) (fun k => h0 (fun z => k (fun s _ k2 => S.mpr z s k2))) (2 ^ B + 1) (by omega)⟩
theorem ym_tog3 {post : Int32 → Prop} {p a b : Nat} (hp : p ≤ 4096) (ha : a < 32) (hb : b < 32) :
    ∀ d q, q + d = p → ((∀ r, q ≤ r → r < p → bt (a_complete r) a = bt (a_complete r) b) → post 1) → (¬ (∀ r, q ≤ r → r < p → bt (a_complete r) a = bt (a_complete r) b) → post 0) → ∀ n, d < n → wY_together_3 post (nI a) (nI b) (nI p) f_blocks f_cells f_regs f_converted f_recorded f_recForm f_recRan f_recC a_ops a_dests a_args a_size a_test a_onTrue a_onFalse a_inputs a_recRegs a_complete a_guard n (nI q) := by
  intro d
  induction d with
  | zero =>
    intro q hq h1 h0 n hn
    cases n with
    | zero => exact absurd hn (Nat.not_lt_zero _)
    | succ n => exact br_t (nI_le (by omega) (by omega)) (h1 (fun s k1 k2 => by omega))
  | succ d ih =>
    intro q hq h1 h0 n hn
    cases n with
    | zero => exact absurd hn (Nat.not_lt_zero _)
    | succ n =>
      have N : bt (a_complete q) a = bt (a_complete q) b → ∀ y, y = nI q + 1 → wY_together_3 post (nI a) (nI b) (nI p) f_blocks f_cells f_regs f_converted f_recorded f_recForm f_recRan f_recC a_ops a_dests a_args a_size a_test a_onTrue a_onFalse a_inputs a_recRegs a_complete a_guard n y := by
        intro k y hy
        rw [nI_1] at hy
        subst hy
        refine ih (q + 1) (by omega) (fun K => h1 (fun s k1 k2 => ?_)) (fun K => h0 (fun z => K (fun s k1 k2 => z s (by omega) k2))) n (by omega)
        by_cases e : s = q
        · rw [e]
          exact k
        · exact K s (by omega) k2
      have M : bt (a_complete q) a ≠ bt (a_complete q) b → post 0 := fun k => h0 (fun z => k (z q (Nat.le_refl _) (by omega)))
      have hv : vp_in (nI q) 4096 := vp_in_nI (by omega) (by decide)
      refine br_f (nI_ge (by omega) (by omega)) ⟨hv, ?_⟩
      refine ym_has a rfl ha (fun e => ⟨hv, ?_⟩) (fun e => ⟨hv, ?_⟩)
      · rw [nI_clamp (by omega)] at e
        refine ym_has b rfl hb (fun e2 => br_t rfl (N ?_)) (fun e2 => br_f (by decide) (M ?_))
        · rw [nI_clamp (by omega)] at e2
          rw [e, e2]
        · rw [nI_clamp (by omega)] at e2
          rw [e, e2]
          decide
      · rw [nI_clamp (by omega)] at e
        refine ym_has b rfl hb (fun e2 => br_f (by decide) (M ?_)) (fun e2 => br_t rfl (N ?_))
        · rw [nI_clamp (by omega)] at e2
          rw [e, e2]
          decide
        · rw [nI_clamp (by omega)] at e2
          rw [e, e2]
theorem ym_tog (ok : ic_Ok B T F) (hB : B ≤ 12) {post : Int32 → Prop} {p a b : Nat} {q0 q1 : Int32} (hC : ic_CM B T F p (2 ^ B) a_complete) (ha : a ≤ B) (hb : b ≤ B) (e0 : q0 = nI a) (e1 : q1 = nI b)
    (h1 : ic_Tg B T F a b → post 1) (h0 : ¬ ic_Tg B T F a b → post 0) : wpY_together post (f_blocks, f_cells, f_regs, f_converted, f_recorded, f_recForm, f_recRan, f_recC, a_ops, a_dests, a_args, a_size, a_test, a_onTrue, a_onFalse, a_inputs, a_recRegs, a_complete, a_guard) q0 q1 (nI p) := by
  subst e0
  subst e1
  have h2 := ic_pB hB
  have hp := hC.1
  have S := ic_CM_Tg ok hB hC ha hb
  exact ⟨p + 1, ym_tog3 (by omega) (by omega) (by omega) p 0 (by omega) (fun k => h1 (S.mp (fun q hq => k q (Nat.zero_le _) hq))) (fun k => h0 (fun z => k (fun r _ k2 => S.mpr z r k2))) (p + 1) (by omega)⟩
end
