/-! Y: the numbers of the guards -/
section
variable {B : Nat} {T F : Nat → Nat} {f_blocks f_cells f_regs f_converted f_recorded f_recForm f_recRan f_recC : Int32} {a_ops a_dests a_args a_size a_test a_onTrue a_onFalse a_inputs a_recRegs a_complete a_guard : Nat → Int32}
theorem ym_ng77 (ok : ic_Ok B T F) (hB : B ≤ 12) {post : Int32 → SY → Prop} {J : Int32 → Int32 → (Nat → Int32) → (Nat → Int32) → (Nat → Int32) → (Nat → Int32) → (Nat → Int32) → (Nat → Int32) → (Nat → Int32) → (Nat → Int32) → (Nat → Int32) → (Nat → Int32) → (Nat → Int32) → Prop} {p b : Nat} (hC : ic_CM B T F p (2 ^ B) a_complete) (hb : b < B) (r : ic_Re B T F b)
    (hJ : ∀ g, (∀ a, a < b + 1 → g a = ic_gy B T F a) → J (nI (ic_cnt B T F (b + 1))) (nI (b + 1)) a_ops a_dests a_args a_size a_test a_onTrue a_onFalse a_inputs a_recRegs a_complete g) :
    ∀ d j g, j + d = b → (∀ a, a < b → g a = ic_gy B T F a) → ic_YG B T F b j (g b) → ∀ n, d < n → wY_numberGuards_77 post J (nI p) (nI (ic_cnt B T F b)) (nI b) (nI B) f_cells f_regs f_converted f_recorded f_recForm f_recRan f_recC n (nI j) a_ops a_dests a_args a_size a_test a_onTrue a_onFalse a_inputs a_recRegs a_complete g := by
  intro d
  induction d with
  | zero =>
    intro j g hj hg h n hn
    cases n with
    | zero => exact absurd hn (Nat.not_lt_zero _)
    | succ n =>
      have e : j = b := by omega
      rw [e] at h ⊢
      have E := ic_YG_e hb hB r h
      refine br_t (nI_le (by omega) (by omega)) ⟨ic_v12 (by omega), br_c (fun q => ?_) (fun q => ?_)⟩
      · rw [nI_clamp (by omega)] at q
        obtain ⟨k1, k2⟩ := E.1 q
        refine nm_r (nI_1 _) ⟨ic_v12 (by omega), nm_r (ic_u (by omega)) (nm_r (nI_1 b) ?_)⟩
        rw [← k2]
        refine hJ _ (fun a ha => ?_)
        by_cases ea : a = b
        · rw [ea, pk_us, k1]
        · rw [pk_un ea]
          exact hg a (by omega)
      · rw [nI_clamp (by omega)] at q
        obtain ⟨k1, k2⟩ := E.2 q
        refine nm_r (nI_1 b) ?_
        rw [← k2]
        refine hJ _ (fun a ha => ?_)
        by_cases ea : a = b
        · rw [ea, k1]
        · exact hg a (by omega)
  | succ d ih =>
    intro j g hj hg h n hn
    cases n with
    | zero => exact absurd hn (Nat.not_lt_zero _)
    | succ n =>
      have gj := hg j (by omega)
      refine br_f (nI_ge (by omega) (by omega)) ⟨ic_v12 (by omega), br_c (fun q => ?_) (fun q => ?_)⟩
      · rw [nI_clamp (by omega), gj, ic_gy_m1 hB (by omega)] at q
        exact nm_r (nI_1 j) (ih (j + 1) g (by omega) hg (ic_YG_n h (fun ra => absurd ra q)) n (by omega))
      · rw [nI_clamp (by omega), gj, ic_gy_m1 hB (by omega), Classical.not_not] at q
        refine ym_tog ok hB hC (a := j) (b := b) (by omega) (by omega) rfl rfl (fun t => br_f (by decide) ?_) (fun t => br_t rfl ?_)
        · refine ⟨ic_v12 (by omega), ic_v12 (by omega), nm_r (e' := upd g b (g j)) (by rw [nI_clamp (n := j) (by omega), nI_clamp (n := b) (by omega)]) (nm_r (nI_1 j) (ih (j + 1) _ (by omega) (fun a ha => ?_) ?_ n (by omega)))⟩
          · rw [pk_un (by omega)]
            exact hg a ha
          · rw [pk_us]
            exact ic_YG_t q r t (by rw [gj, ic_gy_t q])
        · exact nm_r (nI_1 j) (ih (j + 1) g (by omega) hg (ic_YG_n h (fun _ => t)) n (by omega))
theorem ym_ng43 (ok : ic_Ok B T F) (hB : B ≤ 12) {post : Int32 → SY → Prop} {p : Nat} (hC : ic_CM B T F p (2 ^ B) a_complete)
    (hp : ∀ g, (∀ b, b < B → g b = ic_gy B T F b) → post (nI (ic_cnt B T F B)) (nI B, f_cells, f_regs, f_converted, f_recorded, f_recForm, f_recRan, f_recC, a_ops, a_dests, a_args, a_size, a_test, a_onTrue, a_onFalse, a_inputs, a_recRegs, a_complete, g)) :
    ∀ d b g, b + d = B → (∀ a, a < b → g a = ic_gy B T F a) → ∀ n, d < n → wY_numberGuards_43 post (nI p) (nI B) f_cells f_regs f_converted f_recorded f_recForm f_recRan f_recC n (nI (ic_cnt B T F b)) (nI b) a_ops a_dests a_args a_size a_test a_onTrue a_onFalse a_inputs a_recRegs a_complete g := by
  intro d
  induction d with
  | zero =>
    intro b g hb hg n hn
    cases n with
    | zero => exact absurd hn (Nat.not_lt_zero _)
    | succ n =>
      have e : b = B := by omega
      rw [e] at hg ⊢
      exact br_t (nI_le (by omega) (by omega)) (hp g hg)
  | succ d ih =>
    intro b g hb hg n hn
    cases n with
    | zero => exact absurd hn (Nat.not_lt_zero _)
    | succ n =>
      have hbB : b < B := by omega
      refine br_f (nI_ge (by omega) (by omega)) ⟨ic_v12 (by omega), nm_r (ic_u (by omega)) ?_⟩
      refine ym_tog ok hB hC (a := b) (b := B) (by omega) (by omega) rfl rfl (fun t => br_f (by decide) ?_) (fun t => br_t rfl ?_)
      · have r := (ic_Tg_B ok hbB).mp t
        refine nm_r (nI_1 b) ?_
        rw [← ic_cnt_u r]
        refine ih (b + 1) _ (by omega) (fun a ha => ?_) n (by omega)
        by_cases ea : a = b
        · rw [ea, pk_us, ic_gy_f r]
        · rw [pk_un ea]
          exact hg a (by omega)
      · have r : ic_Re B T F b := Classical.byContradiction (fun z => t ((ic_Tg_B ok hbB).mpr z))
        refine ⟨b + 1, ym_ng77 ok hB hC hbB r (fun g' h' => ih (b + 1) g' (by omega) h' n (by omega)) b 0 _ (by omega) (fun a ha => ?_) ?_ (b + 1) (by omega)⟩
        · rw [pk_un (by omega)]
          exact hg a ha
        · rw [pk_us]
          exact ic_YG_0
theorem ym_ng6 (ok : ic_Ok B T F) (hB : B ≤ 12) (hT : ∀ b, b < B → a_onTrue b = nI (T b) ∧ a_onFalse b = nI (F b)) {post : Int32 → SY → Prop}
    (hp : ∀ cm g, (∀ b, b < B → g b = ic_gy B T F b) → post (nI (ic_cnt B T F B)) (nI B, f_cells, f_regs, f_converted, f_recorded, f_recForm, f_recRan, f_recC, a_ops, a_dests, a_args, a_size, a_test, a_onTrue, a_onFalse, a_inputs, a_recRegs, cm, g)) :
    ∀ d m p cm, m + d = 2 ^ B → ic_CM B T F p m cm → ∀ n, d < n → wY_numberGuards_6 post 0 (nI B) f_cells f_regs f_converted f_recorded f_recForm f_recRan f_recC n (nI p) (nI m) a_ops a_dests a_args a_size a_test a_onTrue a_onFalse a_inputs a_recRegs cm a_guard := by
  have h2 := ic_pB hB
  intro d
  induction d with
  | zero =>
    intro m p cm hm h n hn
    cases n with
    | zero => exact absurd hn (Nat.not_lt_zero _)
    | succ n =>
      have e : m = 2 ^ B := by omega
      rw [e] at h
      exact br_t (by rw [ic_p2 B (by omega)]; exact nI_le (by omega) (by omega)) ⟨B + 1, ym_ng43 ok hB h (hp cm) B 0 _ (by omega) (fun a ha => absurd ha (Nat.not_lt_zero a)) (B + 1) (by omega)⟩
  | succ d ih =>
    intro m p cm hm h n hn
    cases n with
    | zero => exact absurd hn (Nat.not_lt_zero _)
    | succ n =>
      have hpm := h.1
      refine br_f (by rw [ic_p2 B (by omega)]; exact nI_ge (by omega) (by omega)) ?_
      refine ym_path ok hB hT (Nat.zero_le _) (by omega) rfl (fun q => br_f (by decide) ?_) (fun q => br_t rfl ?_)
      · exact nm_r (nI_1 p) ⟨vp_in_nI (by omega) (by decide), nm_r (ic_u (by omega)) (nm_r (nI_1 m) (ih (m + 1) (p + 1) _ (by omega) (ic_CM_s h q) n (by omega)))⟩
      · exact nm_r (nI_1 m) (ih (m + 1) p cm (by omega) (ic_CM_n h q) n (by omega))
theorem ym_ng (ok : ic_Ok B T F) (hB : B ≤ 12) (hT : ∀ b, b < B → a_onTrue b = nI (T b) ∧ a_onFalse b = nI (F b)) {post : Int32 → SY → Prop}
    (hp : ∀ cm g, (∀ b, b < B → g b = ic_gy B T F b) → post (nI (ic_cnt B T F B)) (nI B, f_cells, f_regs, f_converted, f_recorded, f_recForm, f_recRan, f_recC, a_ops, a_dests, a_args, a_size, a_test, a_onTrue, a_onFalse, a_inputs, a_recRegs, cm, g)) : wpY_numberGuards post (nI B, f_cells, f_regs, f_converted, f_recorded, f_recForm, f_recRan, f_recC, a_ops, a_dests, a_args, a_size, a_test, a_onTrue, a_onFalse, a_inputs, a_recRegs, a_complete, a_guard) :=
  ⟨2 ^ B + 1, ym_ng6 ok hB hT hp (2 ^ B) 0 0 _ (by omega) ic_CM_0 (2 ^ B + 1) (by omega)⟩
end
