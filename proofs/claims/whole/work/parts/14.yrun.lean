/-! Y: a run -/
section
variable {B C R : Nat} {g0 : Nat → Int32} {f_blocks f_cells f_regs f_converted f_recorded f_recForm f_recRan f_recC : Int32} {a_ops a_dests a_args a_size a_test a_onTrue a_onFalse a_inputs a_recRegs a_complete a_guard : Nat → Int32}
theorem ym_46 {post : SY → Prop} {k d : Nat} {x2 l z : Int32} (hk : k < 8) (ho : x2 = nI k) (hd : d < 8) (hp : post (f_blocks, f_cells, f_regs, f_converted, f_recorded, f_recForm, f_recRan, f_recC, a_ops, a_dests, a_args, a_size, a_test, a_onTrue, a_onFalse, a_inputs, upd a_recRegs d (ic_res x2 l z), a_complete, a_guard)) : wY_execute_46 post x2 (nI d) l z f_blocks f_cells f_regs f_converted f_recorded f_recForm f_recRan f_recC a_ops a_dests a_args a_size a_test a_onTrue a_onFalse a_inputs a_recRegs a_complete a_guard := by
  subst ho
  have h : k = 0 ∨ k = 1 ∨ k = 2 ∨ k = 3 ∨ k = 4 ∨ k = 5 ∨ k = 6 ∨ k = 7 := by omega
  have u : ∀ x, upd a_recRegs (nI d).toNatClampNeg x = upd a_recRegs d x := fun x => ic_u (by omega)
  rcases h with rfl | rfl | rfl | rfl | rfl | rfl | rfl | rfl
  · exact br_t (by decide) ⟨ic_v8 hd, nm_r (u _) (br_f (by decide) (br_f (by decide) (br_f (by decide) (br_f (by decide) (br_f (by decide) (br_f (by decide) hp))))))⟩
  · exact br_f (by decide) (br_t (by decide) ⟨ic_v8 hd, nm_r (u _) (br_f (by decide) (br_f (by decide) (br_f (by decide) (br_f (by decide) (br_f (by decide) (br_f (by decide) hp))))))⟩)
  · exact br_f (by decide) (br_f (by decide) (br_t (by decide) ⟨ic_v8 hd, nm_r (u _) (br_f (by decide) (br_f (by decide) (br_f (by decide) (br_f (by decide) (br_f (by decide) hp)))))⟩))
  · exact br_f (by decide) (br_f (by decide) (br_f (by decide) (br_t (by decide) ⟨ic_v8 hd, nm_r (u _) (br_f (by decide) (br_f (by decide) (br_f (by decide) (br_f (by decide) hp))))⟩)))
  · exact br_f (by decide) (br_f (by decide) (br_f (by decide) (br_f (by decide) (br_t (by decide) ⟨ic_v8 hd, nm_r (u _) (br_f (by decide) (br_f (by decide) (br_f (by decide) hp)))⟩))))
  · exact br_f (by decide) (br_f (by decide) (br_f (by decide) (br_f (by decide) (br_f (by decide) (br_t (by decide) ⟨ic_v8 hd, nm_r (u _) (br_f (by decide) (br_f (by decide) hp))⟩)))))
  · have hp : post (f_blocks, f_cells, f_regs, f_converted, f_recorded, f_recForm, f_recRan, f_recC, a_ops, a_dests, a_args, a_size, a_test, a_onTrue, a_onFalse, a_inputs, upd a_recRegs d (if l < z then 1 else 0), a_complete, a_guard) := hp
    refine br_f (by decide) (br_f (by decide) (br_f (by decide) (br_f (by decide) (br_f (by decide) (br_f (by decide) (br_t (by decide) (br_c (fun h => ?_) (fun h => ?_))))))))
    · rw [if_neg (Int32.not_lt.mpr h)] at hp
      exact ⟨ic_v8 hd, nm_r (u _) (br_f (by decide) hp)⟩
    · rw [if_pos (Int32.not_le.mp h)] at hp
      exact ⟨ic_v8 hd, nm_r (u _) (br_f (by decide) hp)⟩
  · have hp : post (f_blocks, f_cells, f_regs, f_converted, f_recorded, f_recForm, f_recRan, f_recC, a_ops, a_dests, a_args, a_size, a_test, a_onTrue, a_onFalse, a_inputs, upd a_recRegs d (if l = z then 1 else 0), a_complete, a_guard) := hp
    refine br_f (by decide) (br_f (by decide) (br_f (by decide) (br_f (by decide) (br_f (by decide) (br_f (by decide) (br_f (by decide) (br_t (by decide) (br_c (fun h => ?_) (fun h => ?_)))))))))
    · rw [if_pos h] at hp
      exact ⟨ic_v8 hd, nm_r (u _) hp⟩
    · rw [if_neg h] at hp
      exact ⟨ic_v8 hd, nm_r (u _) hp⟩
theorem ym_exe (hR : R ≤ 8) {post : SY → Prop} {p : Nat} {p0 : Int32} (ep : p0 = nI p) (hp : p < 48) (hc : ic_Cell R a_ops a_dests a_args p) (h : post (f_blocks, f_cells, f_regs, f_converted, f_recorded, f_recForm, f_recRan, f_recC, a_ops, a_dests, a_args, a_size, a_test, a_onTrue, a_onFalse, a_inputs, ic_exe a_ops a_dests a_args a_recRegs p, a_complete, a_guard)) : wpY_execute post (f_blocks, f_cells, f_regs, f_converted, f_recorded, f_recForm, f_recRan, f_recC, a_ops, a_dests, a_args, a_size, a_test, a_onTrue, a_onFalse, a_inputs, a_recRegs, a_complete, a_guard) p0 := by
  subst ep
  obtain ⟨o, d, ho, hd, e1, e2, e3⟩ := hc
  have c1 : (nI p).toNatClampNeg = p := nI_clamp (by omega)
  have c2 : (nI d).toNatClampNeg = d := nI_clamp (by omega)
  unfold ic_exe at h
  rw [e2, c2] at h
  refine ⟨ic_v48 hp, nm_r (e' := a_ops p) (by rw [c1]) ⟨ic_v48 hp, nm_r (e' := nI d) (by rw [c1, e2]) ⟨ic_v8 (by omega), nm_r (e' := a_recRegs d) (by rw [c2]) ?_⟩⟩⟩
  by_cases e : o = 0
  · have z : a_ops p = 0 := by rw [e1, e]; exact nI_0
    refine br_t z ⟨ic_v48 hp, ym_46 ho e1 (by omega) ?_⟩
    rw [if_pos z] at h
    rw [c1]
    exact h
  · have z : ¬ a_ops p = 0 := by rw [e1]; exact nI_ne0 (by omega) (by omega)
    obtain ⟨x, hx, e4⟩ := e3.resolve_left e
    refine br_f z ⟨ic_v48 hp, by rw [c1, e4]; exact ic_v8 (by omega), ym_46 ho e1 (by omega) ?_⟩
    rw [if_neg z] at h
    rw [c1]
    exact h
theorem ym_107 (hR : R ≤ 8) {post : Int32 → SY → Prop} {J : Int32 → Int32 → Int32 → Int32 → Int32 → Int32 → Int32 → Int32 → Int32 → (Nat → Int32) → (Nat → Int32) → (Nat → Int32) → (Nat → Int32) → (Nat → Int32) → (Nat → Int32) → (Nat → Int32) → (Nat → Int32) → (Nat → Int32) → (Nat → Int32) → (Nat → Int32) → Prop} {x2 : Int32} {b s : Nat} {g : Nat → Int32} (hb : b < 12) (hs : a_size b = nI s) (hs4 : s ≤ 4) (hc : ∀ i, i < s → ic_Cell R a_ops a_dests a_args (b * 4 + i))
    (ht : a_test b = -1 ∨ ∃ r, r < R ∧ a_test b = nI r)
    (hJ : J (nI (b + 1)) f_blocks f_cells f_regs f_converted f_recorded f_recForm (f_recRan ||| ((1 : Int32) <<< (nI b &&& 31))) (if ic_go (a_test b) (ic_blk a_ops a_dests a_args b s g) = true then a_onTrue b else a_onFalse b) a_ops a_dests a_args a_size a_test a_onTrue a_onFalse a_inputs (ic_blk a_ops a_dests a_args b s g) a_complete a_guard) :
    ∀ d i, i + d = s → ∀ n, d < n → wY_run_107 post J x2 (nI b) n (nI i) f_blocks f_cells f_regs f_converted f_recorded f_recForm f_recRan f_recC a_ops a_dests a_args a_size a_test a_onTrue a_onFalse a_inputs (ic_blk a_ops a_dests a_args b i g) a_complete a_guard := by
  intro d
  have c1 : (nI b).toNatClampNeg = b := nI_clamp (by omega)
  induction d with
  | zero =>
    intro i hi n hn
    cases n with
    | zero => exact absurd hn (Nat.not_lt_zero _)
    | succ n =>
      have e : i = s := by omega
      rw [e]
      refine ⟨ic_v12 hb, br_t (by rw [c1, hs]; exact nI_le (by omega) (by omega)) (nm_e ⟨ic_v12 hb, br_c (fun q => ?_) (fun q => ⟨ic_v12 hb, ?_, br_c (fun z => ?_) (fun z => ?_)⟩)⟩)⟩
      · rw [c1] at q
        have gg : ic_go (a_test b) (ic_blk a_ops a_dests a_args b s g) = true := decide_eq_true (Or.inl q)
        rw [if_pos gg] at hJ
        exact ⟨ic_v12 hb, nm_r (by rw [c1]) (nm_r (nI_1 b) hJ)⟩
      · rw [c1] at q ⊢
        rcases ht with k | ⟨r, hr, k⟩
        · exact absurd k q
        · rw [k]
          exact ic_v8 (by omega)
      · rw [c1] at q z
        have gg : ic_go (a_test b) (ic_blk a_ops a_dests a_args b s g) = false := decide_eq_false (fun k => k.elim q (fun k => k z))
        rw [if_neg (by rw [gg]; decide)] at hJ
        exact ⟨ic_v12 hb, nm_r (by rw [c1]) (nm_r (nI_1 b) hJ)⟩
      · rw [c1] at q z
        have gg : ic_go (a_test b) (ic_blk a_ops a_dests a_args b s g) = true := decide_eq_true (Or.inr z)
        rw [if_pos gg] at hJ
        exact ⟨ic_v12 hb, nm_r (by rw [c1]) (nm_r (nI_1 b) hJ)⟩
  | succ d ih =>
    intro i hi n hn
    cases n with
    | zero => exact absurd hn (Nat.not_lt_zero _)
    | succ n =>
      refine ⟨ic_v12 hb, br_f (by rw [c1, hs]; exact nI_ge (by omega) (by omega)) ?_⟩
      refine ym_exe hR (ic_4 b i) (by omega) (hc i (by omega)) ?_
      exact nm_r (nI_1 i) (ih (i + 1) (by omega) n (by omega))
theorem ym_88 (hB : B ≤ 12) (hC : C ≤ 4) (hR : R ≤ 8) (hS : ic_Src B C R a_size a_ops a_dests a_args a_test a_onTrue a_onFalse) {post : Int32 → SY → Prop} {stop : Nat} (hst : stop ≤ B) (hp : post (nI (ic_rn a_size a_ops a_dests a_args a_test a_onTrue a_onFalse g0 stop).1) (f_blocks, f_cells, f_regs, f_converted, f_recorded, f_recForm, (ic_rn a_size a_ops a_dests a_args a_test a_onTrue a_onFalse g0 stop).2.2, nI (ic_rn a_size a_ops a_dests a_args a_test a_onTrue a_onFalse g0 stop).1, a_ops, a_dests, a_args, a_size, a_test, a_onTrue, a_onFalse, a_inputs, (ic_rn a_size a_ops a_dests a_args a_test a_onTrue a_onFalse g0 stop).2.1, a_complete, a_guard)) :
    ∀ d b, b + d = stop → ∀ n, d < n → wY_run_88 post (nI stop) n (nI b) f_blocks f_cells f_regs f_converted f_recorded f_recForm ((ic_rn a_size a_ops a_dests a_args a_test a_onTrue a_onFalse g0 b).2.2) (nI (ic_rn a_size a_ops a_dests a_args a_test a_onTrue a_onFalse g0 b).1) a_ops a_dests a_args a_size a_test a_onTrue a_onFalse a_inputs ((ic_rn a_size a_ops a_dests a_args a_test a_onTrue a_onFalse g0 b).2.1) a_complete a_guard := by
  intro d
  induction d with
  | zero =>
    intro b hb n hn
    cases n with
    | zero => exact absurd hn (Nat.not_lt_zero _)
    | succ n =>
      have e : b = stop := by omega
      rw [e]
      exact br_t (nI_le (by omega) (by omega)) hp
  | succ d ih =>
    intro b hb n hn
    cases n with
    | zero => exact absurd hn (Nat.not_lt_zero _)
    | succ n =>
      obtain ⟨V, v1, v2, v3, v4, v5⟩ := ic_rn_V (g0 := g0) hS hB b (by omega)
      have hbB : b < B := by omega
      have k := ih (b + 1) (by omega) n (by omega)
      refine br_f (nI_ge (by omega) (by omega)) (pk_eq b (ic_rn a_size a_ops a_dests a_args a_test a_onTrue a_onFalse g0 b).1 (fun q => ?_) (fun q => ?_))
      · obtain ⟨s1, s2, s3⟩ := ic_Src_s hS hC hbB
        have hT := ic_Src_T hS hB hbB
        rw [ic_rn_s b q] at k
        refine ⟨ic_N a_size b + 1, ym_107 hR (by omega) s1 (by omega) s3 (hS b hbB).2.1 ?_ (ic_N a_size b) 0 (by omega) (ic_N a_size b + 1) (by omega)⟩
        rw [hT.1, hT.2, ← apply_ite nI]
        exact k
      · rw [ic_rn_n b q] at k
        exact nm_r (nI_1 b) k
theorem ym_60 (hB : B ≤ 12) (hC : C ≤ 4) (hR : R ≤ 8) (hS : ic_Src B C R a_size a_ops a_dests a_args a_test a_onTrue a_onFalse) {post : Int32 → SY → Prop} {stop : Nat} {g : Nat → Int32} (hg : g0 = ic_cp a_inputs g R) (hst : stop ≤ B) (hp : post (nI (ic_rn a_size a_ops a_dests a_args a_test a_onTrue a_onFalse g0 stop).1) (f_blocks, f_cells, nI R, f_converted, f_recorded, f_recForm, (ic_rn a_size a_ops a_dests a_args a_test a_onTrue a_onFalse g0 stop).2.2, nI (ic_rn a_size a_ops a_dests a_args a_test a_onTrue a_onFalse g0 stop).1, a_ops, a_dests, a_args, a_size, a_test, a_onTrue, a_onFalse, a_inputs, (ic_rn a_size a_ops a_dests a_args a_test a_onTrue a_onFalse g0 stop).2.1, a_complete, a_guard)) :
    ∀ d i, i + d = R → ∀ n, d < n → wY_run_60 post (nI stop) f_blocks f_cells (nI R) f_converted f_recorded f_recForm 0 0 n (nI i) a_ops a_dests a_args a_size a_test a_onTrue a_onFalse a_inputs (ic_cp a_inputs g i) a_complete a_guard := by
  intro d
  induction d with
  | zero =>
    intro i hi n hn
    cases n with
    | zero => exact absurd hn (Nat.not_lt_zero _)
    | succ n =>
      have e : i = R := by omega
      rw [e, ← hg]
      exact br_t (nI_le (by omega) (by omega)) ⟨stop + 1, ym_88 hB hC hR hS hst hp stop 0 (by omega) (stop + 1) (by omega)⟩
  | succ d ih =>
    intro i hi n hn
    cases n with
    | zero => exact absurd hn (Nat.not_lt_zero _)
    | succ n =>
      exact br_f (nI_ge (by omega) (by omega)) ⟨ic_v8 (by omega), ic_v8 (by omega), nm_r (e' := ic_cp a_inputs g (i + 1)) (by rw [nI_clamp (n := i) (by omega)] <;> rfl) (nm_r (nI_1 i) (ih (i + 1) (by omega) n (by omega)))⟩
theorem ym_38 (hB : B ≤ 12) (hC : C ≤ 4) (hR : R ≤ 8) (hS : ic_Src B C R a_size a_ops a_dests a_args a_test a_onTrue a_onFalse) {post : Int32 → SY → Prop} {stop : Nat} {p0 : Int32} (hg : g0 = ic_cp a_inputs a_recRegs R) (hst : stop ≤ B) (hp : post (nI (ic_rn a_size a_ops a_dests a_args a_test a_onTrue a_onFalse g0 stop).1) (f_blocks, f_cells, nI R, f_converted, 1, p0, (ic_rn a_size a_ops a_dests a_args a_test a_onTrue a_onFalse g0 stop).2.2, nI (ic_rn a_size a_ops a_dests a_args a_test a_onTrue a_onFalse g0 stop).1, a_ops, a_dests, a_args, a_size, a_test, a_onTrue, a_onFalse, a_inputs, (ic_rn a_size a_ops a_dests a_args a_test a_onTrue a_onFalse g0 stop).2.1, a_complete, a_guard)) :
    wY_run_38 post p0 (nI stop) f_blocks f_cells (nI R) f_converted f_recorded f_recForm f_recRan f_recC a_ops a_dests a_args a_size a_test a_onTrue a_onFalse a_inputs a_recRegs a_complete a_guard :=
  ⟨R + 1, ym_60 hB hC hR hS hg hst hp R 0 (by omega) (R + 1) (by omega)⟩
end
