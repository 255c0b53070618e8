/-! the source, its instructions, and a run, as pure functions -/
def ic_N (a : Nat → Int32) : Nat → Nat := fun b => (a b).toNatClampNeg
def ic_res (o l r : Int32) : Int32 := if o = 2 then l + r else if o = 3 then l - r else if o = 4 then l * r else if o = 5 then l ^^^ r else if o = 6 then (if l < r then 1 else 0) else if o = 7 then (if l = r then 1 else 0) else r
def ic_exe (ops dests args g : Nat → Int32) (p : Nat) : Nat → Int32 :=
  upd g (dests p).toNatClampNeg (ic_res (ops p) (g (dests p).toNatClampNeg) (if ops p = 0 then args p else g (args p).toNatClampNeg))
def ic_blk (ops dests args : Nat → Int32) (b : Nat) : Nat → (Nat → Int32) → (Nat → Int32)
  | 0, g => g
  | n + 1, g => ic_exe ops dests args (ic_blk ops dests args b n g) (b * 4 + n)
def ic_cp (inp g : Nat → Int32) : Nat → (Nat → Int32)
  | 0 => g
  | n + 1 => upd (ic_cp inp g n) n (inp n)
def ic_Cell (R : Nat) (ops dests args : Nat → Int32) (p : Nat) : Prop :=
  ∃ o d, o < 8 ∧ d < R ∧ ops p = nI o ∧ dests p = nI d ∧ (o = 0 ∨ ∃ x, x < R ∧ args p = nI x)
/-- the source as it is kept: sizes, cells, endings -/
def ic_Src (B C R : Nat) (sizes ops dests args tests tt ff : Nat → Int32) : Prop :=
  ∀ b, b < B → (∃ s, s ≤ C ∧ sizes b = nI s ∧ ∀ i, i < s → ic_Cell R ops dests args (b * 4 + i)) ∧
    (tests b = -1 ∨ ∃ r, r < R ∧ tests b = nI r) ∧ (∃ t, tt b = nI t ∧ b < t ∧ t ≤ B) ∧ (∃ f, ff b = nI f ∧ b < f ∧ f ≤ B)
def ic_go (test : Int32) (g : Nat → Int32) : Bool := decide (test = -1 ∨ ¬ g test.toNatClampNeg = 0)
/-- where a run stands, its registers, the blocks that have run -/
def ic_rn (sizes ops dests args tests tt ff g0 : Nat → Int32) : Nat → Nat × (Nat → Int32) × Int32
  | 0 => (0, g0, 0)
  | b + 1 =>
    if b = (ic_rn sizes ops dests args tests tt ff g0 b).1 then
      ((if ic_go (tests b) (ic_blk ops dests args b (ic_N sizes b) (ic_rn sizes ops dests args tests tt ff g0 b).2.1) = true then ic_N tt b else ic_N ff b),
        ic_blk ops dests args b (ic_N sizes b) (ic_rn sizes ops dests args tests tt ff g0 b).2.1,
        (ic_rn sizes ops dests args tests tt ff g0 b).2.2 ||| ((1 : Int32) <<< (nI b &&& 31)))
    else ic_rn sizes ops dests args tests tt ff g0 b
section
variable {B C R : Nat} {sizes ops dests args tests tt ff g0 : Nat → Int32}
theorem ic_Src_T (h : ic_Src B C R sizes ops dests args tests tt ff) (hB : B ≤ 12) {b : Nat} (hb : b < B) : tt b = nI (ic_N tt b) ∧ ff b = nI (ic_N ff b) := by
  obtain ⟨_, _, ⟨t, e1, _, h1⟩, ⟨f, e2, _, h2⟩⟩ := h b hb
  unfold ic_N
  rw [e1, e2, nI_clamp (by omega), nI_clamp (by omega)]
  exact ⟨rfl, rfl⟩
theorem ic_Src_ok (h : ic_Src B C R sizes ops dests args tests tt ff) (hB : B ≤ 12) : ic_Ok B (ic_N tt) (ic_N ff) := by
  intro b hb
  obtain ⟨_, _, ⟨t, e1, k1, h1⟩, ⟨f, e2, k2, h2⟩⟩ := h b hb
  unfold ic_N
  rw [e1, e2, nI_clamp (by omega), nI_clamp (by omega)]
  exact ⟨k1, h1, k2, h2⟩
theorem ic_Src_s (h : ic_Src B C R sizes ops dests args tests tt ff) (hC : C ≤ 4) {b : Nat} (hb : b < B) : sizes b = nI (ic_N sizes b) ∧ ic_N sizes b ≤ C ∧ ∀ i, i < ic_N sizes b → ic_Cell R ops dests args (b * 4 + i) := by
  obtain ⟨⟨s, h1, e, h2⟩, _⟩ := h b hb
  have es : ic_N sizes b = s := by
    unfold ic_N
    rw [e, nI_clamp (by omega)]
  rw [es]
  exact ⟨e, h1, h2⟩
theorem ic_rn_s (b : Nat) (h : b = (ic_rn sizes ops dests args tests tt ff g0 b).1) : ic_rn sizes ops dests args tests tt ff g0 (b + 1) =
      ((if ic_go (tests b) (ic_blk ops dests args b (ic_N sizes b) (ic_rn sizes ops dests args tests tt ff g0 b).2.1) = true then ic_N tt b else ic_N ff b),
        ic_blk ops dests args b (ic_N sizes b) (ic_rn sizes ops dests args tests tt ff g0 b).2.1,
        (ic_rn sizes ops dests args tests tt ff g0 b).2.2 ||| ((1 : Int32) <<< (nI b &&& 31))) := if_pos h
theorem ic_rn_n (b : Nat) (h : ¬ b = (ic_rn sizes ops dests args tests tt ff g0 b).1) : ic_rn sizes ops dests args tests tt ff g0 (b + 1) = ic_rn sizes ops dests args tests tt ff g0 b := if_neg h
/-- V: the blocks that have run before block b's turn -/
def ic_RV (B : Nat) (T F : Nat → Nat) (b c : Nat) (ran : Int32) (V : List Nat) : Prop :=
  ic_wy B T F V 0 c ∧ (∀ v, v ∈ V → v < b) ∧ b ≤ c ∧ c ≤ B ∧ ∀ y, (bt ran y = true ↔ y ∈ V)
theorem ic_RV_0 {T F : Nat → Nat} : ic_RV B T F 0 0 0 [] :=
  ⟨rfl, fun v m => (by cases m), Nat.le_refl _, Nat.zero_le _, fun y => by rw [b_0]; exact ⟨fun z => (by cases z), fun z => (by cases z)⟩⟩
theorem ic_RV_n {T F : Nat → Nat} {b c : Nat} {ran : Int32} {V : List Nat} (h : ic_RV B T F b c ran V) (e : ¬ b = c) : ic_RV B T F (b + 1) c ran V :=
  ⟨h.1, fun v m => Nat.lt_succ_of_lt (h.2.1 v m), by have := h.2.2.1; omega, h.2.2.2⟩
theorem ic_RV_s {T F : Nat → Nat} (ok : ic_Ok B T F) (hB : B ≤ 12) {b c z : Nat} {ran : Int32} {V : List Nat} (h : ic_RV B T F b c ran V) (e : b = c) (hb : b < B) (hz : T b = z ∨ F b = z) : ic_RV B T F (b + 1) z (ran ||| ((1 : Int32) <<< (nI b &&& 31))) (V ++ [b]) := by
  obtain ⟨h1, h2, h3, h4, h5⟩ := h
  rw [← e] at h1
  have o := ok b hb
  refine ⟨ic_snoc h1 hb hz, fun v m => ?_, ?_, ?_, fun y => ?_⟩
  · rcases List.mem_append.mp m with g | g
    · exact Nat.lt_succ_of_lt (h2 v g)
    · rw [List.mem_singleton.mp g]
      exact Nat.lt_succ_self _
  · rcases hz with g | g <;> omega
  · rcases hz with g | g <;> omega
  · rw [b_or, ic_sh (by omega), Bool.or_eq_true, decide_eq_true_iff, h5, List.mem_append, List.mem_singleton]
theorem ic_rn_V (h : ic_Src B C R sizes ops dests args tests tt ff) (hB : B ≤ 12) : ∀ b, b ≤ B → ∃ V, ic_RV B (ic_N tt) (ic_N ff) b (ic_rn sizes ops dests args tests tt ff g0 b).1 (ic_rn sizes ops dests args tests tt ff g0 b).2.2 V := by
  intro b
  induction b with
  | zero => exact fun _ => ⟨[], ic_RV_0⟩
  | succ b ih =>
    intro hb
    obtain ⟨V, hV⟩ := ih (by omega)
    by_cases e : b = (ic_rn sizes ops dests args tests tt ff g0 b).1
    · rw [ic_rn_s b e]
      refine ⟨V ++ [b], ic_RV_s (ic_Src_ok h hB) hB hV e (by omega) ?_⟩
      dsimp only
      split
      · exact Or.inl rfl
      · exact Or.inr rfl
    · rw [ic_rn_n b e]
      exact ⟨V, ic_RV_n hV e⟩
end
