/-! the reference's lists of complete paths, and its guards -/
theorem ic_m1 {n : Nat} (h : n < 2 ^ 31) : ¬ nI n = -1 := fun e => by
  have h1 := nI_toInt h
  rw [e, show (-1 : Int32).toInt = -1 from by decide] at h1
  omega
theorem ic_pB {B : Nat} (h : B ≤ 12) : 2 ^ B ≤ 4096 := by
  have h2 : 2 ^ B ≤ 2 ^ 12 := Nat.pow_le_pow_right (by decide) h
  exact h2
section
variable (B : Nat) (T F : Nat → Nat)
def ic_CM (p m : Nat) (cm : Nat → Int32) : Prop :=
  p ≤ m ∧ (∀ q, q < p → ∃ s, s < m ∧ cm q = nI s ∧ ic_YP B T F s.testBit 0) ∧ (∀ s, s < m → ic_YP B T F s.testBit 0 → ∃ q, q < p ∧ cm q = nI s)
/-- guard b while the smaller blocks below j have been looked at -/
def ic_YG (b j : Nat) (g : Int32) : Prop :=
  (g = nI (ic_G B T F b) ∧ ∃ a, a < j ∧ ic_Re B T F a ∧ ic_Tg B T F a b) ∨ (g = -1 ∧ ∀ a, a < j → ic_Re B T F a → ¬ ic_Tg B T F a b)
end
section
variable {B : Nat} {T F : Nat → Nat}
theorem ic_CM_0 {cm : Nat → Int32} : ic_CM B T F 0 0 cm :=
  ⟨Nat.le_refl _, fun q hq => absurd hq (Nat.not_lt_zero q), fun s hs => absurd hs (Nat.not_lt_zero s)⟩
theorem ic_CM_n {p m : Nat} {cm : Nat → Int32} (h : ic_CM B T F p m cm) (n : ¬ ic_YP B T F m.testBit 0) : ic_CM B T F p (m + 1) cm := by
  obtain ⟨h1, h2, h3⟩ := h
  refine ⟨by omega, fun q hq => ?_, fun s hs y => ?_⟩
  · obtain ⟨s, k1, k2⟩ := h2 q hq
    exact ⟨s, by omega, k2⟩
  · by_cases e : s = m
    · rw [e] at y
      exact absurd y n
    · exact h3 s (by omega) y
theorem ic_CM_s {p m : Nat} {cm : Nat → Int32} (h : ic_CM B T F p m cm) (n : ic_YP B T F m.testBit 0) : ic_CM B T F (p + 1) (m + 1) (upd cm p (nI m)) := by
  obtain ⟨h1, h2, h3⟩ := h
  refine ⟨by omega, fun q hq => ?_, fun s hs y => ?_⟩
  · by_cases e : q = p
    · rw [e, pk_us]
      exact ⟨m, by omega, rfl, n⟩
    · rw [pk_un e]
      obtain ⟨s, k1, k2⟩ := h2 q (by omega)
      exact ⟨s, by omega, k2⟩
  · by_cases e : s = m
    · exact ⟨p, by omega, by rw [pk_us, e]⟩
    · obtain ⟨q, k1, k2⟩ := h3 s (by omega) y
      exact ⟨q, by omega, by rw [pk_un (by omega)]; exact k2⟩
theorem ic_CM_Tg (ok : ic_Ok B T F) (hB : B ≤ 12) {p a b : Nat} {cm : Nat → Int32} (h : ic_CM B T F p (2 ^ B) cm) (ha : a ≤ B) (hb : b ≤ B) : (∀ q, q < p → bt (cm q) a = bt (cm q) b) ↔ ic_Tg B T F a b := by
  have hp := ic_pB hB
  rw [← ic_set_Tg ok ha hb]
  constructor
  · intro h' m hm y
    obtain ⟨q, hq, e⟩ := h.2.2 m hm y
    have g := h' q hq
    rw [e, ic_nI a (by omega), ic_nI b (by omega)] at g
    exact g
  · intro h' q hq
    obtain ⟨s, hs, e, y⟩ := h.2.1 q hq
    rw [e, ic_nI a (by omega), ic_nI b (by omega)]
    exact h' s hs y
theorem ic_YG_0 {b : Nat} : ic_YG B T F b 0 (-1) := Or.inr ⟨rfl, fun a ha => absurd ha (Nat.not_lt_zero a)⟩
theorem ic_YG_t {b j : Nat} {g : Int32} (ra : ic_Re B T F j) (rb : ic_Re B T F b) (t : ic_Tg B T F j b) (hg : g = nI (ic_G B T F j)) : ic_YG B T F b (j + 1) g :=
  Or.inl ⟨by rw [hg, ic_G_eq ra rb t], j, Nat.lt_succ_self _, ra, t⟩
theorem ic_YG_n {b j : Nat} {g : Int32} (h : ic_YG B T F b j g) (n : ic_Re B T F j → ¬ ic_Tg B T F j b) : ic_YG B T F b (j + 1) g := by
  rcases h with ⟨e, a, h1, h2, h3⟩ | ⟨e, h⟩
  · exact Or.inl ⟨e, a, by omega, h2, h3⟩
  · refine Or.inr ⟨e, fun a ha => ?_⟩
    by_cases ea : a = j
    · rw [ea]
      exact n
    · exact h a (by omega)
theorem ic_YG_e {b : Nat} {g : Int32} (hb : b < B) (hB : B ≤ 12) (r : ic_Re B T F b) (h : ic_YG B T F b b g) : (g = -1 → nI (ic_cnt B T F b) = ic_gy B T F b ∧ ic_cnt B T F (b + 1) = ic_cnt B T F b + 1) ∧ (¬ g = -1 → g = ic_gy B T F b ∧ ic_cnt B T F (b + 1) = ic_cnt B T F b) := by
  rcases h with ⟨e, a, h1, h2, h3⟩ | ⟨e, h⟩
  · have hg := ic_G_12 r hb hB
    refine ⟨fun z => absurd (e.symm.trans z) (ic_m1 (by omega)), fun _ => ⟨by rw [ic_gy_t r, e], ?_⟩⟩
    have s := ic_cnt_s (B := B) (T := T) (F := F) b
    rw [ic_c_f (fun l => l.2 a h1 ⟨h2, h3⟩)] at s
    omega
  · have l := ic_ldr_of r h
    refine ⟨fun _ => ⟨by rw [ic_gy_t r, ic_G_new l], by rw [ic_cnt_s, ic_c_t l]⟩, fun z => absurd e z⟩
theorem ic_gy_m1 (hB : B ≤ 12) {b : Nat} (hb : b < B) : ic_gy B T F b = -1 ↔ ¬ ic_Re B T F b := by
  constructor
  · intro e r
    have hg := ic_G_12 r hb hB
    rw [ic_gy_t r] at e
    exact ic_m1 (by omega) e
  · exact ic_gy_f
theorem ic_cnt_u {b : Nat} (r : ¬ ic_Re B T F b) : ic_cnt B T F (b + 1) = ic_cnt B T F b := by
  have s := ic_cnt_s (B := B) (T := T) (F := F) b
  rw [ic_c_f (fun l => r l.1)] at s
  omega
/-- what the reference's search in holds says -/
theorem ic_set_H (hB : B ≤ 12) {V : List Nat} {c g : Nat} {ran : Int32} {gd : Nat → Int32} (hran : ∀ y, bt ran y = true ↔ y ∈ V) (hg : g < 2 ^ 31) (hgd : ∀ b, b < B → gd b = ic_gy B T F b) : (∀ m, m < 2 ^ B → ic_YP B T F m.testBit c → ∀ b, b < B → gd b = nI g → bt (ran ||| nI m) b = true) ↔ (∀ l, ic_wy B T F l c B → ∀ b, b < B → ic_Re B T F b → ic_G B T F b = g → (b ∈ V ∨ b ∈ l)) := by
  have hp := ic_pB hB
  constructor
  · intro h l hl b hb r e
    obtain ⟨m, h1, h2⟩ := ic_mask B (fun y => y ∈ l)
    have k := h m h1 ⟨l, hl, h2⟩ b hb (by rw [hgd b hb, ic_gy_t r, e])
    rw [b_or, Bool.or_eq_true, hran, ic_nI b (by omega), h2 b hb] at k
    exact k
  · rintro h m hm ⟨l, hl, k⟩ b hb e
    rw [hgd b hb] at e
    have r : ic_Re B T F b := by
      rcases Classical.em (ic_Re B T F b) with r | r
      · exact r
      · rw [ic_gy_f r] at e
        exact absurd e.symm (ic_m1 hg)
    have h12 := ic_G_12 r hb hB
    rw [ic_gy_t r, nI_eq (by omega) hg] at e
    rw [b_or, Bool.or_eq_true, hran, ic_nI b (by omega), k b hb]
    exact h l hl b hb r e
end
