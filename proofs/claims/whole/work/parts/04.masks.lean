/-! X's masks against the mathematics -/
section
variable (B : Nat) (T F : Nat → Nat)
/-- the ways to each block over the edges Es -/
def ic_WI (Es : Nat → Nat → Prop) (ρ : Int32) (D : Nat → Int32) : Prop :=
  ∀ b, b < B → (bt ρ b = true ↔ (b = 0 ∨ ∃ p, Es p b)) ∧ ∀ a, a < B → (bt (D b) a = true ↔ (b ≠ 0 ∧ ∀ p, Es p b → (ic_Do B T F p a ∨ a = p)))
def ic_Es (i : Nat) (p b : Nat) : Prop := p < i ∧ ic_Re B T F p ∧ (T p = b ∨ F p = b)
/-- the reachable blocks and the ways to them, known -/
def ic_WD (ρ : Int32) (D : Nat → Int32) : Prop := ∀ b, b < B → (bt ρ b = true ↔ ic_Re B T F b) ∧ ∀ a, a < B → (bt (D b) a = true ↔ ic_Do B T F b a)
def ic_PD (P : Nat → Int32) : Prop := ∀ x, x < B → ∀ y, (bt (P x) y = true ↔ ic_A B T F x y)
noncomputable def ic_gy (b : Nat) : Int32 := @ite Int32 (ic_Re B T F b) (Classical.propDecidable _) (nI (ic_G B T F b)) (-1)
end
section
variable {B : Nat} {T F : Nat → Nat}
theorem ic_gy_t {b : Nat} (h : ic_Re B T F b) : ic_gy B T F b = nI (ic_G B T F b) := if_pos h
theorem ic_gy_f {b : Nat} (h : ¬ ic_Re B T F b) : ic_gy B T F b = -1 := if_neg h
theorem ic_WI_c {Es Es' : Nat → Nat → Prop} {ρ : Int32} {D : Nat → Int32} (h : ic_WI B T F Es ρ D) (e : ∀ p b, b < B → (Es p b ↔ Es' p b)) : ic_WI B T F Es' ρ D := by
  intro b hb
  obtain ⟨h1, h2⟩ := h b hb
  constructor
  · rw [h1]
    exact ⟨fun g => g.elim Or.inl (fun ⟨p, k⟩ => Or.inr ⟨p, (e p b hb).mp k⟩), fun g => g.elim Or.inl (fun ⟨p, k⟩ => Or.inr ⟨p, (e p b hb).mpr k⟩)⟩
  · intro a ha
    rw [h2 a ha]
    exact ⟨fun g => ⟨g.1, fun p k => g.2 p ((e p b hb).mpr k)⟩, fun g => ⟨g.1, fun p k => g.2 p ((e p b hb).mp k)⟩⟩
theorem ic_WI_e (hB : B ≤ 12) {Es : Nat → Nat → Prop} {ρ q : Int32} {D : Nat → Int32} {i z : Nat} (h : ic_WI B T F Es ρ D) (hq : ∀ a, a < B → (bt q a = true ↔ (ic_Do B T F i a ∨ a = i))) (hz : z < B) : ic_WI B T F (fun p b => Es p b ∨ (p = i ∧ b = z)) (ρ ||| ((1 : Int32) <<< (nI z &&& 31))) (upd D z (D z &&& q)) := by
  intro b hb
  obtain ⟨h1, h2⟩ := h b hb
  constructor
  · rw [b_or, ic_sh (by omega), Bool.or_eq_true, decide_eq_true_iff, h1]
    constructor
    · rintro ((e | ⟨p, e⟩) | e)
      · exact Or.inl e
      · exact Or.inr ⟨p, Or.inl e⟩
      · exact Or.inr ⟨i, Or.inr ⟨rfl, e⟩⟩
    · rintro (e | ⟨p, e | ⟨_, e⟩⟩)
      · exact Or.inl (Or.inl e)
      · exact Or.inl (Or.inr ⟨p, e⟩)
      · exact Or.inr e
  · intro a ha
    have h3 := h2 a ha
    by_cases e : b = z
    · rw [e] at h3 ⊢
      rw [pk_us, b_and, Bool.and_eq_true, hq a ha, h3]
      constructor
      · rintro ⟨⟨k1, k2⟩, k3⟩
        refine ⟨k1, fun p hp => ?_⟩
        rcases hp with hp | ⟨hp, _⟩
        · exact k2 p hp
        · rw [hp]
          exact k3
      · rintro ⟨k1, k2⟩
        exact ⟨⟨k1, fun p hp => k2 p (Or.inl hp)⟩, k2 i (Or.inr ⟨rfl, rfl⟩)⟩
    · rw [pk_un e, h3]
      constructor
      · rintro ⟨k1, k2⟩
        exact ⟨k1, fun p hp => hp.elim (k2 p) (fun g => absurd g.2 e)⟩
      · rintro ⟨k1, k2⟩
        exact ⟨k1, fun p hp => k2 p (Or.inl hp)⟩
theorem ic_WI_0 (hB : B ≤ 12) {D : Nat → Int32} (h0 : D 0 = 0) (h : ∀ b, 1 ≤ b → b < B → D b = -1) : ic_WI B T F (ic_Es B T F 0) 1 D := by
  have hE : ∀ p b, ¬ ic_Es B T F 0 p b := fun p b k => Nat.not_lt_zero _ k.1
  intro b hb
  constructor
  · rw [ic_b1 b (by omega), decide_eq_true_iff]
    exact ⟨Or.inl, fun g => g.elim id (fun ⟨p, k⟩ => absurd k (hE p b))⟩
  · intro a ha
    by_cases e : b = 0
    · rw [e, h0, b_0]
      exact ⟨fun z => (by cases z), fun z => absurd rfl z.1⟩
    · rw [h b (by omega) hb, b_m1 a (by omega)]
      exact ⟨fun _ => ⟨e, fun p k => absurd k (hE p b)⟩, fun _ => rfl⟩
theorem ic_Es_p (ok : ic_Ok B T F) {i p : Nat} (hp : p < B) (h : T p = i ∨ F p = i) : p < i := by
  have o := ok p hp
  rcases h with h | h <;> omega
theorem ic_Es_Re (ok : ic_Ok B T F) {i : Nat} (hi : i < B) : (i = 0 ∨ ∃ p, ic_Es B T F i p i) ↔ ic_Re B T F i := by
  rw [ic_Re_s]
  constructor
  · rintro (e | ⟨p, h1, h2, h3⟩)
    · exact Or.inl e
    · exact Or.inr ⟨p, by omega, h2, h3⟩
  · rintro (e | ⟨p, h1, h2, h3⟩)
    · exact Or.inl e
    · exact Or.inr ⟨p, ic_Es_p ok h1 h3, h2, h3⟩
theorem ic_Es_Do (ok : ic_Ok B T F) {i a : Nat} (hi : i < B) : (i ≠ 0 ∧ ∀ p, ic_Es B T F i p i → (ic_Do B T F p a ∨ a = p)) ↔ ic_Do B T F i a := by
  rw [ic_Do_s]
  constructor
  · rintro ⟨h0, h⟩
    exact ⟨h0, fun p h1 h2 h3 => h p ⟨ic_Es_p ok h1 h3, h2, h3⟩⟩
  · rintro ⟨h0, h⟩
    exact ⟨h0, fun p ⟨h1, h2, h3⟩ => h p (by omega) h2 h3⟩
theorem ic_Es_n {i : Nat} (r : ¬ ic_Re B T F i) (p b : Nat) : ic_Es B T F i p b ↔ ic_Es B T F (i + 1) p b := by
  constructor
  · rintro ⟨h1, h2⟩
    exact ⟨by omega, h2⟩
  · rintro ⟨h1, h2, h3⟩
    by_cases e : p = i
    · rw [e] at h2
      exact absurd h2 r
    · exact ⟨by omega, h2, h3⟩
theorem ic_WI_B {ρ : Int32} {D : Nat → Int32} (h : ic_WI B T F (ic_Es B T F B) ρ D) : ic_WD B T F ρ D := by
  intro b hb
  obtain ⟨h1, h2⟩ := h b hb
  refine ⟨h1.trans ic_Re_s.symm, fun a ha => (h2 a ha).trans ?_⟩
  rw [ic_Do_s]
  exact ⟨fun g => ⟨g.1, fun p k1 k2 k3 => g.2 p ⟨k1, k2, k3⟩⟩, fun g => ⟨g.1, fun p k => g.2 p k.1 k.2.1 k.2.2⟩⟩
/-- both edges of a reachable block i -/
theorem ic_WI_2 (ok : ic_Ok B T F) (hB : B ≤ 12) {i : Nat} (hi : i < B) (r : ic_Re B T F i) {ρ ρ' ρ'' q : Int32} {D D' D'' : Nat → Int32} (h : ic_WI B T F (ic_Es B T F i) ρ D) (hq : ∀ a, a < B → (bt q a = true ↔ (ic_Do B T F i a ∨ a = i)))
    (k1 : (T i < B → ρ' = ρ ||| ((1 : Int32) <<< (nI (T i) &&& 31)) ∧ D' = upd D (T i) (D (T i) &&& q)) ∧ (¬ T i < B → ρ' = ρ ∧ D' = D))
    (k2 : (F i < B → ρ'' = ρ' ||| ((1 : Int32) <<< (nI (F i) &&& 31)) ∧ D'' = upd D' (F i) (D' (F i) &&& q)) ∧ (¬ F i < B → ρ'' = ρ' ∧ D'' = D')) : ic_WI B T F (ic_Es B T F (i + 1)) ρ'' D'' := by
  have s1 : ic_WI B T F (fun p b => ic_Es B T F i p b ∨ (p = i ∧ b = T i)) ρ' D' := by
    by_cases g : T i < B
    · obtain ⟨e1, e2⟩ := k1.1 g
      rw [e1, e2]
      exact ic_WI_e hB h hq g
    · obtain ⟨e1, e2⟩ := k1.2 g
      rw [e1, e2]
      exact ic_WI_c h (fun p b hb => ⟨Or.inl, fun k => k.elim id (fun k => by omega)⟩)
  have s2 : ic_WI B T F (fun p b => (ic_Es B T F i p b ∨ (p = i ∧ b = T i)) ∨ (p = i ∧ b = F i)) ρ'' D'' := by
    by_cases g : F i < B
    · obtain ⟨e1, e2⟩ := k2.1 g
      rw [e1, e2]
      exact ic_WI_e hB s1 hq g
    · obtain ⟨e1, e2⟩ := k2.2 g
      rw [e1, e2]
      exact ic_WI_c s1 (fun p b hb => ⟨Or.inl, fun k => k.elim id (fun k => by omega)⟩)
  refine ic_WI_c s2 (fun p b hb => ?_)
  constructor
  · rintro ((⟨g1, g2⟩ | ⟨g1, g2⟩) | ⟨g1, g2⟩)
    · exact ⟨by omega, g2⟩
    · rw [g1, g2]
      exact ⟨by omega, r, Or.inl rfl⟩
    · rw [g1, g2]
      exact ⟨by omega, r, Or.inr rfl⟩
  · rintro ⟨g1, g2, g3⟩
    by_cases e : p = i
    · rw [e] at g3
      rcases g3 with g3 | g3
      · exact Or.inl (Or.inr ⟨e, g3.symm⟩)
      · exact Or.inr ⟨e, g3.symm⟩
    · exact Or.inl (Or.inl ⟨by omega, g2, g3⟩)
/-! numbers of guards -/
theorem ic_gn_new {b : Nat} (hb : b < 12) : (ic_gn B T F b = ic_cnt B T F b → ic_cnt B T F (b + 1) = ic_cnt B T F b + 1) ∧ (ic_gn B T F b ≠ ic_cnt B T F b → ic_cnt B T F (b + 1) = ic_cnt B T F b) := by
  have hc := ic_cnt_le (B := B) (T := T) (F := F) b
  rcases Classical.em (ic_ldr B T F b) with g | g
  · rw [ic_gn_t g.1, ic_G_new g, ic_cnt_s, ic_c_t g]
    exact ⟨fun _ => rfl, fun z => absurd rfl z⟩
  · rw [ic_cnt_s, ic_c_f g]
    refine ⟨fun z => ?_, fun _ => rfl⟩
    rcases Classical.em (ic_Re B T F b) with r | r
    · have s := ic_ld_s r
      rw [ic_gn_t r] at z
      have e : ic_ld B T F b ≠ b := fun e => by
        have := s.2.1
        rw [e] at this
        exact g this
      have : ic_G B T F b < ic_cnt B T F b := ic_cnt_lt s.2.1 (by omega)
      omega
    · rw [ic_gn_f r] at z
      omega
/-- a block that shares no guard with a smaller one is a leader -/
theorem ic_ldr_of {b : Nat} (r : ic_Re B T F b) (h : ∀ a, a < b → ic_Re B T F a → ¬ ic_Tg B T F a b) : ic_ldr B T F b := ⟨r, fun a ha k => h a ha k.1 k.2⟩
theorem ic_Do_Re {a b : Nat} (r : ic_Re B T F b) (h : ic_Do B T F b a) : ic_Re B T F a := by
  obtain ⟨w, hw⟩ := r
  obtain ⟨w', _, _, k, _⟩ := ic_split hw (h w hw)
  exact ⟨w', k⟩
/-- what X looks at to share a guard -/
theorem ic_share (ok : ic_Ok B T F) {ρ : Int32} {D P : Nat → Int32} (hD : ic_WD B T F ρ D) (hP : ic_PD B T F P) {a b : Nat} (hab : a < b) (hb : b < B) (r : ic_Re B T F b) : (bt (D b) a = true ∧ bt (P a) b = true) ↔ (ic_Re B T F a ∧ ic_Tg B T F a b) := by
  rw [(hD b hb).2 a (by omega), hP a (by omega) b]
  constructor
  · intro h
    exact ⟨ic_Do_Re r h.1, (ic_Tg_iff ok hab hb r).mp h⟩
  · intro h
    exact (ic_Tg_iff ok hab hb r).mpr h.2
theorem ic_PD_s {x : Nat} {p q : Int32} (hx : x < B) (h1 : ∀ y, bt p y = true ↔ ic_A B T F (T x) y) (h2 : ∀ y, bt q y = true ↔ ic_A B T F (F x) y) (hB : B ≤ 12) (y : Nat) : bt ((p &&& q) ||| ((1 : Int32) <<< (nI x &&& 31))) y = true ↔ ic_A B T F x y := by
  rw [b_or, b_and, ic_sh (by omega), Bool.or_eq_true, Bool.and_eq_true, decide_eq_true_iff, h1, h2, ic_A_s hx]
  exact or_comm
theorem ic_dep {p q : Int32} {a z y : Nat} (h1 : ∀ y, bt p y = true ↔ ic_A B T F z y) (h2 : ∀ y, bt q y = true ↔ ic_A B T F a y) (hy : y < 32) : bt (p &&& (q ^^^ (-1))) y = true ↔ (ic_A B T F z y ∧ ¬ ic_A B T F a y) := by
  rw [b_and, ic_not _ hy, Bool.and_eq_true, h1, Bool.not_eq_true', ← h2, Bool.not_eq_true]
end
