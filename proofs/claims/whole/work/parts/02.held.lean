/-! which guards are held after the blocks of a walk, and the sets of blocks that are paths -/
section
variable (B : Nat) (T F : Nat → Nat)
/-- V: the blocks that have run; c: where the run is; H: the guards that are held -/
def ic_Inv (V : List Nat) (c : Nat) (H : Nat → Bool) : Prop :=
  ic_wy B T F V 0 c ∧ c ≤ B ∧ H 12 = false ∧ ∀ x, x < B → ic_Re B T F x → (H (ic_G B T F x) = true ↔ (x ∈ V ∨ ic_A B T F c x))
/-- the guards that the edge from a to z makes true -/
def ic_Mk (a z k : Nat) : Prop := ∃ b, b < B ∧ ic_A B T F z b ∧ ¬ ic_A B T F a b ∧ ic_G B T F b = k
def ic_PT (S : Nat → Bool) : Nat → Nat → (Nat → Prop) → Prop
  | 0, b, E => E b
  | d + 1, b, E => (S b = true → E b ∧ ic_PT S d (b + 1) (fun y => T b = y ∨ F b = y)) ∧ (S b = false → ic_PT S d (b + 1) E)
def ic_YP (S : Nat → Bool) (x : Nat) : Prop := ∃ l, ic_wy B T F l x B ∧ ∀ y, y < B → (S y = true ↔ y ∈ l)
end
section
variable {B : Nat} {T F : Nat → Nat}
theorem ic_G_12 {b : Nat} (r : ic_Re B T F b) (hb : b < B) (hB : B ≤ 12) : ic_G B T F b < 12 := by
  have h1 := ic_G_lt r
  have h2 := ic_cnt_le (B := B) (T := T) (F := F) (b + 1)
  omega
theorem ic_ldr_0 : ic_ldr B T F 0 := ⟨ic_Re_0, fun a ha => absurd ha (Nat.not_lt_zero a)⟩
theorem ic_G_0 : ic_G B T F 0 = 0 := ic_G_new ic_ldr_0
theorem ic_Inv_0 (hB : 0 < B) {H : Nat → Bool} (hH : ∀ k, k ≤ 12 → H k = decide (k = 0)) (hB2 : B ≤ 12) : ic_Inv B T F [] 0 H := by
  refine ⟨rfl, by omega, (hH 12 (by omega)).trans (by decide), fun x hx r => ?_⟩
  have g := ic_G_12 r hx hB2
  rw [hH _ (by omega), decide_eq_true_iff]
  constructor
  · intro e
    right
    intro l hl
    exact (ic_G_Tg r ic_Re_0 (e.trans ic_G_0.symm) l hl).mpr (ic_hd hB hl)
  · rintro (m | h)
    · cases m
    · have t : ic_Tg B T F 0 x := fun l hl => ⟨fun _ => h l hl, fun _ => ic_hd hB hl⟩
      rw [ic_G_eq ic_Re_0 r t, ic_G_0]
theorem ic_Inv_s (ok : ic_Ok B T F) (hB : B ≤ 12) {V : List Nat} {c z : Nat} {H H' : Nat → Bool} (I : ic_Inv B T F V c H) (hc : c < B) (hz : T c = z ∨ F c = z) (hH : ∀ k, k ≤ 12 → (H' k = true ↔ (H k = true ∨ ic_Mk B T F c z k))) : ic_Inv B T F (V ++ [c]) z H' := by
  obtain ⟨i1, i2, i3, i4⟩ := I
  have hw := ic_snoc i1 hc hz
  have hzB : z ≤ B := by
    have o := ok c hc
    rcases hz with e | e
    · omega
    · omega
  have rz : ic_Re B T F z := ⟨_, hw⟩
  have rc : ic_Re B T F c := ⟨_, i1⟩
  refine ⟨hw, hzB, ?_, fun x hx r => ?_⟩
  · cases e : H' 12 with
    | false => rfl
    | true =>
      rcases (hH 12 (Nat.le_refl _)).mp e with g | ⟨b, hb, h1, _, h3⟩
      · rw [i3] at g
        cases g
      · have := ic_G_12 (ic_A_Re ok hzB rz h1) hb hB
        omega
  · rw [hH _ (Nat.le_of_lt (ic_G_12 r hx hB)), i4 x hx r]
    constructor
    · rintro ((g | g) | ⟨b, hb, h1, _, h3⟩)
      · exact Or.inl (List.mem_append.mpr (Or.inl g))
      · rcases (ic_A_s hc).mp g with e | ⟨e1, e2⟩
        · exact Or.inl (List.mem_append.mpr (Or.inr (List.mem_singleton.mpr e)))
        · right
          rcases hz with e | e
          · rw [← e]; exact e1
          · rw [← e]; exact e2
      · by_cases m : x ∈ V ++ [c]
        · exact Or.inl m
        · right
          intro l hl
          have t := ic_G_Tg (ic_A_Re ok hzB rz h1) r h3
          have m2 := (t (V ++ [c] ++ l) (ic_app hw hl)).mp (List.mem_append.mpr (Or.inr (h1 l hl)))
          rcases List.mem_append.mp m2 with g | g
          · exact absurd g m
          · exact g
    · rintro (m | g)
      · rcases List.mem_append.mp m with m | m
        · exact Or.inl (Or.inl m)
        · left
          right
          rw [List.mem_singleton.mp m]
          exact (ic_A_s hc).mpr (Or.inl rfl)
      · rcases Classical.em (ic_A B T F c x) with a | a
        · exact Or.inl (Or.inr a)
        · exact Or.inr ⟨x, hx, g, a, rfl⟩
theorem ic_held (ok : ic_Ok B T F) {V : List Nat} {c i x : Nat} {H : Nat → Bool} (I : ic_Inv B T F V c H) (hV : ∀ v, v ∈ V → v < i) (h1 : i ≤ x) (h2 : x < B) (h3 : x ≤ c) : H (ic_gn B T F x) = true ↔ x = c := by
  obtain ⟨i1, i2, i3, i4⟩ := I
  constructor
  · intro g
    rcases Classical.em (ic_Re B T F x) with r | r
    · rw [ic_gn_t r, i4 x h2 r] at g
      rcases g with m | a
      · have := hV x m
        omega
      · have := ic_A_b ok i2 a
        omega
    · rw [ic_gn_f r, i3] at g
      cases g
  · intro e
    have r : ic_Re B T F x := by
      rw [e]
      exact ⟨V, i1⟩
    rw [ic_gn_t r, i4 x h2 r, e]
    exact Or.inr ((ic_A_s (by omega)).mpr (Or.inl rfl))
theorem ic_holds {V : List Nat} {c g : Nat} {H : Nat → Bool} (I : ic_Inv B T F V c H) (hg : g < ic_cnt B T F B) : H g = true ↔ ∀ l, ic_wy B T F l c B → ∀ b, b < B → ic_Re B T F b → ic_G B T F b = g → (b ∈ V ∨ b ∈ l) := by
  obtain ⟨i1, i2, i3, i4⟩ := I
  constructor
  · intro h l hl b hb r e
    rw [← e, i4 b hb r] at h
    rcases h with m | a
    · exact Or.inl m
    · exact Or.inr (a l hl)
  · intro h
    obtain ⟨x, hx, r, e⟩ := ic_G_on hg
    rw [← e, i4 x hx r]
    by_cases m : x ∈ V
    · exact Or.inl m
    · right
      intro l hl
      rcases h l hl x hx r e with k | k
      · exact absurd k m
      · exact k
theorem ic_PT_iff (ok : ic_Ok B T F) {S : Nat → Bool} : ∀ (d b : Nat) (E : Nat → Prop), b + d = B → (ic_PT T F S d b E ↔ ∃ x l, b ≤ x ∧ E x ∧ ic_wy B T F l x B ∧ ∀ y, b ≤ y → y < B → (S y = true ↔ y ∈ l)) := by
  intro d
  induction d with
  | zero =>
    intro b E hb
    constructor
    · intro h
      have h : E b := h
      have e : b = B := by omega
      exact ⟨b, [], Nat.le_refl _, h, e, fun y h1 h2 => by omega⟩
    · rintro ⟨x, l, h1, h2, h3, _⟩
      have := (ic_ge ok h3).1
      have e : x = b := by omega
      rw [e] at h2
      exact h2
  | succ d ih =>
    intro b E hb
    have o := ok b (by omega)
    constructor
    · rintro ⟨hp, hq⟩
      cases e : S b with
      | true =>
        obtain ⟨k1, k2⟩ := hp e
        obtain ⟨x, l, h1, h2, h3, h4⟩ := (ih (b + 1) _ (by omega)).mp k2
        refine ⟨b, b :: l, Nat.le_refl _, k1, ⟨rfl, by omega, ?_⟩, fun y y1 y2 => ?_⟩
        · rcases h2 with g | g
          · exact Or.inl (by rw [g]; exact h3)
          · exact Or.inr (by rw [g]; exact h3)
        · rw [List.mem_cons]
          by_cases eb : y = b
          · rw [eb, e]
            exact ⟨fun _ => Or.inl rfl, fun _ => rfl⟩
          · rw [h4 y (by omega) y2]
            exact ⟨fun g => Or.inr g, fun g => g.elim (fun z => absurd z eb) id⟩
      | false =>
        obtain ⟨x, l, h1, h2, h3, h4⟩ := (ih (b + 1) _ (by omega)).mp (hq e)
        refine ⟨x, l, by omega, h2, h3, fun y y1 y2 => ?_⟩
        by_cases eb : y = b
        · rw [eb, e]
          exact ⟨fun g => (by cases g), fun g => by have := (ic_ge ok h3).2 b g; omega⟩
        · exact h4 y (by omega) y2
    · rintro ⟨x, l, h1, h2, h3, h4⟩
      constructor
      · intro e
        have m : b ∈ l := (h4 b (Nat.le_refl _) (by omega)).mp e
        have hx := ((ic_ge ok h3).2 b m).1
        have ex : x = b := by omega
        rw [ex] at h2 h3
        refine ⟨h2, (ih (b + 1) _ (by omega)).mpr ?_⟩
        cases l with
        | nil => cases m
        | cons a l =>
          obtain ⟨q1, q2, q3⟩ := h3
          have q : ∃ z, (T b = z ∨ F b = z) ∧ b < z ∧ ic_wy B T F l z B := by
            rcases q3 with g | g
            · exact ⟨T b, Or.inl rfl, o.1, g⟩
            · exact ⟨F b, Or.inr rfl, o.2.2.1, g⟩
          obtain ⟨z, z1, z2, z3⟩ := q
          refine ⟨z, l, by omega, z1, z3, fun y y1 y2 => ?_⟩
          rw [h4 y (by omega) y2, List.mem_cons]
          exact ⟨fun g => g.elim (fun z => by omega) id, fun g => Or.inr g⟩
      · intro e
        have m : b ∉ l := fun g => by
          have := (h4 b (Nat.le_refl _) (by omega)).mpr g
          rw [e] at this
          cases this
        have ex : x ≠ b := fun g => by
          rw [g] at h3
          exact m (ic_hd (by omega) h3)
        exact (ih (b + 1) _ (by omega)).mpr ⟨x, l, by omega, h2, h3, fun y y1 y2 => h4 y (by omega) y2⟩
theorem ic_PT_YP (ok : ic_Ok B T F) {S : Nat → Bool} {x : Nat} : ic_PT T F S B 0 (fun y => y = x) ↔ ic_YP B T F S x := by
  rw [ic_PT_iff ok B 0 _ (by omega)]
  constructor
  · rintro ⟨y, l, _, e, h, k⟩
    have e : y = x := e
    rw [e] at h
    exact ⟨l, h, fun y hy => k y (Nat.zero_le _) hy⟩
  · rintro ⟨l, h, k⟩
    exact ⟨x, l, Nat.zero_le _, rfl, h, fun y _ hy => k y hy⟩
end
theorem ic_mask (n : Nat) (p : Nat → Prop) : ∃ m, m < 2 ^ n ∧ ∀ y, y < n → (m.testBit y = true ↔ p y) := by
  induction n with
  | zero => exact ⟨0, by decide, fun y hy => absurd hy (Nat.not_lt_zero y)⟩
  | succ n ih =>
    obtain ⟨m, h1, h2⟩ := ih
    have hm : m < 2 ^ (n + 1) := by rw [Nat.pow_succ]; omega
    rcases Classical.em (p n) with g | g
    · refine ⟨m ||| 2 ^ n, Nat.or_lt_two_pow hm (by rw [Nat.pow_succ]; have := Nat.two_pow_pos n; omega), fun y hy => ?_⟩
      rw [Nat.testBit_or, Nat.testBit_two_pow]
      by_cases e : y = n
      · subst e
        simp [g]
      · have : n ≠ y := fun z => e z.symm
        simp [this]
        exact h2 y (by omega)
    · refine ⟨m, hm, fun y hy => ?_⟩
      by_cases e : y = n
      · subst e
        rw [Nat.testBit_lt_two_pow h1]
        exact ⟨fun z => (by cases z), fun z => absurd z g⟩
      · exact h2 y (by omega)
/-! what the reference's searches over all sets say -/
section
variable {B : Nat} {T F : Nat → Nat}
theorem ic_set_A {x b : Nat} (hb : b < B) : (∀ m, m < 2 ^ B → ic_YP B T F m.testBit x → m.testBit b = true) ↔ ic_A B T F x b := by
  constructor
  · intro h l hl
    obtain ⟨m, h1, h2⟩ := ic_mask B (fun y => y ∈ l)
    exact (h2 b hb).mp (h m h1 ⟨l, hl, h2⟩)
  · rintro h m hm ⟨l, hl, k⟩
    exact (k b hb).mpr (h l hl)
theorem ic_set_Tg (ok : ic_Ok B T F) {a b : Nat} (ha : a ≤ B) (hb : b ≤ B) : (∀ m, m < 2 ^ B → ic_YP B T F m.testBit 0 → m.testBit a = m.testBit b) ↔ ic_Tg B T F a b := by
  have H : ∀ m l x, m < 2 ^ B → ic_wy B T F l 0 B → (∀ y, y < B → (m.testBit y = true ↔ y ∈ l)) → x ≤ B → (m.testBit x = true ↔ x ∈ l) := by
    intro m l x hm hl hk hx
    by_cases e : x < B
    · exact hk x e
    · have e : x = B := by omega
      rw [e, Nat.testBit_lt_two_pow hm]
      exact ⟨fun z => (by cases z), fun z => by have := (ic_ge ok hl).2 B z; omega⟩
  constructor
  · intro h l hl
    obtain ⟨m, h1, h2⟩ := ic_mask B (fun y => y ∈ l)
    rw [← H m l a h1 hl h2 ha, ← H m l b h1 hl h2 hb, h m h1 ⟨l, hl, h2⟩]
  · rintro h m hm ⟨l, hl, k⟩
    have := h l hl
    rw [← H m l a hm hl k ha, ← H m l b hm hl k hb] at this
    exact Bool.eq_iff_iff.mpr this
theorem ic_Tg_B (ok : ic_Ok B T F) {b : Nat} (hb : b < B) : ic_Tg B T F b B ↔ ¬ ic_Re B T F b := by
  constructor
  · intro h r
    obtain ⟨l, hl, m⟩ := (ic_Re_c ok).mpr ⟨hb, r⟩
    have := (ic_ge ok hl).2 B ((h l hl).mp m)
    omega
  · intro h l hl
    exact ⟨fun m => absurd ((ic_Re_c ok).mp ⟨l, hl, m⟩).2 h, fun m => by have := (ic_ge ok hl).2 B m; omega⟩
end
