section
/-! the mathematics: walks over a region whose edges rise, what lies on every path, what is passed on every way, guards -/
section
variable (B : Nat) (T F : Nat → Nat)
/-- a walk from x to y over the blocks w (y itself left out) -/
def ic_wy : List Nat → Nat → Nat → Prop
  | [], x, y => x = y
  | a :: w, x, y => a = x ∧ x < B ∧ (ic_wy w (T x) y ∨ ic_wy w (F x) y)
def ic_Ok : Prop := ∀ b, b < B → b < T b ∧ T b ≤ B ∧ b < F b ∧ F b ≤ B
/-- every path from x contains b -/
def ic_A (x b : Nat) : Prop := ∀ l, ic_wy B T F l x B → b ∈ l
def ic_Re (b : Nat) : Prop := ∃ w, ic_wy B T F w 0 b
/-- every way from 0 to b passes a -/
def ic_Do (b a : Nat) : Prop := ∀ w, ic_wy B T F w 0 b → a ∈ w
def ic_Tg (a b : Nat) : Prop := ∀ l, ic_wy B T F l 0 B → (a ∈ l ↔ b ∈ l)
end
section
variable {B : Nat} {T F : Nat → Nat}
theorem ic_app {w l : List Nat} {x y z : Nat} (h : ic_wy B T F w x y) (k : ic_wy B T F l y z) : ic_wy B T F (w ++ l) x z := by
  induction w generalizing x with
  | nil =>
    have h : x = y := h
    rw [h]
    exact k
  | cons a w ih =>
    obtain ⟨h1, h2, h3⟩ := h
    exact ⟨h1, h2, h3.elim (fun g => Or.inl (ih g)) (fun g => Or.inr (ih g))⟩
theorem ic_split {l : List Nat} {x y z : Nat} (h : ic_wy B T F l x z) (m : y ∈ l) : ∃ w l', l = w ++ l' ∧ ic_wy B T F w x y ∧ ic_wy B T F l' y z := by
  induction l generalizing x with
  | nil => cases m
  | cons a l ih =>
    have h' := h
    obtain ⟨h1, h2, h3⟩ := h
    by_cases e : y = a
    · have ex : x = y := h1.symm.trans e.symm
      exact ⟨[], a :: l, rfl, ex, by rw [← ex]; exact h'⟩
    · have m' : y ∈ l := by
        rcases List.mem_cons.mp m with g | g
        · exact absurd g e
        · exact g
      rcases h3 with g | g
      · obtain ⟨w, l', e1, e2, e3⟩ := ih g m'
        exact ⟨a :: w, l', by simp [e1], ⟨h1, h2, Or.inl e2⟩, e3⟩
      · obtain ⟨w, l', e1, e2, e3⟩ := ih g m'
        exact ⟨a :: w, l', by simp [e1], ⟨h1, h2, Or.inr e2⟩, e3⟩
theorem ic_ge (ok : ic_Ok B T F) {w : List Nat} {x y : Nat} (h : ic_wy B T F w x y) : x ≤ y ∧ ∀ a, a ∈ w → x ≤ a ∧ a < y := by
  induction w generalizing x with
  | nil =>
    have h : x = y := h
    exact ⟨by omega, fun a m => by cases m⟩
  | cons b w ih =>
    obtain ⟨h1, h2, h3⟩ := h
    have o := ok x h2
    have q : ∃ z, x < z ∧ z ≤ y ∧ ∀ a, a ∈ w → z ≤ a ∧ a < y := by
      rcases h3 with g | g
      · exact ⟨T x, o.1, (ih g).1, (ih g).2⟩
      · exact ⟨F x, o.2.2.1, (ih g).1, (ih g).2⟩
    obtain ⟨z, q1, q2, q3⟩ := q
    refine ⟨by omega, fun a m => ?_⟩
    rcases List.mem_cons.mp m with g | g
    · omega
    · have := q3 a g
      omega
theorem ic_ex (ok : ic_Ok B T F) {x : Nat} (hx : x ≤ B) : ∃ l, ic_wy B T F l x B := by
  have H : ∀ n x, x ≤ B → B - x ≤ n → ∃ l, ic_wy B T F l x B := by
    intro n
    induction n with
    | zero =>
      intro x h1 h2
      have e : x = B := by omega
      exact ⟨[], e⟩
    | succ n ih =>
      intro x h1 h2
      by_cases e : x = B
      · exact ⟨[], e⟩
      · have o := ok x (by omega)
        obtain ⟨l, hl⟩ := ih (T x) o.2.1 (by omega)
        exact ⟨x :: l, rfl, by omega, Or.inl hl⟩
  exact H _ x hx (Nat.le_refl _)
theorem ic_A_B {b : Nat} : ¬ ic_A B T F B b := fun h => by
  have g := h [] rfl
  cases g
theorem ic_A_s {x b : Nat} (hx : x < B) : ic_A B T F x b ↔ (b = x ∨ (ic_A B T F (T x) b ∧ ic_A B T F (F x) b)) := by
  constructor
  · intro h
    by_cases e : b = x
    · exact Or.inl e
    · refine Or.inr ⟨fun l hl => ?_, fun l hl => ?_⟩
      · have m := h (x :: l) ⟨rfl, hx, Or.inl hl⟩
        rcases List.mem_cons.mp m with g | g
        · exact absurd g e
        · exact g
      · have m := h (x :: l) ⟨rfl, hx, Or.inr hl⟩
        rcases List.mem_cons.mp m with g | g
        · exact absurd g e
        · exact g
  · intro h l hl
    cases l with
    | nil =>
      have e : x = B := hl
      omega
    | cons a l =>
      obtain ⟨h1, _, h3⟩ := hl
      rcases h with e | ⟨g1, g2⟩
      · have e2 : b = a := by omega
        rw [e2]
        exact List.mem_cons.mpr (Or.inl rfl)
      · rcases h3 with k | k
        · exact List.mem_cons_of_mem _ (g1 l k)
        · exact List.mem_cons_of_mem _ (g2 l k)
theorem ic_A_b (ok : ic_Ok B T F) {x b : Nat} (hx : x ≤ B) (h : ic_A B T F x b) : x ≤ b ∧ b < B := by
  obtain ⟨l, hl⟩ := ic_ex ok hx
  exact (ic_ge ok hl).2 b (h l hl)
theorem ic_snoc {w : List Nat} {x y z : Nat} (h : ic_wy B T F w x y) (hy : y < B) (e : T y = z ∨ F y = z) : ic_wy B T F (w ++ [y]) x z := by
  refine ic_app h ⟨rfl, hy, ?_⟩
  rcases e with e | e
  · exact Or.inl e
  · exact Or.inr e
theorem ic_last {w : List Nat} {x z : Nat} (h : ic_wy B T F w x z) : (w = [] ∧ x = z) ∨ ∃ w' y, w = w' ++ [y] ∧ ic_wy B T F w' x y ∧ y < B ∧ (T y = z ∨ F y = z) := by
  induction w generalizing x with
  | nil => exact Or.inl ⟨rfl, h⟩
  | cons a w ih =>
    obtain ⟨h1, h2, h3⟩ := h
    have q : ∃ t, (T x = t ∨ F x = t) ∧ ic_wy B T F w t z := by
      rcases h3 with g | g
      · exact ⟨T x, Or.inl rfl, g⟩
      · exact ⟨F x, Or.inr rfl, g⟩
    obtain ⟨t, q1, q2⟩ := q
    rcases ih q2 with ⟨e1, e2⟩ | ⟨w', y, e1, e2, e3, e4⟩
    · rw [e2] at q1
      exact Or.inr ⟨[], x, by simp [e1, h1], rfl, h2, q1⟩
    · refine Or.inr ⟨a :: w', y, by simp [e1], ⟨h1, h2, ?_⟩, e3, e4⟩
      rcases q1 with g | g
      · exact Or.inl (by rw [g]; exact e2)
      · exact Or.inr (by rw [g]; exact e2)
theorem ic_Re_0 : ic_Re B T F 0 := ⟨[], rfl⟩
theorem ic_Re_s {b : Nat} : ic_Re B T F b ↔ (b = 0 ∨ ∃ p, p < B ∧ ic_Re B T F p ∧ (T p = b ∨ F p = b)) := by
  constructor
  · rintro ⟨w, h⟩
    rcases ic_last h with ⟨_, e⟩ | ⟨w', y, _, e2, e3, e4⟩
    · exact Or.inl e.symm
    · exact Or.inr ⟨y, e3, ⟨w', e2⟩, e4⟩
  · rintro (e | ⟨p, h1, ⟨w, h2⟩, h3⟩)
    · exact ⟨[], e.symm⟩
    · exact ⟨w ++ [p], ic_snoc h2 h1 h3⟩
theorem ic_Do_s {b a : Nat} : ic_Do B T F b a ↔ (b ≠ 0 ∧ ∀ p, p < B → ic_Re B T F p → (T p = b ∨ F p = b) → (ic_Do B T F p a ∨ a = p)) := by
  constructor
  · intro h
    refine ⟨fun e => ?_, fun p hp hr he => ?_⟩
    · have g := h [] (e.symm)
      cases g
    · by_cases e : a = p
      · exact Or.inr e
      · refine Or.inl fun w hw => ?_
        have m := h (w ++ [p]) (ic_snoc hw hp he)
        rcases List.mem_append.mp m with g | g
        · exact g
        · exact absurd (List.mem_singleton.mp g) e
  · rintro ⟨h0, h⟩ w hw
    rcases ic_last hw with ⟨_, e⟩ | ⟨w', y, e1, e2, e3, e4⟩
    · exact absurd e.symm h0
    · rw [e1]
      rcases h y e3 ⟨w', e2⟩ e4 with g | g
      · exact List.mem_append.mpr (Or.inl (g w' e2))
      · exact List.mem_append.mpr (Or.inr (List.mem_singleton.mpr g))
theorem ic_A_Re (ok : ic_Ok B T F) {z b : Nat} (hz : z ≤ B) (r : ic_Re B T F z) (h : ic_A B T F z b) : ic_Re B T F b := by
  obtain ⟨w, hw⟩ := r
  obtain ⟨l, hl⟩ := ic_ex ok hz
  obtain ⟨w', l', _, k, _⟩ := ic_split hl (h l hl)
  exact ⟨w ++ w', ic_app hw k⟩
theorem ic_hd {l : List Nat} {b : Nat} (hb : b < B) (h : ic_wy B T F l b B) : b ∈ l := (ic_A_s (T := T) (F := F) hb).mpr (Or.inl rfl) l h
theorem ic_Re_c (ok : ic_Ok B T F) {b : Nat} : (∃ l, ic_wy B T F l 0 B ∧ b ∈ l) ↔ (b < B ∧ ic_Re B T F b) := by
  constructor
  · rintro ⟨l, h, m⟩
    obtain ⟨w, l', _, k, _⟩ := ic_split h m
    exact ⟨((ic_ge ok h).2 b m).2, w, k⟩
  · rintro ⟨hb, w, h⟩
    obtain ⟨l, hl⟩ := ic_ex ok (Nat.le_of_lt hb)
    exact ⟨w ++ l, ic_app h hl, List.mem_append.mpr (Or.inr (ic_hd hb hl))⟩
theorem ic_Tg_iff (ok : ic_Ok B T F) {a b : Nat} (hab : a < b) (hb : b < B) (r : ic_Re B T F b) : (ic_Do B T F b a ∧ ic_A B T F a b) ↔ ic_Tg B T F a b := by
  constructor
  · rintro ⟨h1, h2⟩ l hl
    constructor
    · intro m
      obtain ⟨w, l', e, _, k2⟩ := ic_split hl m
      rw [e]
      exact List.mem_append.mpr (Or.inr (h2 l' k2))
    · intro m
      obtain ⟨w, l', e, k1, _⟩ := ic_split hl m
      rw [e]
      exact List.mem_append.mpr (Or.inl (h1 w k1))
  · intro h
    have hD : ic_Do B T F b a := by
      intro w hw
      obtain ⟨l, hl⟩ := ic_ex ok (Nat.le_of_lt hb)
      have m := (h (w ++ l) (ic_app hw hl)).mpr (List.mem_append.mpr (Or.inr (ic_hd hb hl)))
      rcases List.mem_append.mp m with g | g
      · exact g
      · have := (ic_ge ok hl).2 a g
        omega
    refine ⟨hD, fun l hl => ?_⟩
    obtain ⟨w0, hw0⟩ := r
    obtain ⟨w, _, _, k1, _⟩ := ic_split hw0 (hD w0 hw0)
    have m := (h (w ++ l) (ic_app k1 hl)).mp (List.mem_append.mpr (Or.inr (ic_hd (by omega) hl)))
    rcases List.mem_append.mp m with g | g
    · have := (ic_ge ok k1).2 b g
      omega
    · exact g
theorem ic_Tg_r {a : Nat} : ic_Tg B T F a a := fun _ _ => Iff.rfl
theorem ic_Tg_y {a b : Nat} (h : ic_Tg B T F a b) : ic_Tg B T F b a := fun l hl => (h l hl).symm
theorem ic_Tg_t {a b c : Nat} (h : ic_Tg B T F a b) (k : ic_Tg B T F b c) : ic_Tg B T F a c := fun l hl => (h l hl).trans (k l hl)
end
/-! guards: leaders, their count, each block's number -/
noncomputable def ic_c (p : Prop) : Nat := @ite Nat p (Classical.propDecidable p) 1 0
theorem ic_c_t {p : Prop} (h : p) : ic_c p = 1 := if_pos h
theorem ic_c_f {p : Prop} (h : ¬ p) : ic_c p = 0 := if_neg h
section
variable (B : Nat) (T F : Nat → Nat)
def ic_ldr (b : Nat) : Prop := ic_Re B T F b ∧ ∀ a, a < b → ¬ (ic_Re B T F a ∧ ic_Tg B T F a b)
noncomputable def ic_cnt : Nat → Nat
  | 0 => 0
  | i + 1 => ic_cnt i + ic_c (ic_ldr B T F i)
noncomputable def ic_ld (b : Nat) : Nat := Classical.epsilon (fun x => x ≤ b ∧ ic_ldr B T F x ∧ ic_Tg B T F x b)
noncomputable def ic_G (b : Nat) : Nat := ic_cnt B T F (ic_ld B T F b)
/-- the guard number that X keeps: 12 where there is none -/
noncomputable def ic_gn (b : Nat) : Nat := @ite Nat (ic_Re B T F b) (Classical.propDecidable _) (ic_G B T F b) 12
end
section
variable {B : Nat} {T F : Nat → Nat}
theorem ic_gn_t {b : Nat} (h : ic_Re B T F b) : ic_gn B T F b = ic_G B T F b := if_pos h
theorem ic_gn_f {b : Nat} (h : ¬ ic_Re B T F b) : ic_gn B T F b = 12 := if_neg h
theorem ic_ld_ex : ∀ n b, b ≤ n → ic_Re B T F b → ∃ x, x ≤ b ∧ ic_ldr B T F x ∧ ic_Tg B T F x b := by
  intro n
  induction n with
  | zero =>
    intro b hb r
    exact ⟨b, Nat.le_refl _, ⟨r, fun a ha => by omega⟩, ic_Tg_r⟩
  | succ n ih =>
    intro b hb r
    rcases Classical.em (∃ a, a < b ∧ ic_Re B T F a ∧ ic_Tg B T F a b) with ⟨a, h1, h2, h3⟩ | h
    · obtain ⟨x, k1, k2, k3⟩ := ih a (by omega) h2
      exact ⟨x, by omega, k2, ic_Tg_t k3 h3⟩
    · exact ⟨b, Nat.le_refl _, ⟨r, fun a ha hh => h ⟨a, ha, hh⟩⟩, ic_Tg_r⟩
theorem ic_ld_s {b : Nat} (r : ic_Re B T F b) : ic_ld B T F b ≤ b ∧ ic_ldr B T F (ic_ld B T F b) ∧ ic_Tg B T F (ic_ld B T F b) b :=
  Classical.epsilon_spec (p := fun x => x ≤ b ∧ ic_ldr B T F x ∧ ic_Tg B T F x b) (ic_ld_ex b b (Nat.le_refl _) r)
theorem ic_ldr_u {x y : Nat} (hx : ic_ldr B T F x) (hy : ic_ldr B T F y) (h : ic_Tg B T F x y) : x = y := by
  rcases Nat.lt_trichotomy x y with g | g | g
  · exact absurd ⟨hx.1, h⟩ (hy.2 x g)
  · exact g
  · exact absurd ⟨hy.1, ic_Tg_y h⟩ (hx.2 y g)
theorem ic_cnt_s (i : Nat) : ic_cnt B T F (i + 1) = ic_cnt B T F i + ic_c (ic_ldr B T F i) := rfl
theorem ic_cnt_mono {i j : Nat} (h : i ≤ j) : ic_cnt B T F i ≤ ic_cnt B T F j := by
  induction h with
  | refl => exact Nat.le_refl _
  | step _ ih => exact Nat.le_trans ih (by rw [ic_cnt_s]; omega)
theorem ic_cnt_lt {i j : Nat} (hi : ic_ldr B T F i) (h : i < j) : ic_cnt B T F i < ic_cnt B T F j := by
  have h1 : ic_cnt B T F (i + 1) ≤ ic_cnt B T F j := ic_cnt_mono h
  have h2 := ic_cnt_s (B := B) (T := T) (F := F) i
  rw [ic_c_t hi] at h2
  omega
theorem ic_cnt_le (i : Nat) : ic_cnt B T F i ≤ i := by
  induction i with
  | zero => exact Nat.le_refl _
  | succ i ih =>
    rw [ic_cnt_s]
    rcases Classical.em (ic_ldr B T F i) with h | h
    · rw [ic_c_t h]; omega
    · rw [ic_c_f h]; omega
theorem ic_G_new {b : Nat} (h : ic_ldr B T F b) : ic_G B T F b = ic_cnt B T F b := by
  have s := ic_ld_s h.1
  unfold ic_G
  rw [ic_ldr_u s.2.1 h s.2.2]
theorem ic_G_eq {a b : Nat} (ra : ic_Re B T F a) (rb : ic_Re B T F b) (h : ic_Tg B T F a b) : ic_G B T F b = ic_G B T F a := by
  have sa := ic_ld_s ra
  have sb := ic_ld_s rb
  unfold ic_G
  rw [ic_ldr_u sa.2.1 sb.2.1 (ic_Tg_t sa.2.2 (ic_Tg_t h (ic_Tg_y sb.2.2)))]
theorem ic_G_lt {b : Nat} (r : ic_Re B T F b) : ic_G B T F b < ic_cnt B T F (b + 1) := by
  have s := ic_ld_s r
  exact ic_cnt_lt s.2.1 (by omega)
theorem ic_G_Tg {a b : Nat} (ra : ic_Re B T F a) (rb : ic_Re B T F b) (h : ic_G B T F a = ic_G B T F b) : ic_Tg B T F a b := by
  have sa := ic_ld_s ra
  have sb := ic_ld_s rb
  have e : ic_ld B T F a = ic_ld B T F b := by
    unfold ic_G at h
    rcases Nat.lt_trichotomy (ic_ld B T F a) (ic_ld B T F b) with g | g | g
    · have := ic_cnt_lt sa.2.1 g
      omega
    · exact g
    · have := ic_cnt_lt sb.2.1 g
      omega
  have s2 := sa.2.2
  rw [e] at s2
  exact ic_Tg_t (ic_Tg_y s2) sb.2.2
theorem ic_G_on {i k : Nat} (h : k < ic_cnt B T F i) : ∃ b, b < i ∧ ic_Re B T F b ∧ ic_G B T F b = k := by
  induction i with
  | zero => exact absurd h (Nat.not_lt_zero _)
  | succ i ih =>
    rw [ic_cnt_s] at h
    rcases Classical.em (ic_ldr B T F i) with g | g
    · rw [ic_c_t g] at h
      by_cases e : k = ic_cnt B T F i
      · exact ⟨i, by omega, g.1, by rw [ic_G_new g, e]⟩
      · obtain ⟨b, h1, h2⟩ := ih (by omega)
        exact ⟨b, by omega, h2⟩
    · rw [ic_c_f g] at h
      obtain ⟨b, h1, h2⟩ := ih (by omega)
      exact ⟨b, by omega, h2⟩
theorem ic_gn_le {b : Nat} (h : b < B) (hB : B ≤ 12) : ic_gn B T F b ≤ 12 := by
  rcases Classical.em (ic_Re B T F b) with g | g
  · have h1 := ic_G_lt g
    have h2 := ic_cnt_le (B := B) (T := T) (F := F) (b + 1)
    rw [ic_gn_t g]
    omega
  · rw [ic_gn_f g]
    exact Nat.le_refl _
end
end
section
/-! which guards are held after the blocks of a walk, and the sets of blocks that are paths -/
section
variable (B : Nat) (T F : Nat → Nat)
/-- V: the blocks that have run; c: where the run is; H: the guards that are held -/
def ic_Inv (V : List Nat) (c : Nat) (H : Nat → Bool) : Prop :=
  ic_wy B T F V 0 c ∧ c ≤ B ∧ H 12 = false ∧ ∀ x, x < B → ic_Re B T F x → (H (ic_G B T F x) = true ↔ (x ∈ V ∨ ic_A B T F c x))
/-- the guards that the edge from a to z makes true -/
def ic_Mk (a z k : Nat) : Prop := ∃ b, b < B ∧ ic_A B T F z b ∧ ¬ ic_A B T F a b ∧ ic_G B T F b = k
def ic_PT (S : Nat → Bool) : Nat → Nat → (Nat → Prop) → Prop
  | 0, b, E => E b
  | d + 1, b, E => (S b = true → E b ∧ ic_PT S d (b + 1) (fun y => T b = y ∨ F b = y)) ∧ (S b = false → ic_PT S d (b + 1) E)
def ic_YP (S : Nat → Bool) (x : Nat) : Prop := ∃ l, ic_wy B T F l x B ∧ ∀ y, y < B → (S y = true ↔ y ∈ l)
end
section
variable {B : Nat} {T F : Nat → Nat}
theorem ic_G_12 {b : Nat} (r : ic_Re B T F b) (hb : b < B) (hB : B ≤ 12) : ic_G B T F b < 12 := by
  have h1 := ic_G_lt r
  have h2 := ic_cnt_le (B := B) (T := T) (F := F) (b + 1)
  omega
theorem ic_ldr_0 : ic_ldr B T F 0 := ⟨ic_Re_0, fun a ha => absurd ha (Nat.not_lt_zero a)⟩
theorem ic_G_0 : ic_G B T F 0 = 0 := ic_G_new ic_ldr_0
theorem ic_Inv_0 (hB : 0 < B) {H : Nat → Bool} (hH : ∀ k, k ≤ 12 → H k = decide (k = 0)) (hB2 : B ≤ 12) : ic_Inv B T F [] 0 H := by
  refine ⟨rfl, by omega, (hH 12 (by omega)).trans (by decide), fun x hx r => ?_⟩
  have g := ic_G_12 r hx hB2
  rw [hH _ (by omega), decide_eq_true_iff]
  constructor
  · intro e
    right
    intro l hl
    exact (ic_G_Tg r ic_Re_0 (e.trans ic_G_0.symm) l hl).mpr (ic_hd hB hl)
  · rintro (m | h)
    · cases m
    · have t : ic_Tg B T F 0 x := fun l hl => ⟨fun _ => h l hl, fun _ => ic_hd hB hl⟩
      rw [ic_G_eq ic_Re_0 r t, ic_G_0]
theorem ic_Inv_s (ok : ic_Ok B T F) (hB : B ≤ 12) {V : List Nat} {c z : Nat} {H H' : Nat → Bool} (I : ic_Inv B T F V c H) (hc : c < B) (hz : T c = z ∨ F c = z) (hH : ∀ k, k ≤ 12 → (H' k = true ↔ (H k = true ∨ ic_Mk B T F c z k))) : ic_Inv B T F (V ++ [c]) z H' := by
  obtain ⟨i1, i2, i3, i4⟩ := I
  have hw := ic_snoc i1 hc hz
  have hzB : z ≤ B := by
    have o := ok c hc
    rcases hz with e | e
    · omega
    · omega
  have rz : ic_Re B T F z := ⟨_, hw⟩
  have rc : ic_Re B T F c := ⟨_, i1⟩
  refine ⟨hw, hzB, ?_, fun x hx r => ?_⟩
  · cases e : H' 12 with
    | false => rfl
    | true =>
      rcases (hH 12 (Nat.le_refl _)).mp e with g | ⟨b, hb, h1, _, h3⟩
      · rw [i3] at g
        cases g
      · have := ic_G_12 (ic_A_Re ok hzB rz h1) hb hB
        omega
  · rw [hH _ (Nat.le_of_lt (ic_G_12 r hx hB)), i4 x hx r]
    constructor
    · rintro ((g | g) | ⟨b, hb, h1, _, h3⟩)
      · exact Or.inl (List.mem_append.mpr (Or.inl g))
      · rcases (ic_A_s hc).mp g with e | ⟨e1, e2⟩
        · exact Or.inl (List.mem_append.mpr (Or.inr (List.mem_singleton.mpr e)))
        · right
          rcases hz with e | e
          · rw [← e]; exact e1
          · rw [← e]; exact e2
      · by_cases m : x ∈ V ++ [c]
        · exact Or.inl m
        · right
          intro l hl
          have t := ic_G_Tg (ic_A_Re ok hzB rz h1) r h3
          have m2 := (t (V ++ [c] ++ l) (ic_app hw hl)).mp (List.mem_append.mpr (Or.inr (h1 l hl)))
          rcases List.mem_append.mp m2 with g | g
          · exact absurd g m
          · exact g
    · rintro (m | g)
      · rcases List.mem_append.mp m with m | m
        · exact Or.inl (Or.inl m)
        · left
          right
          rw [List.mem_singleton.mp m]
          exact (ic_A_s hc).mpr (Or.inl rfl)
      · rcases Classical.em (ic_A B T F c x) with a | a
        · exact Or.inl (Or.inr a)
        · exact Or.inr ⟨x, hx, g, a, rfl⟩
theorem ic_held (ok : ic_Ok B T F) {V : List Nat} {c i x : Nat} {H : Nat → Bool} (I : ic_Inv B T F V c H) (hV : ∀ v, v ∈ V → v < i) (h1 : i ≤ x) (h2 : x < B) (h3 : x ≤ c) : H (ic_gn B T F x) = true ↔ x = c := by
  obtain ⟨i1, i2, i3, i4⟩ := I
  constructor
  · intro g
    rcases Classical.em (ic_Re B T F x) with r | r
    · rw [ic_gn_t r, i4 x h2 r] at g
      rcases g with m | a
      · have := hV x m
        omega
      · have := ic_A_b ok i2 a
        omega
    · rw [ic_gn_f r, i3] at g
      cases g
  · intro e
    have r : ic_Re B T F x := by
      rw [e]
      exact ⟨V, i1⟩
    rw [ic_gn_t r, i4 x h2 r, e]
    exact Or.inr ((ic_A_s (by omega)).mpr (Or.inl rfl))
theorem ic_holds {V : List Nat} {c g : Nat} {H : Nat → Bool} (I : ic_Inv B T F V c H) (hg : g < ic_cnt B T F B) : H g = true ↔ ∀ l, ic_wy B T F l c B → ∀ b, b < B → ic_Re B T F b → ic_G B T F b = g → (b ∈ V ∨ b ∈ l) := by
  obtain ⟨i1, i2, i3, i4⟩ := I
  constructor
  · intro h l hl b hb r e
    rw [← e, i4 b hb r] at h
    rcases h with m | a
    · exact Or.inl m
    · exact Or.inr (a l hl)
  · intro h
    obtain ⟨x, hx, r, e⟩ := ic_G_on hg
    rw [← e, i4 x hx r]
    by_cases m : x ∈ V
    · exact Or.inl m
    · right
      intro l hl
      rcases h l hl x hx r e with k | k
      · exact absurd k m
      · exact k
theorem ic_PT_iff (ok : ic_Ok B T F) {S : Nat → Bool} : ∀ (d b : Nat) (E : Nat → Prop), b + d = B → (ic_PT T F S d b E ↔ ∃ x l, b ≤ x ∧ E x ∧ ic_wy B T F l x B ∧ ∀ y, b ≤ y → y < B → (S y = true ↔ y ∈ l)) := by
  intro d
  induction d with
  | zero =>
    intro b E hb
    constructor
    · intro h
      have h : E b := h
      have e : b = B := by omega
      exact ⟨b, [], Nat.le_refl _, h, e, fun y h1 h2 => by omega⟩
    · rintro ⟨x, l, h1, h2, h3, _⟩
      have := (ic_ge ok h3).1
      have e : x = b := by omega
      rw [e] at h2
      exact h2
  | succ d ih =>
    intro b E hb
    have o := ok b (by omega)
    constructor
    · rintro ⟨hp, hq⟩
      cases e : S b with
      | true =>
        obtain ⟨k1, k2⟩ := hp e
        obtain ⟨x, l, h1, h2, h3, h4⟩ := (ih (b + 1) _ (by omega)).mp k2
        refine ⟨b, b :: l, Nat.le_refl _, k1, ⟨rfl, by omega, ?_⟩, fun y y1 y2 => ?_⟩
        · rcases h2 with g | g
          · exact Or.inl (by rw [g]; exact h3)
          · exact Or.inr (by rw [g]; exact h3)
        · rw [List.mem_cons]
          by_cases eb : y = b
          · rw [eb, e]
            exact ⟨fun _ => Or.inl rfl, fun _ => rfl⟩
          · rw [h4 y (by omega) y2]
            exact ⟨fun g => Or.inr g, fun g => g.elim (fun z => absurd z eb) id⟩
      | false =>
        obtain ⟨x, l, h1, h2, h3, h4⟩ := (ih (b + 1) _ (by omega)).mp (hq e)
        refine ⟨x, l, by omega, h2, h3, fun y y1 y2 => ?_⟩
        by_cases eb : y = b
        · rw [eb, e]
          exact ⟨fun g => (by cases g), fun g => by have := (ic_ge ok h3).2 b g; omega⟩
        · exact h4 y (by omega) y2
    · rintro ⟨x, l, h1, h2, h3, h4⟩
      constructor
      · intro e
        have m : b ∈ l := (h4 b (Nat.le_refl _) (by omega)).mp e
        have hx := ((ic_ge ok h3).2 b m).1
        have ex : x = b := by omega
        rw [ex] at h2 h3
        refine ⟨h2, (ih (b + 1) _ (by omega)).mpr ?_⟩
        cases l with
        | nil => cases m
        | cons a l =>
          obtain ⟨q1, q2, q3⟩ := h3
          have q : ∃ z, (T b = z ∨ F b = z) ∧ b < z ∧ ic_wy B T F l z B := by
            rcases q3 with g | g
            · exact ⟨T b, Or.inl rfl, o.1, g⟩
            · exact ⟨F b, Or.inr rfl, o.2.2.1, g⟩
          obtain ⟨z, z1, z2, z3⟩ := q
          refine ⟨z, l, by omega, z1, z3, fun y y1 y2 => ?_⟩
          rw [h4 y (by omega) y2, List.mem_cons]
          exact ⟨fun g => g.elim (fun z => by omega) id, fun g => Or.inr g⟩
      · intro e
        have m : b ∉ l := fun g => by
          have := (h4 b (Nat.le_refl _) (by omega)).mpr g
          rw [e] at this
          cases this
        have ex : x ≠ b := fun g => by
          rw [g] at h3
          exact m (ic_hd (by omega) h3)
        exact (ih (b + 1) _ (by omega)).mpr ⟨x, l, by omega, h2, h3, fun y y1 y2 => h4 y (by omega) y2⟩
theorem ic_PT_YP (ok : ic_Ok B T F) {S : Nat → Bool} {x : Nat} : ic_PT T F S B 0 (fun y => y = x) ↔ ic_YP B T F S x := by
  rw [ic_PT_iff ok B 0 _ (by omega)]
  constructor
  · rintro ⟨y, l, _, e, h, k⟩
    have e : y = x := e
    rw [e] at h
    exact ⟨l, h, fun y hy => k y (Nat.zero_le _) hy⟩
  · rintro ⟨l, h, k⟩
    exact ⟨x, l, Nat.zero_le _, rfl, h, fun y _ hy => k y hy⟩
end
theorem ic_mask (n : Nat) (p : Nat → Prop) : ∃ m, m < 2 ^ n ∧ ∀ y, y < n → (m.testBit y = true ↔ p y) := by
  induction n with
  | zero => exact ⟨0, by decide, fun y hy => absurd hy (Nat.not_lt_zero y)⟩
  | succ n ih =>
    obtain ⟨m, h1, h2⟩ := ih
    have hm : m < 2 ^ (n + 1) := by rw [Nat.pow_succ]; omega
    rcases Classical.em (p n) with g | g
    · refine ⟨m ||| 2 ^ n, Nat.or_lt_two_pow hm (by rw [Nat.pow_succ]; have := Nat.two_pow_pos n; omega), fun y hy => ?_⟩
      rw [Nat.testBit_or, Nat.testBit_two_pow]
      by_cases e : y = n
      · subst e
        simp [g]
      · have : n ≠ y := fun z => e z.symm
        simp [this]
        exact h2 y (by omega)
    · refine ⟨m, hm, fun y hy => ?_⟩
      by_cases e : y = n
      · subst e
        rw [Nat.testBit_lt_two_pow h1]
        exact ⟨fun z => (by cases z), fun z => absurd z g⟩
      · exact h2 y (by omega)
/-! what the reference's searches over all sets say -/
section
variable {B : Nat} {T F : Nat → Nat}
theorem ic_set_A {x b : Nat} (hb : b < B) : (∀ m, m < 2 ^ B → ic_YP B T F m.testBit x → m.testBit b = true) ↔ ic_A B T F x b := by
  constructor
  · intro h l hl
    obtain ⟨m, h1, h2⟩ := ic_mask B (fun y => y ∈ l)
    exact (h2 b hb).mp (h m h1 ⟨l, hl, h2⟩)
  · rintro h m hm ⟨l, hl, k⟩
    exact (k b hb).mpr (h l hl)
theorem ic_set_Tg (ok : ic_Ok B T F) {a b : Nat} (ha : a ≤ B) (hb : b ≤ B) : (∀ m, m < 2 ^ B → ic_YP B T F m.testBit 0 → m.testBit a = m.testBit b) ↔ ic_Tg B T F a b := by
  have H : ∀ m l x, m < 2 ^ B → ic_wy B T F l 0 B → (∀ y, y < B → (m.testBit y = true ↔ y ∈ l)) → x ≤ B → (m.testBit x = true ↔ x ∈ l) := by
    intro m l x hm hl hk hx
    by_cases e : x < B
    · exact hk x e
    · have e : x = B := by omega
      rw [e, Nat.testBit_lt_two_pow hm]
      exact ⟨fun z => (by cases z), fun z => by have := (ic_ge ok hl).2 B z; omega⟩
  constructor
  · intro h l hl
    obtain ⟨m, h1, h2⟩ := ic_mask B (fun y => y ∈ l)
    rw [← H m l a h1 hl h2 ha, ← H m l b h1 hl h2 hb, h m h1 ⟨l, hl, h2⟩]
  · rintro h m hm ⟨l, hl, k⟩
    have := h l hl
    rw [← H m l a hm hl k ha, ← H m l b hm hl k hb] at this
    exact Bool.eq_iff_iff.mpr this
theorem ic_Tg_B (ok : ic_Ok B T F) {b : Nat} (hb : b < B) : ic_Tg B T F b B ↔ ¬ ic_Re B T F b := by
  constructor
  · intro h r
    obtain ⟨l, hl, m⟩ := (ic_Re_c ok).mpr ⟨hb, r⟩
    have := (ic_ge ok hl).2 B ((h l hl).mp m)
    omega
  · intro h l hl
    exact ⟨fun m => absurd ((ic_Re_c ok).mp ⟨l, hl, m⟩).2 h, fun m => by have := (ic_ge ok hl).2 B m; omega⟩
end
end
section
/-! bits: the rows of kit/rows that serve, and has, 1 << b -/
def bt (x : Int32) (i : Nat) : Bool := x.toBitVec.getLsbD i
theorem b_ext {x y : Int32} (h : ∀ i, i < 32 → bt x i = bt y i) : x = y := Int32.toBitVec_inj.mp (BitVec.eq_of_getLsbD_eq (fun i hi => h i hi))
theorem b_or (x y : Int32) (i : Nat) : bt (x ||| y) i = (bt x i || bt y i) := by unfold bt; rw [Int32.toBitVec_or, BitVec.getLsbD_or]
theorem b_and (x y : Int32) (i : Nat) : bt (x &&& y) i = (bt x i && bt y i) := by unfold bt; rw [Int32.toBitVec_and, BitVec.getLsbD_and]
theorem b_xor (x y : Int32) (i : Nat) : bt (x ^^^ y) i = (bt x i ^^ bt y i) := by unfold bt; rw [Int32.toBitVec_xor, BitVec.getLsbD_xor]
theorem b_big {x : Int32} {i : Nat} (h : 32 ≤ i) : bt x i = false := BitVec.getLsbD_of_ge _ _ h
theorem b_m1 : ∀ i, i < 32 → bt (-1) i = true := by decide +kernel
theorem b_0 (i : Nat) : bt 0 i = false := BitVec.getLsbD_zero
theorem s_l : ∀ n, n < 32 → ((nI n &&& 31).toBitVec.smod 32).toNat = n := by decide +kernel
theorem b_shl (n : Nat) (hn : n < 32) (x : Int32) {i : Nat} (hi : i < 32) : bt (x <<< (nI n &&& 31)) i = (decide (n ≤ i) && bt x (i - n)) := by
  unfold bt
  rw [Int32.toBitVec_shiftLeft]
  show (x.toBitVec <<< ((nI n &&& 31).toBitVec.smod 32).toNat).getLsbD i = _
  rw [s_l n hn, BitVec.getLsbD_shiftLeft]
  rcases Nat.lt_or_ge i n with h | h
  · simp [h, Nat.not_le.mpr h]
  · simp [hi, h, Nat.not_lt.mpr h]
theorem b_sshr (n : Nat) (hn : n < 32) (x : Int32) {i : Nat} (hi : i < 32) : bt (x >>> (nI n &&& 31)) i = if n + i < 32 then bt x (n + i) else bt x 31 := by
  unfold bt
  rw [Int32.toBitVec_shiftRight]
  show (x.toBitVec.sshiftRight ((nI n &&& 31).toBitVec.smod 32).toNat).getLsbD i = _
  rw [s_l n hn, BitVec.getLsbD_sshiftRight, BitVec.msb_eq_getLsbD_last]
  simp [hi]
theorem pk_us {f : Nat → Int32} {k : Nat} {x : Int32} : upd f k x k = x := if_pos rfl
theorem pk_un {f : Nat → Int32} {k j : Nat} {x : Int32} (h : j ≠ k) : upd f k x j = f j := if_neg h
theorem pk_sub {a b : Nat} (h : b ≤ a) : nI a - nI b = nI (a - b) := by
  obtain ⟨c, rfl⟩ : ∃ c, a = c + b := ⟨a - b, by omega⟩
  rw [← nI_add, Int32.add_sub_cancel, Nat.add_sub_cancel]
theorem pk_m1 (n : Nat) : nI (n + 1) + (-1) = nI n := by
  rw [← nI_1, Int32.add_assoc, show (1 : Int32) + (-1) = 0 from rfl, Int32.add_zero]
theorem pk_mul (a b : Nat) : nI a * nI b = nI (a * b) := (Int32.ofNat_mul a b).symm
theorem pk_ix (x : Int32) {n : Nat} (hn : n < 2 ^ 31) : x < 0 ∨ nI n ≤ x ∨ ∃ j : Nat, j < n ∧ x = nI j := by
  by_cases h : x < 0
  · exact Or.inl h
  · obtain ⟨j, hj, rfl⟩ := nI_of h
    by_cases h2 : j < n
    · exact Or.inr (Or.inr ⟨j, h2, rfl⟩)
    · exact Or.inr (Or.inl (nI_le (by omega) hj))
theorem pk_le {x y : Int32} {A B : Prop} (a b : Nat) (f : a ≤ b → A) (g : b < a → B) (hx : x = nI a := by rfl) (hy : y = nI b := by rfl) (ha : a < 2 ^ 31 := by omega) (hb : b < 2 ^ 31 := by omega) : (x ≤ y → A) ∧ (¬ x ≤ y → B) := by
  subst hx hy
  rw [nI_leI ha hb]
  exact ⟨f, fun z => g (by omega)⟩
theorem pk_lt {x y : Int32} {A B : Prop} (a b : Nat) (f : a < b → A) (g : b ≤ a → B) (hx : x = nI a := by rfl) (hy : y = nI b := by rfl) (ha : a < 2 ^ 31 := by omega) (hb : b < 2 ^ 31 := by omega) : (x < y → A) ∧ (¬ x < y → B) := by
  subst hx hy
  rw [nI_ltI ha hb]
  exact ⟨f, fun z => g (by omega)⟩
theorem pk_eq {x y : Int32} {A B : Prop} (a b : Nat) (f : a = b → A) (g : a ≠ b → B) (hx : x = nI a := by rfl) (hy : y = nI b := by rfl) (ha : a < 2 ^ 31 := by omega) (hb : b < 2 ^ 31 := by omega) : (x = y → A) ∧ (¬ x = y → B) := by
  subst hx hy
  rw [nI_eq ha hb]
  exact ⟨f, g⟩
theorem pk_in {x : Int32} (n N : Nat) (h : n < N) (hx : x = nI n := by rfl) (hN : N < 2 ^ 31 := by omega) : vp_in x N := by
  subst hx
  exact vp_in_nI h hN
theorem pk_cl {x : Int32} (n : Nat) (hx : x = nI n := by rfl) (h : n < 2 ^ 31 := by omega) : x.toNatClampNeg = n := by
  subst hx
  exact nI_clamp h
theorem pk_tn {n : Nat} (h : n < 2 ^ 32) : (nI n).toBitVec.toNat = n := Nat.mod_eq_of_lt h
theorem ic_b1 : ∀ i, i < 32 → bt 1 i = decide (i = 0) := by decide +kernel
theorem ic_hv (x : Int32) {n : Nat} (hn : n < 32) : (x >>> (nI n &&& 31)) &&& 1 = if bt x n = true then 1 else 0 := by
  apply b_ext
  intro i hi
  rw [b_and, b_sshr n hn x hi, ic_b1 i hi]
  by_cases e : i = 0
  · subst e
    cases h : bt x n with
    | false => simp [hn, h, b_0]
    | true => simp [hn, h, ic_b1 0 hi]
  · cases h : bt x n with
    | false => simp [e, b_0]
    | true => simp [e, ic_b1 i hi]
theorem ic_h0 (x : Int32) {n : Nat} (hn : n < 32) : (x >>> (nI n &&& 31)) &&& 1 = 0 ↔ bt x n = false := by
  rw [ic_hv x hn]
  cases bt x n with
  | false => exact ⟨fun _ => rfl, fun _ => rfl⟩
  | true => exact ⟨fun z => absurd z (by decide), fun z => (by cases z)⟩
theorem ic_h1 (x : Int32) {n : Nat} (hn : n < 32) : (x >>> (nI n &&& 31)) &&& 1 = 1 ↔ bt x n = true := by
  rw [ic_hv x hn]
  cases bt x n with
  | false => exact ⟨fun z => absurd z (by decide), fun z => (by cases z)⟩
  | true => exact ⟨fun _ => rfl, fun _ => rfl⟩
theorem ic_sh {n i : Nat} (hn : n < 32) : bt ((1 : Int32) <<< (nI n &&& 31)) i = decide (i = n) := by
  rcases Nat.lt_or_ge i 32 with hi | hi
  · rw [b_shl n hn 1 hi]
    by_cases h : n ≤ i
    · rw [ic_b1 _ (by omega), decide_eq_true h, Bool.true_and]
      exact decide_eq_decide.mpr (by omega)
    · rw [decide_eq_false h, Bool.false_and, decide_eq_false (by omega)]
  · rw [b_big hi, decide_eq_false (by omega)]
theorem ic_not (x : Int32) {i : Nat} (hi : i < 32) : bt (x ^^^ (-1)) i = !bt x i := by
  rw [b_xor, b_m1 i hi]
  cases bt x i <;> rfl
theorem ic_nI {m : Nat} (y : Nat) (hm : m < 2 ^ 31) : bt (nI m) y = m.testBit y := by
  show (BitVec.ofNat 32 m).getLsbD y = m.testBit y
  rw [BitVec.getLsbD_ofNat]
  by_cases h : y < 32
  · simp [h]
  · have h2 : m < 2 ^ y := Nat.lt_of_lt_of_le (Nat.lt_trans hm (by decide : 2 ^ 31 < 2 ^ 32)) (Nat.pow_le_pow_right (by decide) (by omega))
    rw [Nat.testBit_lt_two_pow h2]
    simp
theorem ic_p2 : ∀ n, n < 31 → (1 : Int32) <<< (nI n &&& 31) = nI (2 ^ n) := by decide +kernel
theorem ic_4 (b i : Nat) : nI b * 4 + nI i = nI (b * 4 + i) := by
  rw [show (4 : Int32) = nI 4 from by decide, pk_mul, nI_add]
end
section
/-! X's masks against the mathematics -/
section
variable (B : Nat) (T F : Nat → Nat)
/-- the ways to each block over the edges Es -/
def ic_WI (Es : Nat → Nat → Prop) (ρ : Int32) (D : Nat → Int32) : Prop :=
  ∀ b, b < B → (bt ρ b = true ↔ (b = 0 ∨ ∃ p, Es p b)) ∧ ∀ a, a < B → (bt (D b) a = true ↔ (b ≠ 0 ∧ ∀ p, Es p b → (ic_Do B T F p a ∨ a = p)))
def ic_Es (i : Nat) (p b : Nat) : Prop := p < i ∧ ic_Re B T F p ∧ (T p = b ∨ F p = b)
/-- the reachable blocks and the ways to them, known -/
def ic_WD (ρ : Int32) (D : Nat → Int32) : Prop := ∀ b, b < B → (bt ρ b = true ↔ ic_Re B T F b) ∧ ∀ a, a < B → (bt (D b) a = true ↔ ic_Do B T F b a)
def ic_PD (P : Nat → Int32) : Prop := ∀ x, x < B → ∀ y, (bt (P x) y = true ↔ ic_A B T F x y)
noncomputable def ic_gy (b : Nat) : Int32 := @ite Int32 (ic_Re B T F b) (Classical.propDecidable _) (nI (ic_G B T F b)) (-1)
end
section
variable {B : Nat} {T F : Nat → Nat}
theorem ic_gy_t {b : Nat} (h : ic_Re B T F b) : ic_gy B T F b = nI (ic_G B T F b) := if_pos h
theorem ic_gy_f {b : Nat} (h : ¬ ic_Re B T F b) : ic_gy B T F b = -1 := if_neg h
theorem ic_WI_c {Es Es' : Nat → Nat → Prop} {ρ : Int32} {D : Nat → Int32} (h : ic_WI B T F Es ρ D) (e : ∀ p b, b < B → (Es p b ↔ Es' p b)) : ic_WI B T F Es' ρ D := by
  intro b hb
  obtain ⟨h1, h2⟩ := h b hb
  constructor
  · rw [h1]
    exact ⟨fun g => g.elim Or.inl (fun ⟨p, k⟩ => Or.inr ⟨p, (e p b hb).mp k⟩), fun g => g.elim Or.inl (fun ⟨p, k⟩ => Or.inr ⟨p, (e p b hb).mpr k⟩)⟩
  · intro a ha
    rw [h2 a ha]
    exact ⟨fun g => ⟨g.1, fun p k => g.2 p ((e p b hb).mpr k)⟩, fun g => ⟨g.1, fun p k => g.2 p ((e p b hb).mp k)⟩⟩
theorem ic_WI_e (hB : B ≤ 12) {Es : Nat → Nat → Prop} {ρ q : Int32} {D : Nat → Int32} {i z : Nat} (h : ic_WI B T F Es ρ D) (hq : ∀ a, a < B → (bt q a = true ↔ (ic_Do B T F i a ∨ a = i))) (hz : z < B) : ic_WI B T F (fun p b => Es p b ∨ (p = i ∧ b = z)) (ρ ||| ((1 : Int32) <<< (nI z &&& 31))) (upd D z (D z &&& q)) := by
  intro b hb
  obtain ⟨h1, h2⟩ := h b hb
  constructor
  · rw [b_or, ic_sh (by omega), Bool.or_eq_true, decide_eq_true_iff, h1]
    constructor
    · rintro ((e | ⟨p, e⟩) | e)
      · exact Or.inl e
      · exact Or.inr ⟨p, Or.inl e⟩
      · exact Or.inr ⟨i, Or.inr ⟨rfl, e⟩⟩
    · rintro (e | ⟨p, e | ⟨_, e⟩⟩)
      · exact Or.inl (Or.inl e)
      · exact Or.inl (Or.inr ⟨p, e⟩)
      · exact Or.inr e
  · intro a ha
    have h3 := h2 a ha
    by_cases e : b = z
    · rw [e] at h3 ⊢
      rw [pk_us, b_and, Bool.and_eq_true, hq a ha, h3]
      constructor
      · rintro ⟨⟨k1, k2⟩, k3⟩
        refine ⟨k1, fun p hp => ?_⟩
        rcases hp with hp | ⟨hp, _⟩
        · exact k2 p hp
        · rw [hp]
          exact k3
      · rintro ⟨k1, k2⟩
        exact ⟨⟨k1, fun p hp => k2 p (Or.inl hp)⟩, k2 i (Or.inr ⟨rfl, rfl⟩)⟩
    · rw [pk_un e, h3]
      constructor
      · rintro ⟨k1, k2⟩
        exact ⟨k1, fun p hp => hp.elim (k2 p) (fun g => absurd g.2 e)⟩
      · rintro ⟨k1, k2⟩
        exact ⟨k1, fun p hp => k2 p (Or.inl hp)⟩
theorem ic_WI_0 (hB : B ≤ 12) {D : Nat → Int32} (h0 : D 0 = 0) (h : ∀ b, 1 ≤ b → b < B → D b = -1) : ic_WI B T F (ic_Es B T F 0) 1 D := by
  have hE : ∀ p b, ¬ ic_Es B T F 0 p b := fun p b k => Nat.not_lt_zero _ k.1
  intro b hb
  constructor
  · rw [ic_b1 b (by omega), decide_eq_true_iff]
    exact ⟨Or.inl, fun g => g.elim id (fun ⟨p, k⟩ => absurd k (hE p b))⟩
  · intro a ha
    by_cases e : b = 0
    · rw [e, h0, b_0]
      exact ⟨fun z => (by cases z), fun z => absurd rfl z.1⟩
    · rw [h b (by omega) hb, b_m1 a (by omega)]
      exact ⟨fun _ => ⟨e, fun p k => absurd k (hE p b)⟩, fun _ => rfl⟩
theorem ic_Es_p (ok : ic_Ok B T F) {i p : Nat} (hp : p < B) (h : T p = i ∨ F p = i) : p < i := by
  have o := ok p hp
  rcases h with h | h <;> omega
theorem ic_Es_Re (ok : ic_Ok B T F) {i : Nat} (hi : i < B) : (i = 0 ∨ ∃ p, ic_Es B T F i p i) ↔ ic_Re B T F i := by
  rw [ic_Re_s]
  constructor
  · rintro (e | ⟨p, h1, h2, h3⟩)
    · exact Or.inl e
    · exact Or.inr ⟨p, by omega, h2, h3⟩
  · rintro (e | ⟨p, h1, h2, h3⟩)
    · exact Or.inl e
    · exact Or.inr ⟨p, ic_Es_p ok h1 h3, h2, h3⟩
theorem ic_Es_Do (ok : ic_Ok B T F) {i a : Nat} (hi : i < B) : (i ≠ 0 ∧ ∀ p, ic_Es B T F i p i → (ic_Do B T F p a ∨ a = p)) ↔ ic_Do B T F i a := by
  rw [ic_Do_s]
  constructor
  · rintro ⟨h0, h⟩
    exact ⟨h0, fun p h1 h2 h3 => h p ⟨ic_Es_p ok h1 h3, h2, h3⟩⟩
  · rintro ⟨h0, h⟩
    exact ⟨h0, fun p ⟨h1, h2, h3⟩ => h p (by omega) h2 h3⟩
theorem ic_Es_n {i : Nat} (r : ¬ ic_Re B T F i) (p b : Nat) : ic_Es B T F i p b ↔ ic_Es B T F (i + 1) p b := by
  constructor
  · rintro ⟨h1, h2⟩
    exact ⟨by omega, h2⟩
  · rintro ⟨h1, h2, h3⟩
    by_cases e : p = i
    · rw [e] at h2
      exact absurd h2 r
    · exact ⟨by omega, h2, h3⟩
theorem ic_WI_B {ρ : Int32} {D : Nat → Int32} (h : ic_WI B T F (ic_Es B T F B) ρ D) : ic_WD B T F ρ D := by
  intro b hb
  obtain ⟨h1, h2⟩ := h b hb
  refine ⟨h1.trans ic_Re_s.symm, fun a ha => (h2 a ha).trans ?_⟩
  rw [ic_Do_s]
  exact ⟨fun g => ⟨g.1, fun p k1 k2 k3 => g.2 p ⟨k1, k2, k3⟩⟩, fun g => ⟨g.1, fun p k => g.2 p k.1 k.2.1 k.2.2⟩⟩
/-- both edges of a reachable block i -/
theorem ic_WI_2 (ok : ic_Ok B T F) (hB : B ≤ 12) {i : Nat} (hi : i < B) (r : ic_Re B T F i) {ρ ρ' ρ'' q : Int32} {D D' D'' : Nat → Int32} (h : ic_WI B T F (ic_Es B T F i) ρ D) (hq : ∀ a, a < B → (bt q a = true ↔ (ic_Do B T F i a ∨ a = i)))
    (k1 : (T i < B → ρ' = ρ ||| ((1 : Int32) <<< (nI (T i) &&& 31)) ∧ D' = upd D (T i) (D (T i) &&& q)) ∧ (¬ T i < B → ρ' = ρ ∧ D' = D))
    (k2 : (F i < B → ρ'' = ρ' ||| ((1 : Int32) <<< (nI (F i) &&& 31)) ∧ D'' = upd D' (F i) (D' (F i) &&& q)) ∧ (¬ F i < B → ρ'' = ρ' ∧ D'' = D')) : ic_WI B T F (ic_Es B T F (i + 1)) ρ'' D'' := by
  have s1 : ic_WI B T F (fun p b => ic_Es B T F i p b ∨ (p = i ∧ b = T i)) ρ' D' := by
    by_cases g : T i < B
    · obtain ⟨e1, e2⟩ := k1.1 g
      rw [e1, e2]
      exact ic_WI_e hB h hq g
    · obtain ⟨e1, e2⟩ := k1.2 g
      rw [e1, e2]
      exact ic_WI_c h (fun p b hb => ⟨Or.inl, fun k => k.elim id (fun k => by omega)⟩)
  have s2 : ic_WI B T F (fun p b => (ic_Es B T F i p b ∨ (p = i ∧ b = T i)) ∨ (p = i ∧ b = F i)) ρ'' D'' := by
    by_cases g : F i < B
    · obtain ⟨e1, e2⟩ := k2.1 g
      rw [e1, e2]
      exact ic_WI_e hB s1 hq g
    · obtain ⟨e1, e2⟩ := k2.2 g
      rw [e1, e2]
      exact ic_WI_c s1 (fun p b hb => ⟨Or.inl, fun k => k.elim id (fun k => by omega)⟩)
  refine ic_WI_c s2 (fun p b hb => ?_)
  constructor
  · rintro ((⟨g1, g2⟩ | ⟨g1, g2⟩) | ⟨g1, g2⟩)
    · exact ⟨by omega, g2⟩
    · rw [g1, g2]
      exact ⟨by omega, r, Or.inl rfl⟩
    · rw [g1, g2]
      exact ⟨by omega, r, Or.inr rfl⟩
  · rintro ⟨g1, g2, g3⟩
    by_cases e : p = i
    · rw [e] at g3
      rcases g3 with g3 | g3
      · exact Or.inl (Or.inr ⟨e, g3.symm⟩)
      · exact Or.inr ⟨e, g3.symm⟩
    · exact Or.inl (Or.inl ⟨by omega, g2, g3⟩)
/-! numbers of guards -/
theorem ic_gn_new {b : Nat} (hb : b < 12) : (ic_gn B T F b = ic_cnt B T F b → ic_cnt B T F (b + 1) = ic_cnt B T F b + 1) ∧ (ic_gn B T F b ≠ ic_cnt B T F b → ic_cnt B T F (b + 1) = ic_cnt B T F b) := by
  have hc := ic_cnt_le (B := B) (T := T) (F := F) b
  rcases Classical.em (ic_ldr B T F b) with g | g
  · rw [ic_gn_t g.1, ic_G_new g, ic_cnt_s, ic_c_t g]
    exact ⟨fun _ => rfl, fun z => absurd rfl z⟩
  · rw [ic_cnt_s, ic_c_f g]
    refine ⟨fun z => ?_, fun _ => rfl⟩
    rcases Classical.em (ic_Re B T F b) with r | r
    · have s := ic_ld_s r
      rw [ic_gn_t r] at z
      have e : ic_ld B T F b ≠ b := fun e => by
        have := s.2.1
        rw [e] at this
        exact g this
      have : ic_G B T F b < ic_cnt B T F b := ic_cnt_lt s.2.1 (by omega)
      omega
    · rw [ic_gn_f r] at z
      omega
/-- a block that shares no guard with a smaller one is a leader -/
theorem ic_ldr_of {b : Nat} (r : ic_Re B T F b) (h : ∀ a, a < b → ic_Re B T F a → ¬ ic_Tg B T F a b) : ic_ldr B T F b := ⟨r, fun a ha k => h a ha k.1 k.2⟩
theorem ic_Do_Re {a b : Nat} (r : ic_Re B T F b) (h : ic_Do B T F b a) : ic_Re B T F a := by
  obtain ⟨w, hw⟩ := r
  obtain ⟨w', _, _, k, _⟩ := ic_split hw (h w hw)
  exact ⟨w', k⟩
/-- what X looks at to share a guard -/
theorem ic_share (ok : ic_Ok B T F) {ρ : Int32} {D P : Nat → Int32} (hD : ic_WD B T F ρ D) (hP : ic_PD B T F P) {a b : Nat} (hab : a < b) (hb : b < B) (r : ic_Re B T F b) : (bt (D b) a = true ∧ bt (P a) b = true) ↔ (ic_Re B T F a ∧ ic_Tg B T F a b) := by
  rw [(hD b hb).2 a (by omega), hP a (by omega) b]
  constructor
  · intro h
    exact ⟨ic_Do_Re r h.1, (ic_Tg_iff ok hab hb r).mp h⟩
  · intro h
    exact (ic_Tg_iff ok hab hb r).mpr h.2
theorem ic_PD_s {x : Nat} {p q : Int32} (hx : x < B) (h1 : ∀ y, bt p y = true ↔ ic_A B T F (T x) y) (h2 : ∀ y, bt q y = true ↔ ic_A B T F (F x) y) (hB : B ≤ 12) (y : Nat) : bt ((p &&& q) ||| ((1 : Int32) <<< (nI x &&& 31))) y = true ↔ ic_A B T F x y := by
  rw [b_or, b_and, ic_sh (by omega), Bool.or_eq_true, Bool.and_eq_true, decide_eq_true_iff, h1, h2, ic_A_s hx]
  exact or_comm
theorem ic_dep {p q : Int32} {a z y : Nat} (h1 : ∀ y, bt p y = true ↔ ic_A B T F z y) (h2 : ∀ y, bt q y = true ↔ ic_A B T F a y) (hy : y < 32) : bt (p &&& (q ^^^ (-1))) y = true ↔ (ic_A B T F z y ∧ ¬ ic_A B T F a y) := by
  rw [b_and, ic_not _ hy, Bool.and_eq_true, h1, Bool.not_eq_true', ← h2, Bool.not_eq_true]
end
end
section
/-! the source, its instructions, and a run, as pure functions -/
def ic_N (a : Nat → Int32) : Nat → Nat := fun b => (a b).toNatClampNeg
def ic_res (o l r : Int32) : Int32 := if o = 2 then l + r else if o = 3 then l - r else if o = 4 then l * r else if o = 5 then l ^^^ r else if o = 6 then (if l < r then 1 else 0) else if o = 7 then (if l = r then 1 else 0) else r
def ic_exe (ops dests args g : Nat → Int32) (p : Nat) : Nat → Int32 :=
  upd g (dests p).toNatClampNeg (ic_res (ops p) (g (dests p).toNatClampNeg) (if ops p = 0 then args p else g (args p).toNatClampNeg))
def ic_blk (ops dests args : Nat → Int32) (b : Nat) : Nat → (Nat → Int32) → (Nat → Int32)
  | 0, g => g
  | n + 1, g => ic_exe ops dests args (ic_blk ops dests args b n g) (b * 4 + n)
def ic_cp (inp g : Nat → Int32) : Nat → (Nat → Int32)
  | 0 => g
  | n + 1 => upd (ic_cp inp g n) n (inp n)
def ic_Cell (R : Nat) (ops dests args : Nat → Int32) (p : Nat) : Prop :=
  ∃ o d, o < 8 ∧ d < R ∧ ops p = nI o ∧ dests p = nI d ∧ (o = 0 ∨ ∃ x, x < R ∧ args p = nI x)
/-- the source as it is kept: sizes, cells, endings -/
def ic_Src (B C R : Nat) (sizes ops dests args tests tt ff : Nat → Int32) : Prop :=
  ∀ b, b < B → (∃ s, s ≤ C ∧ sizes b = nI s ∧ ∀ i, i < s → ic_Cell R ops dests args (b * 4 + i)) ∧
    (tests b = -1 ∨ ∃ r, r < R ∧ tests b = nI r) ∧ (∃ t, tt b = nI t ∧ b < t ∧ t ≤ B) ∧ (∃ f, ff b = nI f ∧ b < f ∧ f ≤ B)
def ic_go (test : Int32) (g : Nat → Int32) : Bool := decide (test = -1 ∨ ¬ g test.toNatClampNeg = 0)
/-- where a run stands, its registers, the blocks that have run -/
def ic_rn (sizes ops dests args tests tt ff g0 : Nat → Int32) : Nat → Nat × (Nat → Int32) × Int32
  | 0 => (0, g0, 0)
  | b + 1 =>
    if b = (ic_rn sizes ops dests args tests tt ff g0 b).1 then
      ((if ic_go (tests b) (ic_blk ops dests args b (ic_N sizes b) (ic_rn sizes ops dests args tests tt ff g0 b).2.1) = true then ic_N tt b else ic_N ff b),
        ic_blk ops dests args b (ic_N sizes b) (ic_rn sizes ops dests args tests tt ff g0 b).2.1,
        (ic_rn sizes ops dests args tests tt ff g0 b).2.2 ||| ((1 : Int32) <<< (nI b &&& 31)))
    else ic_rn sizes ops dests args tests tt ff g0 b
section
variable {B C R : Nat} {sizes ops dests args tests tt ff g0 : Nat → Int32}
theorem ic_Src_T (h : ic_Src B C R sizes ops dests args tests tt ff) (hB : B ≤ 12) {b : Nat} (hb : b < B) : tt b = nI (ic_N tt b) ∧ ff b = nI (ic_N ff b) := by
  obtain ⟨_, _, ⟨t, e1, _, h1⟩, ⟨f, e2, _, h2⟩⟩ := h b hb
  unfold ic_N
  rw [e1, e2, nI_clamp (by omega), nI_clamp (by omega)]
  exact ⟨rfl, rfl⟩
theorem ic_Src_ok (h : ic_Src B C R sizes ops dests args tests tt ff) (hB : B ≤ 12) : ic_Ok B (ic_N tt) (ic_N ff) := by
  intro b hb
  obtain ⟨_, _, ⟨t, e1, k1, h1⟩, ⟨f, e2, k2, h2⟩⟩ := h b hb
  unfold ic_N
  rw [e1, e2, nI_clamp (by omega), nI_clamp (by omega)]
  exact ⟨k1, h1, k2, h2⟩
theorem ic_Src_s (h : ic_Src B C R sizes ops dests args tests tt ff) (hC : C ≤ 4) {b : Nat} (hb : b < B) : sizes b = nI (ic_N sizes b) ∧ ic_N sizes b ≤ C ∧ ∀ i, i < ic_N sizes b → ic_Cell R ops dests args (b * 4 + i) := by
  obtain ⟨⟨s, h1, e, h2⟩, _⟩ := h b hb
  have es : ic_N sizes b = s := by
    unfold ic_N
    rw [e, nI_clamp (by omega)]
  rw [es]
  exact ⟨e, h1, h2⟩
theorem ic_rn_s (b : Nat) (h : b = (ic_rn sizes ops dests args tests tt ff g0 b).1) : ic_rn sizes ops dests args tests tt ff g0 (b + 1) =
      ((if ic_go (tests b) (ic_blk ops dests args b (ic_N sizes b) (ic_rn sizes ops dests args tests tt ff g0 b).2.1) = true then ic_N tt b else ic_N ff b),
        ic_blk ops dests args b (ic_N sizes b) (ic_rn sizes ops dests args tests tt ff g0 b).2.1,
        (ic_rn sizes ops dests args tests tt ff g0 b).2.2 ||| ((1 : Int32) <<< (nI b &&& 31))) := if_pos h
theorem ic_rn_n (b : Nat) (h : ¬ b = (ic_rn sizes ops dests args tests tt ff g0 b).1) : ic_rn sizes ops dests args tests tt ff g0 (b + 1) = ic_rn sizes ops dests args tests tt ff g0 b := if_neg h
/-- V: the blocks that have run before block b's turn -/
def ic_RV (B : Nat) (T F : Nat → Nat) (b c : Nat) (ran : Int32) (V : List Nat) : Prop :=
  ic_wy B T F V 0 c ∧ (∀ v, v ∈ V → v < b) ∧ b ≤ c ∧ c ≤ B ∧ ∀ y, (bt ran y = true ↔ y ∈ V)
theorem ic_RV_0 {T F : Nat → Nat} : ic_RV B T F 0 0 0 [] :=
  ⟨rfl, fun v m => (by cases m), Nat.le_refl _, Nat.zero_le _, fun y => by rw [b_0]; exact ⟨fun z => (by cases z), fun z => (by cases z)⟩⟩
theorem ic_RV_n {T F : Nat → Nat} {b c : Nat} {ran : Int32} {V : List Nat} (h : ic_RV B T F b c ran V) (e : ¬ b = c) : ic_RV B T F (b + 1) c ran V :=
  ⟨h.1, fun v m => Nat.lt_succ_of_lt (h.2.1 v m), by have := h.2.2.1; omega, h.2.2.2⟩
theorem ic_RV_s {T F : Nat → Nat} (ok : ic_Ok B T F) (hB : B ≤ 12) {b c z : Nat} {ran : Int32} {V : List Nat} (h : ic_RV B T F b c ran V) (e : b = c) (hb : b < B) (hz : T b = z ∨ F b = z) : ic_RV B T F (b + 1) z (ran ||| ((1 : Int32) <<< (nI b &&& 31))) (V ++ [b]) := by
  obtain ⟨h1, h2, h3, h4, h5⟩ := h
  rw [← e] at h1
  have o := ok b hb
  refine ⟨ic_snoc h1 hb hz, fun v m => ?_, ?_, ?_, fun y => ?_⟩
  · rcases List.mem_append.mp m with g | g
    · exact Nat.lt_succ_of_lt (h2 v g)
    · rw [List.mem_singleton.mp g]
      exact Nat.lt_succ_self _
  · rcases hz with g | g <;> omega
  · rcases hz with g | g <;> omega
  · rw [b_or, ic_sh (by omega), Bool.or_eq_true, decide_eq_true_iff, h5, List.mem_append, List.mem_singleton]
theorem ic_rn_V (h : ic_Src B C R sizes ops dests args tests tt ff) (hB : B ≤ 12) : ∀ b, b ≤ B → ∃ V, ic_RV B (ic_N tt) (ic_N ff) b (ic_rn sizes ops dests args tests tt ff g0 b).1 (ic_rn sizes ops dests args tests tt ff g0 b).2.2 V := by
  intro b
  induction b with
  | zero => exact fun _ => ⟨[], ic_RV_0⟩
  | succ b ih =>
    intro hb
    obtain ⟨V, hV⟩ := ih (by omega)
    by_cases e : b = (ic_rn sizes ops dests args tests tt ff g0 b).1
    · rw [ic_rn_s b e]
      refine ⟨V ++ [b], ic_RV_s (ic_Src_ok h hB) hB hV e (by omega) ?_⟩
      dsimp only
      split
      · exact Or.inl rfl
      · exact Or.inr rfl
    · rw [ic_rn_n b e]
      exact ⟨V, ic_RV_n hV e⟩
end
end
section
/-! the reference's lists of complete paths, and its guards -/
theorem ic_m1 {n : Nat} (h : n < 2 ^ 31) : ¬ nI n = -1 := fun e => by
  have h1 := nI_toInt h
  rw [e, show (-1 : Int32).toInt = -1 from by decide] at h1
  omega
theorem ic_pB {B : Nat} (h : B ≤ 12) : 2 ^ B ≤ 4096 := by
  have h2 : 2 ^ B ≤ 2 ^ 12 := Nat.pow_le_pow_right (by decide) h
  exact h2
section
variable (B : Nat) (T F : Nat → Nat)
def ic_CM (p m : Nat) (cm : Nat → Int32) : Prop :=
  p ≤ m ∧ (∀ q, q < p → ∃ s, s < m ∧ cm q = nI s ∧ ic_YP B T F s.testBit 0) ∧ (∀ s, s < m → ic_YP B T F s.testBit 0 → ∃ q, q < p ∧ cm q = nI s)
/-- guard b while the smaller blocks below j have been looked at -/
def ic_YG (b j : Nat) (g : Int32) : Prop :=
  (g = nI (ic_G B T F b) ∧ ∃ a, a < j ∧ ic_Re B T F a ∧ ic_Tg B T F a b) ∨ (g = -1 ∧ ∀ a, a < j → ic_Re B T F a → ¬ ic_Tg B T F a b)
end
section
variable {B : Nat} {T F : Nat → Nat}
theorem ic_CM_0 {cm : Nat → Int32} : ic_CM B T F 0 0 cm :=
  ⟨Nat.le_refl _, fun q hq => absurd hq (Nat.not_lt_zero q), fun s hs => absurd hs (Nat.not_lt_zero s)⟩
theorem ic_CM_n {p m : Nat} {cm : Nat → Int32} (h : ic_CM B T F p m cm) (n : ¬ ic_YP B T F m.testBit 0) : ic_CM B T F p (m + 1) cm := by
  obtain ⟨h1, h2, h3⟩ := h
  refine ⟨by omega, fun q hq => ?_, fun s hs y => ?_⟩
  · obtain ⟨s, k1, k2⟩ := h2 q hq
    exact ⟨s, by omega, k2⟩
  · by_cases e : s = m
    · rw [e] at y
      exact absurd y n
    · exact h3 s (by omega) y
theorem ic_CM_s {p m : Nat} {cm : Nat → Int32} (h : ic_CM B T F p m cm) (n : ic_YP B T F m.testBit 0) : ic_CM B T F (p + 1) (m + 1) (upd cm p (nI m)) := by
  obtain ⟨h1, h2, h3⟩ := h
  refine ⟨by omega, fun q hq => ?_, fun s hs y => ?_⟩
  · by_cases e : q = p
    · rw [e, pk_us]
      exact ⟨m, by omega, rfl, n⟩
    · rw [pk_un e]
      obtain ⟨s, k1, k2⟩ := h2 q (by omega)
      exact ⟨s, by omega, k2⟩
  · by_cases e : s = m
    · exact ⟨p, by omega, by rw [pk_us, e]⟩
    · obtain ⟨q, k1, k2⟩ := h3 s (by omega) y
      exact ⟨q, by omega, by rw [pk_un (by omega)]; exact k2⟩
theorem ic_CM_Tg (ok : ic_Ok B T F) (hB : B ≤ 12) {p a b : Nat} {cm : Nat → Int32} (h : ic_CM B T F p (2 ^ B) cm) (ha : a ≤ B) (hb : b ≤ B) : (∀ q, q < p → bt (cm q) a = bt (cm q) b) ↔ ic_Tg B T F a b := by
  have hp := ic_pB hB
  rw [← ic_set_Tg ok ha hb]
  constructor
  · intro h' m hm y
    obtain ⟨q, hq, e⟩ := h.2.2 m hm y
    have g := h' q hq
    rw [e, ic_nI a (by omega), ic_nI b (by omega)] at g
    exact g
  · intro h' q hq
    obtain ⟨s, hs, e, y⟩ := h.2.1 q hq
    rw [e, ic_nI a (by omega), ic_nI b (by omega)]
    exact h' s hs y
theorem ic_YG_0 {b : Nat} : ic_YG B T F b 0 (-1) := Or.inr ⟨rfl, fun a ha => absurd ha (Nat.not_lt_zero a)⟩
theorem ic_YG_t {b j : Nat} {g : Int32} (ra : ic_Re B T F j) (rb : ic_Re B T F b) (t : ic_Tg B T F j b) (hg : g = nI (ic_G B T F j)) : ic_YG B T F b (j + 1) g :=
  Or.inl ⟨by rw [hg, ic_G_eq ra rb t], j, Nat.lt_succ_self _, ra, t⟩
theorem ic_YG_n {b j : Nat} {g : Int32} (h : ic_YG B T F b j g) (n : ic_Re B T F j → ¬ ic_Tg B T F j b) : ic_YG B T F b (j + 1) g := by
  rcases h with ⟨e, a, h1, h2, h3⟩ | ⟨e, h⟩
  · exact Or.inl ⟨e, a, by omega, h2, h3⟩
  · refine Or.inr ⟨e, fun a ha => ?_⟩
    by_cases ea : a = j
    · rw [ea]
      exact n
    · exact h a (by omega)
theorem ic_YG_e {b : Nat} {g : Int32} (hb : b < B) (hB : B ≤ 12) (r : ic_Re B T F b) (h : ic_YG B T F b b g) : (g = -1 → nI (ic_cnt B T F b) = ic_gy B T F b ∧ ic_cnt B T F (b + 1) = ic_cnt B T F b + 1) ∧ (¬ g = -1 → g = ic_gy B T F b ∧ ic_cnt B T F (b + 1) = ic_cnt B T F b) := by
  rcases h with ⟨e, a, h1, h2, h3⟩ | ⟨e, h⟩
  · have hg := ic_G_12 r hb hB
    refine ⟨fun z => absurd (e.symm.trans z) (ic_m1 (by omega)), fun _ => ⟨by rw [ic_gy_t r, e], ?_⟩⟩
    have s := ic_cnt_s (B := B) (T := T) (F := F) b
    rw [ic_c_f (fun l => l.2 a h1 ⟨h2, h3⟩)] at s
    omega
  · have l := ic_ldr_of r h
    refine ⟨fun _ => ⟨by rw [ic_gy_t r, ic_G_new l], by rw [ic_cnt_s, ic_c_t l]⟩, fun z => absurd e z⟩
theorem ic_gy_m1 (hB : B ≤ 12) {b : Nat} (hb : b < B) : ic_gy B T F b = -1 ↔ ¬ ic_Re B T F b := by
  constructor
  · intro e r
    have hg := ic_G_12 r hb hB
    rw [ic_gy_t r] at e
    exact ic_m1 (by omega) e
  · exact ic_gy_f
theorem ic_cnt_u {b : Nat} (r : ¬ ic_Re B T F b) : ic_cnt B T F (b + 1) = ic_cnt B T F b := by
  have s := ic_cnt_s (B := B) (T := T) (F := F) b
  rw [ic_c_f (fun l => r l.1)] at s
  omega
/-- what the reference's search in holds says -/
theorem ic_set_H (hB : B ≤ 12) {V : List Nat} {c g : Nat} {ran : Int32} {gd : Nat → Int32} (hran : ∀ y, bt ran y = true ↔ y ∈ V) (hg : g < 2 ^ 31) (hgd : ∀ b, b < B → gd b = ic_gy B T F b) : (∀ m, m < 2 ^ B → ic_YP B T F m.testBit c → ∀ b, b < B → gd b = nI g → bt (ran ||| nI m) b = true) ↔ (∀ l, ic_wy B T F l c B → ∀ b, b < B → ic_Re B T F b → ic_G B T F b = g → (b ∈ V ∨ b ∈ l)) := by
  have hp := ic_pB hB
  constructor
  · intro h l hl b hb r e
    obtain ⟨m, h1, h2⟩ := ic_mask B (fun y => y ∈ l)
    have k := h m h1 ⟨l, hl, h2⟩ b hb (by rw [hgd b hb, ic_gy_t r, e])
    rw [b_or, Bool.or_eq_true, hran, ic_nI b (by omega), h2 b hb] at k
    exact k
  · rintro h m hm ⟨l, hl, k⟩ b hb e
    rw [hgd b hb] at e
    have r : ic_Re B T F b := by
      rcases Classical.em (ic_Re B T F b) with r | r
      · exact r
      · rw [ic_gy_f r] at e
        exact absurd e.symm (ic_m1 hg)
    have h12 := ic_G_12 r hb hB
    rw [ic_gy_t r, nI_eq (by omega) hg] at e
    rw [b_or, Bool.or_eq_true, hran, ic_nI b (by omega), k b hb]
    exact h l hl b hb r e
end
end
section
/-! what X keeps once it is converted -/
section
variable (B : Nat) (T F : Nat → Nat)
def ic_HE (Es : Nat → Nat → Prop) (he : Nat → Int32) : Prop := ∀ b, b < B → (b = 0 ∨ ∃ p, Es p b) → ∃ V, ic_Inv B T F V b (bt (he b))
/-- the guards that the endings make true -/
def ic_GD (i : Nat) (gT gF : Nat → Int32) : Prop := ∀ a, a < i → ic_Re B T F a → ∀ k, k ≤ 12 → (bt (gT a) k = true ↔ ic_Mk B T F a (T a) k) ∧ (bt (gF a) k = true ↔ ic_Mk B T F a (F a) k)
def ic_RS (i : Nat) (tests rt rT rF : Nat → Int32) : Prop := ∀ b, b < i → ic_Re B T F b → rT b = nI (T b) ∧ rF b = nI (F b) ∧ (T b = F b → rt b = -1) ∧ (T b ≠ F b → rt b = tests b)
def ic_CV (tests : Nat → Int32) (ρ gc : Int32) (P gn gT gF rt rT rF : Nat → Int32) : Prop :=
  (∀ b, b < B → (bt ρ b = true ↔ ic_Re B T F b)) ∧ ic_PD B T F P ∧ gc = nI (ic_cnt B T F B) ∧ (∀ b, b < B → gn b = nI (ic_gn B T F b)) ∧ ic_GD B T F B gT gF ∧ ic_RS B T F B tests rt rT rF
end
section
variable {B : Nat} {T F : Nat → Nat}
theorem ic_HE_e {Es : Nat → Nat → Prop} {he : Nat → Int32} {V : List Nat} {i z : Nat} {held : Int32} (h : ic_HE B T F Es he) (I : ic_Inv B T F V z (bt held)) : ic_HE B T F (fun p b => Es p b ∨ (p = i ∧ b = z)) (upd he z held) := by
  intro b hb k
  by_cases e : b = z
  · rw [e, pk_us]
    exact ⟨V, I⟩
  · rw [pk_un e]
    exact h b hb (k.elim Or.inl (fun ⟨p, k⟩ => k.elim (fun k => Or.inr ⟨p, k⟩) (fun k => absurd k.2 e)))
theorem ic_HE_c {Es Es' : Nat → Nat → Prop} {he : Nat → Int32} (h : ic_HE B T F Es he) (e : ∀ p b, b < B → (Es' p b → Es p b)) : ic_HE B T F Es' he := by
  intro b hb k
  exact h b hb (k.elim Or.inl (fun ⟨p, k⟩ => Or.inr ⟨p, e p b hb k⟩))
theorem ic_HE_0 (hB : 0 < B) (hB2 : B ≤ 12) {he : Nat → Int32} : ic_HE B T F (ic_Es B T F 0) (upd he 0 1) := by
  intro b hb k
  rcases k with e | ⟨p, k⟩
  · rw [e, pk_us]
    exact ⟨[], ic_Inv_0 hB (fun k hk => ic_b1 k (by omega)) hB2⟩
  · exact absurd k.1 (Nat.not_lt_zero _)
theorem ic_HE_s {i : Nat} (r : ic_Re B T F i) (p b : Nat) (h : ic_Es B T F (i + 1) p b) : (ic_Es B T F i p b ∨ (p = i ∧ b = T i)) ∨ (p = i ∧ b = F i) := by
  obtain ⟨g1, g2, g3⟩ := h
  by_cases e : p = i
  · rw [e] at g3
    rcases g3 with g3 | g3
    · exact Or.inl (Or.inr ⟨e, g3.symm⟩)
    · exact Or.inr ⟨e, g3.symm⟩
  · exact Or.inl (Or.inl ⟨by omega, g2, g3⟩)
/-- behind an edge of block i: what is held, and that the next held block is the edge's target -/
theorem ic_edge (ok : ic_Ok B T F) (hB : B ≤ 12) {V : List Nat} {i z : Nat} {h m : Int32} (I : ic_Inv B T F V i (bt h)) (hi : i < B) (hz : T i = z ∨ F i = z) (hm : ∀ k, k ≤ 12 → (bt m k = true ↔ ic_Mk B T F i z k)) :
    ic_Inv B T F (V ++ [i]) z (bt (h ||| m)) ∧ i + 1 ≤ z ∧ z ≤ B ∧ (∀ x, i + 1 ≤ x → x < z → bt (h ||| m) (ic_gn B T F x) = false) ∧ (z < B → bt (h ||| m) (ic_gn B T F z) = true) := by
  have J : ic_Inv B T F (V ++ [i]) z (bt (h ||| m)) := ic_Inv_s ok hB I hi hz (fun k hk => by rw [b_or, Bool.or_eq_true, hm k hk])
  have o := ok i hi
  have hlt : i + 1 ≤ z ∧ z ≤ B := by rcases hz with g | g <;> omega
  have hV : ∀ v, v ∈ V ++ [i] → v < i + 1 := by
    intro v mv
    rcases List.mem_append.mp mv with g | g
    · have := (ic_ge ok I.1).2 v g
      omega
    · rw [List.mem_singleton.mp g]
      exact Nat.lt_succ_self _
  refine ⟨J, hlt.1, hlt.2, fun x h1 h2 => ?_, fun h2 => ?_⟩
  · cases e : bt (h ||| m) (ic_gn B T F x) with
    | false => rfl
    | true =>
      have := (ic_held ok J hV h1 (by omega) (by omega)).mp e
      omega
  · exact (ic_held ok J hV hlt.1 h2 (Nat.le_refl _)).mpr rfl
end
end
section
/-! X's small methods, and the ways to the blocks -/
theorem ic_u {a : Nat → Int32} {b : Nat} {x : Int32} (hb : b < 2 ^ 31) : upd a (nI b).toNatClampNeg x = upd a b x := by rw [nI_clamp hb]
theorem ic_g {a : Nat → Int32} {b : Nat} (hb : b < 2 ^ 31) : a (nI b).toNatClampNeg = a b := by rw [nI_clamp hb]
theorem ic_v12 {b : Nat} (hb : b < 12) : vp_in (nI b) 12 := vp_in_nI hb (by decide)
theorem ic_v8 {b : Nat} (hb : b < 8) : vp_in (nI b) 8 := vp_in_nI hb (by decide)
theorem ic_v48 {b : Nat} (hb : b < 48) : vp_in (nI b) 48 := vp_in_nI hb (by decide)
theorem ic_nt {x : Bool} (h : ¬ x = false) : x = true := by
  cases x with
  | true => rfl
  | false => exact absurd rfl h
theorem xm_has {post : Int32 → Prop} {s m : Int32} (n : Nat) (hm : m = nI n) (hn : n < 32) (h1 : bt s n = true → post 1) (h0 : bt s n = false → post 0) : wpX_has post s m := by
  subst hm
  exact ⟨fun z => h0 ((ic_h0 s hn).mp z), fun z => h1 (ic_nt (fun e => z ((ic_h0 s hn).mpr e)))⟩
section
variable {B : Nat} {T F : Nat → Nat} {f_blockCount f_cellCount f_regCount f_converted f_reachable f_guardCount f_recordForm f_ranBlocks f_heldGuards : Int32} {a_inputs a_sizes a_ops a_dests a_args a_tests a_trueTargets a_falseTargets a_onEveryWayTo a_onEveryPath a_guardNumbers a_guardsOnTrue a_guardsOnFalse a_heldOnEntry a_restoredTests a_restoredTrue a_restoredFalse a_finalRegs : Nat → Int32}
theorem xm_addWayTo {post : SX → Prop} {p0 q : Int32} {z : Nat} (hB : B ≤ 12) (hp : p0 = nI z) (hz : z ≤ B)
    (h1 : z < B → post (nI B, f_cellCount, f_regCount, f_converted, f_reachable ||| ((1 : Int32) <<< (nI z &&& 31)), f_guardCount, f_recordForm, f_ranBlocks, f_heldGuards, a_inputs, a_sizes, a_ops, a_dests, a_args, a_tests, a_trueTargets, a_falseTargets, upd a_onEveryWayTo z (a_onEveryWayTo z &&& q), a_onEveryPath, a_guardNumbers, a_guardsOnTrue, a_guardsOnFalse, a_heldOnEntry, a_restoredTests, a_restoredTrue, a_restoredFalse, a_finalRegs))
    (h2 : ¬ z < B → post (nI B, f_cellCount, f_regCount, f_converted, f_reachable, f_guardCount, f_recordForm, f_ranBlocks, f_heldGuards, a_inputs, a_sizes, a_ops, a_dests, a_args, a_tests, a_trueTargets, a_falseTargets, a_onEveryWayTo, a_onEveryPath, a_guardNumbers, a_guardsOnTrue, a_guardsOnFalse, a_heldOnEntry, a_restoredTests, a_restoredTrue, a_restoredFalse, a_finalRegs)) : wpX_addWayTo post (nI B, f_cellCount, f_regCount, f_converted, f_reachable, f_guardCount, f_recordForm, f_ranBlocks, f_heldGuards, a_inputs, a_sizes, a_ops, a_dests, a_args, a_tests, a_trueTargets, a_falseTargets, a_onEveryWayTo, a_onEveryPath, a_guardNumbers, a_guardsOnTrue, a_guardsOnFalse, a_heldOnEntry, a_restoredTests, a_restoredTrue, a_restoredFalse, a_finalRegs) p0 q := by
  subst hp
  by_cases g : z < B
  · exact br_f (nI_ge g (by omega)) (nm_e ⟨ic_v12 (by omega), ic_v12 (by omega), nm_r (by rw [nI_clamp (by omega)]) (h1 g)⟩)
  · exact br_t (nI_le (by omega) (by omega)) (h2 g)
theorem xm_ways37 (ok : ic_Ok B T F) (hB : B ≤ 12) (hT : ∀ b, b < B → a_trueTargets b = nI (T b) ∧ a_falseTargets b = nI (F b)) {post : SX → Prop}
    (hp : ∀ ρ D, ic_WD B T F ρ D → post (nI B, f_cellCount, f_regCount, f_converted, ρ, f_guardCount, f_recordForm, f_ranBlocks, f_heldGuards, a_inputs, a_sizes, a_ops, a_dests, a_args, a_tests, a_trueTargets, a_falseTargets, D, a_onEveryPath, a_guardNumbers, a_guardsOnTrue, a_guardsOnFalse, a_heldOnEntry, a_restoredTests, a_restoredTrue, a_restoredFalse, a_finalRegs)) :
    ∀ d i ρ D, i + d = B → ic_WI B T F (ic_Es B T F i) ρ D → ∀ n, d < n → wX_findWaysToBlocks_37 post n (nI i) (nI B) f_cellCount f_regCount f_converted ρ f_guardCount f_recordForm f_ranBlocks f_heldGuards a_inputs a_sizes a_ops a_dests a_args a_tests a_trueTargets a_falseTargets D a_onEveryPath a_guardNumbers a_guardsOnTrue a_guardsOnFalse a_heldOnEntry a_restoredTests a_restoredTrue a_restoredFalse a_finalRegs := by
  intro d
  induction d with
  | zero =>
    intro i ρ D hi h n hn
    cases n with
    | zero => exact absurd hn (Nat.not_lt_zero _)
    | succ n =>
      have e : i = B := by omega
      rw [e] at h
      exact br_t (nI_le (by omega) (by omega)) (hp ρ D (ic_WI_B h))
  | succ d ih =>
    intro i ρ D hi h n hn
    cases n with
    | zero => exact absurd hn (Nat.not_lt_zero _)
    | succ n =>
      have hiB : i < B := by omega
      have hw := h i hiB
      refine br_f (nI_ge hiB (by omega)) ?_
      refine xm_has i rfl (by omega) (fun e => br_f (by decide) ?_) (fun e => br_t rfl ?_)
      · have r : ic_Re B T F i := (ic_Es_Re ok hiB).mp (hw.1.mp e)
        have hq : ∀ a, a < B → (bt (D i ||| ((1 : Int32) <<< (nI i &&& 31))) a = true ↔ (ic_Do B T F i a ∨ a = i)) := by
          intro a ha
          rw [b_or, ic_sh (n := i) (by omega), Bool.or_eq_true, decide_eq_true_iff, hw.2 a ha, ic_Es_Do ok hiB]
        refine ⟨ic_v12 (by omega), nm_r (e' := D i ||| ((1 : Int32) <<< (nI i &&& 31))) (by rw [nI_clamp (by omega)]) ⟨ic_v12 (by omega), ?_⟩⟩
        refine xm_addWayTo hB ((ic_g (by omega)).trans (hT i hiB).1) (ok i hiB).2.1 (fun g1 => ?_) (fun g1 => ?_)
        · refine ⟨ic_v12 (by omega), ?_⟩
          refine xm_addWayTo hB ((ic_g (by omega)).trans (hT i hiB).2) (ok i hiB).2.2.2 (fun g2 => ?_) (fun g2 => ?_)
          · exact nm_r (nI_1 i) (ih (i + 1) _ _ (by omega) (ic_WI_2 ok hB hiB r h hq ⟨fun _ => ⟨rfl, rfl⟩, fun z => absurd g1 z⟩ ⟨fun _ => ⟨rfl, rfl⟩, fun z => absurd g2 z⟩) n (by omega))
          · exact nm_r (nI_1 i) (ih (i + 1) _ _ (by omega) (ic_WI_2 ok hB hiB r h hq ⟨fun _ => ⟨rfl, rfl⟩, fun z => absurd g1 z⟩ ⟨fun z => absurd z g2, fun _ => ⟨rfl, rfl⟩⟩) n (by omega))
        · refine ⟨ic_v12 (by omega), ?_⟩
          refine xm_addWayTo hB ((ic_g (by omega)).trans (hT i hiB).2) (ok i hiB).2.2.2 (fun g2 => ?_) (fun g2 => ?_)
          · exact nm_r (nI_1 i) (ih (i + 1) _ _ (by omega) (ic_WI_2 ok hB hiB r h hq ⟨fun z => absurd z g1, fun _ => ⟨rfl, rfl⟩⟩ ⟨fun _ => ⟨rfl, rfl⟩, fun z => absurd g2 z⟩) n (by omega))
          · exact nm_r (nI_1 i) (ih (i + 1) _ _ (by omega) (ic_WI_2 ok hB hiB r h hq ⟨fun z => absurd z g1, fun _ => ⟨rfl, rfl⟩⟩ ⟨fun z => absurd z g2, fun _ => ⟨rfl, rfl⟩⟩) n (by omega))
      · have r : ¬ ic_Re B T F i := fun k => by
          have := hw.1.mpr ((ic_Es_Re ok hiB).mpr k)
          rw [e] at this
          cases this
        exact nm_r (nI_1 i) (ih (i + 1) ρ D (by omega) (ic_WI_c h (fun p b _ => ic_Es_n r p b)) n (by omega))
theorem xm_ways14 (ok : ic_Ok B T F) (hB : B ≤ 12) (hT : ∀ b, b < B → a_trueTargets b = nI (T b) ∧ a_falseTargets b = nI (F b)) {post : SX → Prop}
    (hp : ∀ ρ D, ic_WD B T F ρ D → post (nI B, f_cellCount, f_regCount, f_converted, ρ, f_guardCount, f_recordForm, f_ranBlocks, f_heldGuards, a_inputs, a_sizes, a_ops, a_dests, a_args, a_tests, a_trueTargets, a_falseTargets, D, a_onEveryPath, a_guardNumbers, a_guardsOnTrue, a_guardsOnFalse, a_heldOnEntry, a_restoredTests, a_restoredTrue, a_restoredFalse, a_finalRegs)) :
    ∀ d i D, i + d = B → D 0 = 0 → (∀ b, 1 ≤ b → b < i → D b = -1) → 1 ≤ i → ∀ n, d < n → wX_findWaysToBlocks_14 post (nI B) f_cellCount f_regCount f_converted 1 f_guardCount f_recordForm f_ranBlocks f_heldGuards n (nI i) a_inputs a_sizes a_ops a_dests a_args a_tests a_trueTargets a_falseTargets D a_onEveryPath a_guardNumbers a_guardsOnTrue a_guardsOnFalse a_heldOnEntry a_restoredTests a_restoredTrue a_restoredFalse a_finalRegs := by
  intro d
  induction d with
  | zero =>
    intro i D hi h0 h1 hi1 n hn
    cases n with
    | zero => exact absurd hn (Nat.not_lt_zero _)
    | succ n =>
      exact br_t (nI_le (by omega) (by omega)) ⟨B + 1, xm_ways37 ok hB hT hp B 0 1 D (by omega) (ic_WI_0 hB h0 (fun b k1 k2 => h1 b k1 (by omega))) (B + 1) (by omega)⟩
  | succ d ih =>
    intro i D hi h0 h1 hi1 n hn
    cases n with
    | zero => exact absurd hn (Nat.not_lt_zero _)
    | succ n =>
      refine br_f (nI_ge (by omega) (by omega)) ⟨ic_v12 (by omega), nm_r (ic_u (by omega)) (nm_r (nI_1 i) (ih (i + 1) _ (by omega) ?_ ?_ (by omega) n (by omega)))⟩
      · rw [pk_un (by omega)]
        exact h0
      · intro b k1 k2
        by_cases e : b = i
        · rw [e, pk_us]
        · rw [pk_un e]
          exact h1 b k1 (by omega)
theorem xm_ways (ok : ic_Ok B T F) (hB : B ≤ 12) (hB1 : 1 ≤ B) (hT : ∀ b, b < B → a_trueTargets b = nI (T b) ∧ a_falseTargets b = nI (F b)) {post : SX → Prop}
    (hp : ∀ ρ D, ic_WD B T F ρ D → post (nI B, f_cellCount, f_regCount, f_converted, ρ, f_guardCount, f_recordForm, f_ranBlocks, f_heldGuards, a_inputs, a_sizes, a_ops, a_dests, a_args, a_tests, a_trueTargets, a_falseTargets, D, a_onEveryPath, a_guardNumbers, a_guardsOnTrue, a_guardsOnFalse, a_heldOnEntry, a_restoredTests, a_restoredTrue, a_restoredFalse, a_finalRegs)) : wpX_findWaysToBlocks post (nI B, f_cellCount, f_regCount, f_converted, f_reachable, f_guardCount, f_recordForm, f_ranBlocks, f_heldGuards, a_inputs, a_sizes, a_ops, a_dests, a_args, a_tests, a_trueTargets, a_falseTargets, a_onEveryWayTo, a_onEveryPath, a_guardNumbers, a_guardsOnTrue, a_guardsOnFalse, a_heldOnEntry, a_restoredTests, a_restoredTrue, a_restoredFalse, a_finalRegs) :=
  nm_e ⟨B, xm_ways14 ok hB hT hp (B - 1) 1 _ (by omega) pk_us (fun b k1 k2 => by omega) (Nat.le_refl _) B (by omega)⟩
end
end
section
/-! X: what lies on every path, the guards' numbers, the guards that endings make true -/
section
variable {B : Nat} {T F : Nat → Nat} {f_blockCount f_cellCount f_regCount f_converted f_reachable f_guardCount f_recordForm f_ranBlocks f_heldGuards : Int32} {a_inputs a_sizes a_ops a_dests a_args a_tests a_trueTargets a_falseTargets a_onEveryWayTo a_onEveryPath a_guardNumbers a_guardsOnTrue a_guardsOnFalse a_heldOnEntry a_restoredTests a_restoredTrue a_restoredFalse a_finalRegs : Nat → Int32}
theorem xm_oep {post : Int32 → Prop} {p0 : Int32} {z : Nat} (hB : B ≤ 12) (hp : p0 = nI z) (hz : z ≤ B) (hP : z < B → ∀ y, bt (a_onEveryPath z) y = true ↔ ic_A B T F z y)
    (h : ∀ q, (∀ y, bt q y = true ↔ ic_A B T F z y) → post q) : wpX_onEveryPathFrom post (nI B, f_cellCount, f_regCount, f_converted, f_reachable, f_guardCount, f_recordForm, f_ranBlocks, f_heldGuards, a_inputs, a_sizes, a_ops, a_dests, a_args, a_tests, a_trueTargets, a_falseTargets, a_onEveryWayTo, a_onEveryPath, a_guardNumbers, a_guardsOnTrue, a_guardsOnFalse, a_heldOnEntry, a_restoredTests, a_restoredTrue, a_restoredFalse, a_finalRegs) p0 := by
  subst hp
  by_cases g : z < B
  · refine br_f (nI_ge g (by omega)) ⟨ic_v12 (by omega), ?_⟩
    refine h _ ?_
    rw [nI_clamp (by omega)]
    exact hP g
  · have e : z = B := by omega
    refine br_t (nI_le (by omega) (by omega)) (h 0 (fun y => ?_))
    rw [b_0, e]
    exact ⟨fun k => (by cases k), fun k => absurd k ic_A_B⟩
theorem xm_paths7 (ok : ic_Ok B T F) (hB : B ≤ 12) (hT : ∀ b, b < B → a_trueTargets b = nI (T b) ∧ a_falseTargets b = nI (F b)) {post : SX → Prop}
    (hp : ∀ P, ic_PD B T F P → post (nI B, f_cellCount, f_regCount, f_converted, f_reachable, f_guardCount, f_recordForm, f_ranBlocks, f_heldGuards, a_inputs, a_sizes, a_ops, a_dests, a_args, a_tests, a_trueTargets, a_falseTargets, a_onEveryWayTo, P, a_guardNumbers, a_guardsOnTrue, a_guardsOnFalse, a_heldOnEntry, a_restoredTests, a_restoredTrue, a_restoredFalse, a_finalRegs)) :
    ∀ j P x1, j ≤ B → x1 = nI j - 1 → (∀ x, j ≤ x → x < B → ∀ y, (bt (P x) y = true ↔ ic_A B T F x y)) → ∀ n, j < n → wX_findPathsFromBlocks_7 post (nI B) f_cellCount f_regCount f_converted f_reachable f_guardCount f_recordForm f_ranBlocks f_heldGuards n x1 a_inputs a_sizes a_ops a_dests a_args a_tests a_trueTargets a_falseTargets a_onEveryWayTo P a_guardNumbers a_guardsOnTrue a_guardsOnFalse a_heldOnEntry a_restoredTests a_restoredTrue a_restoredFalse a_finalRegs := by
  intro j
  induction j with
  | zero =>
    intro P x1 hj hx h n hn
    subst hx
    cases n with
    | zero => exact absurd hn (Nat.not_lt_zero _)
    | succ n => exact br_t (by decide) (hp P (fun x hx => h x (Nat.zero_le _) hx))
  | succ i ih =>
    intro P x1 hj hx h n hn
    rw [nI_pred] at hx
    subst hx
    cases n with
    | zero => exact absurd hn (Nat.not_lt_zero _)
    | succ n =>
      have hi : i < B := by omega
      have o := ok i hi
      refine br_f (nI_pos (by omega)) ⟨ic_v12 (by omega), ?_⟩
      refine xm_oep (T := T) (F := F) (z := T i) hB ((ic_g (by omega)).trans (hT i hi).1) o.2.1 (h (T i) (by omega)) (fun p h1 => ?_)
      refine ⟨ic_v12 (by omega), ?_⟩
      refine xm_oep (T := T) (F := F) (z := F i) hB ((ic_g (by omega)).trans (hT i hi).2) o.2.2.2 (h (F i) (by omega)) (fun q h2 => ?_)
      refine ⟨ic_v12 (by omega), nm_r (ic_u (by omega)) (nm_e (ih _ _ (by omega) (by rw [Int32.sub_eq_add_neg]) ?_ n (by omega)))⟩
      intro x k1 k2 y
      by_cases e : x = i
      · rw [e, pk_us]
        exact ic_PD_s hi h1 h2 hB y
      · rw [pk_un e]
        exact h x (by omega) k2 y
theorem xm_paths (ok : ic_Ok B T F) (hB : B ≤ 12) (hT : ∀ b, b < B → a_trueTargets b = nI (T b) ∧ a_falseTargets b = nI (F b)) {post : SX → Prop}
    (hp : ∀ P, ic_PD B T F P → post (nI B, f_cellCount, f_regCount, f_converted, f_reachable, f_guardCount, f_recordForm, f_ranBlocks, f_heldGuards, a_inputs, a_sizes, a_ops, a_dests, a_args, a_tests, a_trueTargets, a_falseTargets, a_onEveryWayTo, P, a_guardNumbers, a_guardsOnTrue, a_guardsOnFalse, a_heldOnEntry, a_restoredTests, a_restoredTrue, a_restoredFalse, a_finalRegs)) : wpX_findPathsFromBlocks post (nI B, f_cellCount, f_regCount, f_converted, f_reachable, f_guardCount, f_recordForm, f_ranBlocks, f_heldGuards, a_inputs, a_sizes, a_ops, a_dests, a_args, a_tests, a_trueTargets, a_falseTargets, a_onEveryWayTo, a_onEveryPath, a_guardNumbers, a_guardsOnTrue, a_guardsOnFalse, a_heldOnEntry, a_restoredTests, a_restoredTrue, a_restoredFalse, a_finalRegs) :=
  nm_e ⟨B + 1, xm_paths7 ok hB hT hp B _ _ (Nat.le_refl _) rfl (fun x k1 k2 => by omega) (B + 1) (by omega)⟩
theorem xm_share2 (ok : ic_Ok B T F) (hB : B ≤ 12) {ρ : Int32} (hD : ic_WD B T F ρ a_onEveryWayTo) (hP : ic_PD B T F a_onEveryPath) {b : Nat} (hb : b < B) (r : ic_Re B T F b)
    (hg : ∀ a, a < b → a_guardNumbers a = nI (ic_gn B T F a)) {post : Int32 → Prop} (hp : post (nI (ic_G B T F b))) :
    ∀ d i, i + d = b → (∀ a, a < i → ic_Re B T F a → ¬ ic_Tg B T F a b) → ∀ n, d < n → wX_sharedOrNextGuard_2 post (nI b) (nI B) f_cellCount f_regCount f_converted f_reachable (nI (ic_cnt B T F b)) f_recordForm f_ranBlocks f_heldGuards a_inputs a_sizes a_ops a_dests a_args a_tests a_trueTargets a_falseTargets a_onEveryWayTo a_onEveryPath a_guardNumbers a_guardsOnTrue a_guardsOnFalse a_heldOnEntry a_restoredTests a_restoredTrue a_restoredFalse a_finalRegs n (nI i) := by
  intro d
  induction d with
  | zero =>
    intro i hi h n hn
    cases n with
    | zero => exact absurd hn (Nat.not_lt_zero _)
    | succ n =>
      have e : i = b := by omega
      rw [e] at h
      have k := ic_G_new (ic_ldr_of r h)
      rw [k] at hp
      exact br_t (nI_le (by omega) (by omega)) hp
  | succ d ih =>
    intro i hi h n hn
    cases n with
    | zero => exact absurd hn (Nat.not_lt_zero _)
    | succ n =>
      have hs := ic_share ok hD hP (a := i) (b := b) (by omega) hb r
      have no : ¬ (bt (a_onEveryWayTo b) i = true ∧ bt (a_onEveryPath i) b = true) → ∀ a, a < i + 1 → ic_Re B T F a → ¬ ic_Tg B T F a b := by
        intro z a ha ra t
        by_cases e : a = i
        · rw [e] at ra t
          exact z (hs.mpr ⟨ra, t⟩)
        · exact h a (by omega) ra t
      refine br_f (nI_ge (by omega) (by omega)) ⟨ic_v12 (by omega), ?_⟩
      refine xm_has i rfl (by omega) (fun e => br_f (by decide) ?_) (fun e => br_t rfl ?_)
      · rw [nI_clamp (by omega)] at e
        refine ⟨ic_v12 (by omega), ?_⟩
        refine xm_has b rfl (by omega) (fun e2 => br_f (by decide) ?_) (fun e2 => br_t rfl ?_)
        · rw [nI_clamp (by omega)] at e2
          obtain ⟨ra, t⟩ := hs.mp ⟨e, e2⟩
          refine ⟨ic_v12 (by omega), ?_⟩
          rw [nI_clamp (by omega), hg i (by omega), ic_gn_t ra, ← ic_G_eq ra r t]
          exact hp
        · rw [nI_clamp (by omega)] at e2
          exact nm_r (nI_1 i) (ih (i + 1) (by omega) (no (fun z => by rw [e2] at z; exact absurd z.2 (by decide))) n (by omega))
      · rw [nI_clamp (by omega)] at e
        exact nm_r (nI_1 i) (ih (i + 1) (by omega) (no (fun z => by rw [e] at z; exact absurd z.1 (by decide))) n (by omega))
theorem xm_number7 (ok : ic_Ok B T F) (hB : B ≤ 12) (hD : ic_WD B T F f_reachable a_onEveryWayTo) (hP : ic_PD B T F a_onEveryPath) {post : SX → Prop}
    (hp : ∀ g, (∀ b, b < B → g b = nI (ic_gn B T F b)) → post (nI B, f_cellCount, f_regCount, f_converted, f_reachable, nI (ic_cnt B T F B), f_recordForm, f_ranBlocks, f_heldGuards, a_inputs, a_sizes, a_ops, a_dests, a_args, a_tests, a_trueTargets, a_falseTargets, a_onEveryWayTo, a_onEveryPath, g, a_guardsOnTrue, a_guardsOnFalse, a_heldOnEntry, a_restoredTests, a_restoredTrue, a_restoredFalse, a_finalRegs)) :
    ∀ d i g, i + d = B → (∀ b, b < i → g b = nI (ic_gn B T F b)) → ∀ n, d < n → wX_numberGuards_7 post (nI B) f_cellCount f_regCount f_converted f_reachable f_recordForm f_ranBlocks f_heldGuards n (nI i) (nI (ic_cnt B T F i)) a_inputs a_sizes a_ops a_dests a_args a_tests a_trueTargets a_falseTargets a_onEveryWayTo a_onEveryPath g a_guardsOnTrue a_guardsOnFalse a_heldOnEntry a_restoredTests a_restoredTrue a_restoredFalse a_finalRegs := by
  intro d
  induction d with
  | zero =>
    intro i g hi h n hn
    cases n with
    | zero => exact absurd hn (Nat.not_lt_zero _)
    | succ n =>
      have e : i = B := by omega
      rw [e] at h ⊢
      exact br_t (nI_le (by omega) (by omega)) (hp g h)
  | succ d ih =>
    intro i g hi h n hn
    cases n with
    | zero => exact absurd hn (Nat.not_lt_zero _)
    | succ n =>
      have hiB : i < B := by omega
      have hc := ic_cnt_le (B := B) (T := T) (F := F) i
      have hgn := ic_gn_le (B := B) (T := T) (F := F) hiB hB
      have hnew := ic_gn_new (B := B) (T := T) (F := F) (b := i) (by omega)
      have hs : ∀ b, b < i + 1 → upd g i (nI (ic_gn B T F i)) b = nI (ic_gn B T F b) := by
        intro b hb
        by_cases e : b = i
        · rw [e, pk_us]
        · rw [pk_un e]
          exact h b (by omega)
      have H : ∀ z0, z0 = nI (ic_gn B T F i) → wX_numberGuards_41 post (wX_numberGuards_7 post (nI B) f_cellCount f_regCount f_converted f_reachable f_recordForm f_ranBlocks f_heldGuards n) (nI i) z0 (nI i) (nI B) f_cellCount f_regCount f_converted f_reachable (nI (ic_cnt B T F i)) f_recordForm f_ranBlocks f_heldGuards a_inputs a_sizes a_ops a_dests a_args a_tests a_trueTargets a_falseTargets a_onEveryWayTo a_onEveryPath g a_guardsOnTrue a_guardsOnFalse a_heldOnEntry a_restoredTests a_restoredTrue a_restoredFalse a_finalRegs := by
        intro z0 hz
        subst hz
        refine ⟨ic_v12 (by omega), nm_r (ic_u (by omega)) ⟨ic_v12 (by omega), ?_⟩⟩
        rw [nI_clamp (by omega), pk_us]
        refine pk_eq (ic_gn B T F i) (ic_cnt B T F i) (fun e => ?_) (fun e => ?_)
        · refine nm_r (nI_1 _) (nm_r (nI_1 i) ?_)
          rw [← hnew.1 e]
          exact ih (i + 1) _ (by omega) hs n (by omega)
        · refine nm_r (nI_1 i) ?_
          have k := ih (i + 1) _ (by omega) hs n (by omega)
          rw [hnew.2 e] at k
          exact k
      refine br_f (nI_ge (by omega) (by omega)) ?_
      refine xm_has i rfl (by omega) (fun e => br_f (by decide) ?_) (fun e => br_t rfl ?_)
      · have r := (hD i hiB).1.mp e
        refine ⟨i + 1, xm_share2 ok hB hD hP hiB r h ?_ i 0 (by omega) (fun a ha => absurd ha (Nat.not_lt_zero a)) (i + 1) (by omega)⟩
        exact H _ (by rw [ic_gn_t r])
      · have r : ¬ ic_Re B T F i := fun k => by
          have := (hD i hiB).1.mpr k
          rw [e] at this
          cases this
        exact H _ (by rw [ic_gn_f r]; rfl)
theorem xm_number (ok : ic_Ok B T F) (hB : B ≤ 12) (hD : ic_WD B T F f_reachable a_onEveryWayTo) (hP : ic_PD B T F a_onEveryPath) {post : SX → Prop}
    (hp : ∀ g, (∀ b, b < B → g b = nI (ic_gn B T F b)) → post (nI B, f_cellCount, f_regCount, f_converted, f_reachable, nI (ic_cnt B T F B), f_recordForm, f_ranBlocks, f_heldGuards, a_inputs, a_sizes, a_ops, a_dests, a_args, a_tests, a_trueTargets, a_falseTargets, a_onEveryWayTo, a_onEveryPath, g, a_guardsOnTrue, a_guardsOnFalse, a_heldOnEntry, a_restoredTests, a_restoredTrue, a_restoredFalse, a_finalRegs)) : wpX_numberGuards post (nI B, f_cellCount, f_regCount, f_converted, f_reachable, f_guardCount, f_recordForm, f_ranBlocks, f_heldGuards, a_inputs, a_sizes, a_ops, a_dests, a_args, a_tests, a_trueTargets, a_falseTargets, a_onEveryWayTo, a_onEveryPath, a_guardNumbers, a_guardsOnTrue, a_guardsOnFalse, a_heldOnEntry, a_restoredTests, a_restoredTrue, a_restoredFalse, a_finalRegs) :=
  ⟨B + 1, xm_number7 ok hB hD hP hp B 0 _ (by omega) (fun b hb => absurd hb (Nat.not_lt_zero b)) (B + 1) (by omega)⟩
theorem xm_dep (hB : B ≤ 12) (hP : ic_PD B T F a_onEveryPath) {post : Int32 → Prop} {p1 : Int32} {a z : Nat} (ha : a < B) (hp : p1 = nI z) (hz : z ≤ B)
    (h : ∀ q, (∀ y, y < 32 → (bt q y = true ↔ (ic_A B T F z y ∧ ¬ ic_A B T F a y))) → post q) : wpX_dependentsOfEdge post (nI B, f_cellCount, f_regCount, f_converted, f_reachable, f_guardCount, f_recordForm, f_ranBlocks, f_heldGuards, a_inputs, a_sizes, a_ops, a_dests, a_args, a_tests, a_trueTargets, a_falseTargets, a_onEveryWayTo, a_onEveryPath, a_guardNumbers, a_guardsOnTrue, a_guardsOnFalse, a_heldOnEntry, a_restoredTests, a_restoredTrue, a_restoredFalse, a_finalRegs) (nI a) p1 := by
  unfold wpX_dependentsOfEdge
  refine xm_oep (T := T) (F := F) hB hp hz (fun g => hP z g) (fun q hq => ⟨ic_v12 (by omega), h _ (fun y hy => ?_)⟩)
  rw [nI_clamp (by omega)]
  exact ic_dep hq (hP a ha) hy
theorem xm_made13 (hB : B ≤ 12) (hg : ∀ b, b < B → a_guardNumbers b = nI (ic_gn B T F b)) {q : Int32} {post : Int32 → Prop}
    (hp : ∀ m, (∀ k, bt m k = true ↔ ∃ b, b < B ∧ bt q b = true ∧ ic_gn B T F b = k) → post m) :
    ∀ d i m, i + d = B → (∀ k, bt m k = true ↔ ∃ b, b < i ∧ bt q b = true ∧ ic_gn B T F b = k) → ∀ n, d < n → wX_guardsMadeTrue_13 post q (nI B) f_cellCount f_regCount f_converted f_reachable f_guardCount f_recordForm f_ranBlocks f_heldGuards a_inputs a_sizes a_ops a_dests a_args a_tests a_trueTargets a_falseTargets a_onEveryWayTo a_onEveryPath a_guardNumbers a_guardsOnTrue a_guardsOnFalse a_heldOnEntry a_restoredTests a_restoredTrue a_restoredFalse a_finalRegs n m (nI i) := by
  intro d
  induction d with
  | zero =>
    intro i m hi h n hn
    cases n with
    | zero => exact absurd hn (Nat.not_lt_zero _)
    | succ n =>
      have e : i = B := by omega
      rw [e] at h
      exact br_t (nI_le (by omega) (by omega)) (hp m h)
  | succ d ih =>
    intro i m hi h n hn
    cases n with
    | zero => exact absurd hn (Nat.not_lt_zero _)
    | succ n =>
      have hiB : i < B := by omega
      have hgn := ic_gn_le (B := B) (T := T) (F := F) hiB hB
      refine br_f (nI_ge (by omega) (by omega)) ?_
      refine xm_has i rfl (by omega) (fun e => br_f (by decide) ?_) (fun e => br_t rfl ?_)
      · refine ⟨ic_v12 (by omega), nm_r (e' := m ||| ((1 : Int32) <<< (nI (ic_gn B T F i) &&& 31))) (by rw [nI_clamp (by omega), hg i hiB]) (nm_r (nI_1 i) (ih (i + 1) _ (by omega) (fun k => ?_) n (by omega)))⟩
        rw [b_or, ic_sh (n := ic_gn B T F i) (by omega), Bool.or_eq_true, decide_eq_true_iff, h k]
        constructor
        · rintro (⟨b, k1, k2⟩ | k1)
          · exact ⟨b, by omega, k2⟩
          · exact ⟨i, by omega, e, k1.symm⟩
        · rintro ⟨b, k1, k2, k3⟩
          by_cases eb : b = i
          · rw [eb] at k3
            exact Or.inr k3.symm
          · exact Or.inl ⟨b, by omega, k2, k3⟩
      · refine nm_r (nI_1 i) (ih (i + 1) _ (by omega) (fun k => ?_) n (by omega))
        rw [h k]
        constructor
        · rintro ⟨b, k1, k2⟩
          exact ⟨b, by omega, k2⟩
        · rintro ⟨b, k1, k2, k3⟩
          by_cases eb : b = i
          · rw [eb, e] at k2
            cases k2
          · exact ⟨b, by omega, k2, k3⟩
theorem xm_made (ok : ic_Ok B T F) (hB : B ≤ 12) (hP : ic_PD B T F a_onEveryPath) (hg : ∀ b, b < B → a_guardNumbers b = nI (ic_gn B T F b)) {post : Int32 → Prop} {p1 : Int32} {a z : Nat} (ha : a < B) (ra : ic_Re B T F a) (hz : T a = z ∨ F a = z) (hp : p1 = nI z)
    (h : ∀ m, (∀ k, k ≤ 12 → (bt m k = true ↔ ic_Mk B T F a z k)) → post m) : wpX_guardsMadeTrue post (nI B, f_cellCount, f_regCount, f_converted, f_reachable, f_guardCount, f_recordForm, f_ranBlocks, f_heldGuards, a_inputs, a_sizes, a_ops, a_dests, a_args, a_tests, a_trueTargets, a_falseTargets, a_onEveryWayTo, a_onEveryPath, a_guardNumbers, a_guardsOnTrue, a_guardsOnFalse, a_heldOnEntry, a_restoredTests, a_restoredTrue, a_restoredFalse, a_finalRegs) (nI a) p1 := by
  have o := ok a ha
  have hzB : z ≤ B := by rcases hz with e | e <;> omega
  have rz : ic_Re B T F z := ic_Re_s.mpr (Or.inr ⟨a, ha, ra, hz⟩)
  unfold wpX_guardsMadeTrue
  refine xm_dep (T := T) (F := F) hB hP ha hp hzB (fun q hq => ⟨B + 1, ?_⟩)
  refine xm_made13 (T := T) (F := F) hB hg (fun m hm => h m (fun k _ => ?_)) B 0 0 (by omega) (fun k => ?_) (B + 1) (by omega)
  · rw [hm k]
    constructor
    · rintro ⟨b, k1, k2, k3⟩
      rw [hq b (by omega)] at k2
      exact ⟨b, k1, k2.1, k2.2, by rw [← ic_gn_t (ic_A_Re ok hzB rz k2.1)]; exact k3⟩
    · rintro ⟨b, k1, k2, k3, k4⟩
      exact ⟨b, k1, (hq b (by omega)).mpr ⟨k2, k3⟩, by rw [ic_gn_t (ic_A_Re ok hzB rz k2)]; exact k4⟩
  · rw [b_0]
    exact ⟨fun z => (by cases z), fun ⟨b, k1, _⟩ => absurd k1 (Nat.not_lt_zero b)⟩
theorem xm_define2 (ok : ic_Ok B T F) (hB : B ≤ 12) (hT : ∀ b, b < B → a_trueTargets b = nI (T b) ∧ a_falseTargets b = nI (F b)) (hR : ∀ b, b < B → (bt f_reachable b = true ↔ ic_Re B T F b)) (hP : ic_PD B T F a_onEveryPath) (hg : ∀ b, b < B → a_guardNumbers b = nI (ic_gn B T F b)) {post : SX → Prop}
    (hp : ∀ gT gF, ic_GD B T F B gT gF → post (nI B, f_cellCount, f_regCount, f_converted, f_reachable, f_guardCount, f_recordForm, f_ranBlocks, f_heldGuards, a_inputs, a_sizes, a_ops, a_dests, a_args, a_tests, a_trueTargets, a_falseTargets, a_onEveryWayTo, a_onEveryPath, a_guardNumbers, gT, gF, a_heldOnEntry, a_restoredTests, a_restoredTrue, a_restoredFalse, a_finalRegs)) :
    ∀ d i gT gF, i + d = B → ic_GD B T F i gT gF → ∀ n, d < n → wX_defineGuards_2 post (nI B) f_cellCount f_regCount f_converted f_reachable f_guardCount f_recordForm f_ranBlocks f_heldGuards n (nI i) a_inputs a_sizes a_ops a_dests a_args a_tests a_trueTargets a_falseTargets a_onEveryWayTo a_onEveryPath a_guardNumbers gT gF a_heldOnEntry a_restoredTests a_restoredTrue a_restoredFalse a_finalRegs := by
  intro d
  induction d with
  | zero =>
    intro i gT gF hi h n hn
    cases n with
    | zero => exact absurd hn (Nat.not_lt_zero _)
    | succ n =>
      have e : i = B := by omega
      rw [e] at h
      exact br_t (nI_le (by omega) (by omega)) (hp gT gF h)
  | succ d ih =>
    intro i gT gF hi h n hn
    cases n with
    | zero => exact absurd hn (Nat.not_lt_zero _)
    | succ n =>
      have hiB : i < B := by omega
      refine br_f (nI_ge (by omega) (by omega)) ?_
      refine xm_has i rfl (by omega) (fun e => br_f (by decide) ?_) (fun e => br_t rfl ?_)
      · have r := (hR i hiB).mp e
        refine ⟨ic_v12 (by omega), ?_⟩
        refine xm_made (T := T) (F := F) ok hB hP hg hiB r (Or.inl rfl) ((ic_g (by omega)).trans (hT i hiB).1) (fun m1 h1 => ?_)
        refine ⟨ic_v12 (by omega), nm_r (ic_u (by omega)) ⟨ic_v12 (by omega), ?_⟩⟩
        refine xm_made (T := T) (F := F) ok hB hP hg hiB r (Or.inr rfl) ((ic_g (by omega)).trans (hT i hiB).2) (fun m2 h2 => ?_)
        refine ⟨ic_v12 (by omega), nm_r (ic_u (by omega)) (nm_r (nI_1 i) (ih (i + 1) _ _ (by omega) (fun a ha ra k hk => ?_) n (by omega)))⟩
        by_cases ea : a = i
        · rw [ea, pk_us, pk_us]
          exact ⟨h1 k hk, h2 k hk⟩
        · rw [pk_un ea, pk_un ea]
          exact h a (by omega) ra k hk
      · have r : ¬ ic_Re B T F i := fun k => by
          have := (hR i hiB).mpr k
          rw [e] at this
          cases this
        refine nm_r (nI_1 i) (ih (i + 1) _ _ (by omega) (fun a ha ra => ?_) n (by omega))
        by_cases ea : a = i
        · rw [ea] at ra
          exact absurd ra r
        · exact h a (by omega) ra
theorem xm_define (ok : ic_Ok B T F) (hB : B ≤ 12) (hT : ∀ b, b < B → a_trueTargets b = nI (T b) ∧ a_falseTargets b = nI (F b)) (hR : ∀ b, b < B → (bt f_reachable b = true ↔ ic_Re B T F b)) (hP : ic_PD B T F a_onEveryPath) (hg : ∀ b, b < B → a_guardNumbers b = nI (ic_gn B T F b)) {post : SX → Prop}
    (hp : ∀ gT gF, ic_GD B T F B gT gF → post (nI B, f_cellCount, f_regCount, f_converted, f_reachable, f_guardCount, f_recordForm, f_ranBlocks, f_heldGuards, a_inputs, a_sizes, a_ops, a_dests, a_args, a_tests, a_trueTargets, a_falseTargets, a_onEveryWayTo, a_onEveryPath, a_guardNumbers, gT, gF, a_heldOnEntry, a_restoredTests, a_restoredTrue, a_restoredFalse, a_finalRegs)) : wpX_defineGuards post (nI B, f_cellCount, f_regCount, f_converted, f_reachable, f_guardCount, f_recordForm, f_ranBlocks, f_heldGuards, a_inputs, a_sizes, a_ops, a_dests, a_args, a_tests, a_trueTargets, a_falseTargets, a_onEveryWayTo, a_onEveryPath, a_guardNumbers, a_guardsOnTrue, a_guardsOnFalse, a_heldOnEntry, a_restoredTests, a_restoredTrue, a_restoredFalse, a_finalRegs) :=
  ⟨B + 1, xm_define2 ok hB hT hR hP hg hp B 0 _ _ (by omega) (fun a ha => absurd ha (Nat.not_lt_zero a)) (B + 1) (by omega)⟩
end
end
section
/-! X: the next held block, the restored endings, the whole conversion -/
section
variable {B : Nat} {T F : Nat → Nat} {f_blockCount f_cellCount f_regCount f_converted f_reachable f_guardCount f_recordForm f_ranBlocks f_heldGuards : Int32} {a_inputs a_sizes a_ops a_dests a_args a_tests a_trueTargets a_falseTargets a_onEveryWayTo a_onEveryPath a_guardNumbers a_guardsOnTrue a_guardsOnFalse a_heldOnEntry a_restoredTests a_restoredTrue a_restoredFalse a_finalRegs : Nat → Int32}
theorem xm_next2 (hB : B ≤ 12) (hg : ∀ b, b < B → a_guardNumbers b = nI (ic_gn B T F b)) {post : Int32 → Prop} {h : Int32} {z : Nat} (hz : z ≤ B) (h2 : z < B → bt h (ic_gn B T F z) = true) (hp : post (nI z)) :
    ∀ d i, i + d = z → (∀ x, i ≤ x → x < z → bt h (ic_gn B T F x) = false) → ∀ n, d < n → wX_nextHeldBlock_2 post h (nI B) f_cellCount f_regCount f_converted f_reachable f_guardCount f_recordForm f_ranBlocks f_heldGuards a_inputs a_sizes a_ops a_dests a_args a_tests a_trueTargets a_falseTargets a_onEveryWayTo a_onEveryPath a_guardNumbers a_guardsOnTrue a_guardsOnFalse a_heldOnEntry a_restoredTests a_restoredTrue a_restoredFalse a_finalRegs n (nI i) := by
  intro d
  induction d with
  | zero =>
    intro i hi h1 n hn
    cases n with
    | zero => exact absurd hn (Nat.not_lt_zero _)
    | succ n =>
      have e : i = z := by omega
      subst e
      by_cases g : i < B
      · have hgn := ic_gn_le (B := B) (T := T) (F := F) g hB
        refine br_f (nI_ge g (by omega)) ⟨ic_v12 (by omega), ?_⟩
        refine xm_has (ic_gn B T F i) ((ic_g (by omega)).trans (hg i g)) (by omega) (fun _ => br_f (by decide) hp) (fun e => ?_)
        rw [h2 g] at e
        cases e
      · have e : i = B := by omega
        rw [e] at hp
        exact br_t (nI_le (by omega) (by omega)) hp
  | succ d ih =>
    intro i hi h1 n hn
    cases n with
    | zero => exact absurd hn (Nat.not_lt_zero _)
    | succ n =>
      have g : i < B := by omega
      have hgn := ic_gn_le (B := B) (T := T) (F := F) g hB
      refine br_f (nI_ge g (by omega)) ⟨ic_v12 (by omega), ?_⟩
      refine xm_has (ic_gn B T F i) ((ic_g (by omega)).trans (hg i g)) (by omega) (fun e => ?_) (fun _ => br_t rfl ?_)
      · rw [h1 i (Nat.le_refl _) (by omega)] at e
        cases e
      · exact nm_r (nI_1 i) (ih (i + 1) (by omega) (fun x k1 k2 => h1 x (by omega) k2) n (by omega))
theorem xm_next (hB : B ≤ 12) (hg : ∀ b, b < B → a_guardNumbers b = nI (ic_gn B T F b)) {post : Int32 → Prop} {h p0 : Int32} {i z : Nat} (hi : p0 = nI i) (hiz : i ≤ z) (hz : z ≤ B) (h1 : ∀ x, i ≤ x → x < z → bt h (ic_gn B T F x) = false) (h2 : z < B → bt h (ic_gn B T F z) = true) (hp : post (nI z)) :
    wpX_nextHeldBlock post (nI B, f_cellCount, f_regCount, f_converted, f_reachable, f_guardCount, f_recordForm, f_ranBlocks, f_heldGuards, a_inputs, a_sizes, a_ops, a_dests, a_args, a_tests, a_trueTargets, a_falseTargets, a_onEveryWayTo, a_onEveryPath, a_guardNumbers, a_guardsOnTrue, a_guardsOnFalse, a_heldOnEntry, a_restoredTests, a_restoredTrue, a_restoredFalse, a_finalRegs) p0 h := by
  subst hi
  exact ⟨z + 1, xm_next2 hB hg hz h2 hp (z - i) i (by omega) h1 (z + 1) (by omega)⟩
theorem xm_edge (ok : ic_Ok B T F) (hB : B ≤ 12) (hg : ∀ b, b < B → a_guardNumbers b = nI (ic_gn B T F b)) {post : Int32 → SX → Prop} {m : Int32} {V : List Nat} {i z : Nat} (I : ic_Inv B T F V i (bt (a_heldOnEntry i))) (hi : i < B) (hz : T i = z ∨ F i = z) (hm : ∀ k, k ≤ 12 → (bt m k = true ↔ ic_Mk B T F i z k))
    (h1 : ∀ h, ic_Inv B T F (V ++ [i]) z (bt h) → z < B → post (nI z) (nI B, f_cellCount, f_regCount, f_converted, f_reachable, f_guardCount, f_recordForm, f_ranBlocks, f_heldGuards, a_inputs, a_sizes, a_ops, a_dests, a_args, a_tests, a_trueTargets, a_falseTargets, a_onEveryWayTo, a_onEveryPath, a_guardNumbers, a_guardsOnTrue, a_guardsOnFalse, upd a_heldOnEntry z h, a_restoredTests, a_restoredTrue, a_restoredFalse, a_finalRegs)) (h2 : ¬ z < B → post (nI z) (nI B, f_cellCount, f_regCount, f_converted, f_reachable, f_guardCount, f_recordForm, f_ranBlocks, f_heldGuards, a_inputs, a_sizes, a_ops, a_dests, a_args, a_tests, a_trueTargets, a_falseTargets, a_onEveryWayTo, a_onEveryPath, a_guardNumbers, a_guardsOnTrue, a_guardsOnFalse, a_heldOnEntry, a_restoredTests, a_restoredTrue, a_restoredFalse, a_finalRegs)) :
    wpX_restoreEdge post (nI B, f_cellCount, f_regCount, f_converted, f_reachable, f_guardCount, f_recordForm, f_ranBlocks, f_heldGuards, a_inputs, a_sizes, a_ops, a_dests, a_args, a_tests, a_trueTargets, a_falseTargets, a_onEveryWayTo, a_onEveryPath, a_guardNumbers, a_guardsOnTrue, a_guardsOnFalse, a_heldOnEntry, a_restoredTests, a_restoredTrue, a_restoredFalse, a_finalRegs) (nI i) m := by
  obtain ⟨J, j1, j2, j3, j4⟩ := ic_edge ok hB I hi hz hm
  refine ⟨ic_v12 (by omega), nm_r (e' := a_heldOnEntry i ||| m) (by rw [nI_clamp (by omega)]) ?_⟩
  refine xm_next (T := T) (F := F) hB hg (nI_1 i) j1 j2 j3 j4 ?_
  by_cases g : z < B
  · exact br_f (nI_ge g (by omega)) ⟨ic_v12 (by omega), nm_r (ic_u (by omega)) (h1 _ J g)⟩
  · exact br_t (nI_le (by omega) (by omega)) (h2 g)
theorem xm_rest9 (ok : ic_Ok B T F) (hB : B ≤ 12) (hR : ∀ b, b < B → (bt f_reachable b = true ↔ ic_Re B T F b)) (hg : ∀ b, b < B → a_guardNumbers b = nI (ic_gn B T F b)) (hG : ic_GD B T F B a_guardsOnTrue a_guardsOnFalse) {post : SX → Prop}
    (hp : ∀ he rt rT rF, ic_RS B T F B a_tests rt rT rF → post (nI B, f_cellCount, f_regCount, f_converted, f_reachable, f_guardCount, f_recordForm, f_ranBlocks, f_heldGuards, a_inputs, a_sizes, a_ops, a_dests, a_args, a_tests, a_trueTargets, a_falseTargets, a_onEveryWayTo, a_onEveryPath, a_guardNumbers, a_guardsOnTrue, a_guardsOnFalse, he, rt, rT, rF, a_finalRegs)) :
    ∀ d i he rt rT rF, i + d = B → ic_HE B T F (ic_Es B T F i) he → ic_RS B T F i a_tests rt rT rF → ∀ n, d < n → wX_restoreEndings_9 post n (nI i) (nI B) f_cellCount f_regCount f_converted f_reachable f_guardCount f_recordForm f_ranBlocks f_heldGuards a_inputs a_sizes a_ops a_dests a_args a_tests a_trueTargets a_falseTargets a_onEveryWayTo a_onEveryPath a_guardNumbers a_guardsOnTrue a_guardsOnFalse he rt rT rF a_finalRegs := by
  intro d
  induction d with
  | zero =>
    intro i he rt rT rF hi hE h n hn
    cases n with
    | zero => exact absurd hn (Nat.not_lt_zero _)
    | succ n =>
      have e : i = B := by omega
      rw [e] at h
      exact br_t (nI_le (by omega) (by omega)) (hp he rt rT rF h)
  | succ d ih =>
    intro i he rt rT rF hi hE h n hn
    cases n with
    | zero => exact absurd hn (Nat.not_lt_zero _)
    | succ n =>
      have hiB : i < B := by omega
      refine br_f (nI_ge (by omega) (by omega)) ?_
      refine xm_has i rfl (by omega) (fun e => br_f (by decide) ?_) (fun e => br_t rfl ?_)
      · have r := (hR i hiB).mp e
        obtain ⟨V, I⟩ := hE i hiB ((ic_Es_Re ok hiB).mpr r)
        have o := ok i hiB
        have m1 : ∀ k, k ≤ 12 → (bt (a_guardsOnTrue (nI i).toNatClampNeg) k = true ↔ ic_Mk B T F i (T i) k) := by
          rw [nI_clamp (by omega)]
          exact fun k hk => (hG i hiB r k hk).1
        have m2 : ∀ k, k ≤ 12 → (bt (a_guardsOnFalse (nI i).toNatClampNeg) k = true ↔ ic_Mk B T F i (F i) k) := by
          rw [nI_clamp (by omega)]
          exact fun k hk => (hG i hiB r k hk).2
        have S : ∀ he2, ic_HE B T F (ic_Es B T F (i + 1)) he2 → ((T i = F i → ∀ y, y = nI (i + 1) → wX_restoreEndings_9 post n y (nI B) f_cellCount f_regCount f_converted f_reachable f_guardCount f_recordForm f_ranBlocks f_heldGuards a_inputs a_sizes a_ops a_dests a_args a_tests a_trueTargets a_falseTargets a_onEveryWayTo a_onEveryPath a_guardNumbers a_guardsOnTrue a_guardsOnFalse he2 (upd rt i (-1)) (upd rT i (nI (T i))) (upd rF i (nI (F i))) a_finalRegs) ∧
            (T i ≠ F i → ∀ y, y = nI (i + 1) → wX_restoreEndings_9 post n y (nI B) f_cellCount f_regCount f_converted f_reachable f_guardCount f_recordForm f_ranBlocks f_heldGuards a_inputs a_sizes a_ops a_dests a_args a_tests a_trueTargets a_falseTargets a_onEveryWayTo a_onEveryPath a_guardNumbers a_guardsOnTrue a_guardsOnFalse he2 (upd rt i (a_tests i)) (upd rT i (nI (T i))) (upd rF i (nI (F i))) a_finalRegs)) := by
          intro he2 hE2
          constructor
          · intro q y hy
            subst hy
            refine ih (i + 1) _ _ _ _ (by omega) hE2 (fun b hb rb => ?_) n (by omega)
            by_cases eb : b = i
            · rw [eb, pk_us, pk_us, pk_us]
              exact ⟨rfl, rfl, fun _ => rfl, fun z => absurd q z⟩
            · rw [pk_un eb, pk_un eb, pk_un eb]
              exact h b (by omega) rb
          · intro q y hy
            subst hy
            refine ih (i + 1) _ _ _ _ (by omega) hE2 (fun b hb rb => ?_) n (by omega)
            by_cases eb : b = i
            · rw [eb, pk_us, pk_us, pk_us]
              exact ⟨rfl, rfl, fun z => absurd z q, fun _ => rfl⟩
            · rw [pk_un eb, pk_un eb, pk_un eb]
              exact h b (by omega) rb
        have K : ∀ he2, ic_HE B T F (ic_Es B T F (i + 1)) he2 → (vp_in (nI i) 12 ∧ ∀ a_restoredFalse_68, a_restoredFalse_68 = upd rF (nI i).toNatClampNeg (nI (F i)) → (vp_in (nI i) 12 ∧ (vp_in (nI i) 12 ∧ ((((upd rT i (nI (T i))) (nI i).toNatClampNeg) = (a_restoredFalse_68 (nI i).toNatClampNeg) → (vp_in (nI i) 12 ∧ ∀ a_restoredTests_77, a_restoredTests_77 = upd rt (nI i).toNatClampNeg (-1) → (∀ y, y = nI i + 1 → (wX_restoreEndings_9 post n y (nI B) f_cellCount f_regCount f_converted f_reachable f_guardCount f_recordForm f_ranBlocks f_heldGuards a_inputs a_sizes a_ops a_dests a_args a_tests a_trueTargets a_falseTargets a_onEveryWayTo a_onEveryPath a_guardNumbers a_guardsOnTrue a_guardsOnFalse he2 a_restoredTests_77 (upd rT i (nI (T i))) a_restoredFalse_68 a_finalRegs)))) ∧ (¬ ((upd rT i (nI (T i))) (nI i).toNatClampNeg) = (a_restoredFalse_68 (nI i).toNatClampNeg) → (vp_in (nI i) 12 ∧ (vp_in (nI i) 12 ∧ ∀ a_restoredTests_74, a_restoredTests_74 = upd rt (nI i).toNatClampNeg (a_tests (nI i).toNatClampNeg) → (∀ y, y = nI i + 1 → (wX_restoreEndings_9 post n y (nI B) f_cellCount f_regCount f_converted f_reachable f_guardCount f_recordForm f_ranBlocks f_heldGuards a_inputs a_sizes a_ops a_dests a_args a_tests a_trueTargets a_falseTargets a_onEveryWayTo a_onEveryPath a_guardNumbers a_guardsOnTrue a_guardsOnFalse he2 a_restoredTests_74 (upd rT i (nI (T i))) a_restoredFalse_68 a_finalRegs))))))))) := by
          intro he2 hE2
          rw [nI_clamp (by omega), nI_1]
          refine ⟨ic_v12 (by omega), nm_e ⟨ic_v12 (by omega), ic_v12 (by omega), ?_⟩⟩
          rw [pk_us, pk_us]
          refine pk_eq (T i) (F i) (fun q => ?_) (fun q => ?_)
          · exact ⟨ic_v12 (by omega), nm_e ((S he2 hE2).1 q)⟩
          · exact ⟨ic_v12 (by omega), ic_v12 (by omega), nm_e ((S he2 hE2).2 q)⟩
        refine ⟨ic_v12 (by omega), ?_⟩
        refine xm_edge (T := T) (F := F) ok hB hg I hiB (Or.inl rfl) m1 (fun h1 J1 g1 => ?_) (fun g1 => ?_)
        · have hE1 := ic_HE_e (i := i) hE J1
          have I1 : ic_Inv B T F V i (bt (upd he (T i) h1 i)) := by
            rw [pk_un (by omega)]
            exact I
          refine ⟨ic_v12 (by omega), nm_r (ic_u (by omega)) ⟨ic_v12 (by omega), ?_⟩⟩
          refine xm_edge (T := T) (F := F) ok hB hg I1 hiB (Or.inr rfl) m2 (fun h2 J2 g2 => ?_) (fun g2 => ?_)
          · exact K _ (ic_HE_c (ic_HE_e (i := i) hE1 J2) (fun p b _ => ic_HE_s r p b))
          · refine K _ (ic_HE_c hE1 (fun p b hb k => ?_))
            exact (ic_HE_s r p b k).elim id (fun q => by omega)
        · refine ⟨ic_v12 (by omega), nm_r (ic_u (by omega)) ⟨ic_v12 (by omega), ?_⟩⟩
          refine xm_edge (T := T) (F := F) ok hB hg I hiB (Or.inr rfl) m2 (fun h2 J2 g2 => ?_) (fun g2 => ?_)
          · refine K _ (ic_HE_c (ic_HE_e (i := i) hE J2) (fun p b hb k => ?_))
            exact (ic_HE_s r p b k).elim (fun q => q.elim Or.inl (fun q => by omega)) Or.inr
          · refine K _ (ic_HE_c hE (fun p b hb k => ?_))
            exact (ic_HE_s r p b k).elim (fun q => q.elim id (fun q => by omega)) (fun q => by omega)
      · have r : ¬ ic_Re B T F i := fun k => by
          have := (hR i hiB).mpr k
          rw [e] at this
          cases this
        refine nm_r (nI_1 i) (ih (i + 1) _ _ _ _ (by omega) (ic_HE_c hE (fun p b _ => (ic_Es_n r p b).mpr)) (fun a ha ra => ?_) n (by omega))
        by_cases ea : a = i
        · rw [ea] at ra
          exact absurd ra r
        · exact h a (by omega) ra
theorem xm_rest (ok : ic_Ok B T F) (hB : B ≤ 12) (hB1 : 1 ≤ B) (hR : ∀ b, b < B → (bt f_reachable b = true ↔ ic_Re B T F b)) (hg : ∀ b, b < B → a_guardNumbers b = nI (ic_gn B T F b)) (hG : ic_GD B T F B a_guardsOnTrue a_guardsOnFalse) {post : SX → Prop}
    (hp : ∀ he rt rT rF, ic_RS B T F B a_tests rt rT rF → post (nI B, f_cellCount, f_regCount, f_converted, f_reachable, f_guardCount, f_recordForm, f_ranBlocks, f_heldGuards, a_inputs, a_sizes, a_ops, a_dests, a_args, a_tests, a_trueTargets, a_falseTargets, a_onEveryWayTo, a_onEveryPath, a_guardNumbers, a_guardsOnTrue, a_guardsOnFalse, he, rt, rT, rF, a_finalRegs)) : wpX_restoreEndings post (nI B, f_cellCount, f_regCount, f_converted, f_reachable, f_guardCount, f_recordForm, f_ranBlocks, f_heldGuards, a_inputs, a_sizes, a_ops, a_dests, a_args, a_tests, a_trueTargets, a_falseTargets, a_onEveryWayTo, a_onEveryPath, a_guardNumbers, a_guardsOnTrue, a_guardsOnFalse, a_heldOnEntry, a_restoredTests, a_restoredTrue, a_restoredFalse, a_finalRegs) :=
  nm_e ⟨B + 1, xm_rest9 ok hB hR hg hG hp B 0 _ _ _ _ (by omega) (ic_HE_0 hB1 hB) (fun b hb => absurd hb (Nat.not_lt_zero b)) (B + 1) (by omega)⟩
theorem xm_convert (ok : ic_Ok B T F) (hB : B ≤ 12) (hB1 : 1 ≤ B) (hT : ∀ b, b < B → a_trueTargets b = nI (T b) ∧ a_falseTargets b = nI (F b)) {post : Int32 → SX → Prop} (hc : f_converted = 0)
    (hp : ∀ ρ D P g gT gF he rt rT rF, ic_CV B T F a_tests ρ (nI (ic_cnt B T F B)) P g gT gF rt rT rF → post (nI (ic_cnt B T F B)) (nI B, f_cellCount, f_regCount, 1, ρ, nI (ic_cnt B T F B), f_recordForm, f_ranBlocks, f_heldGuards, a_inputs, a_sizes, a_ops, a_dests, a_args, a_tests, a_trueTargets, a_falseTargets, D, P, g, gT, gF, he, rt, rT, rF, a_finalRegs)) :
    wpX_convert post (nI B, f_cellCount, f_regCount, f_converted, f_reachable, f_guardCount, f_recordForm, f_ranBlocks, f_heldGuards, a_inputs, a_sizes, a_ops, a_dests, a_args, a_tests, a_trueTargets, a_falseTargets, a_onEveryWayTo, a_onEveryPath, a_guardNumbers, a_guardsOnTrue, a_guardsOnFalse, a_heldOnEntry, a_restoredTests, a_restoredTrue, a_restoredFalse, a_finalRegs) := by
  refine br_t hc ?_
  refine xm_ways ok hB hB1 hT (fun ρ D hD => ?_)
  refine xm_paths ok hB hT (fun P hP => ?_)
  refine xm_number ok hB hD hP (fun g hg => ?_)
  refine xm_define ok hB hT (fun b hb => (hD b hb).1) hP hg (fun gT gF hG => ?_)
  refine xm_rest ok hB hB1 (fun b hb => (hD b hb).1) hg hG (fun he rt rT rF hS => ?_)
  exact hp ρ D P g gT gF he rt rT rF ⟨fun b hb => (hD b hb).1, hP, rfl, hg, hG, hS⟩
end
end
section
/-! Y: paths as sets, what they all contain, the guards -/
theorem ic_nIf {m : Nat} (hm : m < 2 ^ 31) : bt (nI m) = m.testBit := funext (fun y => ic_nI y hm)
section
variable {B : Nat} {T F : Nat → Nat} {f_blocks f_cells f_regs f_converted f_recorded f_recForm f_recRan f_recC : Int32} {a_ops a_dests a_args a_size a_test a_onTrue a_onFalse a_inputs a_recRegs a_complete a_guard : Nat → Int32}
theorem ym_has {post : Int32 → Prop} {s m : Int32} (n : Nat) (hm : m = nI n) (hn : n < 32) (h1 : bt s n = true → post 1) (h0 : bt s n = false → post 0) : wpY_has post (f_blocks, f_cells, f_regs, f_converted, f_recorded, f_recForm, f_recRan, f_recC, a_ops, a_dests, a_args, a_size, a_test, a_onTrue, a_onFalse, a_inputs, a_recRegs, a_complete, a_guard) s m := by
  subst hm
  refine ⟨fun z => h1 ((ic_h1 s hn).mp z), fun z => h0 ?_⟩
  cases e : bt s n with
  | false => rfl
  | true => exact absurd ((ic_h1 s hn).mpr e) z
theorem ym_path5 (ok : ic_Ok B T F) (hB : B ≤ 12) (hT : ∀ b, b < B → a_onTrue b = nI (T b) ∧ a_onFalse b = nI (F b)) {post : Int32 → Prop} {s : Int32} {x : Nat} (hx : x ≤ B) :
    ∀ d b E x3, b + d = B → ((x3 = -1 ∧ E = fun y => y = x) ∨ ∃ l, l < b ∧ x3 = nI l ∧ E = fun y => T l = y ∨ F l = y) → (ic_PT T F (bt s) d b E → post 1) → (¬ ic_PT T F (bt s) d b E → post 0) → ∀ n, d < n → wY_isPath_5 post s (nI x) (nI B) f_cells f_regs f_converted f_recorded f_recForm f_recRan f_recC a_ops a_dests a_args a_size a_test a_onTrue a_onFalse a_inputs a_recRegs a_complete a_guard n x3 (nI b) := by
  intro d
  induction d with
  | zero =>
    intro b E x3 hb hE h1 h0 n hn
    cases n with
    | zero => exact absurd hn (Nat.not_lt_zero _)
    | succ n =>
      refine br_t (nI_le (by omega) (by omega)) ?_
      rcases hE with ⟨e, eE⟩ | ⟨l, hl, e, eE⟩
      · subst e
        subst eE
        refine br_t rfl (pk_eq x B (fun q => h1 (show b = x by omega)) (fun q => h0 (fun k => q ?_)))
        have k : b = x := k
        omega
      · subst e
        subst eE
        have o := ok l (by omega)
        refine br_f (ic_m1 (by omega)) ⟨ic_v12 (by omega), ?_⟩
        rw [nI_clamp (by omega), (hT l (by omega)).1, (hT l (by omega)).2]
        refine pk_eq (T l) B (fun q => h1 (Or.inl (show T l = b by omega))) (fun q => ⟨ic_v12 (by omega), pk_eq (F l) B (fun q2 => h1 (Or.inr (show F l = b by omega))) (fun q2 => h0 (fun k => ?_))⟩)
        have k : T l = b ∨ F l = b := k
        omega
  | succ d ih =>
    intro b E x3 hb hE h1 h0 n hn
    cases n with
    | zero => exact absurd hn (Nat.not_lt_zero _)
    | succ n =>
      refine br_f (nI_ge (by omega) (by omega)) ?_
      refine ym_has b rfl (by omega) (fun e => br_f (by decide) ?_) (fun e => br_t rfl ?_)
      · have N : ∀ x4, x4 = nI b + 1 → E b → wY_isPath_5 post s (nI x) (nI B) f_cells f_regs f_converted f_recorded f_recForm f_recRan f_recC a_ops a_dests a_args a_size a_test a_onTrue a_onFalse a_inputs a_recRegs a_complete a_guard n (nI b) x4 := by
          intro x4 hx4 q
          rw [nI_1] at hx4
          subst hx4
          exact ih (b + 1) _ (nI b) (by omega) (Or.inr ⟨b, by omega, rfl, rfl⟩) (fun k => h1 ⟨fun _ => ⟨q, k⟩, fun z => by rw [e] at z; cases z⟩) (fun k => h0 (fun K => k (K.1 e).2)) n (by omega)
        rcases hE with ⟨e3, eE⟩ | ⟨l, hl, e3, eE⟩
        · subst e3
          subst eE
          exact br_t rfl (pk_eq b x (fun q x4 h4 => N x4 h4 q) (fun q => h0 (fun K => q (K.1 e).1)))
        · subst e3
          subst eE
          have o := ok l (by omega)
          refine br_f (ic_m1 (by omega)) ⟨ic_v12 (by omega), ?_⟩
          rw [nI_clamp (by omega), (hT l (by omega)).1, (hT l (by omega)).2]
          exact pk_eq (T l) b (fun q x4 h4 => N x4 h4 (Or.inl q)) (fun q => ⟨ic_v12 (by omega), pk_eq (F l) b (fun q2 x4 h4 => N x4 h4 (Or.inr q2)) (fun q2 => h0 (fun K => (K.1 e).1.elim q q2))⟩)
      · refine nm_r (nI_1 b) (ih (b + 1) E x3 (by omega) ?_ (fun k => h1 ⟨fun z => (by rw [e] at z; cases z), fun _ => k⟩) (fun k => h0 (fun K => k (K.2 e))) n (by omega))
        rcases hE with h | ⟨l, hl, h⟩
        · exact Or.inl h
        · exact Or.inr ⟨l, by omega, h⟩
theorem ym_path (ok : ic_Ok B T F) (hB : B ≤ 12) (hT : ∀ b, b < B → a_onTrue b = nI (T b) ∧ a_onFalse b = nI (F b)) {post : Int32 → Prop} {p1 : Int32} {m x : Nat} (hx : x ≤ B) (hm : m < 2 ^ 31) (hp : p1 = nI x)
    (h1 : ic_YP B T F m.testBit x → post 1) (h0 : ¬ ic_YP B T F m.testBit x → post 0) : wpY_isPath post (nI B, f_cells, f_regs, f_converted, f_recorded, f_recForm, f_recRan, f_recC, a_ops, a_dests, a_args, a_size, a_test, a_onTrue, a_onFalse, a_inputs, a_recRegs, a_complete, a_guard) (nI m) p1 := by
  subst hp
  have e := ic_nIf hm
  have P := ic_PT_YP (S := bt (nI m)) (x := x) ok
  rw [← e] at h1 h0
  exact ⟨B + 1, ym_path5 ok hB hT hx B 0 (fun y => y = x) (-1) (by omega) (Or.inl ⟨rfl, rfl⟩) (fun k => h1 (P.mp k)) (fun k => h0 (fun z => k (P.mpr z))) (B + 1) (by omega)⟩
theorem ym_all2 (ok : ic_Ok B T F) (hB : B ≤ 12) (hT : ∀ b, b < B → a_onTrue b = nI (T b) ∧ a_onFalse b = nI (F b)) {post : Int32 → Prop} {x b : Nat} (hx : x ≤ B) (hb : b < B) :
    ∀ d m, m + d = 2 ^ B → ((∀ s, m ≤ s → s < 2 ^ B → ic_YP B T F s.testBit x → s.testBit b = true) → post 1) → (¬ (∀ s, m ≤ s → s < 2 ^ B → ic_YP B T F s.testBit x → s.testBit b = true) → post 0) → ∀ n, d < n → wY_allContain_2 post (nI x) (nI b) (nI B) f_cells f_regs f_converted f_recorded f_recForm f_recRan f_recC a_ops a_dests a_args a_size a_test a_onTrue a_onFalse a_inputs a_recRegs a_complete a_guard n (nI m) := by
  have h2 := ic_pB hB
  intro d
  induction d with
  | zero =>
    intro m hm h1 h0 n hn
    cases n with
    | zero => exact absurd hn (Nat.not_lt_zero _)
    | succ n => exact br_t (by rw [ic_p2 B (by omega)]; exact nI_le (by omega) (by omega)) (h1 (fun s k1 k2 => by omega))
  | succ d ih =>
    intro m hm h1 h0 n hn
    cases n with
    | zero => exact absurd hn (Nat.not_lt_zero _)
    | succ n =>
      have N : (ic_YP B T F m.testBit x → m.testBit b = true) → ∀ y, y = nI m + 1 → wY_allContain_2 post (nI x) (nI b) (nI B) f_cells f_regs f_converted f_recorded f_recForm f_recRan f_recC a_ops a_dests a_args a_size a_test a_onTrue a_onFalse a_inputs a_recRegs a_complete a_guard n y := by
        intro q y hy
        rw [nI_1] at hy
        subst hy
        refine ih (m + 1) (by omega) (fun k => h1 (fun s k1 k2 => ?_)) (fun k => h0 (fun K => k (fun s k1 k2 => K s (by omega) k2))) n (by omega)
        by_cases e : s = m
        · rw [e]
          exact q
        · exact k s (by omega) k2
      refine br_f (by rw [ic_p2 B (by omega)]; exact nI_ge (by omega) (by omega)) ?_
      refine ym_path ok hB hT hx (by omega) rfl (fun q => br_f (by decide) ?_) (fun q => br_t rfl (N (fun z => absurd z q)))
      refine ym_has b rfl (by omega) (fun e => br_f (by decide) (N (fun _ => ?_))) (fun e => br_t rfl (h0 (fun K => ?_)))
      · rw [ic_nI b (by omega)] at e
        exact e
      · have k := K m (Nat.le_refl _) (by omega) q
        rw [ic_nI b (by omega)] at e
        rw [e] at k
        cases k
theorem ym_all (ok : ic_Ok B T F) (hB : B ≤ 12) (hT : ∀ b, b < B → a_onTrue b = nI (T b) ∧ a_onFalse b = nI (F b)) {post : Int32 → Prop} {p0 : Int32} {x b : Nat} (hx : x ≤ B) (hb : b < B) (hp : p0 = nI x)
    (h1 : ic_A B T F x b → post 1) (h0 : ¬ ic_A B T F x b → post 0) : wpY_allContain post (nI B, f_cells, f_regs, f_converted, f_recorded, f_recForm, f_recRan, f_recC, a_ops, a_dests, a_args, a_size, a_test, a_onTrue, a_onFalse, a_inputs, a_recRegs, a_complete, a_guard) p0 (nI b) := by
  subst hp
  have S := ic_set_A (B := B) (T := T) (F := F) (x := x) hb
  exact ⟨2 ^ B + 1, ym_all2 ok hB hT hx hb (2 ^ B) 0 (by omega) (fun k => h1 (S.mp (fun m hm => k m (Nat.zero_le _) hm))) (fun k => h0 (fun z => k (fun s _ k2 => S.mpr z s k2))) (2 ^ B + 1) (by omega)⟩
theorem ym_tog3 {post : Int32 → Prop} {p a b : Nat} (hp : p ≤ 4096) (ha : a < 32) (hb : b < 32) :
    ∀ d q, q + d = p → ((∀ r, q ≤ r → r < p → bt (a_complete r) a = bt (a_complete r) b) → post 1) → (¬ (∀ r, q ≤ r → r < p → bt (a_complete r) a = bt (a_complete r) b) → post 0) → ∀ n, d < n → wY_together_3 post (nI a) (nI b) (nI p) f_blocks f_cells f_regs f_converted f_recorded f_recForm f_recRan f_recC a_ops a_dests a_args a_size a_test a_onTrue a_onFalse a_inputs a_recRegs a_complete a_guard n (nI q) := by
  intro d
  induction d with
  | zero =>
    intro q hq h1 h0 n hn
    cases n with
    | zero => exact absurd hn (Nat.not_lt_zero _)
    | succ n => exact br_t (nI_le (by omega) (by omega)) (h1 (fun s k1 k2 => by omega))
  | succ d ih =>
    intro q hq h1 h0 n hn
    cases n with
    | zero => exact absurd hn (Nat.not_lt_zero _)
    | succ n =>
      have N : bt (a_complete q) a = bt (a_complete q) b → ∀ y, y = nI q + 1 → wY_together_3 post (nI a) (nI b) (nI p) f_blocks f_cells f_regs f_converted f_recorded f_recForm f_recRan f_recC a_ops a_dests a_args a_size a_test a_onTrue a_onFalse a_inputs a_recRegs a_complete a_guard n y := by
        intro k y hy
        rw [nI_1] at hy
        subst hy
        refine ih (q + 1) (by omega) (fun K => h1 (fun s k1 k2 => ?_)) (fun K => h0 (fun z => K (fun s k1 k2 => z s (by omega) k2))) n (by omega)
        by_cases e : s = q
        · rw [e]
          exact k
        · exact K s (by omega) k2
      have M : bt (a_complete q) a ≠ bt (a_complete q) b → post 0 := fun k => h0 (fun z => k (z q (Nat.le_refl _) (by omega)))
      have hv : vp_in (nI q) 4096 := vp_in_nI (by omega) (by decide)
      refine br_f (nI_ge (by omega) (by omega)) ⟨hv, ?_⟩
      refine ym_has a rfl ha (fun e => ⟨hv, ?_⟩) (fun e => ⟨hv, ?_⟩)
      · rw [nI_clamp (by omega)] at e
        refine ym_has b rfl hb (fun e2 => br_t rfl (N ?_)) (fun e2 => br_f (by decide) (M ?_))
        · rw [nI_clamp (by omega)] at e2
          rw [e, e2]
        · rw [nI_clamp (by omega)] at e2
          rw [e, e2]
          decide
      · rw [nI_clamp (by omega)] at e
        refine ym_has b rfl hb (fun e2 => br_f (by decide) (M ?_)) (fun e2 => br_t rfl (N ?_))
        · rw [nI_clamp (by omega)] at e2
          rw [e, e2]
          decide
        · rw [nI_clamp (by omega)] at e2
          rw [e, e2]
theorem ym_tog (ok : ic_Ok B T F) (hB : B ≤ 12) {post : Int32 → Prop} {p a b : Nat} {q0 q1 : Int32} (hC : ic_CM B T F p (2 ^ B) a_complete) (ha : a ≤ B) (hb : b ≤ B) (e0 : q0 = nI a) (e1 : q1 = nI b)
    (h1 : ic_Tg B T F a b → post 1) (h0 : ¬ ic_Tg B T F a b → post 0) : wpY_together post (f_blocks, f_cells, f_regs, f_converted, f_recorded, f_recForm, f_recRan, f_recC, a_ops, a_dests, a_args, a_size, a_test, a_onTrue, a_onFalse, a_inputs, a_recRegs, a_complete, a_guard) q0 q1 (nI p) := by
  subst e0
  subst e1
  have h2 := ic_pB hB
  have hp := hC.1
  have S := ic_CM_Tg ok hB hC ha hb
  exact ⟨p + 1, ym_tog3 (by omega) (by omega) (by omega) p 0 (by omega) (fun k => h1 (S.mp (fun q hq => k q (Nat.zero_le _) hq))) (fun k => h0 (fun z => k (fun r _ k2 => S.mpr z r k2))) (p + 1) (by omega)⟩
end
end
section
/-! Y: the numbers of the guards -/
section
variable {B : Nat} {T F : Nat → Nat} {f_blocks f_cells f_regs f_converted f_recorded f_recForm f_recRan f_recC : Int32} {a_ops a_dests a_args a_size a_test a_onTrue a_onFalse a_inputs a_recRegs a_complete a_guard : Nat → Int32}
theorem ym_ng77 (ok : ic_Ok B T F) (hB : B ≤ 12) {post : Int32 → SY → Prop} {J : Int32 → Int32 → (Nat → Int32) → (Nat → Int32) → (Nat → Int32) → (Nat → Int32) → (Nat → Int32) → (Nat → Int32) → (Nat → Int32) → (Nat → Int32) → (Nat → Int32) → (Nat → Int32) → (Nat → Int32) → Prop} {p b : Nat} (hC : ic_CM B T F p (2 ^ B) a_complete) (hb : b < B) (r : ic_Re B T F b)
    (hJ : ∀ g, (∀ a, a < b + 1 → g a = ic_gy B T F a) → J (nI (ic_cnt B T F (b + 1))) (nI (b + 1)) a_ops a_dests a_args a_size a_test a_onTrue a_onFalse a_inputs a_recRegs a_complete g) :
    ∀ d j g, j + d = b → (∀ a, a < b → g a = ic_gy B T F a) → ic_YG B T F b j (g b) → ∀ n, d < n → wY_numberGuards_77 post J (nI p) (nI (ic_cnt B T F b)) (nI b) (nI B) f_cells f_regs f_converted f_recorded f_recForm f_recRan f_recC n (nI j) a_ops a_dests a_args a_size a_test a_onTrue a_onFalse a_inputs a_recRegs a_complete g := by
  intro d
  induction d with
  | zero =>
    intro j g hj hg h n hn
    cases n with
    | zero => exact absurd hn (Nat.not_lt_zero _)
    | succ n =>
      have e : j = b := by omega
      rw [e] at h ⊢
      have E := ic_YG_e hb hB r h
      refine br_t (nI_le (by omega) (by omega)) ⟨ic_v12 (by omega), br_c (fun q => ?_) (fun q => ?_)⟩
      · rw [nI_clamp (by omega)] at q
        obtain ⟨k1, k2⟩ := E.1 q
        refine nm_r (nI_1 _) ⟨ic_v12 (by omega), nm_r (ic_u (by omega)) (nm_r (nI_1 b) ?_)⟩
        rw [← k2]
        refine hJ _ (fun a ha => ?_)
        by_cases ea : a = b
        · rw [ea, pk_us, k1]
        · rw [pk_un ea]
          exact hg a (by omega)
      · rw [nI_clamp (by omega)] at q
        obtain ⟨k1, k2⟩ := E.2 q
        refine nm_r (nI_1 b) ?_
        rw [← k2]
        refine hJ _ (fun a ha => ?_)
        by_cases ea : a = b
        · rw [ea, k1]
        · exact hg a (by omega)
  | succ d ih =>
    intro j g hj hg h n hn
    cases n with
    | zero => exact absurd hn (Nat.not_lt_zero _)
    | succ n =>
      have gj := hg j (by omega)
      refine br_f (nI_ge (by omega) (by omega)) ⟨ic_v12 (by omega), br_c (fun q => ?_) (fun q => ?_)⟩
      · rw [nI_clamp (by omega), gj, ic_gy_m1 hB (by omega)] at q
        exact nm_r (nI_1 j) (ih (j + 1) g (by omega) hg (ic_YG_n h (fun ra => absurd ra q)) n (by omega))
      · rw [nI_clamp (by omega), gj, ic_gy_m1 hB (by omega), Classical.not_not] at q
        refine ym_tog ok hB hC (a := j) (b := b) (by omega) (by omega) rfl rfl (fun t => br_f (by decide) ?_) (fun t => br_t rfl ?_)
        · refine ⟨ic_v12 (by omega), ic_v12 (by omega), nm_r (e' := upd g b (g j)) (by rw [nI_clamp (n := j) (by omega), nI_clamp (n := b) (by omega)]) (nm_r (nI_1 j) (ih (j + 1) _ (by omega) (fun a ha => ?_) ?_ n (by omega)))⟩
          · rw [pk_un (by omega)]
            exact hg a ha
          · rw [pk_us]
            exact ic_YG_t q r t (by rw [gj, ic_gy_t q])
        · exact nm_r (nI_1 j) (ih (j + 1) g (by omega) hg (ic_YG_n h (fun _ => t)) n (by omega))
theorem ym_ng43 (ok : ic_Ok B T F) (hB : B ≤ 12) {post : Int32 → SY → Prop} {p : Nat} (hC : ic_CM B T F p (2 ^ B) a_complete)
    (hp : ∀ g, (∀ b, b < B → g b = ic_gy B T F b) → post (nI (ic_cnt B T F B)) (nI B, f_cells, f_regs, f_converted, f_recorded, f_recForm, f_recRan, f_recC, a_ops, a_dests, a_args, a_size, a_test, a_onTrue, a_onFalse, a_inputs, a_recRegs, a_complete, g)) :
    ∀ d b g, b + d = B → (∀ a, a < b → g a = ic_gy B T F a) → ∀ n, d < n → wY_numberGuards_43 post (nI p) (nI B) f_cells f_regs f_converted f_recorded f_recForm f_recRan f_recC n (nI (ic_cnt B T F b)) (nI b) a_ops a_dests a_args a_size a_test a_onTrue a_onFalse a_inputs a_recRegs a_complete g := by
  intro d
  induction d with
  | zero =>
    intro b g hb hg n hn
    cases n with
    | zero => exact absurd hn (Nat.not_lt_zero _)
    | succ n =>
      have e : b = B := by omega
      rw [e] at hg ⊢
      exact br_t (nI_le (by omega) (by omega)) (hp g hg)
  | succ d ih =>
    intro b g hb hg n hn
    cases n with
    | zero => exact absurd hn (Nat.not_lt_zero _)
    | succ n =>
      have hbB : b < B := by omega
      refine br_f (nI_ge (by omega) (by omega)) ⟨ic_v12 (by omega), nm_r (ic_u (by omega)) ?_⟩
      refine ym_tog ok hB hC (a := b) (b := B) (by omega) (by omega) rfl rfl (fun t => br_f (by decide) ?_) (fun t => br_t rfl ?_)
      · have r := (ic_Tg_B ok hbB).mp t
        refine nm_r (nI_1 b) ?_
        rw [← ic_cnt_u r]
        refine ih (b + 1) _ (by omega) (fun a ha => ?_) n (by omega)
        by_cases ea : a = b
        · rw [ea, pk_us, ic_gy_f r]
        · rw [pk_un ea]
          exact hg a (by omega)
      · have r : ic_Re B T F b := Classical.byContradiction (fun z => t ((ic_Tg_B ok hbB).mpr z))
        refine ⟨b + 1, ym_ng77 ok hB hC hbB r (fun g' h' => ih (b + 1) g' (by omega) h' n (by omega)) b 0 _ (by omega) (fun a ha => ?_) ?_ (b + 1) (by omega)⟩
        · rw [pk_un (by omega)]
          exact hg a ha
        · rw [pk_us]
          exact ic_YG_0
theorem ym_ng6 (ok : ic_Ok B T F) (hB : B ≤ 12) (hT : ∀ b, b < B → a_onTrue b = nI (T b) ∧ a_onFalse b = nI (F b)) {post : Int32 → SY → Prop}
    (hp : ∀ cm g, (∀ b, b < B → g b = ic_gy B T F b) → post (nI (ic_cnt B T F B)) (nI B, f_cells, f_regs, f_converted, f_recorded, f_recForm, f_recRan, f_recC, a_ops, a_dests, a_args, a_size, a_test, a_onTrue, a_onFalse, a_inputs, a_recRegs, cm, g)) :
    ∀ d m p cm, m + d = 2 ^ B → ic_CM B T F p m cm → ∀ n, d < n → wY_numberGuards_6 post 0 (nI B) f_cells f_regs f_converted f_recorded f_recForm f_recRan f_recC n (nI p) (nI m) a_ops a_dests a_args a_size a_test a_onTrue a_onFalse a_inputs a_recRegs cm a_guard := by
  have h2 := ic_pB hB
  intro d
  induction d with
  | zero =>
    intro m p cm hm h n hn
    cases n with
    | zero => exact absurd hn (Nat.not_lt_zero _)
    | succ n =>
      have e : m = 2 ^ B := by omega
      rw [e] at h
      exact br_t (by rw [ic_p2 B (by omega)]; exact nI_le (by omega) (by omega)) ⟨B + 1, ym_ng43 ok hB h (hp cm) B 0 _ (by omega) (fun a ha => absurd ha (Nat.not_lt_zero a)) (B + 1) (by omega)⟩
  | succ d ih =>
    intro m p cm hm h n hn
    cases n with
    | zero => exact absurd hn (Nat.not_lt_zero _)
    | succ n =>
      have hpm := h.1
      refine br_f (by rw [ic_p2 B (by omega)]; exact nI_ge (by omega) (by omega)) ?_
      refine ym_path ok hB hT (Nat.zero_le _) (by omega) rfl (fun q => br_f (by decide) ?_) (fun q => br_t rfl ?_)
      · exact nm_r (nI_1 p) ⟨vp_in_nI (by omega) (by decide), nm_r (ic_u (by omega)) (nm_r (nI_1 m) (ih (m + 1) (p + 1) _ (by omega) (ic_CM_s h q) n (by omega)))⟩
      · exact nm_r (nI_1 m) (ih (m + 1) p cm (by omega) (ic_CM_n h q) n (by omega))
theorem ym_ng (ok : ic_Ok B T F) (hB : B ≤ 12) (hT : ∀ b, b < B → a_onTrue b = nI (T b) ∧ a_onFalse b = nI (F b)) {post : Int32 → SY → Prop}
    (hp : ∀ cm g, (∀ b, b < B → g b = ic_gy B T F b) → post (nI (ic_cnt B T F B)) (nI B, f_cells, f_regs, f_converted, f_recorded, f_recForm, f_recRan, f_recC, a_ops, a_dests, a_args, a_size, a_test, a_onTrue, a_onFalse, a_inputs, a_recRegs, cm, g)) : wpY_numberGuards post (nI B, f_cells, f_regs, f_converted, f_recorded, f_recForm, f_recRan, f_recC, a_ops, a_dests, a_args, a_size, a_test, a_onTrue, a_onFalse, a_inputs, a_recRegs, a_complete, a_guard) :=
  ⟨2 ^ B + 1, ym_ng6 ok hB hT hp (2 ^ B) 0 0 _ (by omega) ic_CM_0 (2 ^ B + 1) (by omega)⟩
end
end
section
/-! X: a run -/
theorem xm_res {post : Int32 → Prop} {k : Nat} {p0 l r : Int32} (hk : k < 8) (ho : p0 = nI k) (hp : post (ic_res p0 l r)) : wpX_resultOf post p0 l r := by
  subst ho
  have h : k = 0 ∨ k = 1 ∨ k = 2 ∨ k = 3 ∨ k = 4 ∨ k = 5 ∨ k = 6 ∨ k = 7 := by omega
  rcases h with rfl | rfl | rfl | rfl | rfl | rfl | rfl | rfl
  · exact br_t (by decide) hp
  · exact br_t (by decide) hp
  · exact br_f (by decide) (br_f (by decide) (br_t (by decide) hp))
  · exact br_f (by decide) (br_f (by decide) (br_f (by decide) (br_t (by decide) hp)))
  · exact br_f (by decide) (br_f (by decide) (br_f (by decide) (br_f (by decide) (br_t (by decide) hp))))
  · exact br_f (by decide) (br_f (by decide) (br_f (by decide) (br_f (by decide) (br_f (by decide) (br_t (by decide) hp)))))
  · have hp : post (if l < r then 1 else 0) := hp
    refine br_f (by decide) (br_f (by decide) (br_f (by decide) (br_f (by decide) (br_f (by decide) (br_f (by decide) (br_t (by decide) (br_c (fun h => ?_) (fun h => ?_))))))))
    · rw [if_neg (Int32.not_lt.mpr h)] at hp
      exact hp
    · rw [if_pos (Int32.not_le.mp h)] at hp
      exact hp
  · have hp : post (if l = r then 1 else 0) := hp
    refine br_f (by decide) (br_f (by decide) (br_f (by decide) (br_f (by decide) (br_f (by decide) (br_f (by decide) (br_f (by decide) (br_t (by decide) (br_c (fun h => ?_) (fun h => ?_)))))))))
    · rw [if_pos h] at hp
      exact hp
    · rw [if_neg h] at hp
      exact hp
section
variable {B C R : Nat} {g0 : Nat → Int32} {f_blockCount f_cellCount f_regCount f_converted f_reachable f_guardCount f_recordForm f_ranBlocks f_heldGuards : Int32} {a_inputs a_sizes a_ops a_dests a_args a_tests a_trueTargets a_falseTargets a_onEveryWayTo a_onEveryPath a_guardNumbers a_guardsOnTrue a_guardsOnFalse a_heldOnEntry a_restoredTests a_restoredTrue a_restoredFalse a_finalRegs : Nat → Int32}
theorem xm_start17 (hR : R ≤ 8) {post : SX → Prop} {g : Nat → Int32} (hp : post (f_blockCount, f_cellCount, nI R, f_converted, f_reachable, f_guardCount, f_recordForm, f_ranBlocks, f_heldGuards, a_inputs, a_sizes, a_ops, a_dests, a_args, a_tests, a_trueTargets, a_falseTargets, a_onEveryWayTo, a_onEveryPath, a_guardNumbers, a_guardsOnTrue, a_guardsOnFalse, a_heldOnEntry, a_restoredTests, a_restoredTrue, a_restoredFalse, ic_cp a_inputs g R)) :
    ∀ d i, i + d = R → ∀ n, d < n → wX_startRecord_17 post f_blockCount f_cellCount (nI R) f_converted f_reachable f_guardCount f_recordForm f_ranBlocks f_heldGuards n (nI i) a_inputs a_sizes a_ops a_dests a_args a_tests a_trueTargets a_falseTargets a_onEveryWayTo a_onEveryPath a_guardNumbers a_guardsOnTrue a_guardsOnFalse a_heldOnEntry a_restoredTests a_restoredTrue a_restoredFalse (ic_cp a_inputs g i) := by
  intro d
  induction d with
  | zero =>
    intro i hi n hn
    cases n with
    | zero => exact absurd hn (Nat.not_lt_zero _)
    | succ n =>
      have e : i = R := by omega
      rw [e]
      exact br_t (nI_le (by omega) (by omega)) hp
  | succ d ih =>
    intro i hi n hn
    cases n with
    | zero => exact absurd hn (Nat.not_lt_zero _)
    | succ n =>
      exact br_f (nI_ge (by omega) (by omega)) ⟨ic_v8 (by omega), ic_v8 (by omega), nm_r (e' := ic_cp a_inputs g (i + 1)) (by rw [nI_clamp (n := i) (by omega)] <;> rfl) (nm_r (nI_1 i) (ih (i + 1) (by omega) n (by omega)))⟩
theorem xm_start (hR : R ≤ 8) {post : SX → Prop} {p0 : Int32} (hp : post (f_blockCount, f_cellCount, nI R, f_converted, f_reachable, f_guardCount, p0, 0, 1, a_inputs, a_sizes, a_ops, a_dests, a_args, a_tests, a_trueTargets, a_falseTargets, a_onEveryWayTo, a_onEveryPath, a_guardNumbers, a_guardsOnTrue, a_guardsOnFalse, a_heldOnEntry, a_restoredTests, a_restoredTrue, a_restoredFalse, ic_cp a_inputs a_finalRegs R)) : wpX_startRecord post (f_blockCount, f_cellCount, nI R, f_converted, f_reachable, f_guardCount, f_recordForm, f_ranBlocks, f_heldGuards, a_inputs, a_sizes, a_ops, a_dests, a_args, a_tests, a_trueTargets, a_falseTargets, a_onEveryWayTo, a_onEveryPath, a_guardNumbers, a_guardsOnTrue, a_guardsOnFalse, a_heldOnEntry, a_restoredTests, a_restoredTrue, a_restoredFalse, a_finalRegs) p0 :=
  ⟨R + 1, xm_start17 hR hp R 0 (by omega) (R + 1) (by omega)⟩
theorem xm_ins (hR : R ≤ 8) {post : SX → Prop} {p : Nat} {p0 : Int32} (ep : p0 = nI p) (hp : p < 48) (hc : ic_Cell R a_ops a_dests a_args p) (h : post (f_blockCount, f_cellCount, f_regCount, f_converted, f_reachable, f_guardCount, f_recordForm, f_ranBlocks, f_heldGuards, a_inputs, a_sizes, a_ops, a_dests, a_args, a_tests, a_trueTargets, a_falseTargets, a_onEveryWayTo, a_onEveryPath, a_guardNumbers, a_guardsOnTrue, a_guardsOnFalse, a_heldOnEntry, a_restoredTests, a_restoredTrue, a_restoredFalse, ic_exe a_ops a_dests a_args a_finalRegs p)) : wpX_runInstruction post (f_blockCount, f_cellCount, f_regCount, f_converted, f_reachable, f_guardCount, f_recordForm, f_ranBlocks, f_heldGuards, a_inputs, a_sizes, a_ops, a_dests, a_args, a_tests, a_trueTargets, a_falseTargets, a_onEveryWayTo, a_onEveryPath, a_guardNumbers, a_guardsOnTrue, a_guardsOnFalse, a_heldOnEntry, a_restoredTests, a_restoredTrue, a_restoredFalse, a_finalRegs) p0 := by
  subst ep
  obtain ⟨o, d, ho, hd, e1, e2, e3⟩ := hc
  have c1 : (nI p).toNatClampNeg = p := nI_clamp (by omega)
  have c2 : (nI d).toNatClampNeg = d := nI_clamp (by omega)
  refine ⟨ic_v48 hp, nm_r (e' := nI d) (by rw [c1, e2]) ⟨ic_v48 hp, ?_⟩⟩
  by_cases e : o = 0
  · have z : a_ops p = 0 := by rw [e1, e]; exact nI_0
    refine br_t (by rw [c1]; exact z) ⟨ic_v48 hp, ic_v48 hp, ic_v8 (by omega), ?_⟩
    refine xm_res ho (by rw [c1, e1]) ⟨ic_v8 (by omega), nm_r (e' := ic_exe a_ops a_dests a_args a_finalRegs p) ?_ h⟩
    unfold ic_exe
    rw [c1, e2, c2, if_pos z]
  · have z : ¬ a_ops p = 0 := by rw [e1]; exact nI_ne0 (by omega) (by omega)
    obtain ⟨x, hx, e4⟩ := e3.resolve_left e
    have c3 : (nI x).toNatClampNeg = x := nI_clamp (by omega)
    refine br_f (by rw [c1]; exact z) ⟨ic_v48 hp, by rw [c1, e4]; exact ic_v8 (by omega), ic_v48 hp, ic_v8 (by omega), ?_⟩
    refine xm_res ho (by rw [c1, e1]) ⟨ic_v8 (by omega), nm_r (e' := ic_exe a_ops a_dests a_args a_finalRegs p) ?_ h⟩
    unfold ic_exe
    rw [c1, e2, c2, if_neg z]
theorem xm_blk14 (hR : R ≤ 8) {post : SX → Prop} {b s : Nat} {g : Nat → Int32} (hb : b < 12) (hs : a_sizes b = nI s) (hs4 : s ≤ 4) (hc : ∀ i, i < s → ic_Cell R a_ops a_dests a_args (b * 4 + i))
    (hp : post (f_blockCount, f_cellCount, f_regCount, f_converted, f_reachable, f_guardCount, f_recordForm, f_ranBlocks, f_heldGuards, a_inputs, a_sizes, a_ops, a_dests, a_args, a_tests, a_trueTargets, a_falseTargets, a_onEveryWayTo, a_onEveryPath, a_guardNumbers, a_guardsOnTrue, a_guardsOnFalse, a_heldOnEntry, a_restoredTests, a_restoredTrue, a_restoredFalse, ic_blk a_ops a_dests a_args b s g)) :
    ∀ d i, i + d = s → ∀ n, d < n → wX_runBlock_14 post (nI b) n (nI i) f_blockCount f_cellCount f_regCount f_converted f_reachable f_guardCount f_recordForm f_ranBlocks f_heldGuards a_inputs a_sizes a_ops a_dests a_args a_tests a_trueTargets a_falseTargets a_onEveryWayTo a_onEveryPath a_guardNumbers a_guardsOnTrue a_guardsOnFalse a_heldOnEntry a_restoredTests a_restoredTrue a_restoredFalse (ic_blk a_ops a_dests a_args b i g) := by
  intro d
  induction d with
  | zero =>
    intro i hi n hn
    cases n with
    | zero => exact absurd hn (Nat.not_lt_zero _)
    | succ n =>
      have e : i = s := by omega
      rw [e]
      exact ⟨ic_v12 hb, br_t (by rw [nI_clamp (by omega), hs]; exact nI_le (by omega) (by omega)) hp⟩
  | succ d ih =>
    intro i hi n hn
    cases n with
    | zero => exact absurd hn (Nat.not_lt_zero _)
    | succ n =>
      refine ⟨ic_v12 hb, br_f (by rw [nI_clamp (by omega), hs]; exact nI_ge (by omega) (by omega)) ?_⟩
      unfold wpX_placeOf
      refine xm_ins hR (ic_4 b i) (by omega) (hc i (by omega)) ?_
      exact nm_r (nI_1 i) (ih (i + 1) (by omega) n (by omega))
theorem xm_blk (hR : R ≤ 8) {post : SX → Prop} {b s : Nat} (hb : b < 12) (hs : a_sizes b = nI s) (hs4 : s ≤ 4) (hc : ∀ i, i < s → ic_Cell R a_ops a_dests a_args (b * 4 + i))
    (hp : post (f_blockCount, f_cellCount, f_regCount, f_converted, f_reachable, f_guardCount, f_recordForm, f_ranBlocks ||| ((1 : Int32) <<< (nI b &&& 31)), f_heldGuards, a_inputs, a_sizes, a_ops, a_dests, a_args, a_tests, a_trueTargets, a_falseTargets, a_onEveryWayTo, a_onEveryPath, a_guardNumbers, a_guardsOnTrue, a_guardsOnFalse, a_heldOnEntry, a_restoredTests, a_restoredTrue, a_restoredFalse, ic_blk a_ops a_dests a_args b s a_finalRegs)) : wpX_runBlock post (f_blockCount, f_cellCount, f_regCount, f_converted, f_reachable, f_guardCount, f_recordForm, f_ranBlocks, f_heldGuards, a_inputs, a_sizes, a_ops, a_dests, a_args, a_tests, a_trueTargets, a_falseTargets, a_onEveryWayTo, a_onEveryPath, a_guardNumbers, a_guardsOnTrue, a_guardsOnFalse, a_heldOnEntry, a_restoredTests, a_restoredTrue, a_restoredFalse, a_finalRegs) (nI b) :=
  nm_e ⟨s + 1, xm_blk14 hR hb hs hs4 hc hp s 0 (by omega) (s + 1) (by omega)⟩
theorem xm_go (hR : R ≤ 8) {post : Int32 → Prop} {p0 t : Int32} (e : p0 = t) (ht : t = -1 ∨ ∃ r, r < R ∧ t = nI r) (h1 : ic_go t a_finalRegs = true → post 1) (h0 : ic_go t a_finalRegs = false → post 0) : wpX_goesOnTrue post (f_blockCount, f_cellCount, f_regCount, f_converted, f_reachable, f_guardCount, f_recordForm, f_ranBlocks, f_heldGuards, a_inputs, a_sizes, a_ops, a_dests, a_args, a_tests, a_trueTargets, a_falseTargets, a_onEveryWayTo, a_onEveryPath, a_guardNumbers, a_guardsOnTrue, a_guardsOnFalse, a_heldOnEntry, a_restoredTests, a_restoredTrue, a_restoredFalse, a_finalRegs) p0 := by
  subst e
  refine br_c (fun q => h1 (decide_eq_true (Or.inl q))) (fun q => ⟨?_, br_c (fun z => h0 (decide_eq_false (fun k => k.elim q (fun k => k z)))) (fun z => h1 (decide_eq_true (Or.inr z)))⟩)
  rcases ht with k | ⟨r, hr, k⟩
  · exact absurd k q
  · rw [k]
    exact ic_v8 (by omega)
theorem xm_rbS6 (hB : B ≤ 12) (hC : C ≤ 4) (hR : R ≤ 8) (hS : ic_Src B C R a_sizes a_ops a_dests a_args a_tests a_trueTargets a_falseTargets)
    (hq : ∀ b, b < B → ic_Re B (ic_N a_trueTargets) (ic_N a_falseTargets) b → a_trueTargets b = nI (ic_N a_trueTargets b) ∧ a_falseTargets b = nI (ic_N a_falseTargets b) ∧ (a_tests b = a_tests b ∨ (ic_N a_trueTargets b = ic_N a_falseTargets b ∧ a_tests b = -1)))
    {post : Int32 → SX → Prop} {stop : Nat} (hst : stop ≤ B) (hp : post (nI (ic_rn a_sizes a_ops a_dests a_args a_tests a_trueTargets a_falseTargets g0 stop).1) (f_blockCount, f_cellCount, f_regCount, f_converted, f_reachable, f_guardCount, f_recordForm, (ic_rn a_sizes a_ops a_dests a_args a_tests a_trueTargets a_falseTargets g0 stop).2.2, f_heldGuards, a_inputs, a_sizes, a_ops, a_dests, a_args, a_tests, a_trueTargets, a_falseTargets, a_onEveryWayTo, a_onEveryPath, a_guardNumbers, a_guardsOnTrue, a_guardsOnFalse, a_heldOnEntry, a_restoredTests, a_restoredTrue, a_restoredFalse, (ic_rn a_sizes a_ops a_dests a_args a_tests a_trueTargets a_falseTargets g0 stop).2.1)) :
    ∀ d b, b + d = stop → ∀ n, d < n → wX_runBranching__tests_trueTargets_falseTargets_6 post (nI stop) n (nI (ic_rn a_sizes a_ops a_dests a_args a_tests a_trueTargets a_falseTargets g0 b).1) (nI b) f_blockCount f_cellCount f_regCount f_converted f_reachable f_guardCount f_recordForm ((ic_rn a_sizes a_ops a_dests a_args a_tests a_trueTargets a_falseTargets g0 b).2.2) f_heldGuards a_inputs a_sizes a_ops a_dests a_args a_tests a_trueTargets a_falseTargets a_onEveryWayTo a_onEveryPath a_guardNumbers a_guardsOnTrue a_guardsOnFalse a_heldOnEntry a_restoredTests a_restoredTrue a_restoredFalse ((ic_rn a_sizes a_ops a_dests a_args a_tests a_trueTargets a_falseTargets g0 b).2.1) := by
  intro d
  induction d with
  | zero =>
    intro b hb n hn
    cases n with
    | zero => exact absurd hn (Nat.not_lt_zero _)
    | succ n =>
      have e : b = stop := by omega
      rw [e]
      exact br_t (nI_le (by omega) (by omega)) hp
  | succ d ih =>
    intro b hb n hn
    cases n with
    | zero => exact absurd hn (Nat.not_lt_zero _)
    | succ n =>
      obtain ⟨V, v1, v2, v3, v4, v5⟩ := ic_rn_V (g0 := g0) hS hB b (by omega)
      have hbB : b < B := by omega
      have k := ih (b + 1) (by omega) n (by omega)
      refine br_f (nI_ge (by omega) (by omega)) (pk_eq b (ic_rn a_sizes a_ops a_dests a_args a_tests a_trueTargets a_falseTargets g0 b).1 (fun q => ?_) (fun q => ?_))
      · rw [← q] at v1
        obtain ⟨q1, q2, q3⟩ := hq b hbB ⟨V, v1⟩
        obtain ⟨s1, s2, s3⟩ := ic_Src_s hS hC hbB
        have ht := (hS b hbB).2.1
        rw [ic_rn_s b q] at k
        refine xm_blk hR (by omega) s1 (by omega) s3 ?_
        refine ⟨ic_v12 (by omega), ?_⟩
        refine xm_go (t := a_tests b) hR (ic_g (by omega)) (q3.elim (fun z => by rw [z]; exact ht) (fun z => Or.inl z.2)) (fun e => br_f (by decide) ?_) (fun e => br_t rfl ?_)
        · refine ⟨ic_v12 (by omega), nm_r (e' := nI (ic_N a_trueTargets b)) (by rw [nI_clamp (by omega), q1]) (nm_r (nI_1 b) ?_)⟩
          rcases q3 with z | ⟨z, _⟩
          · rw [z] at e
            rw [if_pos e] at k
            exact k
          · rw [← z, ite_self] at k
            exact k
        · refine ⟨ic_v12 (by omega), nm_r (e' := nI (ic_N a_falseTargets b)) (by rw [nI_clamp (by omega), q2]) (nm_r (nI_1 b) ?_)⟩
          rcases q3 with z | ⟨z, _⟩
          · rw [z] at e
            rw [if_neg (by rw [e]; decide)] at k
            exact k
          · rw [z, ite_self] at k
            exact k
      · rw [ic_rn_n b q] at k
        exact nm_r (nI_1 b) k
theorem xm_rbS (hB : B ≤ 12) (hC : C ≤ 4) (hR : R ≤ 8) (hS : ic_Src B C R a_sizes a_ops a_dests a_args a_tests a_trueTargets a_falseTargets)
    (hq : ∀ b, b < B → ic_Re B (ic_N a_trueTargets) (ic_N a_falseTargets) b → a_trueTargets b = nI (ic_N a_trueTargets b) ∧ a_falseTargets b = nI (ic_N a_falseTargets b) ∧ (a_tests b = a_tests b ∨ (ic_N a_trueTargets b = ic_N a_falseTargets b ∧ a_tests b = -1)))
    {post : Int32 → SX → Prop} {stop : Nat} (hst : stop ≤ B) (hp : post (nI (ic_rn a_sizes a_ops a_dests a_args a_tests a_trueTargets a_falseTargets g0 stop).1) (f_blockCount, f_cellCount, f_regCount, f_converted, f_reachable, f_guardCount, f_recordForm, (ic_rn a_sizes a_ops a_dests a_args a_tests a_trueTargets a_falseTargets g0 stop).2.2, f_heldGuards, a_inputs, a_sizes, a_ops, a_dests, a_args, a_tests, a_trueTargets, a_falseTargets, a_onEveryWayTo, a_onEveryPath, a_guardNumbers, a_guardsOnTrue, a_guardsOnFalse, a_heldOnEntry, a_restoredTests, a_restoredTrue, a_restoredFalse, (ic_rn a_sizes a_ops a_dests a_args a_tests a_trueTargets a_falseTargets g0 stop).2.1)) : wpX_runBranching__tests_trueTargets_falseTargets post (f_blockCount, f_cellCount, f_regCount, f_converted, f_reachable, f_guardCount, f_recordForm, 0, f_heldGuards, a_inputs, a_sizes, a_ops, a_dests, a_args, a_tests, a_trueTargets, a_falseTargets, a_onEveryWayTo, a_onEveryPath, a_guardNumbers, a_guardsOnTrue, a_guardsOnFalse, a_heldOnEntry, a_restoredTests, a_restoredTrue, a_restoredFalse, g0) (nI stop) :=
  ⟨stop + 1, xm_rbS6 hB hC hR hS hq hst hp stop 0 (by omega) (stop + 1) (by omega)⟩
theorem xm_rbR6 (hB : B ≤ 12) (hC : C ≤ 4) (hR : R ≤ 8) (hS : ic_Src B C R a_sizes a_ops a_dests a_args a_tests a_trueTargets a_falseTargets)
    (hq : ∀ b, b < B → ic_Re B (ic_N a_trueTargets) (ic_N a_falseTargets) b → a_restoredTrue b = nI (ic_N a_trueTargets b) ∧ a_restoredFalse b = nI (ic_N a_falseTargets b) ∧ (a_restoredTests b = a_tests b ∨ (ic_N a_trueTargets b = ic_N a_falseTargets b ∧ a_restoredTests b = -1)))
    {post : Int32 → SX → Prop} {stop : Nat} (hst : stop ≤ B) (hp : post (nI (ic_rn a_sizes a_ops a_dests a_args a_tests a_trueTargets a_falseTargets g0 stop).1) (f_blockCount, f_cellCount, f_regCount, f_converted, f_reachable, f_guardCount, f_recordForm, (ic_rn a_sizes a_ops a_dests a_args a_tests a_trueTargets a_falseTargets g0 stop).2.2, f_heldGuards, a_inputs, a_sizes, a_ops, a_dests, a_args, a_tests, a_trueTargets, a_falseTargets, a_onEveryWayTo, a_onEveryPath, a_guardNumbers, a_guardsOnTrue, a_guardsOnFalse, a_heldOnEntry, a_restoredTests, a_restoredTrue, a_restoredFalse, (ic_rn a_sizes a_ops a_dests a_args a_tests a_trueTargets a_falseTargets g0 stop).2.1)) :
    ∀ d b, b + d = stop → ∀ n, d < n → wX_runBranching__restoredTests_restoredTrue_restoredFalse_6 post (nI stop) n (nI (ic_rn a_sizes a_ops a_dests a_args a_tests a_trueTargets a_falseTargets g0 b).1) (nI b) f_blockCount f_cellCount f_regCount f_converted f_reachable f_guardCount f_recordForm ((ic_rn a_sizes a_ops a_dests a_args a_tests a_trueTargets a_falseTargets g0 b).2.2) f_heldGuards a_inputs a_sizes a_ops a_dests a_args a_tests a_trueTargets a_falseTargets a_onEveryWayTo a_onEveryPath a_guardNumbers a_guardsOnTrue a_guardsOnFalse a_heldOnEntry a_restoredTests a_restoredTrue a_restoredFalse ((ic_rn a_sizes a_ops a_dests a_args a_tests a_trueTargets a_falseTargets g0 b).2.1) := by
  intro d
  induction d with
  | zero =>
    intro b hb n hn
    cases n with
    | zero => exact absurd hn (Nat.not_lt_zero _)
    | succ n =>
      have e : b = stop := by omega
      rw [e]
      exact br_t (nI_le (by omega) (by omega)) hp
  | succ d ih =>
    intro b hb n hn
    cases n with
    | zero => exact absurd hn (Nat.not_lt_zero _)
    | succ n =>
      obtain ⟨V, v1, v2, v3, v4, v5⟩ := ic_rn_V (g0 := g0) hS hB b (by omega)
      have hbB : b < B := by omega
      have k := ih (b + 1) (by omega) n (by omega)
      refine br_f (nI_ge (by omega) (by omega)) (pk_eq b (ic_rn a_sizes a_ops a_dests a_args a_tests a_trueTargets a_falseTargets g0 b).1 (fun q => ?_) (fun q => ?_))
      · rw [← q] at v1
        obtain ⟨q1, q2, q3⟩ := hq b hbB ⟨V, v1⟩
        obtain ⟨s1, s2, s3⟩ := ic_Src_s hS hC hbB
        have ht := (hS b hbB).2.1
        rw [ic_rn_s b q] at k
        refine xm_blk hR (by omega) s1 (by omega) s3 ?_
        refine ⟨ic_v12 (by omega), ?_⟩
        refine xm_go (t := a_restoredTests b) hR (ic_g (by omega)) (q3.elim (fun z => by rw [z]; exact ht) (fun z => Or.inl z.2)) (fun e => br_f (by decide) ?_) (fun e => br_t rfl ?_)
        · refine ⟨ic_v12 (by omega), nm_r (e' := nI (ic_N a_trueTargets b)) (by rw [nI_clamp (by omega), q1]) (nm_r (nI_1 b) ?_)⟩
          rcases q3 with z | ⟨z, _⟩
          · rw [z] at e
            rw [if_pos e] at k
            exact k
          · rw [← z, ite_self] at k
            exact k
        · refine ⟨ic_v12 (by omega), nm_r (e' := nI (ic_N a_falseTargets b)) (by rw [nI_clamp (by omega), q2]) (nm_r (nI_1 b) ?_)⟩
          rcases q3 with z | ⟨z, _⟩
          · rw [z] at e
            rw [if_neg (by rw [e]; decide)] at k
            exact k
          · rw [z, ite_self] at k
            exact k
      · rw [ic_rn_n b q] at k
        exact nm_r (nI_1 b) k
theorem xm_rbR (hB : B ≤ 12) (hC : C ≤ 4) (hR : R ≤ 8) (hS : ic_Src B C R a_sizes a_ops a_dests a_args a_tests a_trueTargets a_falseTargets)
    (hq : ∀ b, b < B → ic_Re B (ic_N a_trueTargets) (ic_N a_falseTargets) b → a_restoredTrue b = nI (ic_N a_trueTargets b) ∧ a_restoredFalse b = nI (ic_N a_falseTargets b) ∧ (a_restoredTests b = a_tests b ∨ (ic_N a_trueTargets b = ic_N a_falseTargets b ∧ a_restoredTests b = -1)))
    {post : Int32 → SX → Prop} {stop : Nat} (hst : stop ≤ B) (hp : post (nI (ic_rn a_sizes a_ops a_dests a_args a_tests a_trueTargets a_falseTargets g0 stop).1) (f_blockCount, f_cellCount, f_regCount, f_converted, f_reachable, f_guardCount, f_recordForm, (ic_rn a_sizes a_ops a_dests a_args a_tests a_trueTargets a_falseTargets g0 stop).2.2, f_heldGuards, a_inputs, a_sizes, a_ops, a_dests, a_args, a_tests, a_trueTargets, a_falseTargets, a_onEveryWayTo, a_onEveryPath, a_guardNumbers, a_guardsOnTrue, a_guardsOnFalse, a_heldOnEntry, a_restoredTests, a_restoredTrue, a_restoredFalse, (ic_rn a_sizes a_ops a_dests a_args a_tests a_trueTargets a_falseTargets g0 stop).2.1)) : wpX_runBranching__restoredTests_restoredTrue_restoredFalse post (f_blockCount, f_cellCount, f_regCount, f_converted, f_reachable, f_guardCount, f_recordForm, 0, f_heldGuards, a_inputs, a_sizes, a_ops, a_dests, a_args, a_tests, a_trueTargets, a_falseTargets, a_onEveryWayTo, a_onEveryPath, a_guardNumbers, a_guardsOnTrue, a_guardsOnFalse, a_heldOnEntry, a_restoredTests, a_restoredTrue, a_restoredFalse, g0) (nI stop) :=
  ⟨stop + 1, xm_rbR6 hB hC hR hS hq hst hp stop 0 (by omega) (stop + 1) (by omega)⟩
theorem xm_rs2 (hB : B ≤ 12) (hC : C ≤ 4) (hR : R ≤ 8) (hS : ic_Src B C R a_sizes a_ops a_dests a_args a_tests a_trueTargets a_falseTargets) (hg : ∀ b, b < B → a_guardNumbers b = nI (ic_gn B (ic_N a_trueTargets) (ic_N a_falseTargets) b)) (hG : ic_GD B (ic_N a_trueTargets) (ic_N a_falseTargets) B a_guardsOnTrue a_guardsOnFalse)
    {post : Int32 → SX → Prop} {stop : Nat} (hst : stop ≤ B)
    (hp : ∀ h V, ic_RV B (ic_N a_trueTargets) (ic_N a_falseTargets) stop (ic_rn a_sizes a_ops a_dests a_args a_tests a_trueTargets a_falseTargets g0 stop).1 (ic_rn a_sizes a_ops a_dests a_args a_tests a_trueTargets a_falseTargets g0 stop).2.2 V → ic_Inv B (ic_N a_trueTargets) (ic_N a_falseTargets) V (ic_rn a_sizes a_ops a_dests a_args a_tests a_trueTargets a_falseTargets g0 stop).1 (bt h) → post (nI (ic_rn a_sizes a_ops a_dests a_args a_tests a_trueTargets a_falseTargets g0 stop).1) (nI B, f_cellCount, f_regCount, f_converted, f_reachable, f_guardCount, f_recordForm, (ic_rn a_sizes a_ops a_dests a_args a_tests a_trueTargets a_falseTargets g0 stop).2.2, h, a_inputs, a_sizes, a_ops, a_dests, a_args, a_tests, a_trueTargets, a_falseTargets, a_onEveryWayTo, a_onEveryPath, a_guardNumbers, a_guardsOnTrue, a_guardsOnFalse, a_heldOnEntry, a_restoredTests, a_restoredTrue, a_restoredFalse, (ic_rn a_sizes a_ops a_dests a_args a_tests a_trueTargets a_falseTargets g0 stop).2.1)) :
    ∀ d b h V, b + d = stop → ic_RV B (ic_N a_trueTargets) (ic_N a_falseTargets) b (ic_rn a_sizes a_ops a_dests a_args a_tests a_trueTargets a_falseTargets g0 b).1 (ic_rn a_sizes a_ops a_dests a_args a_tests a_trueTargets a_falseTargets g0 b).2.2 V → ic_Inv B (ic_N a_trueTargets) (ic_N a_falseTargets) V (ic_rn a_sizes a_ops a_dests a_args a_tests a_trueTargets a_falseTargets g0 b).1 (bt h) → ∀ n, d < n → wX_runStraight_2 post (nI stop) n (nI b) (nI B) f_cellCount f_regCount f_converted f_reachable f_guardCount f_recordForm ((ic_rn a_sizes a_ops a_dests a_args a_tests a_trueTargets a_falseTargets g0 b).2.2) h a_inputs a_sizes a_ops a_dests a_args a_tests a_trueTargets a_falseTargets a_onEveryWayTo a_onEveryPath a_guardNumbers a_guardsOnTrue a_guardsOnFalse a_heldOnEntry a_restoredTests a_restoredTrue a_restoredFalse ((ic_rn a_sizes a_ops a_dests a_args a_tests a_trueTargets a_falseTargets g0 b).2.1) := by
  have ok := ic_Src_ok hS hB
  intro d
  induction d with
  | zero =>
    intro b h V hb hV I n hn
    cases n with
    | zero => exact absurd hn (Nat.not_lt_zero _)
    | succ n =>
      have e : b = stop := by omega
      rw [e] at hV I ⊢
      obtain ⟨v1, v2, v3, v4, v5⟩ := hV
      refine br_t (nI_le (by omega) (by omega)) ?_
      refine xm_next (z := (ic_rn a_sizes a_ops a_dests a_args a_tests a_trueTargets a_falseTargets g0 stop).1) hB hg rfl v3 v4 (fun x k1 k2 => ?_) (fun k2 => (ic_held ok I v2 v3 k2 (Nat.le_refl _)).mpr rfl) (hp h V ⟨v1, v2, v3, v4, v5⟩ I)
      cases ee : bt h (ic_gn B (ic_N a_trueTargets) (ic_N a_falseTargets) x) with
      | false => rfl
      | true =>
        have := (ic_held ok I v2 k1 (by omega) (by omega)).mp ee
        omega
  | succ d ih =>
    intro b h V hb hV I n hn
    cases n with
    | zero => exact absurd hn (Nat.not_lt_zero _)
    | succ n =>
      have hbB : b < B := by omega
      have hgn := ic_gn_le (B := B) (T := ic_N a_trueTargets) (F := ic_N a_falseTargets) hbB hB
      have hh := ic_held ok I hV.2.1 (Nat.le_refl b) hbB hV.2.2.1
      refine br_f (nI_ge (by omega) (by omega)) ⟨ic_v12 (by omega), ?_⟩
      refine xm_has (ic_gn B (ic_N a_trueTargets) (ic_N a_falseTargets) b) ((ic_g (by omega)).trans (hg b hbB)) (by omega) (fun e => br_f (by decide) ?_) (fun e => br_t rfl ?_)
      · have q := hh.mp e
        obtain ⟨s1, s2, s3⟩ := ic_Src_s hS hC hbB
        have ht := (hS b hbB).2.1
        have k := ih (b + 1)
        rw [ic_rn_s b q] at k
        have r : ic_Re B (ic_N a_trueTargets) (ic_N a_falseTargets) b := by
          have := hV.1
          rw [← q] at this
          exact ⟨V, this⟩
        have I2 := I
        rw [← q] at I2
        refine xm_blk hR (by omega) s1 (by omega) s3 ?_
        refine ⟨ic_v12 (by omega), ?_⟩
        refine xm_go (t := a_tests b) hR (ic_g (by omega)) ht (fun e => br_f (by decide) ?_) (fun e => br_t rfl ?_)
        · rw [if_pos e] at k
          refine ⟨ic_v12 (by omega), nm_r (e' := h ||| a_guardsOnTrue b) (by rw [nI_clamp (by omega)]) (nm_r (nI_1 b) ?_)⟩
          exact k (h ||| a_guardsOnTrue b) (V ++ [b]) (by omega) (ic_RV_s ok hB hV q hbB (Or.inl rfl)) (ic_Inv_s ok hB I2 hbB (Or.inl rfl) (fun k hk => by rw [b_or, Bool.or_eq_true, (hG b hbB r k hk).1])) n (by omega)
        · rw [if_neg (by rw [e]; decide)] at k
          refine ⟨ic_v12 (by omega), nm_r (e' := h ||| a_guardsOnFalse b) (by rw [nI_clamp (by omega)]) (nm_r (nI_1 b) ?_)⟩
          exact k (h ||| a_guardsOnFalse b) (V ++ [b]) (by omega) (ic_RV_s ok hB hV q hbB (Or.inr rfl)) (ic_Inv_s ok hB I2 hbB (Or.inr rfl) (fun k hk => by rw [b_or, Bool.or_eq_true, (hG b hbB r k hk).2])) n (by omega)
      · have q : ¬ b = (ic_rn a_sizes a_ops a_dests a_args a_tests a_trueTargets a_falseTargets g0 b).1 := fun z => by
          have := hh.mpr z
          rw [e] at this
          cases this
        have k := ih (b + 1) h V
        rw [ic_rn_n b q] at k
        exact nm_r (nI_1 b) (k (by omega) (ic_RV_n hV q) I n (by omega))
theorem xm_rs (hB : B ≤ 12) (hB1 : 1 ≤ B) (hC : C ≤ 4) (hR : R ≤ 8) (hS : ic_Src B C R a_sizes a_ops a_dests a_args a_tests a_trueTargets a_falseTargets) (hg : ∀ b, b < B → a_guardNumbers b = nI (ic_gn B (ic_N a_trueTargets) (ic_N a_falseTargets) b)) (hG : ic_GD B (ic_N a_trueTargets) (ic_N a_falseTargets) B a_guardsOnTrue a_guardsOnFalse)
    {post : Int32 → SX → Prop} {stop : Nat} (hst : stop ≤ B)
    (hp : ∀ h V, ic_RV B (ic_N a_trueTargets) (ic_N a_falseTargets) stop (ic_rn a_sizes a_ops a_dests a_args a_tests a_trueTargets a_falseTargets g0 stop).1 (ic_rn a_sizes a_ops a_dests a_args a_tests a_trueTargets a_falseTargets g0 stop).2.2 V → ic_Inv B (ic_N a_trueTargets) (ic_N a_falseTargets) V (ic_rn a_sizes a_ops a_dests a_args a_tests a_trueTargets a_falseTargets g0 stop).1 (bt h) → post (nI (ic_rn a_sizes a_ops a_dests a_args a_tests a_trueTargets a_falseTargets g0 stop).1) (nI B, f_cellCount, f_regCount, f_converted, f_reachable, f_guardCount, f_recordForm, (ic_rn a_sizes a_ops a_dests a_args a_tests a_trueTargets a_falseTargets g0 stop).2.2, h, a_inputs, a_sizes, a_ops, a_dests, a_args, a_tests, a_trueTargets, a_falseTargets, a_onEveryWayTo, a_onEveryPath, a_guardNumbers, a_guardsOnTrue, a_guardsOnFalse, a_heldOnEntry, a_restoredTests, a_restoredTrue, a_restoredFalse, (ic_rn a_sizes a_ops a_dests a_args a_tests a_trueTargets a_falseTargets g0 stop).2.1)) :
    wpX_runStraight post (nI B, f_cellCount, f_regCount, f_converted, f_reachable, f_guardCount, f_recordForm, 0, 1, a_inputs, a_sizes, a_ops, a_dests, a_args, a_tests, a_trueTargets, a_falseTargets, a_onEveryWayTo, a_onEveryPath, a_guardNumbers, a_guardsOnTrue, a_guardsOnFalse, a_heldOnEntry, a_restoredTests, a_restoredTrue, a_restoredFalse, g0) (nI stop) :=
  ⟨stop + 1, xm_rs2 hB hC hR hS hg hG hst hp stop 0 1 [] (by omega) ic_RV_0 (ic_Inv_0 hB1 (fun k hk => ic_b1 k (by omega)) hB) (stop + 1) (by omega)⟩
end
end
section
/-! Y: a run -/
section
variable {B C R : Nat} {g0 : Nat → Int32} {f_blocks f_cells f_regs f_converted f_recorded f_recForm f_recRan f_recC : Int32} {a_ops a_dests a_args a_size a_test a_onTrue a_onFalse a_inputs a_recRegs a_complete a_guard : Nat → Int32}
theorem ym_46 {post : SY → Prop} {k d : Nat} {x2 l z : Int32} (hk : k < 8) (ho : x2 = nI k) (hd : d < 8) (hp : post (f_blocks, f_cells, f_regs, f_converted, f_recorded, f_recForm, f_recRan, f_recC, a_ops, a_dests, a_args, a_size, a_test, a_onTrue, a_onFalse, a_inputs, upd a_recRegs d (ic_res x2 l z), a_complete, a_guard)) : wY_execute_46 post x2 (nI d) l z f_blocks f_cells f_regs f_converted f_recorded f_recForm f_recRan f_recC a_ops a_dests a_args a_size a_test a_onTrue a_onFalse a_inputs a_recRegs a_complete a_guard := by
  subst ho
  have h : k = 0 ∨ k = 1 ∨ k = 2 ∨ k = 3 ∨ k = 4 ∨ k = 5 ∨ k = 6 ∨ k = 7 := by omega
  have u : ∀ x, upd a_recRegs (nI d).toNatClampNeg x = upd a_recRegs d x := fun x => ic_u (by omega)
  rcases h with rfl | rfl | rfl | rfl | rfl | rfl | rfl | rfl
  · exact br_t (by decide) ⟨ic_v8 hd, nm_r (u _) (br_f (by decide) (br_f (by decide) (br_f (by decide) (br_f (by decide) (br_f (by decide) (br_f (by decide) hp))))))⟩
  · exact br_f (by decide) (br_t (by decide) ⟨ic_v8 hd, nm_r (u _) (br_f (by decide) (br_f (by decide) (br_f (by decide) (br_f (by decide) (br_f (by decide) (br_f (by decide) hp))))))⟩)
  · exact br_f (by decide) (br_f (by decide) (br_t (by decide) ⟨ic_v8 hd, nm_r (u _) (br_f (by decide) (br_f (by decide) (br_f (by decide) (br_f (by decide) (br_f (by decide) hp)))))⟩))
  · exact br_f (by decide) (br_f (by decide) (br_f (by decide) (br_t (by decide) ⟨ic_v8 hd, nm_r (u _) (br_f (by decide) (br_f (by decide) (br_f (by decide) (br_f (by decide) hp))))⟩)))
  · exact br_f (by decide) (br_f (by decide) (br_f (by decide) (br_f (by decide) (br_t (by decide) ⟨ic_v8 hd, nm_r (u _) (br_f (by decide) (br_f (by decide) (br_f (by decide) hp)))⟩))))
  · exact br_f (by decide) (br_f (by decide) (br_f (by decide) (br_f (by decide) (br_f (by decide) (br_t (by decide) ⟨ic_v8 hd, nm_r (u _) (br_f (by decide) (br_f (by decide) hp))⟩)))))
  · have hp : post (f_blocks, f_cells, f_regs, f_converted, f_recorded, f_recForm, f_recRan, f_recC, a_ops, a_dests, a_args, a_size, a_test, a_onTrue, a_onFalse, a_inputs, upd a_recRegs d (if l < z then 1 else 0), a_complete, a_guard) := hp
    refine br_f (by decide) (br_f (by decide) (br_f (by decide) (br_f (by decide) (br_f (by decide) (br_f (by decide) (br_t (by decide) (br_c (fun h => ?_) (fun h => ?_))))))))
    · rw [if_neg (Int32.not_lt.mpr h)] at hp
      exact ⟨ic_v8 hd, nm_r (u _) (br_f (by decide) hp)⟩
    · rw [if_pos (Int32.not_le.mp h)] at hp
      exact ⟨ic_v8 hd, nm_r (u _) (br_f (by decide) hp)⟩
  · have hp : post (f_blocks, f_cells, f_regs, f_converted, f_recorded, f_recForm, f_recRan, f_recC, a_ops, a_dests, a_args, a_size, a_test, a_onTrue, a_onFalse, a_inputs, upd a_recRegs d (if l = z then 1 else 0), a_complete, a_guard) := hp
    refine br_f (by decide) (br_f (by decide) (br_f (by decide) (br_f (by decide) (br_f (by decide) (br_f (by decide) (br_f (by decide) (br_t (by decide) (br_c (fun h => ?_) (fun h => ?_)))))))))
    · rw [if_pos h] at hp
      exact ⟨ic_v8 hd, nm_r (u _) hp⟩
    · rw [if_neg h] at hp
      exact ⟨ic_v8 hd, nm_r (u _) hp⟩
theorem ym_exe (hR : R ≤ 8) {post : SY → Prop} {p : Nat} {p0 : Int32} (ep : p0 = nI p) (hp : p < 48) (hc : ic_Cell R a_ops a_dests a_args p) (h : post (f_blocks, f_cells, f_regs, f_converted, f_recorded, f_recForm, f_recRan, f_recC, a_ops, a_dests, a_args, a_size, a_test, a_onTrue, a_onFalse, a_inputs, ic_exe a_ops a_dests a_args a_recRegs p, a_complete, a_guard)) : wpY_execute post (f_blocks, f_cells, f_regs, f_converted, f_recorded, f_recForm, f_recRan, f_recC, a_ops, a_dests, a_args, a_size, a_test, a_onTrue, a_onFalse, a_inputs, a_recRegs, a_complete, a_guard) p0 := by
  subst ep
  obtain ⟨o, d, ho, hd, e1, e2, e3⟩ := hc
  have c1 : (nI p).toNatClampNeg = p := nI_clamp (by omega)
  have c2 : (nI d).toNatClampNeg = d := nI_clamp (by omega)
  unfold ic_exe at h
  rw [e2, c2] at h
  refine ⟨ic_v48 hp, nm_r (e' := a_ops p) (by rw [c1]) ⟨ic_v48 hp, nm_r (e' := nI d) (by rw [c1, e2]) ⟨ic_v8 (by omega), nm_r (e' := a_recRegs d) (by rw [c2]) ?_⟩⟩⟩
  by_cases e : o = 0
  · have z : a_ops p = 0 := by rw [e1, e]; exact nI_0
    refine br_t z ⟨ic_v48 hp, ym_46 ho e1 (by omega) ?_⟩
    rw [if_pos z] at h
    rw [c1]
    exact h
  · have z : ¬ a_ops p = 0 := by rw [e1]; exact nI_ne0 (by omega) (by omega)
    obtain ⟨x, hx, e4⟩ := e3.resolve_left e
    refine br_f z ⟨ic_v48 hp, by rw [c1, e4]; exact ic_v8 (by omega), ym_46 ho e1 (by omega) ?_⟩
    rw [if_neg z] at h
    rw [c1]
    exact h
theorem ym_107 (hR : R ≤ 8) {post : Int32 → SY → Prop} {J : Int32 → Int32 → Int32 → Int32 → Int32 → Int32 → Int32 → Int32 → Int32 → (Nat → Int32) → (Nat → Int32) → (Nat → Int32) → (Nat → Int32) → (Nat → Int32) → (Nat → Int32) → (Nat → Int32) → (Nat → Int32) → (Nat → Int32) → (Nat → Int32) → (Nat → Int32) → Prop} {x2 : Int32} {b s : Nat} {g : Nat → Int32} (hb : b < 12) (hs : a_size b = nI s) (hs4 : s ≤ 4) (hc : ∀ i, i < s → ic_Cell R a_ops a_dests a_args (b * 4 + i))
    (ht : a_test b = -1 ∨ ∃ r, r < R ∧ a_test b = nI r)
    (hJ : J (nI (b + 1)) f_blocks f_cells f_regs f_converted f_recorded f_recForm (f_recRan ||| ((1 : Int32) <<< (nI b &&& 31))) (if ic_go (a_test b) (ic_blk a_ops a_dests a_args b s g) = true then a_onTrue b else a_onFalse b) a_ops a_dests a_args a_size a_test a_onTrue a_onFalse a_inputs (ic_blk a_ops a_dests a_args b s g) a_complete a_guard) :
    ∀ d i, i + d = s → ∀ n, d < n → wY_run_107 post J x2 (nI b) n (nI i) f_blocks f_cells f_regs f_converted f_recorded f_recForm f_recRan f_recC a_ops a_dests a_args a_size a_test a_onTrue a_onFalse a_inputs (ic_blk a_ops a_dests a_args b i g) a_complete a_guard := by
  intro d
  have c1 : (nI b).toNatClampNeg = b := nI_clamp (by omega)
  induction d with
  | zero =>
    intro i hi n hn
    cases n with
    | zero => exact absurd hn (Nat.not_lt_zero _)
    | succ n =>
      have e : i = s := by omega
      rw [e]
      refine ⟨ic_v12 hb, br_t (by rw [c1, hs]; exact nI_le (by omega) (by omega)) (nm_e ⟨ic_v12 hb, br_c (fun q => ?_) (fun q => ⟨ic_v12 hb, ?_, br_c (fun z => ?_) (fun z => ?_)⟩)⟩)⟩
      · rw [c1] at q
        have gg : ic_go (a_test b) (ic_blk a_ops a_dests a_args b s g) = true := decide_eq_true (Or.inl q)
        rw [if_pos gg] at hJ
        exact ⟨ic_v12 hb, nm_r (by rw [c1]) (nm_r (nI_1 b) hJ)⟩
      · rw [c1] at q ⊢
        rcases ht with k | ⟨r, hr, k⟩
        · exact absurd k q
        · rw [k]
          exact ic_v8 (by omega)
      · rw [c1] at q z
        have gg : ic_go (a_test b) (ic_blk a_ops a_dests a_args b s g) = false := decide_eq_false (fun k => k.elim q (fun k => k z))
        rw [if_neg (by rw [gg]; decide)] at hJ
        exact ⟨ic_v12 hb, nm_r (by rw [c1]) (nm_r (nI_1 b) hJ)⟩
      · rw [c1] at q z
        have gg : ic_go (a_test b) (ic_blk a_ops a_dests a_args b s g) = true := decide_eq_true (Or.inr z)
        rw [if_pos gg] at hJ
        exact ⟨ic_v12 hb, nm_r (by rw [c1]) (nm_r (nI_1 b) hJ)⟩
  | succ d ih =>
    intro i hi n hn
    cases n with
    | zero => exact absurd hn (Nat.not_lt_zero _)
    | succ n =>
      refine ⟨ic_v12 hb, br_f (by rw [c1, hs]; exact nI_ge (by omega) (by omega)) ?_⟩
      refine ym_exe hR (ic_4 b i) (by omega) (hc i (by omega)) ?_
      exact nm_r (nI_1 i) (ih (i + 1) (by omega) n (by omega))
theorem ym_88 (hB : B ≤ 12) (hC : C ≤ 4) (hR : R ≤ 8) (hS : ic_Src B C R a_size a_ops a_dests a_args a_test a_onTrue a_onFalse) {post : Int32 → SY → Prop} {stop : Nat} (hst : stop ≤ B) (hp : post (nI (ic_rn a_size a_ops a_dests a_args a_test a_onTrue a_onFalse g0 stop).1) (f_blocks, f_cells, f_regs, f_converted, f_recorded, f_recForm, (ic_rn a_size a_ops a_dests a_args a_test a_onTrue a_onFalse g0 stop).2.2, nI (ic_rn a_size a_ops a_dests a_args a_test a_onTrue a_onFalse g0 stop).1, a_ops, a_dests, a_args, a_size, a_test, a_onTrue, a_onFalse, a_inputs, (ic_rn a_size a_ops a_dests a_args a_test a_onTrue a_onFalse g0 stop).2.1, a_complete, a_guard)) :
    ∀ d b, b + d = stop → ∀ n, d < n → wY_run_88 post (nI stop) n (nI b) f_blocks f_cells f_regs f_converted f_recorded f_recForm ((ic_rn a_size a_ops a_dests a_args a_test a_onTrue a_onFalse g0 b).2.2) (nI (ic_rn a_size a_ops a_dests a_args a_test a_onTrue a_onFalse g0 b).1) a_ops a_dests a_args a_size a_test a_onTrue a_onFalse a_inputs ((ic_rn a_size a_ops a_dests a_args a_test a_onTrue a_onFalse g0 b).2.1) a_complete a_guard := by
  intro d
  induction d with
  | zero =>
    intro b hb n hn
    cases n with
    | zero => exact absurd hn (Nat.not_lt_zero _)
    | succ n =>
      have e : b = stop := by omega
      rw [e]
      exact br_t (nI_le (by omega) (by omega)) hp
  | succ d ih =>
    intro b hb n hn
    cases n with
    | zero => exact absurd hn (Nat.not_lt_zero _)
    | succ n =>
      obtain ⟨V, v1, v2, v3, v4, v5⟩ := ic_rn_V (g0 := g0) hS hB b (by omega)
      have hbB : b < B := by omega
      have k := ih (b + 1) (by omega) n (by omega)
      refine br_f (nI_ge (by omega) (by omega)) (pk_eq b (ic_rn a_size a_ops a_dests a_args a_test a_onTrue a_onFalse g0 b).1 (fun q => ?_) (fun q => ?_))
      · obtain ⟨s1, s2, s3⟩ := ic_Src_s hS hC hbB
        have hT := ic_Src_T hS hB hbB
        rw [ic_rn_s b q] at k
        refine ⟨ic_N a_size b + 1, ym_107 hR (by omega) s1 (by omega) s3 (hS b hbB).2.1 ?_ (ic_N a_size b) 0 (by omega) (ic_N a_size b + 1) (by omega)⟩
        rw [hT.1, hT.2, ← apply_ite nI]
        exact k
      · rw [ic_rn_n b q] at k
        exact nm_r (nI_1 b) k
theorem ym_60 (hB : B ≤ 12) (hC : C ≤ 4) (hR : R ≤ 8) (hS : ic_Src B C R a_size a_ops a_dests a_args a_test a_onTrue a_onFalse) {post : Int32 → SY → Prop} {stop : Nat} {g : Nat → Int32} (hg : g0 = ic_cp a_inputs g R) (hst : stop ≤ B) (hp : post (nI (ic_rn a_size a_ops a_dests a_args a_test a_onTrue a_onFalse g0 stop).1) (f_blocks, f_cells, nI R, f_converted, f_recorded, f_recForm, (ic_rn a_size a_ops a_dests a_args a_test a_onTrue a_onFalse g0 stop).2.2, nI (ic_rn a_size a_ops a_dests a_args a_test a_onTrue a_onFalse g0 stop).1, a_ops, a_dests, a_args, a_size, a_test, a_onTrue, a_onFalse, a_inputs, (ic_rn a_size a_ops a_dests a_args a_test a_onTrue a_onFalse g0 stop).2.1, a_complete, a_guard)) :
    ∀ d i, i + d = R → ∀ n, d < n → wY_run_60 post (nI stop) f_blocks f_cells (nI R) f_converted f_recorded f_recForm 0 0 n (nI i) a_ops a_dests a_args a_size a_test a_onTrue a_onFalse a_inputs (ic_cp a_inputs g i) a_complete a_guard := by
  intro d
  induction d with
  | zero =>
    intro i hi n hn
    cases n with
    | zero => exact absurd hn (Nat.not_lt_zero _)
    | succ n =>
      have e : i = R := by omega
      rw [e, ← hg]
      exact br_t (nI_le (by omega) (by omega)) ⟨stop + 1, ym_88 hB hC hR hS hst hp stop 0 (by omega) (stop + 1) (by omega)⟩
  | succ d ih =>
    intro i hi n hn
    cases n with
    | zero => exact absurd hn (Nat.not_lt_zero _)
    | succ n =>
      exact br_f (nI_ge (by omega) (by omega)) ⟨ic_v8 (by omega), ic_v8 (by omega), nm_r (e' := ic_cp a_inputs g (i + 1)) (by rw [nI_clamp (n := i) (by omega)] <;> rfl) (nm_r (nI_1 i) (ih (i + 1) (by omega) n (by omega)))⟩
theorem ym_38 (hB : B ≤ 12) (hC : C ≤ 4) (hR : R ≤ 8) (hS : ic_Src B C R a_size a_ops a_dests a_args a_test a_onTrue a_onFalse) {post : Int32 → SY → Prop} {stop : Nat} {p0 : Int32} (hg : g0 = ic_cp a_inputs a_recRegs R) (hst : stop ≤ B) (hp : post (nI (ic_rn a_size a_ops a_dests a_args a_test a_onTrue a_onFalse g0 stop).1) (f_blocks, f_cells, nI R, f_converted, 1, p0, (ic_rn a_size a_ops a_dests a_args a_test a_onTrue a_onFalse g0 stop).2.2, nI (ic_rn a_size a_ops a_dests a_args a_test a_onTrue a_onFalse g0 stop).1, a_ops, a_dests, a_args, a_size, a_test, a_onTrue, a_onFalse, a_inputs, (ic_rn a_size a_ops a_dests a_args a_test a_onTrue a_onFalse g0 stop).2.1, a_complete, a_guard)) :
    wY_run_38 post p0 (nI stop) f_blocks f_cells (nI R) f_converted f_recorded f_recForm f_recRan f_recC a_ops a_dests a_args a_size a_test a_onTrue a_onFalse a_inputs a_recRegs a_complete a_guard :=
  ⟨R + 1, ym_60 hB hC hR hS hg hst hp R 0 (by omega) (R + 1) (by omega)⟩
end
end
section
/-! the relation, and the small methods of both sides -/
def ic_Bd (B C R : Nat) : Prop := 2 ≤ B ∧ B ≤ 12 ∧ 1 ≤ C ∧ C ≤ 4 ∧ 2 ≤ R ∧ R ≤ 8
def i_Rel (_ : Nat) (u : SX) (v : SY) : Prop :=
  ∃ (B C R : Nat) (f_converted f_reachable f_guardCount f_recordForm f_ranBlocks f_heldGuards : Int32) (a_inputs a_sizes a_ops a_dests a_args a_tests a_trueTargets a_falseTargets a_onEveryWayTo a_onEveryPath a_guardNumbers a_guardsOnTrue a_guardsOnFalse a_heldOnEntry a_restoredTests a_restoredTrue a_restoredFalse a_finalRegs : Nat → Int32) (f_recorded f_recForm f_recC : Int32) (a_complete a_guard : Nat → Int32), u = (nI B, nI C, nI R, f_converted, f_reachable, f_guardCount, f_recordForm, f_ranBlocks, f_heldGuards, a_inputs, a_sizes, a_ops, a_dests, a_args, a_tests, a_trueTargets, a_falseTargets, a_onEveryWayTo, a_onEveryPath, a_guardNumbers, a_guardsOnTrue, a_guardsOnFalse, a_heldOnEntry, a_restoredTests, a_restoredTrue, a_restoredFalse, a_finalRegs) ∧ v = (nI B, nI C, nI R, f_converted, f_recorded, f_recForm, f_ranBlocks, f_recC, a_ops, a_dests, a_args, a_sizes, a_tests, a_trueTargets, a_falseTargets, a_inputs, a_finalRegs, a_complete, a_guard) ∧
    ic_Bd B C R ∧ ic_Src B C R a_sizes a_ops a_dests a_args a_tests a_trueTargets a_falseTargets ∧ (f_converted = 0 ∨ (f_converted = 1 ∧ ic_CV B (ic_N a_trueTargets) (ic_N a_falseTargets) a_tests f_reachable f_guardCount a_onEveryPath a_guardNumbers a_guardsOnTrue a_guardsOnFalse a_restoredTests a_restoredTrue a_restoredFalse)) ∧ ((f_recordForm = -1 ∧ f_recorded = 0) ∨ (f_recorded = 1 ∧ f_recForm = f_recordForm ∧ (f_recordForm = 0 ∨ f_recordForm = 2 ∨ (f_recordForm = 1 ∧ f_converted = 1 ∧ ∃ V c, f_recC = nI c ∧ ic_Inv B (ic_N a_trueTargets) (ic_N a_falseTargets) V c (bt f_heldGuards) ∧ ∀ y, (bt f_ranBlocks y = true ↔ y ∈ V)))))
theorem i_up {k : Nat} {u : SX} {v : SY} (h : i_Rel k u v) : i_Rel (k + 5) u v := h
theorem ic_not_lt {n : Nat} {x : Int32} (hn : n + 1 < 2 ^ 31) (h : nI (n + 1) ≤ x) : ¬ x < 0 ∧ nI n < x := by
  rw [Int32.le_iff_toInt_le, nI_toInt hn] at h
  rw [Int32.lt_iff_toInt_lt, Int32.lt_iff_toInt_lt, nI_toInt (by omega), show (0 : Int32).toInt = 0 from by decide]
  omega
theorem ic_not_le {n : Nat} {x : Int32} (hn : n < 2 ^ 31) (h : nI n ≤ x) : ¬ x < 0 := by
  rw [Int32.le_iff_toInt_le, nI_toInt hn] at h
  rw [Int32.lt_iff_toInt_lt, show (0 : Int32).toInt = 0 from by decide]
  omega
theorem ic_cls (x : Int32) {n : Nat} (hn : n < 2 ^ 31) : (x < 0 ∨ nI n ≤ x) ∨ ∃ j : Nat, j < n ∧ x = nI j := by
  rcases pk_ix x hn with h | h | h
  · exact Or.inl (Or.inl h)
  · exact Or.inl (Or.inr h)
  · exact Or.inr h
/-- a target of block b -/
theorem ic_tgt (x : Int32) {b B : Nat} (hB : B ≤ 12) (hb : b < B) : x ≤ nI b ∨ (¬ x ≤ nI b ∧ nI B < x) ∨ ∃ j : Nat, b < j ∧ j ≤ B ∧ x = nI j := by
  by_cases h : x ≤ nI b
  · exact Or.inl h
  · by_cases h2 : nI B < x
    · exact Or.inr (Or.inl ⟨h, h2⟩)
    · have h0 : ¬ x < 0 := by
        rw [Int32.le_iff_toInt_le, nI_toInt (by omega)] at h
        rw [Int32.lt_iff_toInt_lt, show (0 : Int32).toInt = 0 from by decide]
        omega
      obtain ⟨j, hj, e⟩ := nI_of h0
      rw [e, nI_leI hj (by omega)] at h
      rw [e, nI_ltI (by omega) hj] at h2
      exact Or.inr (Or.inr ⟨j, by omega, by omega, e⟩)
section
variable {B C R k : Nat} {f_recorded f_recForm f_recC : Int32} {a_complete a_guard : Nat → Int32} {f_blockCount f_cellCount f_regCount f_converted f_reachable f_guardCount f_recordForm f_ranBlocks f_heldGuards : Int32} {a_inputs a_sizes a_ops a_dests a_args a_tests a_trueTargets a_falseTargets a_onEveryWayTo a_onEveryPath a_guardNumbers a_guardsOnTrue a_guardsOnFalse a_heldOnEntry a_restoredTests a_restoredTrue a_restoredFalse a_finalRegs : Nat → Int32}
theorem ic_mk (h1 : ic_Bd B C R) (h2 : ic_Src B C R a_sizes a_ops a_dests a_args a_tests a_trueTargets a_falseTargets) (h3 : (f_converted = 0 ∨ (f_converted = 1 ∧ ic_CV B (ic_N a_trueTargets) (ic_N a_falseTargets) a_tests f_reachable f_guardCount a_onEveryPath a_guardNumbers a_guardsOnTrue a_guardsOnFalse a_restoredTests a_restoredTrue a_restoredFalse))) (h4 : ((f_recordForm = -1 ∧ f_recorded = 0) ∨ (f_recorded = 1 ∧ f_recForm = f_recordForm ∧ (f_recordForm = 0 ∨ f_recordForm = 2 ∨ (f_recordForm = 1 ∧ f_converted = 1 ∧ ∃ V c, f_recC = nI c ∧ ic_Inv B (ic_N a_trueTargets) (ic_N a_falseTargets) V c (bt f_heldGuards) ∧ ∀ y, (bt f_ranBlocks y = true ↔ y ∈ V)))))) : i_Rel k (nI B, nI C, nI R, f_converted, f_reachable, f_guardCount, f_recordForm, f_ranBlocks, f_heldGuards, a_inputs, a_sizes, a_ops, a_dests, a_args, a_tests, a_trueTargets, a_falseTargets, a_onEveryWayTo, a_onEveryPath, a_guardNumbers, a_guardsOnTrue, a_guardsOnFalse, a_heldOnEntry, a_restoredTests, a_restoredTrue, a_restoredFalse, a_finalRegs) (nI B, nI C, nI R, f_converted, f_recorded, f_recForm, f_ranBlocks, f_recC, a_ops, a_dests, a_args, a_sizes, a_tests, a_trueTargets, a_falseTargets, a_inputs, a_finalRegs, a_complete, a_guard) :=
  ⟨B, C, R, f_converted, f_reachable, f_guardCount, f_recordForm, f_ranBlocks, f_heldGuards, a_inputs, a_sizes, a_ops, a_dests, a_args, a_tests, a_trueTargets, a_falseTargets, a_onEveryWayTo, a_onEveryPath, a_guardNumbers, a_guardsOnTrue, a_guardsOnFalse, a_heldOnEntry, a_restoredTests, a_restoredTrue, a_restoredFalse, a_finalRegs, f_recorded, f_recForm, f_recC, a_complete, a_guard, rfl, rfl, h1, h2, h3, h4⟩
theorem xm_ib_no {post : Int32 → Prop} {p0 : Int32} (hB : B < 2 ^ 31) (h : p0 < 0 ∨ nI B ≤ p0) (hp : post 0) : wpX_isBlock post (nI B, f_cellCount, f_regCount, f_converted, f_reachable, f_guardCount, f_recordForm, f_ranBlocks, f_heldGuards, a_inputs, a_sizes, a_ops, a_dests, a_args, a_tests, a_trueTargets, a_falseTargets, a_onEveryWayTo, a_onEveryPath, a_guardNumbers, a_guardsOnTrue, a_guardsOnFalse, a_heldOnEntry, a_restoredTests, a_restoredTrue, a_restoredFalse, a_finalRegs) p0 := by
  rcases h with h | h
  · exact br_t h hp
  · exact br_f (ic_not_le hB h) (br_t h hp)
theorem xm_ib {post : Int32 → Prop} {b : Nat} (hB : B < 2 ^ 31) (h : b < B) (hp : post 1) : wpX_isBlock post (nI B, f_cellCount, f_regCount, f_converted, f_reachable, f_guardCount, f_recordForm, f_ranBlocks, f_heldGuards, a_inputs, a_sizes, a_ops, a_dests, a_args, a_tests, a_trueTargets, a_falseTargets, a_onEveryWayTo, a_onEveryPath, a_guardNumbers, a_guardsOnTrue, a_guardsOnFalse, a_heldOnEntry, a_restoredTests, a_restoredTrue, a_restoredFalse, a_finalRegs) (nI b) :=
  br_f (nI_pos (by omega)) (br_f (nI_ge h hB) hp)
theorem xm_ir_no {post : Int32 → Prop} {p0 : Int32} (hB : R < 2 ^ 31) (h : p0 < 0 ∨ nI R ≤ p0) (hp : post 0) : wpX_isRegister post (f_blockCount, f_cellCount, nI R, f_converted, f_reachable, f_guardCount, f_recordForm, f_ranBlocks, f_heldGuards, a_inputs, a_sizes, a_ops, a_dests, a_args, a_tests, a_trueTargets, a_falseTargets, a_onEveryWayTo, a_onEveryPath, a_guardNumbers, a_guardsOnTrue, a_guardsOnFalse, a_heldOnEntry, a_restoredTests, a_restoredTrue, a_restoredFalse, a_finalRegs) p0 := by
  rcases h with h | h
  · exact br_t h hp
  · exact br_f (ic_not_le hB h) (br_t h hp)
theorem xm_ir {post : Int32 → Prop} {b : Nat} (hB : R < 2 ^ 31) (h : b < R) (hp : post 1) : wpX_isRegister post (f_blockCount, f_cellCount, nI R, f_converted, f_reachable, f_guardCount, f_recordForm, f_ranBlocks, f_heldGuards, a_inputs, a_sizes, a_ops, a_dests, a_args, a_tests, a_trueTargets, a_falseTargets, a_onEveryWayTo, a_onEveryPath, a_guardNumbers, a_guardsOnTrue, a_guardsOnFalse, a_heldOnEntry, a_restoredTests, a_restoredTrue, a_restoredFalse, a_finalRegs) (nI b) :=
  br_f (nI_pos (by omega)) (br_f (nI_ge h hB) hp)
theorem xm_it_no {post : Int32 → Prop} {p0 p1 : Int32} (h : p1 ≤ p0 ∨ (¬ p1 ≤ p0 ∧ nI B < p1)) (hp : post 0) : wpX_isTargetOf post (nI B, f_cellCount, f_regCount, f_converted, f_reachable, f_guardCount, f_recordForm, f_ranBlocks, f_heldGuards, a_inputs, a_sizes, a_ops, a_dests, a_args, a_tests, a_trueTargets, a_falseTargets, a_onEveryWayTo, a_onEveryPath, a_guardNumbers, a_guardsOnTrue, a_guardsOnFalse, a_heldOnEntry, a_restoredTests, a_restoredTrue, a_restoredFalse, a_finalRegs) p0 p1 := by
  rcases h with h | ⟨h, h2⟩
  · exact br_t h hp
  · exact br_f h (br_t h2 hp)
theorem xm_it {post : Int32 → Prop} {b j : Nat} (hB : B < 2 ^ 31) (h1 : b < j) (h2 : j ≤ B) (hp : post 1) : wpX_isTargetOf post (nI B, f_cellCount, f_regCount, f_converted, f_reachable, f_guardCount, f_recordForm, f_ranBlocks, f_heldGuards, a_inputs, a_sizes, a_ops, a_dests, a_args, a_tests, a_trueTargets, a_falseTargets, a_onEveryWayTo, a_onEveryPath, a_guardNumbers, a_guardsOnTrue, a_guardsOnFalse, a_heldOnEntry, a_restoredTests, a_restoredTrue, a_restoredFalse, a_finalRegs) (nI b) (nI j) :=
  br_f (nI_ge h1 (by omega)) (br_f (nI_nlt h2 hB) hp)
theorem xm_end {post : SX → Prop} {b : Nat} {p1 p2 p3 : Int32} (hb : b < 12) (hp : post (f_blockCount, f_cellCount, f_regCount, f_converted, f_reachable, f_guardCount, f_recordForm, f_ranBlocks, f_heldGuards, a_inputs, a_sizes, a_ops, a_dests, a_args, upd a_tests b p1, upd a_trueTargets b p2, upd a_falseTargets b p3, a_onEveryWayTo, a_onEveryPath, a_guardNumbers, a_guardsOnTrue, a_guardsOnFalse, a_heldOnEntry, a_restoredTests, a_restoredTrue, a_restoredFalse, a_finalRegs)) : wpX_setEnding post (f_blockCount, f_cellCount, f_regCount, f_converted, f_reachable, f_guardCount, f_recordForm, f_ranBlocks, f_heldGuards, a_inputs, a_sizes, a_ops, a_dests, a_args, a_tests, a_trueTargets, a_falseTargets, a_onEveryWayTo, a_onEveryPath, a_guardNumbers, a_guardsOnTrue, a_guardsOnFalse, a_heldOnEntry, a_restoredTests, a_restoredTrue, a_restoredFalse, a_finalRegs) (nI b) p1 p2 p3 :=
  ⟨ic_v12 hb, nm_r (ic_u (by omega)) ⟨ic_v12 hb, nm_r (ic_u (by omega)) ⟨ic_v12 hb, nm_r (ic_u (by omega)) hp⟩⟩⟩
theorem xm_emit45 {post : Int32 → SX → Prop} {b s : Nat} {x2 x3 x4 : Int32} (hb : b < 12) (hs : a_sizes b = nI s) (hs4 : s < 4) (h : s < C) (hC : C ≤ 4) (hp : post 1 (f_blockCount, nI C, f_regCount, 0, f_reachable, f_guardCount, -1, f_ranBlocks, f_heldGuards, a_inputs, upd a_sizes b (nI (s + 1)), upd a_ops (b * 4 + s) x2, upd a_dests (b * 4 + s) x3, upd a_args (b * 4 + s) x4, a_tests, a_trueTargets, a_falseTargets, a_onEveryWayTo, a_onEveryPath, a_guardNumbers, a_guardsOnTrue, a_guardsOnFalse, a_heldOnEntry, a_restoredTests, a_restoredTrue, a_restoredFalse, a_finalRegs)) : wX_emit_45 post (nI b) x2 x3 x4 f_blockCount (nI C) f_regCount f_converted f_reachable f_guardCount f_recordForm f_ranBlocks f_heldGuards a_inputs a_sizes a_ops a_dests a_args a_tests a_trueTargets a_falseTargets a_onEveryWayTo a_onEveryPath a_guardNumbers a_guardsOnTrue a_guardsOnFalse a_heldOnEntry a_restoredTests a_restoredTrue a_restoredFalse a_finalRegs := by
  have c1 : (nI b).toNatClampNeg = b := nI_clamp (by omega)
  refine ⟨ic_v12 hb, br_t (by rw [c1, hs]; exact nI_lt h (by omega)) ⟨ic_v12 hb, ?_⟩⟩
  unfold wpX_placeOf
  rw [c1, hs, ic_4]
  exact ⟨ic_v48 (by omega), nm_r (ic_u (by omega)) ⟨ic_v48 (by omega), nm_r (ic_u (by omega)) ⟨ic_v48 (by omega), nm_r (ic_u (by omega)) ⟨ic_v12 hb, ic_v12 hb, nm_r (by rw [nI_1]) hp⟩⟩⟩⟩
theorem xm_emit45_no {post : Int32 → SX → Prop} {b s : Nat} {x2 x3 x4 : Int32} (hb : b < 12) (hs : a_sizes b = nI s) (hs4 : s ≤ 4) (h : ¬ s < C) (hp : post (-3) (f_blockCount, nI C, f_regCount, f_converted, f_reachable, f_guardCount, f_recordForm, f_ranBlocks, f_heldGuards, a_inputs, a_sizes, a_ops, a_dests, a_args, a_tests, a_trueTargets, a_falseTargets, a_onEveryWayTo, a_onEveryPath, a_guardNumbers, a_guardsOnTrue, a_guardsOnFalse, a_heldOnEntry, a_restoredTests, a_restoredTrue, a_restoredFalse, a_finalRegs)) : wX_emit_45 post (nI b) x2 x3 x4 f_blockCount (nI C) f_regCount f_converted f_reachable f_guardCount f_recordForm f_ranBlocks f_heldGuards a_inputs a_sizes a_ops a_dests a_args a_tests a_trueTargets a_falseTargets a_onEveryWayTo a_onEveryPath a_guardNumbers a_guardsOnTrue a_guardsOnFalse a_heldOnEntry a_restoredTests a_restoredTrue a_restoredFalse a_finalRegs :=
  ⟨ic_v12 hb, br_f (by rw [nI_clamp (by omega), hs]; exact nI_nlt (by omega) (by omega)) hp⟩
theorem xm_icb_no {post : Int32 → Prop} {p0 : Int32} (hB : B < 2 ^ 31) (h : f_converted = 0 ∨ (p0 < 0 ∨ nI B ≤ p0)) (hp : post 0) : wpX_isConvertedBlock post (nI B, f_cellCount, f_regCount, f_converted, f_reachable, f_guardCount, f_recordForm, f_ranBlocks, f_heldGuards, a_inputs, a_sizes, a_ops, a_dests, a_args, a_tests, a_trueTargets, a_falseTargets, a_onEveryWayTo, a_onEveryPath, a_guardNumbers, a_guardsOnTrue, a_guardsOnFalse, a_heldOnEntry, a_restoredTests, a_restoredTrue, a_restoredFalse, a_finalRegs) p0 := by
  by_cases q : f_converted = 0
  · exact br_t q hp
  · exact br_f q (xm_ib_no hB (h.resolve_left q) (br_t rfl hp))
theorem xm_icb {T F : Nat → Nat} {post : Int32 → Prop} {b : Nat} (hB : B ≤ 12) (hb : b < B) (hR : ∀ b, b < B → (bt f_reachable b = true ↔ ic_Re B T F b)) (h1 : ic_Re B T F b → post 1) (h0 : ¬ ic_Re B T F b → post 0) : wpX_isConvertedBlock post (nI B, f_cellCount, f_regCount, 1, f_reachable, f_guardCount, f_recordForm, f_ranBlocks, f_heldGuards, a_inputs, a_sizes, a_ops, a_dests, a_args, a_tests, a_trueTargets, a_falseTargets, a_onEveryWayTo, a_onEveryPath, a_guardNumbers, a_guardsOnTrue, a_guardsOnFalse, a_heldOnEntry, a_restoredTests, a_restoredTrue, a_restoredFalse, a_finalRegs) (nI b) := by
  refine br_f (by decide) (xm_ib (by omega) hb (br_f (by decide) ?_))
  refine xm_has b rfl (by omega) (fun e => br_f (by decide) (h1 ((hR b hb).mp e))) (fun e => br_t rfl (h0 (fun r => ?_)))
  have := (hR b hb).mpr r
  rw [e] at this
  cases this
end
section
variable {B C R k : Nat} {T F : Nat → Nat} {f_blocks f_cells f_regs f_converted f_recorded f_recForm f_recRan f_recC : Int32} {a_ops a_dests a_args a_size a_test a_onTrue a_onFalse a_inputs a_recRegs a_complete a_guard : Nat → Int32}
theorem ym_in {post : Int32 → Prop} {p0 p1 : Int32} (n N : Nat) (e0 : p0 = nI n) (e1 : p1 = nI N) (hN : N < 2 ^ 31) (h : n < N) (hp : post 1) : wpY_within post (f_blocks, f_cells, f_regs, f_converted, f_recorded, f_recForm, f_recRan, f_recC, a_ops, a_dests, a_args, a_size, a_test, a_onTrue, a_onFalse, a_inputs, a_recRegs, a_complete, a_guard) p0 p1 := by
  subst e0
  subst e1
  exact br_f (nI_pos (by omega)) (br_f (nI_ge h hN) hp)
theorem ym_out {post : Int32 → Prop} {p0 p1 : Int32} (N : Nat) (e1 : p1 = nI N) (hN : N < 2 ^ 31) (h : p0 < 0 ∨ nI N ≤ p0) (hp : post 0) : wpY_within post (f_blocks, f_cells, f_regs, f_converted, f_recorded, f_recForm, f_recRan, f_recC, a_ops, a_dests, a_args, a_size, a_test, a_onTrue, a_onFalse, a_inputs, a_recRegs, a_complete, a_guard) p0 p1 := by
  subst e1
  rcases h with h | h
  · exact br_t h hp
  · exact br_f (ic_not_le hN h) (br_t h hp)
theorem ym_end {post : Int32 → SY → Prop} {b : Nat} {p1 p2 p3 : Int32} (hb : b < 12) (hp : post 1 (f_blocks, f_cells, f_regs, 0, 0, f_recForm, f_recRan, f_recC, a_ops, a_dests, a_args, a_size, upd a_test b p1, upd a_onTrue b p2, upd a_onFalse b p3, a_inputs, a_recRegs, a_complete, a_guard)) : wpY_ending post (f_blocks, f_cells, f_regs, f_converted, f_recorded, f_recForm, f_recRan, f_recC, a_ops, a_dests, a_args, a_size, a_test, a_onTrue, a_onFalse, a_inputs, a_recRegs, a_complete, a_guard) (nI b) p1 p2 p3 :=
  ⟨ic_v12 hb, nm_r (ic_u (by omega)) ⟨ic_v12 hb, nm_r (ic_u (by omega)) ⟨ic_v12 hb, nm_r (ic_u (by omega)) hp⟩⟩⟩
theorem ym_emit54 {post : Int32 → SY → Prop} {b s : Nat} {x2 x3 x4 : Int32} (hb : b < 12) (hs : a_size b = nI s) (hs4 : s < 4) (h : s < C) (hC : C ≤ 4) (hp : post 1 (f_blocks, nI C, f_regs, 0, 0, f_recForm, f_recRan, f_recC, upd a_ops (b * 4 + s) x2, upd a_dests (b * 4 + s) x3, upd a_args (b * 4 + s) x4, upd a_size b (nI (s + 1)), a_test, a_onTrue, a_onFalse, a_inputs, a_recRegs, a_complete, a_guard)) : wY_emit_54 post (nI b) x2 x3 x4 f_blocks (nI C) f_regs f_converted f_recorded f_recForm f_recRan f_recC a_ops a_dests a_args a_size a_test a_onTrue a_onFalse a_inputs a_recRegs a_complete a_guard := by
  have c1 : (nI b).toNatClampNeg = b := nI_clamp (by omega)
  refine ⟨ic_v12 hb, br_t (by rw [c1, hs]; exact nI_lt h (by omega)) ⟨ic_v12 hb, nm_r (e' := nI (b * 4 + s)) (by rw [c1, hs, ic_4]) ?_⟩⟩
  exact ⟨ic_v48 (by omega), nm_r (ic_u (by omega)) ⟨ic_v48 (by omega), nm_r (ic_u (by omega)) ⟨ic_v48 (by omega), nm_r (ic_u (by omega)) ⟨ic_v12 hb, ic_v12 hb, nm_r (by rw [c1, hs, nI_1]) hp⟩⟩⟩⟩
theorem ym_emit54_no {post : Int32 → SY → Prop} {b s : Nat} {x2 x3 x4 : Int32} (hb : b < 12) (hs : a_size b = nI s) (hs4 : s ≤ 4) (h : ¬ s < C) (hp : post (-3) (f_blocks, nI C, f_regs, f_converted, f_recorded, f_recForm, f_recRan, f_recC, a_ops, a_dests, a_args, a_size, a_test, a_onTrue, a_onFalse, a_inputs, a_recRegs, a_complete, a_guard)) : wY_emit_54 post (nI b) x2 x3 x4 f_blocks (nI C) f_regs f_converted f_recorded f_recForm f_recRan f_recC a_ops a_dests a_args a_size a_test a_onTrue a_onFalse a_inputs a_recRegs a_complete a_guard :=
  ⟨ic_v12 hb, br_f (by rw [nI_clamp (by omega), hs]; exact nI_nlt (by omega) (by omega)) hp⟩
theorem ym_gof_no {post : Int32 → SY → Prop} {p0 : Int32} (hB : B < 2 ^ 31) (h : f_converted = 0 ∨ (p0 < 0 ∨ nI B ≤ p0)) (hp : post (-1) (nI B, f_cells, f_regs, f_converted, f_recorded, f_recForm, f_recRan, f_recC, a_ops, a_dests, a_args, a_size, a_test, a_onTrue, a_onFalse, a_inputs, a_recRegs, a_complete, a_guard)) : wpY_guardOf post (nI B, f_cells, f_regs, f_converted, f_recorded, f_recForm, f_recRan, f_recC, a_ops, a_dests, a_args, a_size, a_test, a_onTrue, a_onFalse, a_inputs, a_recRegs, a_complete, a_guard) p0 := by
  by_cases q : f_converted = 0
  · exact br_t q hp
  · exact br_f q (ym_out B rfl hB (h.resolve_left q) (br_t rfl hp))
theorem ym_gof (ok : ic_Ok B T F) (hB : B ≤ 12) (hT : ∀ b, b < B → a_onTrue b = nI (T b) ∧ a_onFalse b = nI (F b)) {post : Int32 → SY → Prop} {b : Nat} (hb : b < B)
    (hp : ∀ cm g, (∀ b, b < B → g b = ic_gy B T F b) → post (ic_gy B T F b) (nI B, f_cells, f_regs, 1, f_recorded, f_recForm, f_recRan, f_recC, a_ops, a_dests, a_args, a_size, a_test, a_onTrue, a_onFalse, a_inputs, a_recRegs, cm, g)) : wpY_guardOf post (nI B, f_cells, f_regs, 1, f_recorded, f_recForm, f_recRan, f_recC, a_ops, a_dests, a_args, a_size, a_test, a_onTrue, a_onFalse, a_inputs, a_recRegs, a_complete, a_guard) (nI b) := by
  refine br_f (by decide) (ym_in b B rfl rfl (by omega) hb (br_f (by decide) ?_))
  refine ym_ng ok hB hT (fun cm g hg => ?_)
  refine ⟨ic_v12 (by omega), ?_⟩
  rw [nI_clamp (by omega), hg b hb]
  exact hp cm g hg
end
/-! the source under edits -/
section
variable {B C R : Nat} {sizes ops dests args tests tt ff : Nat → Int32}
theorem ic_Src_emit (h : ic_Src B C R sizes ops dests args tests tt ff) (hC : C ≤ 4) {b s o d : Nat} {x : Int32} (hb : b < B) (hs : sizes b = nI s) (hsC : s < C) (ho : o < 8) (hd : d < R) (hx : o = 0 ∨ ∃ j, j < R ∧ x = nI j) :
    ic_Src B C R (upd sizes b (nI (s + 1))) (upd ops (b * 4 + s) (nI o)) (upd dests (b * 4 + s) (nI d)) (upd args (b * 4 + s) x) tests tt ff := by
  intro b' hb'
  obtain ⟨⟨s', k1, k2, k3⟩, h2⟩ := h b' hb'
  refine ⟨?_, h2⟩
  have keep : ∀ i, i < s' → b' * 4 + i ≠ b * 4 + s → ic_Cell R (upd ops (b * 4 + s) (nI o)) (upd dests (b * 4 + s) (nI d)) (upd args (b * 4 + s) x) (b' * 4 + i) := by
    intro i hi ne
    unfold ic_Cell
    rw [pk_un ne, pk_un ne, pk_un ne]
    exact k3 i hi
  by_cases e : b' = b
  · have es : s' = s := by
      rw [e, hs] at k2
      exact (nI_eq (by omega) (by omega)).mp k2.symm
    refine ⟨s + 1, by omega, by rw [e, pk_us], fun i hi => ?_⟩
    by_cases ei : i = s
    · rw [e, ei]
      unfold ic_Cell
      rw [pk_us, pk_us, pk_us]
      exact ⟨o, d, ho, hd, rfl, rfl, hx⟩
    · exact keep i (by omega) (by omega)
  · exact ⟨s', k1, by rw [pk_un e]; exact k2, fun i hi => keep i hi (by omega)⟩
theorem ic_Src_end (h : ic_Src B C R sizes ops dests args tests tt ff) {b t f : Nat} {r : Int32} (hr : r = -1 ∨ ∃ j, j < R ∧ r = nI j) (ht : b < t ∧ t ≤ B) (hf : b < f ∧ f ≤ B) :
    ic_Src B C R sizes ops dests args (upd tests b r) (upd tt b (nI t)) (upd ff b (nI f)) := by
  intro b' hb'
  obtain ⟨k1, k2⟩ := h b' hb'
  refine ⟨k1, ?_⟩
  by_cases e : b' = b
  · rw [e, pk_us, pk_us, pk_us]
    exact ⟨hr, ⟨t, rfl, ht⟩, ⟨f, rfl, hf⟩⟩
  · rw [pk_un e, pk_un e, pk_un e]
    exact k2
theorem ic_Src_clr (h : ic_Src B C R sizes ops dests args tests tt ff) {b : Nat} : ic_Src B C R (upd sizes b 0) ops dests args tests tt ff := by
  intro b' hb'
  obtain ⟨⟨s', k1, k2, k3⟩, h2⟩ := h b' hb'
  refine ⟨?_, h2⟩
  by_cases e : b' = b
  · exact ⟨0, by omega, by rw [e, pk_us]; exact nI_0.symm, fun i hi => absurd hi (Nat.not_lt_zero i)⟩
  · exact ⟨s', k1, by rw [pk_un e]; exact k2, k3⟩
end
end
section
/-! the start, and the edits -/
theorem ic_clamp (lo hi : Nat) {l h : Int32} (el : l = nI lo) (eh : h = nI hi) (hl : lo ≤ hi) (hh : hi < 2 ^ 31) (p : Int32) : ∃ n, lo ≤ n ∧ n ≤ hi ∧ ∀ W : Int32 → Prop, W (nI n) → ((l ≤ p → ((p ≤ h → W p) ∧ (¬ p ≤ h → W h))) ∧ (¬ l ≤ p → W l)) := by
  subst el
  subst eh
  by_cases g : nI lo ≤ p
  · by_cases g2 : p ≤ nI hi
    · obtain ⟨j, hj, rfl⟩ := nI_of (ic_not_le (by omega) g)
      rw [nI_leI (by omega) hj] at g
      rw [nI_leI hj hh] at g2
      exact ⟨j, g, g2, fun W w => br_t (nI_le g hj) (br_t (nI_le g2 hh) w)⟩
    · exact ⟨hi, hl, Nat.le_refl _, fun W w => br_t g (br_f g2 w)⟩
  · exact ⟨lo, Nat.le_refl _, hl, fun W w => br_f g w⟩
theorem ic_cp_0 : ∀ n, ic_cp (fun _ => 0) (fun _ => 0) n = fun _ => 0 := by
  intro n
  induction n with
  | zero => rfl
  | succ n ih =>
    funext j
    show upd (ic_cp (fun _ => 0) (fun _ => 0) n) n 0 j = 0
    rw [ih]
    by_cases e : j = n
    · rw [e, pk_us]
    · rw [pk_un e]
theorem ic_cp_at {e g : Nat → Int32} : ∀ n j, j < n → ic_cp e g n j = e j := by
  intro n
  induction n with
  | zero => exact fun j hj => absurd hj (Nat.not_lt_zero j)
  | succ n ih =>
    intro j hj
    show upd (ic_cp e g n) n (e n) j = e j
    by_cases q : j = n
    · rw [q, pk_us]
    · rw [pk_un q]
      exact ih j (by omega)
section
variable {B C R : Nat} {t0 u0 w0 : Nat → Int32} {f_blockCount f_cellCount f_regCount f_converted f_reachable f_guardCount f_recordForm f_ranBlocks f_heldGuards : Int32} {a_inputs a_sizes a_ops a_dests a_args a_tests a_trueTargets a_falseTargets a_onEveryWayTo a_onEveryPath a_guardNumbers a_guardsOnTrue a_guardsOnFalse a_heldOnEntry a_restoredTests a_restoredTrue a_restoredFalse a_finalRegs : Nat → Int32}
theorem xm_init (hB : B ≤ 12) {post : SX → Prop} (hp : post (nI B, f_cellCount, f_regCount, f_converted, f_reachable, f_guardCount, f_recordForm, f_ranBlocks, f_heldGuards, a_inputs, a_sizes, a_ops, a_dests, a_args, ic_cp (fun _ => -1) t0 B, ic_cp (fun b => nI (b + 1)) u0 B, ic_cp (fun b => nI (b + 1)) w0 B, a_onEveryWayTo, a_onEveryPath, a_guardNumbers, a_guardsOnTrue, a_guardsOnFalse, a_heldOnEntry, a_restoredTests, a_restoredTrue, a_restoredFalse, a_finalRegs)) :
    ∀ d i, i + d = B → ∀ n, d < n → wX_init_213 post n (nI i) (nI B) f_cellCount f_regCount f_converted f_reachable f_guardCount f_recordForm f_ranBlocks f_heldGuards a_inputs a_sizes a_ops a_dests a_args (ic_cp (fun _ => -1) t0 i) (ic_cp (fun b => nI (b + 1)) u0 i) (ic_cp (fun b => nI (b + 1)) w0 i) a_onEveryWayTo a_onEveryPath a_guardNumbers a_guardsOnTrue a_guardsOnFalse a_heldOnEntry a_restoredTests a_restoredTrue a_restoredFalse a_finalRegs := by
  intro d
  induction d with
  | zero =>
    intro i hi n hn
    cases n with
    | zero => exact absurd hn (Nat.not_lt_zero _)
    | succ n =>
      have e : i = B := by omega
      rw [e]
      exact br_t (nI_le (by omega) (by omega)) hp
  | succ d ih =>
    intro i hi n hn
    cases n with
    | zero => exact absurd hn (Nat.not_lt_zero _)
    | succ n =>
      refine br_f (nI_ge (by omega) (by omega)) ?_
      rw [nI_1]
      exact xm_end (by omega) (nm_e (ih (i + 1) (by omega) n (by omega)))
end
section
variable {B C R : Nat} {s0 t0 u0 w0 : Nat → Int32} {f_blocks f_cells f_regs f_converted f_recorded f_recForm f_recRan f_recC : Int32} {a_ops a_dests a_args a_size a_test a_onTrue a_onFalse a_inputs a_recRegs a_complete a_guard : Nat → Int32}
theorem ym_clear (hB : B ≤ 12) {post : Int32 → SY → Prop} {b : Nat} (hb : b < B) (hp : post 1 (nI B, f_cells, f_regs, 0, 0, f_recForm, f_recRan, f_recC, a_ops, a_dests, a_args, upd a_size b 0, upd a_test b (-1), upd a_onTrue b (nI (b + 1)), upd a_onFalse b (nI (b + 1)), a_inputs, a_recRegs, a_complete, a_guard)) : wpY_clear post (nI B, f_cells, f_regs, f_converted, f_recorded, f_recForm, f_recRan, f_recC, a_ops, a_dests, a_args, a_size, a_test, a_onTrue, a_onFalse, a_inputs, a_recRegs, a_complete, a_guard) (nI b) := by
  unfold wpY_clear
  refine ym_in b B rfl rfl (by omega) hb (br_f (by decide) ⟨ic_v12 (by omega), nm_r (ic_u (by omega)) ?_⟩)
  rw [nI_1]
  exact ym_end (by omega) hp
theorem ym_init (hB : B ≤ 12) {post : SY → Prop} (hp : post (nI B, f_cells, f_regs, 0, 0, f_recForm, f_recRan, f_recC, a_ops, a_dests, a_args, ic_cp (fun _ => 0) s0 B, ic_cp (fun _ => -1) t0 B, ic_cp (fun b => nI (b + 1)) u0 B, ic_cp (fun b => nI (b + 1)) w0 B, a_inputs, a_recRegs, a_complete, a_guard)) :
    ∀ d i, i + d = B → ∀ n, d < n → wY_init_169 post n (nI i) (nI B) f_cells f_regs 0 0 f_recForm f_recRan f_recC a_ops a_dests a_args (ic_cp (fun _ => 0) s0 i) (ic_cp (fun _ => -1) t0 i) (ic_cp (fun b => nI (b + 1)) u0 i) (ic_cp (fun b => nI (b + 1)) w0 i) a_inputs a_recRegs a_complete a_guard := by
  intro d
  induction d with
  | zero =>
    intro i hi n hn
    cases n with
    | zero => exact absurd hn (Nat.not_lt_zero _)
    | succ n =>
      have e : i = B := by omega
      rw [e]
      exact br_t (nI_le (by omega) (by omega)) hp
  | succ d ih =>
    intro i hi n hn
    cases n with
    | zero => exact absurd hn (Nat.not_lt_zero _)
    | succ n =>
      refine br_f (nI_ge (by omega) (by omega)) ?_
      exact ym_clear hB (by omega) (nm_r (nI_1 i) (ih (i + 1) (by omega) n (by omega)))
end
theorem ic_Src_0 {B C R : Nat} {a1 a2 a3 t0 u0 w0 : Nat → Int32} : ic_Src B C R (fun _ => 0) a1 a2 a3 (ic_cp (fun _ => -1) t0 B) (ic_cp (fun b => nI (b + 1)) u0 B) (ic_cp (fun b => nI (b + 1)) w0 B) := by
  intro b hb
  rw [ic_cp_at B b hb, ic_cp_at B b hb, ic_cp_at B b hb]
  exact ⟨⟨0, Nat.zero_le _, rfl, fun i hi => absurd hi (Nat.not_lt_zero i)⟩, Or.inl rfl, ⟨b + 1, rfl, by omega, by omega⟩, ⟨b + 1, rfl, by omega, by omega⟩⟩
theorem i_vc0 (k0 : Int32) (k1 : Int32) (k2 : Int32) : wpX_init (fun u => wpY_init (fun v => i_Rel 3 u v) k0 k1 k2) k0 k1 k2 := by
  obtain ⟨B, b1, b2, KB⟩ := ic_clamp 2 12 (l := 2) (h := 12) (by decide) (by decide) (by omega) (by omega) k0
  obtain ⟨C, c1, c2, KC⟩ := ic_clamp 1 4 (l := 1) (h := 4) (by decide) (by decide) (by omega) (by omega) k1
  obtain ⟨R, r1, r2, KR⟩ := ic_clamp 2 8 (l := 2) (h := 8) (by decide) (by decide) (by omega) (by omega) k2
  have XB : ∀ W : Int32 → Prop, W (nI B) → wpX_clamp W k0 2 12 := fun W w => KB W w
  have XC : ∀ W : Int32 → Prop, W (nI C) → wpX_clamp W k1 1 4 := fun W w => KC W w
  have XR : ∀ W : Int32 → Prop, W (nI R) → wpX_clamp W k2 2 8 := fun W w => KR W w
  unfold wpX_init
  refine XB _ ?_
  refine XC _ ?_
  refine XR _ ?_
  refine ⟨B + 1, xm_init b2 ?_ B 0 (by omega) (B + 1) (by omega)⟩
  unfold wpY_init
  refine KB (fun x => wY_init_115 _ k1 k2 x 0 0 0 0 0 0 0 0 (fun _ => 0) (fun _ => 0) (fun _ => 0) (fun _ => 0) (fun _ => 0) (fun _ => 0) (fun _ => 0) (fun _ => 0) (fun _ => 0) (fun _ => 0) (fun _ => 0)) ?_
  unfold wY_init_115
  refine KC (fun x => wY_init_138 _ k2 x (nI B) 0 0 0 0 0 0 0 (fun _ => 0) (fun _ => 0) (fun _ => 0) (fun _ => 0) (fun _ => 0) (fun _ => 0) (fun _ => 0) (fun _ => 0) (fun _ => 0) (fun _ => 0) (fun _ => 0)) ?_
  unfold wY_init_138
  refine KR (fun x => ∃ n169 : Nat, wY_init_169 _ n169 0 (nI B) (nI C) x 0 0 0 0 0 (fun _ => 0) (fun _ => 0) (fun _ => 0) (fun _ => 0) (fun _ => 0) (fun _ => 0) (fun _ => 0) (fun _ => 0) (fun _ => 0) (fun _ => 0) (fun _ => 0)) ?_
  refine ⟨B + 1, ym_init b2 ?_ B 0 (by omega) (B + 1) (by omega)⟩
  rw [ic_cp_0]
  exact ic_mk ⟨b1, b2, c1, c2, r1, r2⟩ ic_Src_0 (Or.inl rfl) (Or.inl ⟨rfl, rfl⟩)
theorem i_vc_emit {k : Nat} {u : SX} {v : SY} (I : i_Rel k u v) (hk : k + 5 ≤ 2563) (v1 : Int32) (v2 : Int32) (v3 : Int32) (v4 : Int32) : wpX_emit (fun r u' => wpY_emit (fun r' v' => r' = r ∧ i_Rel (k + 5) u' v') v v1 v2 v3 v4) u v1 v2 v3 v4 := by
  obtain ⟨B, C, R, f_converted, f_reachable, f_guardCount, f_recordForm, f_ranBlocks, f_heldGuards, a_inputs, a_sizes, a_ops, a_dests, a_args, a_tests, a_trueTargets, a_falseTargets, a_onEveryWayTo, a_onEveryPath, a_guardNumbers, a_guardsOnTrue, a_guardsOnFalse, a_heldOnEntry, a_restoredTests, a_restoredTrue, a_restoredFalse, a_finalRegs, f_recorded, f_recForm, f_recC, a_complete, a_guard, rfl, rfl, hBd, hS, hcv, hrec⟩ := I
  obtain ⟨b1, b2, c1, c2, r1, r2⟩ := id hBd
  unfold wpX_emit
  rcases ic_cls v1 (n := B) (by omega) with h | ⟨b, hb, rfl⟩
  · refine xm_ib_no (by omega) h (br_t rfl ?_)
    unfold wpY_emit
    exact ym_out B rfl (by omega) h (br_t rfl ⟨rfl, ic_mk hBd hS hcv hrec⟩)
  refine xm_ib (by omega) hb (br_f (by decide) ?_)
  rcases ic_cls v2 (n := 8) (by omega) with h | ⟨o, ho, rfl⟩
  · have Y : wpY_emit (fun r' v' => r' = -2 ∧ i_Rel (k + 5) (nI B, nI C, nI R, f_converted, f_reachable, f_guardCount, f_recordForm, f_ranBlocks, f_heldGuards, a_inputs, a_sizes, a_ops, a_dests, a_args, a_tests, a_trueTargets, a_falseTargets, a_onEveryWayTo, a_onEveryPath, a_guardNumbers, a_guardsOnTrue, a_guardsOnFalse, a_heldOnEntry, a_restoredTests, a_restoredTrue, a_restoredFalse, a_finalRegs) v') (nI B, nI C, nI R, f_converted, f_recorded, f_recForm, f_ranBlocks, f_recC, a_ops, a_dests, a_args, a_sizes, a_tests, a_trueTargets, a_falseTargets, a_inputs, a_finalRegs, a_complete, a_guard) (nI b) v2 v3 v4 := by
      unfold wpY_emit
      exact ym_in b B rfl rfl (by omega) hb (br_f (by decide) (ym_out 8 (by decide) (by omega) h (br_t rfl ⟨rfl, ic_mk hBd hS hcv hrec⟩)))
    rcases h with h | h
    · exact br_t h Y
    · have g := ic_not_lt (n := 7) (by omega) h
      exact br_f g.1 (br_t g.2 Y)
  refine br_f (nI_pos (by omega)) (br_f (nI_nlt (a := 7) (by omega) (by omega)) ?_)
  rcases ic_cls v3 (n := R) (by omega) with h | ⟨d, hd, rfl⟩
  · refine xm_ir_no (by omega) h (br_t rfl ?_)
    unfold wpY_emit
    exact ym_in b B rfl rfl (by omega) hb (br_f (by decide) (ym_in o 8 rfl (by decide) (by omega) ho (br_f (by decide) (ym_out R rfl (by omega) h (br_t rfl ⟨rfl, ic_mk hBd hS hcv hrec⟩)))))
  refine xm_ir (by omega) hd (br_f (by decide) ?_)
  obtain ⟨s1, s2, s3⟩ := ic_Src_s hS c2 hb
  have P : ∀ r u', wY_emit_54 (fun r' v' => r' = r ∧ i_Rel (k + 5) u' v') (nI b) (nI o) (nI d) v4 (nI B) (nI C) (nI R) f_converted f_recorded f_recForm f_ranBlocks f_recC a_ops a_dests a_args a_sizes a_tests a_trueTargets a_falseTargets a_inputs a_finalRegs a_complete a_guard → (o = 0 ∨ ∃ j, j < R ∧ v4 = nI j) → wpY_emit (fun r' v' => r' = r ∧ i_Rel (k + 5) u' v') (nI B, nI C, nI R, f_converted, f_recorded, f_recForm, f_ranBlocks, f_recC, a_ops, a_dests, a_args, a_sizes, a_tests, a_trueTargets, a_falseTargets, a_inputs, a_finalRegs, a_complete, a_guard) (nI b) (nI o) (nI d) v4 := by
    intro r u' H hx
    unfold wpY_emit
    refine ym_in b B rfl rfl (by omega) hb (br_f (by decide) (ym_in o 8 rfl (by decide) (by omega) ho (br_f (by decide) (ym_in d R rfl rfl (by omega) hd (br_f (by decide) ?_)))))
    by_cases e : o = 0
    · exact br_t (by rw [e]; exact nI_0) H
    · obtain ⟨j, hj, ej⟩ := hx.resolve_left e
      exact br_f (nI_ne0 (by omega) (by omega)) (ym_in j R ej rfl (by omega) hj (br_f (by decide) H))
  have D : (o = 0 ∨ ∃ j, j < R ∧ v4 = nI j) → wX_emit_45 (fun r u' => wpY_emit (fun r' v' => r' = r ∧ i_Rel (k + 5) u' v') (nI B, nI C, nI R, f_converted, f_recorded, f_recForm, f_ranBlocks, f_recC, a_ops, a_dests, a_args, a_sizes, a_tests, a_trueTargets, a_falseTargets, a_inputs, a_finalRegs, a_complete, a_guard) (nI b) (nI o) (nI d) v4) (nI b) (nI o) (nI d) v4 (nI B) (nI C) (nI R) f_converted f_reachable f_guardCount f_recordForm f_ranBlocks f_heldGuards a_inputs a_sizes a_ops a_dests a_args a_tests a_trueTargets a_falseTargets a_onEveryWayTo a_onEveryPath a_guardNumbers a_guardsOnTrue a_guardsOnFalse a_heldOnEntry a_restoredTests a_restoredTrue a_restoredFalse a_finalRegs := by
    intro hx
    by_cases g : ic_N a_sizes b < C
    · refine xm_emit45 (by omega) s1 (by omega) g c2 ?_
      exact P _ _ (ym_emit54 (by omega) s1 (by omega) g c2 ⟨rfl, ic_mk hBd (ic_Src_emit hS c2 hb s1 g ho hd hx) (Or.inl rfl) (Or.inl ⟨rfl, rfl⟩)⟩) hx
    · refine xm_emit45_no (by omega) s1 (by omega) g ?_
      exact P _ _ (ym_emit54_no (by omega) s1 (by omega) g ⟨rfl, ic_mk hBd hS hcv hrec⟩) hx
  by_cases e : o = 0
  · exact br_t (by rw [e]; exact nI_0) (D (Or.inl e))
  · refine br_f (nI_ne0 (by omega) (by omega)) ?_
    rcases ic_cls v4 (n := R) (by omega) with h | ⟨j, hj, rfl⟩
    · refine xm_ir_no (by omega) h (br_t rfl ?_)
      unfold wpY_emit
      exact ym_in b B rfl rfl (by omega) hb (br_f (by decide) (ym_in o 8 rfl (by decide) (by omega) ho (br_f (by decide) (ym_in d R rfl rfl (by omega) hd (br_f (by decide) (br_f (nI_ne0 (by omega) (by omega)) (ym_out R rfl (by omega) h (br_t rfl ⟨rfl, ic_mk hBd hS hcv hrec⟩))))))))
    · exact xm_ir (by omega) hj (br_f (by decide) (D (Or.inr ⟨j, hj, rfl⟩)))
theorem i_vc_jump {k : Nat} {u : SX} {v : SY} (I : i_Rel k u v) (hk : k + 5 ≤ 2563) (v1 : Int32) (v2 : Int32) : wpX_jump (fun r u' => wpY_jump (fun r' v' => r' = r ∧ i_Rel (k + 5) u' v') v v1 v2) u v1 v2 := by
  obtain ⟨B, C, R, f_converted, f_reachable, f_guardCount, f_recordForm, f_ranBlocks, f_heldGuards, a_inputs, a_sizes, a_ops, a_dests, a_args, a_tests, a_trueTargets, a_falseTargets, a_onEveryWayTo, a_onEveryPath, a_guardNumbers, a_guardsOnTrue, a_guardsOnFalse, a_heldOnEntry, a_restoredTests, a_restoredTrue, a_restoredFalse, a_finalRegs, f_recorded, f_recForm, f_recC, a_complete, a_guard, rfl, rfl, hBd, hS, hcv, hrec⟩ := I
  obtain ⟨b1, b2, c1, c2, r1, r2⟩ := id hBd
  unfold wpX_jump
  rcases ic_cls v1 (n := B) (by omega) with h | ⟨b, hb, rfl⟩
  · refine xm_ib_no (by omega) h (br_t rfl ?_)
    unfold wpY_jump
    exact ym_out B rfl (by omega) h (br_t rfl ⟨rfl, ic_mk hBd hS hcv hrec⟩)
  refine xm_ib (by omega) hb (br_f (by decide) ?_)
  rcases ic_tgt v2 b2 hb with h | ⟨h1, h2⟩ | ⟨j, hj1, hj2, rfl⟩
  · refine xm_it_no (Or.inl h) (br_t rfl ?_)
    unfold wpY_jump
    exact ym_in b B rfl rfl (by omega) hb (br_f (by decide) (br_t h ⟨rfl, ic_mk hBd hS hcv hrec⟩))
  · refine xm_it_no (Or.inr ⟨h1, h2⟩) (br_t rfl ?_)
    unfold wpY_jump
    exact ym_in b B rfl rfl (by omega) hb (br_f (by decide) (br_f h1 (br_f (Int32.not_le.mpr h2) ⟨rfl, ic_mk hBd hS hcv hrec⟩)))
  · refine xm_it (by omega) hj1 hj2 (br_f (by decide) ?_)
    refine xm_end (by omega) ?_
    unfold wpX_acceptEdit
    unfold wpY_jump
    exact ym_in b B rfl rfl (by omega) hb (br_f (by decide) (br_f (nI_ge hj1 (by omega)) (br_t (nI_le hj2 (by omega)) (ym_end (by omega) ⟨rfl, ic_mk hBd (ic_Src_end hS (Or.inl rfl) ⟨hj1, hj2⟩ ⟨hj1, hj2⟩) (Or.inl rfl) (Or.inl ⟨rfl, rfl⟩)⟩))))
theorem i_vc_branch {k : Nat} {u : SX} {v : SY} (I : i_Rel k u v) (hk : k + 5 ≤ 2563) (v1 : Int32) (v2 : Int32) (v3 : Int32) (v4 : Int32) : wpX_branch (fun r u' => wpY_branch (fun r' v' => r' = r ∧ i_Rel (k + 5) u' v') v v1 v2 v3 v4) u v1 v2 v3 v4 := by
  obtain ⟨B, C, R, f_converted, f_reachable, f_guardCount, f_recordForm, f_ranBlocks, f_heldGuards, a_inputs, a_sizes, a_ops, a_dests, a_args, a_tests, a_trueTargets, a_falseTargets, a_onEveryWayTo, a_onEveryPath, a_guardNumbers, a_guardsOnTrue, a_guardsOnFalse, a_heldOnEntry, a_restoredTests, a_restoredTrue, a_restoredFalse, a_finalRegs, f_recorded, f_recForm, f_recC, a_complete, a_guard, rfl, rfl, hBd, hS, hcv, hrec⟩ := I
  obtain ⟨b1, b2, c1, c2, r1, r2⟩ := id hBd
  unfold wpX_branch
  rcases ic_cls v1 (n := B) (by omega) with h | ⟨b, hb, rfl⟩
  · refine xm_ib_no (by omega) h (br_t rfl ?_)
    unfold wpY_branch
    exact ym_out B rfl (by omega) h (br_t rfl ⟨rfl, ic_mk hBd hS hcv hrec⟩)
  refine xm_ib (by omega) hb (br_f (by decide) ?_)
  rcases ic_cls v2 (n := R) (by omega) with h | ⟨r, hr, rfl⟩
  · refine xm_ir_no (by omega) h (br_t rfl ?_)
    unfold wpY_branch
    exact ym_in b B rfl rfl (by omega) hb (br_f (by decide) (ym_out R rfl (by omega) h (br_t rfl ⟨rfl, ic_mk hBd hS hcv hrec⟩)))
  refine xm_ir (by omega) hr (br_f (by decide) ?_)
  rcases ic_tgt v3 b2 hb with h | ⟨h1, h2⟩ | ⟨t, ht1, ht2, rfl⟩
  · refine xm_it_no (Or.inl h) (br_t rfl ?_)
    unfold wpY_branch
    exact ym_in b B rfl rfl (by omega) hb (br_f (by decide) (ym_in r R rfl rfl (by omega) hr (br_f (by decide) (br_t h ⟨rfl, ic_mk hBd hS hcv hrec⟩))))
  · refine xm_it_no (Or.inr ⟨h1, h2⟩) (br_t rfl ?_)
    unfold wpY_branch
    exact ym_in b B rfl rfl (by omega) hb (br_f (by decide) (ym_in r R rfl rfl (by omega) hr (br_f (by decide) (br_f h1 (br_t h2 ⟨rfl, ic_mk hBd hS hcv hrec⟩)))))
  refine xm_it (by omega) ht1 ht2 (br_f (by decide) ?_)
  rcases ic_tgt v4 b2 hb with h | ⟨h1, h2⟩ | ⟨f, hf1, hf2, rfl⟩
  · refine xm_it_no (Or.inl h) (br_t rfl ?_)
    unfold wpY_branch
    exact ym_in b B rfl rfl (by omega) hb (br_f (by decide) (ym_in r R rfl rfl (by omega) hr (br_f (by decide) (br_f (nI_ge ht1 (by omega)) (br_f (nI_nlt ht2 (by omega)) (br_t h ⟨rfl, ic_mk hBd hS hcv hrec⟩))))))
  · refine xm_it_no (Or.inr ⟨h1, h2⟩) (br_t rfl ?_)
    unfold wpY_branch
    exact ym_in b B rfl rfl (by omega) hb (br_f (by decide) (ym_in r R rfl rfl (by omega) hr (br_f (by decide) (br_f (nI_ge ht1 (by omega)) (br_f (nI_nlt ht2 (by omega)) (br_f h1 (br_f (Int32.not_le.mpr h2) ⟨rfl, ic_mk hBd hS hcv hrec⟩)))))))
  refine xm_it (by omega) hf1 hf2 (br_f (by decide) ?_)
  refine xm_end (by omega) ?_
  unfold wpX_acceptEdit
  unfold wpY_branch
  exact ym_in b B rfl rfl (by omega) hb (br_f (by decide) (ym_in r R rfl rfl (by omega) hr (br_f (by decide) (br_f (nI_ge ht1 (by omega)) (br_f (nI_nlt ht2 (by omega)) (br_f (nI_ge hf1 (by omega)) (br_t (nI_le hf2 (by omega)) (ym_end (by omega) ⟨rfl, ic_mk hBd (ic_Src_end hS (Or.inr ⟨r, hr, rfl⟩) ⟨ht1, ht2⟩ ⟨hf1, hf2⟩) (Or.inl rfl) (Or.inl ⟨rfl, rfl⟩)⟩))))))))
theorem i_vc_clear {k : Nat} {u : SX} {v : SY} (I : i_Rel k u v) (hk : k + 5 ≤ 2563) (v1 : Int32) : wpX_clear (fun r u' => wpY_clear (fun r' v' => r' = r ∧ i_Rel (k + 5) u' v') v v1) u v1 := by
  obtain ⟨B, C, R, f_converted, f_reachable, f_guardCount, f_recordForm, f_ranBlocks, f_heldGuards, a_inputs, a_sizes, a_ops, a_dests, a_args, a_tests, a_trueTargets, a_falseTargets, a_onEveryWayTo, a_onEveryPath, a_guardNumbers, a_guardsOnTrue, a_guardsOnFalse, a_heldOnEntry, a_restoredTests, a_restoredTrue, a_restoredFalse, a_finalRegs, f_recorded, f_recForm, f_recC, a_complete, a_guard, rfl, rfl, hBd, hS, hcv, hrec⟩ := I
  obtain ⟨b1, b2, c1, c2, r1, r2⟩ := id hBd
  unfold wpX_clear
  rcases ic_cls v1 (n := B) (by omega) with h | ⟨b, hb, rfl⟩
  · refine xm_ib_no (by omega) h (br_t rfl ?_)
    unfold wpY_clear
    exact ym_out B rfl (by omega) h (br_t rfl ⟨rfl, ic_mk hBd hS hcv hrec⟩)
  refine xm_ib (by omega) hb (br_f (by decide) ⟨ic_v12 (by omega), nm_r (ic_u (by omega)) ?_⟩)
  rw [nI_1]
  refine xm_end (by omega) ?_
  unfold wpX_acceptEdit
  exact ym_clear b2 hb ⟨rfl, ic_mk hBd (ic_Src_end (ic_Src_clr hS) (Or.inl rfl) ⟨by omega, by omega⟩ ⟨by omega, by omega⟩) (Or.inl rfl) (Or.inl ⟨rfl, rfl⟩)⟩
theorem i_vc_input {k : Nat} {u : SX} {v : SY} (I : i_Rel k u v) (hk : k + 5 ≤ 2563) (v1 : Int32) (v2 : Int32) : wpX_input (fun r u' => wpY_input (fun r' v' => r' = r ∧ i_Rel (k + 5) u' v') v v1 v2) u v1 v2 := by
  obtain ⟨B, C, R, f_converted, f_reachable, f_guardCount, f_recordForm, f_ranBlocks, f_heldGuards, a_inputs, a_sizes, a_ops, a_dests, a_args, a_tests, a_trueTargets, a_falseTargets, a_onEveryWayTo, a_onEveryPath, a_guardNumbers, a_guardsOnTrue, a_guardsOnFalse, a_heldOnEntry, a_restoredTests, a_restoredTrue, a_restoredFalse, a_finalRegs, f_recorded, f_recForm, f_recC, a_complete, a_guard, rfl, rfl, hBd, hS, hcv, hrec⟩ := I
  obtain ⟨b1, b2, c1, c2, r1, r2⟩ := id hBd
  unfold wpX_input
  rcases ic_cls v1 (n := R) (by omega) with h | ⟨r, hr, rfl⟩
  · refine xm_ir_no (by omega) h (br_t rfl ?_)
    unfold wpY_input
    exact ym_out R rfl (by omega) h (br_t rfl ⟨rfl, ic_mk hBd hS hcv hrec⟩)
  refine xm_ir (by omega) hr (br_f (by decide) ⟨ic_v8 (by omega), nm_r (ic_u (by omega)) ?_⟩)
  unfold wpY_input
  exact ym_in r R rfl rfl (by omega) hr (br_f (by decide) ⟨ic_v8 (by omega), nm_r (ic_u (by omega)) ⟨rfl, ic_mk hBd hS hcv hrec⟩⟩)
end
section
/-! the methods that answer from what is kept -/
theorem i_vc_value {k : Nat} {u : SX} {v : SY} (I : i_Rel k u v) (hk : k + 5 ≤ 2563) (v1 : Int32) (v2 : Int32) : wpX_value (fun r => wpY_value (fun r' => r' = r ∧ i_Rel (k + 5) u v) v v1 v2) u v1 v2 := by
  have I' := I
  obtain ⟨B, C, R, f_converted, f_reachable, f_guardCount, f_recordForm, f_ranBlocks, f_heldGuards, a_inputs, a_sizes, a_ops, a_dests, a_args, a_tests, a_trueTargets, a_falseTargets, a_onEveryWayTo, a_onEveryPath, a_guardNumbers, a_guardsOnTrue, a_guardsOnFalse, a_heldOnEntry, a_restoredTests, a_restoredTrue, a_restoredFalse, a_finalRegs, f_recorded, f_recForm, f_recC, a_complete, a_guard, rfl, rfl, hBd, hS, hcv, hrec⟩ := I
  obtain ⟨b1, b2, c1, c2, r1, r2⟩ := id hBd
  unfold wpX_value
  rcases ic_cls v1 (n := R) (by omega) with h | ⟨r, hr, rfl⟩
  · refine xm_ir_no (by omega) h (br_t rfl ?_)
    unfold wpY_value
    exact ym_out R rfl (by omega) h (br_t rfl ⟨rfl, I'⟩)
  refine xm_ir (by omega) hr (br_f (by decide) ?_)
  by_cases e0 : v2 = 0
  · refine br_t e0 ⟨ic_v8 (by omega), ?_⟩
    unfold wpY_value
    exact ym_in r R rfl rfl (by omega) hr (br_f (by decide) (br_t e0 ⟨ic_v8 (by omega), rfl, I'⟩))
  refine br_f e0 ?_
  by_cases e1 : v2 = 1
  · refine br_t e1 ?_
    rcases hrec with ⟨q1, q2⟩ | ⟨q1, q2, q3⟩
    · refine br_t q1 ?_
      unfold wpY_value
      exact ym_in r R rfl rfl (by omega) hr (br_f (by decide) (br_f e0 (br_t e1 (br_t q2 ⟨rfl, I'⟩))))
    · have q : ¬ f_recordForm = -1 := by
        rcases q3 with z | z | ⟨z, _⟩
        · rw [z]; decide
        · rw [z]; decide
        · rw [z]; decide
      refine br_f q ⟨ic_v8 (by omega), ?_⟩
      unfold wpY_value
      exact ym_in r R rfl rfl (by omega) hr (br_f (by decide) (br_f e0 (br_t e1 (br_f (by rw [q1]; decide) ⟨ic_v8 (by omega), rfl, I'⟩))))
  · refine br_f e1 ?_
    unfold wpY_value
    exact ym_in r R rfl rfl (by omega) hr (br_f (by decide) (br_f e0 (br_f e1 ⟨rfl, I'⟩)))
theorem i_vc_ran {k : Nat} {u : SX} {v : SY} (I : i_Rel k u v) (hk : k + 5 ≤ 2563) (v1 : Int32) : wpX_ran (fun r => wpY_ran (fun r' => r' = r ∧ i_Rel (k + 5) u v) v v1) u v1 := by
  have I' := I
  obtain ⟨B, C, R, f_converted, f_reachable, f_guardCount, f_recordForm, f_ranBlocks, f_heldGuards, a_inputs, a_sizes, a_ops, a_dests, a_args, a_tests, a_trueTargets, a_falseTargets, a_onEveryWayTo, a_onEveryPath, a_guardNumbers, a_guardsOnTrue, a_guardsOnFalse, a_heldOnEntry, a_restoredTests, a_restoredTrue, a_restoredFalse, a_finalRegs, f_recorded, f_recForm, f_recC, a_complete, a_guard, rfl, rfl, hBd, hS, hcv, hrec⟩ := I
  obtain ⟨b1, b2, c1, c2, r1, r2⟩ := id hBd
  rcases hrec with ⟨q1, q2⟩ | ⟨q1, q2, q3⟩
  · exact br_t q1 (br_t q2 ⟨rfl, I'⟩)
  · have q : ¬ f_recordForm = -1 := by
      rcases q3 with z | z | ⟨z, _⟩
      · rw [z]; decide
      · rw [z]; decide
      · rw [z]; decide
    have q0 : ¬ f_recorded = 0 := by rw [q1]; decide
    refine br_f q ?_
    rcases ic_cls v1 (n := B) (by omega) with h | ⟨b, hb, rfl⟩
    · exact xm_ib_no (by omega) h (br_t rfl (br_f q0 (ym_out B rfl (by omega) h (br_t rfl ⟨rfl, I'⟩))))
    refine xm_ib (by omega) hb (br_f (by decide) ?_)
    refine xm_has b rfl (by omega) (fun e => br_f (by decide) ?_) (fun e => br_t rfl ?_)
    · refine br_f q0 (ym_in b B rfl rfl (by omega) hb (br_f (by decide) ?_))
      refine ym_has b rfl (by omega) (fun _ => br_f (by decide) ⟨rfl, I'⟩) (fun e2 => ?_)
      rw [e] at e2
      cases e2
    · refine br_f q0 (ym_in b B rfl rfl (by omega) hb (br_f (by decide) ?_))
      refine ym_has b rfl (by omega) (fun e2 => ?_) (fun _ => br_t rfl ⟨rfl, I'⟩)
      rw [e] at e2
      cases e2
theorem i_vc_source {k : Nat} {u : SX} {v : SY} (I : i_Rel k u v) (hk : k + 5 ≤ 2563) (v1 : Int32) (v2 : Int32) : wpX_source (fun r => wpY_source (fun r' => r' = r ∧ i_Rel (k + 5) u v) v v1 v2) u v1 v2 := by
  have I' := I
  obtain ⟨B, C, R, f_converted, f_reachable, f_guardCount, f_recordForm, f_ranBlocks, f_heldGuards, a_inputs, a_sizes, a_ops, a_dests, a_args, a_tests, a_trueTargets, a_falseTargets, a_onEveryWayTo, a_onEveryPath, a_guardNumbers, a_guardsOnTrue, a_guardsOnFalse, a_heldOnEntry, a_restoredTests, a_restoredTrue, a_restoredFalse, a_finalRegs, f_recorded, f_recForm, f_recC, a_complete, a_guard, rfl, rfl, hBd, hS, hcv, hrec⟩ := I
  obtain ⟨b1, b2, c1, c2, r1, r2⟩ := id hBd
  unfold wpX_source
  rcases ic_cls v1 (n := B) (by omega) with h | ⟨b, hb, rfl⟩
  · refine xm_ib_no (by omega) h (br_t rfl ?_)
    unfold wpY_source
    exact ym_out B rfl (by omega) h (br_t rfl ⟨rfl, I'⟩)
  refine xm_ib (by omega) hb (br_f (by decide) ?_)
  have v12 : vp_in (nI b) 12 := ic_v12 (by omega)
  rcases ic_cls v2 (n := 4) (by omega) with h | ⟨j, hj, rfl⟩
  · have Y : wpY_source (fun r' => r' = -1 ∧ i_Rel (k + 5) (nI B, nI C, nI R, f_converted, f_reachable, f_guardCount, f_recordForm, f_ranBlocks, f_heldGuards, a_inputs, a_sizes, a_ops, a_dests, a_args, a_tests, a_trueTargets, a_falseTargets, a_onEveryWayTo, a_onEveryPath, a_guardNumbers, a_guardsOnTrue, a_guardsOnFalse, a_heldOnEntry, a_restoredTests, a_restoredTrue, a_restoredFalse, a_finalRegs) (nI B, nI C, nI R, f_converted, f_recorded, f_recForm, f_ranBlocks, f_recC, a_ops, a_dests, a_args, a_sizes, a_tests, a_trueTargets, a_falseTargets, a_inputs, a_finalRegs, a_complete, a_guard)) (nI B, nI C, nI R, f_converted, f_recorded, f_recForm, f_ranBlocks, f_recC, a_ops, a_dests, a_args, a_sizes, a_tests, a_trueTargets, a_falseTargets, a_inputs, a_finalRegs, a_complete, a_guard) (nI b) v2 := by
      unfold wpY_source
      exact ym_in b B rfl rfl (by omega) hb (br_f (by decide) (ym_out 4 (by decide) (by omega) h (br_t rfl ⟨rfl, I'⟩)))
    rcases h with h | h
    · exact br_t h Y
    · have g := ic_not_lt (n := 3) (by omega) h
      exact br_f g.1 (br_t g.2 Y)
  · have h4 : j = 0 ∨ j = 1 ∨ j = 2 ∨ j = 3 := by omega
    have Y : ∀ r, ((nI j = 3 → (vp_in (nI b) 12 ∧ (a_sizes (nI b).toNatClampNeg = r ∧ i_Rel (k + 5) (nI B, nI C, nI R, f_converted, f_reachable, f_guardCount, f_recordForm, f_ranBlocks, f_heldGuards, a_inputs, a_sizes, a_ops, a_dests, a_args, a_tests, a_trueTargets, a_falseTargets, a_onEveryWayTo, a_onEveryPath, a_guardNumbers, a_guardsOnTrue, a_guardsOnFalse, a_heldOnEntry, a_restoredTests, a_restoredTrue, a_restoredFalse, a_finalRegs) (nI B, nI C, nI R, f_converted, f_recorded, f_recForm, f_ranBlocks, f_recC, a_ops, a_dests, a_args, a_sizes, a_tests, a_trueTargets, a_falseTargets, a_inputs, a_finalRegs, a_complete, a_guard)))) ∧ (¬ nI j = 3 → (((nI j = 0 → (vp_in (nI b) 12 ∧ (a_tests (nI b).toNatClampNeg = r ∧ i_Rel (k + 5) (nI B, nI C, nI R, f_converted, f_reachable, f_guardCount, f_recordForm, f_ranBlocks, f_heldGuards, a_inputs, a_sizes, a_ops, a_dests, a_args, a_tests, a_trueTargets, a_falseTargets, a_onEveryWayTo, a_onEveryPath, a_guardNumbers, a_guardsOnTrue, a_guardsOnFalse, a_heldOnEntry, a_restoredTests, a_restoredTrue, a_restoredFalse, a_finalRegs) (nI B, nI C, nI R, f_converted, f_recorded, f_recForm, f_ranBlocks, f_recC, a_ops, a_dests, a_args, a_sizes, a_tests, a_trueTargets, a_falseTargets, a_inputs, a_finalRegs, a_complete, a_guard)))) ∧ (¬ nI j = 0 → (((nI j = 1 → (vp_in (nI b) 12 ∧ (a_trueTargets (nI b).toNatClampNeg = r ∧ i_Rel (k + 5) (nI B, nI C, nI R, f_converted, f_reachable, f_guardCount, f_recordForm, f_ranBlocks, f_heldGuards, a_inputs, a_sizes, a_ops, a_dests, a_args, a_tests, a_trueTargets, a_falseTargets, a_onEveryWayTo, a_onEveryPath, a_guardNumbers, a_guardsOnTrue, a_guardsOnFalse, a_heldOnEntry, a_restoredTests, a_restoredTrue, a_restoredFalse, a_finalRegs) (nI B, nI C, nI R, f_converted, f_recorded, f_recForm, f_ranBlocks, f_recC, a_ops, a_dests, a_args, a_sizes, a_tests, a_trueTargets, a_falseTargets, a_inputs, a_finalRegs, a_complete, a_guard)))) ∧ (¬ nI j = 1 → (vp_in (nI b) 12 ∧ (a_falseTargets (nI b).toNatClampNeg = r ∧ i_Rel (k + 5) (nI B, nI C, nI R, f_converted, f_reachable, f_guardCount, f_recordForm, f_ranBlocks, f_heldGuards, a_inputs, a_sizes, a_ops, a_dests, a_args, a_tests, a_trueTargets, a_falseTargets, a_onEveryWayTo, a_onEveryPath, a_guardNumbers, a_guardsOnTrue, a_guardsOnFalse, a_heldOnEntry, a_restoredTests, a_restoredTrue, a_restoredFalse, a_finalRegs) (nI B, nI C, nI R, f_converted, f_recorded, f_recForm, f_ranBlocks, f_recC, a_ops, a_dests, a_args, a_sizes, a_tests, a_trueTargets, a_falseTargets, a_inputs, a_finalRegs, a_complete, a_guard))))))))))) → wpY_source (fun r' => r' = r ∧ i_Rel (k + 5) (nI B, nI C, nI R, f_converted, f_reachable, f_guardCount, f_recordForm, f_ranBlocks, f_heldGuards, a_inputs, a_sizes, a_ops, a_dests, a_args, a_tests, a_trueTargets, a_falseTargets, a_onEveryWayTo, a_onEveryPath, a_guardNumbers, a_guardsOnTrue, a_guardsOnFalse, a_heldOnEntry, a_restoredTests, a_restoredTrue, a_restoredFalse, a_finalRegs) (nI B, nI C, nI R, f_converted, f_recorded, f_recForm, f_ranBlocks, f_recC, a_ops, a_dests, a_args, a_sizes, a_tests, a_trueTargets, a_falseTargets, a_inputs, a_finalRegs, a_complete, a_guard)) (nI B, nI C, nI R, f_converted, f_recorded, f_recForm, f_ranBlocks, f_recC, a_ops, a_dests, a_args, a_sizes, a_tests, a_trueTargets, a_falseTargets, a_inputs, a_finalRegs, a_complete, a_guard) (nI b) (nI j) := by
      intro r H
      unfold wpY_source
      exact ym_in b B rfl rfl (by omega) hb (br_f (by decide) (ym_in j 4 rfl (by decide) (by omega) hj (br_f (by decide) H)))
    refine br_f (nI_pos (by omega)) (br_f (nI_nlt (a := 3) (by omega) (by omega)) ?_)
    rcases h4 with rfl | rfl | rfl | rfl
    · exact br_t (by decide) ⟨v12, Y _ (br_f (by decide) (br_t (by decide) ⟨v12, rfl, I'⟩))⟩
    · exact br_f (by decide) (br_t (by decide) ⟨v12, Y _ (br_f (by decide) (br_f (by decide) (br_t (by decide) ⟨v12, rfl, I'⟩)))⟩)
    · exact br_f (by decide) (br_f (by decide) (br_t (by decide) ⟨v12, Y _ (br_f (by decide) (br_f (by decide) (br_f (by decide) ⟨v12, rfl, I'⟩)))⟩))
    · exact br_f (by decide) (br_f (by decide) (br_f (by decide) (br_t (by decide) ⟨v12, Y _ (br_t (by decide) ⟨v12, rfl, I'⟩)⟩)))
theorem i_vc_cell {k : Nat} {u : SX} {v : SY} (I : i_Rel k u v) (hk : k + 5 ≤ 2563) (v1 : Int32) (v2 : Int32) (v3 : Int32) : wpX_cell (fun r => wpY_cell (fun r' => r' = r ∧ i_Rel (k + 5) u v) v v1 v2 v3) u v1 v2 v3 := by
  have I' := I
  obtain ⟨B, C, R, f_converted, f_reachable, f_guardCount, f_recordForm, f_ranBlocks, f_heldGuards, a_inputs, a_sizes, a_ops, a_dests, a_args, a_tests, a_trueTargets, a_falseTargets, a_onEveryWayTo, a_onEveryPath, a_guardNumbers, a_guardsOnTrue, a_guardsOnFalse, a_heldOnEntry, a_restoredTests, a_restoredTrue, a_restoredFalse, a_finalRegs, f_recorded, f_recForm, f_recC, a_complete, a_guard, rfl, rfl, hBd, hS, hcv, hrec⟩ := I
  obtain ⟨b1, b2, c1, c2, r1, r2⟩ := id hBd
  unfold wpX_cell
  rcases ic_cls v1 (n := B) (by omega) with h | ⟨b, hb, rfl⟩
  · refine xm_ib_no (by omega) h (br_t rfl ?_)
    unfold wpY_cell
    exact ym_out B rfl (by omega) h (br_t rfl ⟨rfl, I'⟩)
  refine xm_ib (by omega) hb (br_f (by decide) ?_)
  have v12 : vp_in (nI b) 12 := ic_v12 (by omega)
  obtain ⟨s1, s2, s3⟩ := ic_Src_s hS c2 hb
  have cb : a_sizes (nI b).toNatClampNeg = nI (ic_N a_sizes b) := (ic_g (by omega)).trans s1
  rcases ic_cls v2 (n := ic_N a_sizes b) (by omega) with h | ⟨i, hi, rfl⟩
  · have Y : wpY_cell (fun r' => r' = -1 ∧ i_Rel (k + 5) (nI B, nI C, nI R, f_converted, f_reachable, f_guardCount, f_recordForm, f_ranBlocks, f_heldGuards, a_inputs, a_sizes, a_ops, a_dests, a_args, a_tests, a_trueTargets, a_falseTargets, a_onEveryWayTo, a_onEveryPath, a_guardNumbers, a_guardsOnTrue, a_guardsOnFalse, a_heldOnEntry, a_restoredTests, a_restoredTrue, a_restoredFalse, a_finalRegs) (nI B, nI C, nI R, f_converted, f_recorded, f_recForm, f_ranBlocks, f_recC, a_ops, a_dests, a_args, a_sizes, a_tests, a_trueTargets, a_falseTargets, a_inputs, a_finalRegs, a_complete, a_guard)) (nI B, nI C, nI R, f_converted, f_recorded, f_recForm, f_ranBlocks, f_recC, a_ops, a_dests, a_args, a_sizes, a_tests, a_trueTargets, a_falseTargets, a_inputs, a_finalRegs, a_complete, a_guard) (nI b) v2 v3 := by
      unfold wpY_cell
      exact ym_in b B rfl rfl (by omega) hb (br_f (by decide) ⟨v12, ym_out (ic_N a_sizes b) cb (by omega) h (br_t rfl ⟨rfl, I'⟩)⟩)
    rcases h with h | h
    · exact br_t h Y
    · refine br_f (ic_not_le (by omega) h) ⟨v12, br_f ?_ Y⟩
      rw [cb]
      exact Int32.not_lt.mpr h
  refine br_f (nI_pos (by omega)) ⟨v12, br_t (by rw [cb]; exact nI_lt hi (by omega)) ?_⟩
  unfold wpX_placeOf
  have v48 : vp_in (nI b * 4 + nI i) 48 := by
    rw [ic_4]
    exact ic_v48 (by omega)
  rcases ic_cls v3 (n := 3) (by omega) with h | ⟨j, hj, rfl⟩
  · have Y : wpY_cell (fun r' => r' = -1 ∧ i_Rel (k + 5) (nI B, nI C, nI R, f_converted, f_reachable, f_guardCount, f_recordForm, f_ranBlocks, f_heldGuards, a_inputs, a_sizes, a_ops, a_dests, a_args, a_tests, a_trueTargets, a_falseTargets, a_onEveryWayTo, a_onEveryPath, a_guardNumbers, a_guardsOnTrue, a_guardsOnFalse, a_heldOnEntry, a_restoredTests, a_restoredTrue, a_restoredFalse, a_finalRegs) (nI B, nI C, nI R, f_converted, f_recorded, f_recForm, f_ranBlocks, f_recC, a_ops, a_dests, a_args, a_sizes, a_tests, a_trueTargets, a_falseTargets, a_inputs, a_finalRegs, a_complete, a_guard)) (nI B, nI C, nI R, f_converted, f_recorded, f_recForm, f_ranBlocks, f_recC, a_ops, a_dests, a_args, a_sizes, a_tests, a_trueTargets, a_falseTargets, a_inputs, a_finalRegs, a_complete, a_guard) (nI b) (nI i) v3 := by
      unfold wpY_cell
      exact ym_in b B rfl rfl (by omega) hb (br_f (by decide) ⟨v12, ym_in i (ic_N a_sizes b) rfl cb (by omega) hi (br_f (by decide) (ym_out 3 (by decide) (by omega) h (br_t rfl ⟨rfl, I'⟩)))⟩)
    rcases h with h | h
    · exact br_t h Y
    · have g := ic_not_lt (n := 2) (by omega) h
      exact br_f g.1 (br_t g.2 Y)
  · have h3 : j = 0 ∨ j = 1 ∨ j = 2 := by omega
    have Y : ∀ r, ((nI j = 0 → (vp_in (nI b * 4 + nI i) 48 ∧ (a_ops (nI b * 4 + nI i).toNatClampNeg = r ∧ i_Rel (k + 5) (nI B, nI C, nI R, f_converted, f_reachable, f_guardCount, f_recordForm, f_ranBlocks, f_heldGuards, a_inputs, a_sizes, a_ops, a_dests, a_args, a_tests, a_trueTargets, a_falseTargets, a_onEveryWayTo, a_onEveryPath, a_guardNumbers, a_guardsOnTrue, a_guardsOnFalse, a_heldOnEntry, a_restoredTests, a_restoredTrue, a_restoredFalse, a_finalRegs) (nI B, nI C, nI R, f_converted, f_recorded, f_recForm, f_ranBlocks, f_recC, a_ops, a_dests, a_args, a_sizes, a_tests, a_trueTargets, a_falseTargets, a_inputs, a_finalRegs, a_complete, a_guard)))) ∧ (¬ nI j = 0 → (((nI j = 1 → (vp_in (nI b * 4 + nI i) 48 ∧ (a_dests (nI b * 4 + nI i).toNatClampNeg = r ∧ i_Rel (k + 5) (nI B, nI C, nI R, f_converted, f_reachable, f_guardCount, f_recordForm, f_ranBlocks, f_heldGuards, a_inputs, a_sizes, a_ops, a_dests, a_args, a_tests, a_trueTargets, a_falseTargets, a_onEveryWayTo, a_onEveryPath, a_guardNumbers, a_guardsOnTrue, a_guardsOnFalse, a_heldOnEntry, a_restoredTests, a_restoredTrue, a_restoredFalse, a_finalRegs) (nI B, nI C, nI R, f_converted, f_recorded, f_recForm, f_ranBlocks, f_recC, a_ops, a_dests, a_args, a_sizes, a_tests, a_trueTargets, a_falseTargets, a_inputs, a_finalRegs, a_complete, a_guard)))) ∧ (¬ nI j = 1 → (vp_in (nI b * 4 + nI i) 48 ∧ (a_args (nI b * 4 + nI i).toNatClampNeg = r ∧ i_Rel (k + 5) (nI B, nI C, nI R, f_converted, f_reachable, f_guardCount, f_recordForm, f_ranBlocks, f_heldGuards, a_inputs, a_sizes, a_ops, a_dests, a_args, a_tests, a_trueTargets, a_falseTargets, a_onEveryWayTo, a_onEveryPath, a_guardNumbers, a_guardsOnTrue, a_guardsOnFalse, a_heldOnEntry, a_restoredTests, a_restoredTrue, a_restoredFalse, a_finalRegs) (nI B, nI C, nI R, f_converted, f_recorded, f_recForm, f_ranBlocks, f_recC, a_ops, a_dests, a_args, a_sizes, a_tests, a_trueTargets, a_falseTargets, a_inputs, a_finalRegs, a_complete, a_guard)))))))) → wpY_cell (fun r' => r' = r ∧ i_Rel (k + 5) (nI B, nI C, nI R, f_converted, f_reachable, f_guardCount, f_recordForm, f_ranBlocks, f_heldGuards, a_inputs, a_sizes, a_ops, a_dests, a_args, a_tests, a_trueTargets, a_falseTargets, a_onEveryWayTo, a_onEveryPath, a_guardNumbers, a_guardsOnTrue, a_guardsOnFalse, a_heldOnEntry, a_restoredTests, a_restoredTrue, a_restoredFalse, a_finalRegs) (nI B, nI C, nI R, f_converted, f_recorded, f_recForm, f_ranBlocks, f_recC, a_ops, a_dests, a_args, a_sizes, a_tests, a_trueTargets, a_falseTargets, a_inputs, a_finalRegs, a_complete, a_guard)) (nI B, nI C, nI R, f_converted, f_recorded, f_recForm, f_ranBlocks, f_recC, a_ops, a_dests, a_args, a_sizes, a_tests, a_trueTargets, a_falseTargets, a_inputs, a_finalRegs, a_complete, a_guard) (nI b) (nI i) (nI j) := by
      intro r H
      unfold wpY_cell
      exact ym_in b B rfl rfl (by omega) hb (br_f (by decide) ⟨v12, ym_in i (ic_N a_sizes b) rfl cb (by omega) hi (br_f (by decide) (ym_in j 3 rfl (by decide) (by omega) hj (br_f (by decide) (nm_e H))))⟩)
    refine br_f (nI_pos (by omega)) (br_f (nI_nlt (a := 2) (by omega) (by omega)) ?_)
    rcases h3 with rfl | rfl | rfl
    · exact br_t (by decide) ⟨v48, Y _ (br_t (by decide) ⟨v48, rfl, I'⟩)⟩
    · exact br_f (by decide) (br_t (by decide) ⟨v48, Y _ (br_f (by decide) (br_t (by decide) ⟨v48, rfl, I'⟩))⟩)
    · exact br_f (by decide) (br_f (by decide) (br_t (by decide) ⟨v48, Y _ (br_f (by decide) (br_f (by decide) ⟨v48, rfl, I'⟩))⟩))
end
section
/-! what the conversion shows -/
theorem i_vc_convert {k : Nat} {u : SX} {v : SY} (I : i_Rel k u v) (hk : k + 5 ≤ 2563) : wpX_convert (fun r u' => wpY_convert (fun r' v' => r' = r ∧ i_Rel (k + 5) u' v') v) u := by
  obtain ⟨B, C, R, f_converted, f_reachable, f_guardCount, f_recordForm, f_ranBlocks, f_heldGuards, a_inputs, a_sizes, a_ops, a_dests, a_args, a_tests, a_trueTargets, a_falseTargets, a_onEveryWayTo, a_onEveryPath, a_guardNumbers, a_guardsOnTrue, a_guardsOnFalse, a_heldOnEntry, a_restoredTests, a_restoredTrue, a_restoredFalse, a_finalRegs, f_recorded, f_recForm, f_recC, a_complete, a_guard, rfl, rfl, hBd, hS, hcv, hrec⟩ := I
  obtain ⟨b1, b2, c1, c2, r1, r2⟩ := id hBd
  have ok := ic_Src_ok hS b2
  have hT : ∀ b, b < B → a_trueTargets b = nI (ic_N a_trueTargets b) ∧ a_falseTargets b = nI (ic_N a_falseTargets b) := fun b hb => ic_Src_T hS b2 hb
  rcases hcv with rfl | ⟨rfl, cv⟩
  · refine xm_convert ok b2 (by omega) hT rfl (fun ρ D P g gT gF he rt rT rF cv => ?_)
    unfold wpY_convert
    refine ym_ng ok b2 hT (fun cm gd hg => ⟨rfl, ic_mk hBd hS (Or.inr ⟨rfl, cv⟩) ?_⟩)
    rcases hrec with h | ⟨h1, h2, h3 | h3 | ⟨_, h3, _⟩⟩
    · exact Or.inl h
    · exact Or.inr ⟨h1, h2, Or.inl h3⟩
    · exact Or.inr ⟨h1, h2, Or.inr (Or.inl h3)⟩
    · exact absurd h3 (by decide)
  · refine br_f (by decide) ?_
    unfold wpY_convert
    exact ym_ng ok b2 hT (fun cm gd hg => ⟨cv.2.2.1.symm, ic_mk hBd hS (Or.inr ⟨rfl, cv⟩) hrec⟩)
theorem i_vc_guards {k : Nat} {u : SX} {v : SY} (I : i_Rel k u v) (hk : k + 5 ≤ 2563) : wpX_guards (fun r => wpY_guards (fun r' v' => r' = r ∧ i_Rel (k + 5) u v') v) u := by
  obtain ⟨B, C, R, f_converted, f_reachable, f_guardCount, f_recordForm, f_ranBlocks, f_heldGuards, a_inputs, a_sizes, a_ops, a_dests, a_args, a_tests, a_trueTargets, a_falseTargets, a_onEveryWayTo, a_onEveryPath, a_guardNumbers, a_guardsOnTrue, a_guardsOnFalse, a_heldOnEntry, a_restoredTests, a_restoredTrue, a_restoredFalse, a_finalRegs, f_recorded, f_recForm, f_recC, a_complete, a_guard, rfl, rfl, hBd, hS, hcv, hrec⟩ := I
  obtain ⟨b1, b2, c1, c2, r1, r2⟩ := id hBd
  have ok := ic_Src_ok hS b2
  have hT : ∀ b, b < B → a_trueTargets b = nI (ic_N a_trueTargets b) ∧ a_falseTargets b = nI (ic_N a_falseTargets b) := fun b hb => ic_Src_T hS b2 hb
  rcases hcv with rfl | ⟨rfl, cv⟩
  · exact br_t rfl (br_t rfl ⟨rfl, ic_mk hBd hS (Or.inl rfl) hrec⟩)
  · refine br_f (by decide) (br_f (by decide) ?_)
    exact ym_ng ok b2 hT (fun cm gd hg => ⟨cv.2.2.1.symm, ic_mk hBd hS (Or.inr ⟨rfl, cv⟩) hrec⟩)
theorem i_vc_guardOf {k : Nat} {u : SX} {v : SY} (I : i_Rel k u v) (hk : k + 5 ≤ 2563) (v1 : Int32) : wpX_guardOf (fun r => wpY_guardOf (fun r' v' => r' = r ∧ i_Rel (k + 5) u v') v v1) u v1 := by
  obtain ⟨B, C, R, f_converted, f_reachable, f_guardCount, f_recordForm, f_ranBlocks, f_heldGuards, a_inputs, a_sizes, a_ops, a_dests, a_args, a_tests, a_trueTargets, a_falseTargets, a_onEveryWayTo, a_onEveryPath, a_guardNumbers, a_guardsOnTrue, a_guardsOnFalse, a_heldOnEntry, a_restoredTests, a_restoredTrue, a_restoredFalse, a_finalRegs, f_recorded, f_recForm, f_recC, a_complete, a_guard, rfl, rfl, hBd, hS, hcv, hrec⟩ := I
  obtain ⟨b1, b2, c1, c2, r1, r2⟩ := id hBd
  have ok := ic_Src_ok hS b2
  have hT : ∀ b, b < B → a_trueTargets b = nI (ic_N a_trueTargets b) ∧ a_falseTargets b = nI (ic_N a_falseTargets b) := fun b hb => ic_Src_T hS b2 hb
  unfold wpX_guardOf
  rcases hcv with rfl | ⟨rfl, cv⟩
  · exact xm_icb_no (by omega) (Or.inl rfl) (br_t rfl (ym_gof_no (by omega) (Or.inl rfl) ⟨rfl, ic_mk hBd hS (Or.inl rfl) hrec⟩))
  rcases ic_cls v1 (n := B) (by omega) with h | ⟨b, hb, rfl⟩
  · exact xm_icb_no (by omega) (Or.inr h) (br_t rfl (ym_gof_no (by omega) (Or.inr h) ⟨rfl, ic_mk hBd hS (Or.inr ⟨rfl, cv⟩) hrec⟩))
  refine xm_icb b2 hb cv.1 (fun r => br_f (by decide) ⟨ic_v12 (by omega), ?_⟩) (fun r => br_t rfl ?_)
  · refine ym_gof ok b2 hT hb (fun cm gd hg => ⟨?_, ic_mk hBd hS (Or.inr ⟨rfl, cv⟩) hrec⟩)
    rw [nI_clamp (by omega), cv.2.2.2.1 b hb, ic_gn_t r, ic_gy_t r]
  · exact ym_gof ok b2 hT hb (fun cm gd hg => ⟨ic_gy_f r, ic_mk hBd hS (Or.inr ⟨rfl, cv⟩) hrec⟩)
/-- x is no reachable block -/
def ic_NB (B : Nat) (T F : Nat → Nat) (x : Int32) : Prop := (x < 0 ∨ nI B ≤ x) ∨ ∃ b, b < B ∧ x = nI b ∧ ¬ ic_Re B T F b
theorem ic_NBc (x : Int32) {B : Nat} {T F : Nat → Nat} (hB : B ≤ 12) : ic_NB B T F x ∨ ∃ b, b < B ∧ x = nI b ∧ ic_Re B T F b := by
  rcases ic_cls x (n := B) (by omega) with h | ⟨b, hb, rfl⟩
  · exact Or.inl (Or.inl h)
  · rcases Classical.em (ic_Re B T F b) with r | r
    · exact Or.inr ⟨b, hb, rfl, r⟩
    · exact Or.inl (Or.inr ⟨b, hb, rfl, r⟩)
section
variable {B C R : Nat} {T F : Nat → Nat} {f_blocks f_cells f_regs f_converted f_recorded f_recForm f_recRan f_recC : Int32} {a_ops a_dests a_args a_size a_test a_onTrue a_onFalse a_inputs a_recRegs a_complete a_guard : Nat → Int32}
/-- guardOf of what is no reachable block -/
theorem ym_gof_nb (ok : ic_Ok B T F) (hB : B ≤ 12) (hT : ∀ b, b < B → a_onTrue b = nI (T b) ∧ a_onFalse b = nI (F b)) {post : Int32 → SY → Prop} {p0 : Int32} (h : f_converted = 0 ∨ (f_converted = 1 ∧ ic_NB B T F p0))
    (hp : ∀ cm g, post (-1) (nI B, f_cells, f_regs, f_converted, f_recorded, f_recForm, f_recRan, f_recC, a_ops, a_dests, a_args, a_size, a_test, a_onTrue, a_onFalse, a_inputs, a_recRegs, cm, g)) : wpY_guardOf post (nI B, f_cells, f_regs, f_converted, f_recorded, f_recForm, f_recRan, f_recC, a_ops, a_dests, a_args, a_size, a_test, a_onTrue, a_onFalse, a_inputs, a_recRegs, a_complete, a_guard) p0 := by
  rcases h with h | ⟨rfl, h | ⟨b, hb, rfl, r⟩⟩
  · exact ym_gof_no (by omega) (Or.inl h) (hp _ _)
  · exact ym_gof_no (by omega) (Or.inr h) (hp _ _)
  · refine ym_gof ok hB hT hb (fun cm g hg => ?_)
    rw [ic_gy_f r]
    exact hp cm g
theorem ym_gof_re (ok : ic_Ok B T F) (hB : B ≤ 12) (hT : ∀ b, b < B → a_onTrue b = nI (T b) ∧ a_onFalse b = nI (F b)) {post : Int32 → SY → Prop} {b : Nat} (hb : b < B) (r : ic_Re B T F b)
    (hp : ∀ cm g x, ¬ x = -1 → post x (nI B, f_cells, f_regs, 1, f_recorded, f_recForm, f_recRan, f_recC, a_ops, a_dests, a_args, a_size, a_test, a_onTrue, a_onFalse, a_inputs, a_recRegs, cm, g)) : wpY_guardOf post (nI B, f_cells, f_regs, 1, f_recorded, f_recForm, f_recRan, f_recC, a_ops, a_dests, a_args, a_size, a_test, a_onTrue, a_onFalse, a_inputs, a_recRegs, a_complete, a_guard) (nI b) :=
  ym_gof ok hB hT hb (fun cm g hg => hp cm g _ (fun e => (ic_gy_m1 hB hb).mp e r))
theorem ym_dep_no (ok : ic_Ok B T F) (hB : B ≤ 12) (hT : ∀ b, b < B → a_onTrue b = nI (T b) ∧ a_onFalse b = nI (F b)) {post : Int32 → SY → Prop} {v1 v2 v3 : Int32} (hc : f_converted = 0 ∨ f_converted = 1)
    (h : f_converted = 0 ∨ ic_NB B T F v1 ∨ ic_NB B T F v2 ∨ (v3 < 0 ∨ nI 2 ≤ v3))
    (hp : ∀ cm g, post (-1) (nI B, f_cells, f_regs, f_converted, f_recorded, f_recForm, f_recRan, f_recC, a_ops, a_dests, a_args, a_size, a_test, a_onTrue, a_onFalse, a_inputs, a_recRegs, cm, g)) : wpY_depends post (nI B, f_cells, f_regs, f_converted, f_recorded, f_recForm, f_recRan, f_recC, a_ops, a_dests, a_args, a_size, a_test, a_onTrue, a_onFalse, a_inputs, a_recRegs, a_complete, a_guard) v1 v2 v3 := by
  unfold wpY_depends
  rcases ic_cls v3 (n := 2) (by omega) with h3 | ⟨w, hw, rfl⟩
  · exact ym_out 2 (by decide) (by omega) h3 (br_t rfl (hp _ _))
  refine ym_in w 2 rfl (by decide) (by omega) hw (br_f (by decide) ?_)
  rcases hc with rfl | rfl
  · exact ym_gof_nb ok hB hT (Or.inl rfl) (fun cm g => br_t rfl (hp cm g))
  rcases ic_NBc v1 hB (T := T) (F := F) with n1 | ⟨b, hb, rfl, rb⟩
  · exact ym_gof_nb ok hB hT (Or.inr ⟨rfl, n1⟩) (fun cm g => br_t rfl (hp cm g))
  refine ym_gof_re ok hB hT hb rb (fun cm g x hx => br_f hx ?_)
  rcases ic_NBc v2 hB (T := T) (F := F) with n2 | ⟨a, ha, rfl, ra⟩
  · exact ym_gof_nb ok hB hT (Or.inr ⟨rfl, n2⟩) (fun cm g => br_t rfl (hp cm g))
  have nb : ∀ c, c < B → ic_Re B T F c → ¬ ic_NB B T F (nI c) := by
    intro c hcB rc n
    rcases n with (n | n) | ⟨d, hd, e, rd⟩
    · exact nI_pos (by omega) n
    · exact nI_ge hcB (by omega) n
    · rw [nI_eq (by omega) (by omega)] at e
      rw [e] at rc
      exact rd rc
  rcases h with h | h | h | h | h
  · exact absurd h (by decide)
  · exact absurd h (nb b hb rb)
  · exact absurd h (nb a ha ra)
  · exact absurd h (nI_pos (by omega))
  · exact absurd h (nI_ge hw (by omega))
theorem ym_dep (ok : ic_Ok B T F) (hB : B ≤ 12) (hT : ∀ b, b < B → a_onTrue b = nI (T b) ∧ a_onFalse b = nI (F b)) {post : Int32 → SY → Prop} {a b w z : Nat} (ha : a < B) (ra : ic_Re B T F a) (hb : b < B) (rb : ic_Re B T F b) (hw : (w = 1 ∧ T a = z) ∨ (w = 0 ∧ F a = z))
    (h1 : ∀ cm g, (ic_A B T F z b ∧ ¬ ic_A B T F a b) → post 1 (nI B, f_cells, f_regs, 1, f_recorded, f_recForm, f_recRan, f_recC, a_ops, a_dests, a_args, a_size, a_test, a_onTrue, a_onFalse, a_inputs, a_recRegs, cm, g)) (h0 : ∀ cm g, ¬ (ic_A B T F z b ∧ ¬ ic_A B T F a b) → post 0 (nI B, f_cells, f_regs, 1, f_recorded, f_recForm, f_recRan, f_recC, a_ops, a_dests, a_args, a_size, a_test, a_onTrue, a_onFalse, a_inputs, a_recRegs, cm, g)) : wpY_depends post (nI B, f_cells, f_regs, 1, f_recorded, f_recForm, f_recRan, f_recC, a_ops, a_dests, a_args, a_size, a_test, a_onTrue, a_onFalse, a_inputs, a_recRegs, a_complete, a_guard) (nI b) (nI a) (nI w) := by
  have o := ok a ha
  have hz : z ≤ B := by rcases hw with ⟨_, e⟩ | ⟨_, e⟩ <;> omega
  unfold wpY_depends
  refine ym_in w 2 rfl (by decide) (by omega) (by omega) (br_f (by decide) ?_)
  refine ym_gof_re ok hB hT hb rb (fun cm g x hx => br_f hx ?_)
  refine ym_gof_re ok hB hT ha ra (fun cm g x hx => br_f hx ?_)
  have H : ∀ z0, z0 = nI z → wY_depends_49 post (nI b) (nI a) z0 (nI B) f_cells f_regs 1 f_recorded f_recForm f_recRan f_recC a_ops a_dests a_args a_size a_test a_onTrue a_onFalse a_inputs a_recRegs cm g := by
    intro z0 ez
    unfold wY_depends_49
    refine ym_all ok hB hT hz hb ez (fun p1 => br_f (by decide) ?_) (fun p1 => br_t rfl (h0 _ _ (fun k => p1 k.1)))
    exact ym_all ok hB hT (by omega) hb rfl (fun p2 => br_f (by decide) (h0 _ _ (fun k => k.2 p2))) (fun p2 => br_t rfl (h1 _ _ ⟨p1, p2⟩))
  rcases hw with ⟨rfl, e⟩ | ⟨rfl, e⟩
  · exact br_t (by decide) ⟨ic_v12 (by omega), H _ (by rw [nI_clamp (by omega), (hT a ha).1, e])⟩
  · exact br_f (by decide) ⟨ic_v12 (by omega), H _ (by rw [nI_clamp (by omega), (hT a ha).2, e])⟩
end
section
variable {B C R : Nat} {T F : Nat → Nat} {f_blockCount f_cellCount f_regCount f_converted f_reachable f_guardCount f_recordForm f_ranBlocks f_heldGuards : Int32} {a_inputs a_sizes a_ops a_dests a_args a_tests a_trueTargets a_falseTargets a_onEveryWayTo a_onEveryPath a_guardNumbers a_guardsOnTrue a_guardsOnFalse a_heldOnEntry a_restoredTests a_restoredTrue a_restoredFalse a_finalRegs : Nat → Int32}
theorem xm_icb_nb {post : Int32 → Prop} {p0 : Int32} (hB : B ≤ 12) (h : f_converted = 0 ∨ (f_converted = 1 ∧ (∀ b, b < B → (bt f_reachable b = true ↔ ic_Re B T F b)) ∧ ic_NB B T F p0)) (hp : post 0) : wpX_isConvertedBlock post (nI B, f_cellCount, f_regCount, f_converted, f_reachable, f_guardCount, f_recordForm, f_ranBlocks, f_heldGuards, a_inputs, a_sizes, a_ops, a_dests, a_args, a_tests, a_trueTargets, a_falseTargets, a_onEveryWayTo, a_onEveryPath, a_guardNumbers, a_guardsOnTrue, a_guardsOnFalse, a_heldOnEntry, a_restoredTests, a_restoredTrue, a_restoredFalse, a_finalRegs) p0 := by
  rcases h with h | ⟨rfl, hR, h | ⟨b, hb, rfl, r⟩⟩
  · exact xm_icb_no (by omega) (Or.inl h) hp
  · exact xm_icb_no (by omega) (Or.inr h) hp
  · exact xm_icb hB hb hR (fun q => absurd q r) (fun _ => hp)
end
section
variable {B C R : Nat} {T F : Nat → Nat} {f_blocks f_cells f_regs f_converted f_recorded f_recForm f_recRan f_recC : Int32} {a_ops a_dests a_args a_size a_test a_onTrue a_onFalse a_inputs a_recRegs a_complete a_guard : Nat → Int32}
theorem ym_src_mono {post post' : Int32 → Prop} {p0 p1 : Int32} (h : ∀ r, post r → post' r) (H : wpY_source post (f_blocks, f_cells, f_regs, f_converted, f_recorded, f_recForm, f_recRan, f_recC, a_ops, a_dests, a_args, a_size, a_test, a_onTrue, a_onFalse, a_inputs, a_recRegs, a_complete, a_guard) p0 p1) : wpY_source post' (f_blocks, f_cells, f_regs, f_converted, f_recorded, f_recForm, f_recRan, f_recC, a_ops, a_dests, a_args, a_size, a_test, a_onTrue, a_onFalse, a_inputs, a_recRegs, a_complete, a_guard) p0 p1 := by
  have W : ∀ {q q' : Int32 → Prop} {a b : Int32}, (∀ r, q r → q' r) → wpY_within q (f_blocks, f_cells, f_regs, f_converted, f_recorded, f_recForm, f_recRan, f_recC, a_ops, a_dests, a_args, a_size, a_test, a_onTrue, a_onFalse, a_inputs, a_recRegs, a_complete, a_guard) a b → wpY_within q' (f_blocks, f_cells, f_regs, f_converted, f_recorded, f_recForm, f_recRan, f_recC, a_ops, a_dests, a_args, a_size, a_test, a_onTrue, a_onFalse, a_inputs, a_recRegs, a_complete, a_guard) a b := fun hq H => ⟨fun c => hq _ (H.1 c), fun c => ⟨fun d => hq _ ((H.2 c).1 d), fun d => hq _ ((H.2 c).2 d)⟩⟩
  unfold wpY_source at H ⊢
  refine W (fun r K => ⟨fun c => h _ (K.1 c), fun c => W (fun r K => ⟨fun c => h _ (K.1 c), fun c => ?_⟩) (K.2 c)⟩) H
  have K := K.2 c
  exact ⟨fun c => ⟨(K.1 c).1, h _ (K.1 c).2⟩, fun c => ⟨fun d => ⟨((K.2 c).1 d).1, h _ ((K.2 c).1 d).2⟩, fun d => ⟨fun f => ⟨(((K.2 c).2 d).1 f).1, h _ (((K.2 c).2 d).1 f).2⟩, fun f => ⟨(((K.2 c).2 d).2 f).1, h _ (((K.2 c).2 d).2 f).2⟩⟩⟩⟩
end
theorem i_vc_depends {k : Nat} {u : SX} {v : SY} (I : i_Rel k u v) (hk : k + 5 ≤ 2563) (v1 : Int32) (v2 : Int32) (v3 : Int32) : wpX_depends (fun r => wpY_depends (fun r' v' => r' = r ∧ i_Rel (k + 5) u v') v v1 v2 v3) u v1 v2 v3 := by
  obtain ⟨B, C, R, f_converted, f_reachable, f_guardCount, f_recordForm, f_ranBlocks, f_heldGuards, a_inputs, a_sizes, a_ops, a_dests, a_args, a_tests, a_trueTargets, a_falseTargets, a_onEveryWayTo, a_onEveryPath, a_guardNumbers, a_guardsOnTrue, a_guardsOnFalse, a_heldOnEntry, a_restoredTests, a_restoredTrue, a_restoredFalse, a_finalRegs, f_recorded, f_recForm, f_recC, a_complete, a_guard, rfl, rfl, hBd, hS, hcv, hrec⟩ := I
  obtain ⟨b1, b2, c1, c2, r1, r2⟩ := id hBd
  have ok := ic_Src_ok hS b2
  have hT : ∀ b, b < B → a_trueTargets b = nI (ic_N a_trueTargets b) ∧ a_falseTargets b = nI (ic_N a_falseTargets b) := fun b hb => ic_Src_T hS b2 hb
  unfold wpX_depends
  rcases hcv with rfl | ⟨rfl, cv⟩
  · exact xm_icb_no (by omega) (Or.inl rfl) (br_t rfl (ym_dep_no ok b2 hT (Or.inl rfl) (Or.inl rfl) (fun cm g => ⟨rfl, ic_mk hBd hS (Or.inl rfl) hrec⟩)))
  have M : ∀ cm g, i_Rel (k + 5) (nI B, nI C, nI R, 1, f_reachable, f_guardCount, f_recordForm, f_ranBlocks, f_heldGuards, a_inputs, a_sizes, a_ops, a_dests, a_args, a_tests, a_trueTargets, a_falseTargets, a_onEveryWayTo, a_onEveryPath, a_guardNumbers, a_guardsOnTrue, a_guardsOnFalse, a_heldOnEntry, a_restoredTests, a_restoredTrue, a_restoredFalse, a_finalRegs) (nI B, nI C, nI R, 1, f_recorded, f_recForm, f_ranBlocks, f_recC, a_ops, a_dests, a_args, a_sizes, a_tests, a_trueTargets, a_falseTargets, a_inputs, a_finalRegs, cm, g) := fun cm g => ic_mk hBd hS (Or.inr ⟨rfl, cv⟩) hrec
  rcases ic_NBc v1 b2 (T := ic_N a_trueTargets) (F := ic_N a_falseTargets) with n1 | ⟨b, hb, rfl, rb⟩
  · exact xm_icb_nb b2 (Or.inr ⟨rfl, cv.1, n1⟩) (br_t rfl (ym_dep_no ok b2 hT (Or.inr rfl) (Or.inr (Or.inl n1)) (fun cm g => ⟨rfl, M cm g⟩)))
  refine xm_icb b2 hb cv.1 (fun _ => br_f (by decide) ?_) (fun q => absurd rb q)
  rcases ic_NBc v2 b2 (T := ic_N a_trueTargets) (F := ic_N a_falseTargets) with n2 | ⟨a, ha, rfl, ra⟩
  · exact xm_icb_nb b2 (Or.inr ⟨rfl, cv.1, n2⟩) (br_t rfl (ym_dep_no ok b2 hT (Or.inr rfl) (Or.inr (Or.inr (Or.inl n2))) (fun cm g => ⟨rfl, M cm g⟩)))
  refine xm_icb b2 ha cv.1 (fun _ => br_f (by decide) ?_) (fun q => absurd ra q)
  rcases ic_cls v3 (n := 2) (by omega) with h | ⟨w, hw, rfl⟩
  · have Y : wpY_depends (fun r' v' => r' = -1 ∧ i_Rel (k + 5) (nI B, nI C, nI R, 1, f_reachable, f_guardCount, f_recordForm, f_ranBlocks, f_heldGuards, a_inputs, a_sizes, a_ops, a_dests, a_args, a_tests, a_trueTargets, a_falseTargets, a_onEveryWayTo, a_onEveryPath, a_guardNumbers, a_guardsOnTrue, a_guardsOnFalse, a_heldOnEntry, a_restoredTests, a_restoredTrue, a_restoredFalse, a_finalRegs) v') (nI B, nI C, nI R, 1, f_recorded, f_recForm, f_ranBlocks, f_recC, a_ops, a_dests, a_args, a_sizes, a_tests, a_trueTargets, a_falseTargets, a_inputs, a_finalRegs, a_complete, a_guard) (nI b) (nI a) v3 :=
      ym_dep_no ok b2 hT (Or.inr rfl) (Or.inr (Or.inr (Or.inr h))) (fun cm g => ⟨rfl, M cm g⟩)
    rcases h with h | h
    · exact br_t h Y
    · have g := ic_not_lt (n := 1) (by omega) h
      exact br_f g.1 (br_f (Int32.not_le.mpr g.2) Y)
  have o := ok a ha
  have H : ∀ z z0, z0 = nI z → z ≤ B → ((w = 1 ∧ ic_N a_trueTargets a = z) ∨ (w = 0 ∧ ic_N a_falseTargets a = z)) → wX_depends_47 (fun r => wpY_depends (fun r' v' => r' = r ∧ i_Rel (k + 5) (nI B, nI C, nI R, 1, f_reachable, f_guardCount, f_recordForm, f_ranBlocks, f_heldGuards, a_inputs, a_sizes, a_ops, a_dests, a_args, a_tests, a_trueTargets, a_falseTargets, a_onEveryWayTo, a_onEveryPath, a_guardNumbers, a_guardsOnTrue, a_guardsOnFalse, a_heldOnEntry, a_restoredTests, a_restoredTrue, a_restoredFalse, a_finalRegs) v') (nI B, nI C, nI R, 1, f_recorded, f_recForm, f_ranBlocks, f_recC, a_ops, a_dests, a_args, a_sizes, a_tests, a_trueTargets, a_falseTargets, a_inputs, a_finalRegs, a_complete, a_guard) (nI b) (nI a) (nI w)) (nI b) (nI a) z0 (nI B) (nI C) (nI R) 1 f_reachable f_guardCount f_recordForm f_ranBlocks f_heldGuards a_inputs a_sizes a_ops a_dests a_args a_tests a_trueTargets a_falseTargets a_onEveryWayTo a_onEveryPath a_guardNumbers a_guardsOnTrue a_guardsOnFalse a_heldOnEntry a_restoredTests a_restoredTrue a_restoredFalse a_finalRegs := by
    intro z z0 ez hz hzw
    unfold wX_depends_47
    refine xm_dep b2 cv.2.1 ha ez hz (fun q hq => ?_)
    have hqb := hq b (by omega)
    refine xm_has b rfl (by omega) (fun e => br_f (by decide) ?_) (fun e => br_t rfl ?_)
    · exact ym_dep ok b2 hT ha ra hb rb hzw (fun cm g _ => ⟨rfl, M cm g⟩) (fun cm g n => absurd (hqb.mp e) n)
    · refine ym_dep ok b2 hT ha ra hb rb hzw (fun cm g n => ?_) (fun cm g _ => ⟨rfl, M cm g⟩)
      have := hqb.mpr n
      rw [e] at this
      cases this
  refine br_f (nI_pos (by omega)) (br_t (nI_le (b := 1) (by omega) (by omega)) ?_)
  have h2 : w = 0 ∨ w = 1 := by omega
  rcases h2 with rfl | rfl
  · exact br_f (by decide) ⟨ic_v12 (by omega), H (ic_N a_falseTargets a) _ ((ic_g (by omega)).trans (hT a ha).2) o.2.2.2 (Or.inr ⟨rfl, rfl⟩)⟩
  · exact br_t (by decide) ⟨ic_v12 (by omega), H (ic_N a_trueTargets a) _ ((ic_g (by omega)).trans (hT a ha).1) o.2.1 (Or.inl ⟨rfl, rfl⟩)⟩
theorem i_vc_restored {k : Nat} {u : SX} {v : SY} (I : i_Rel k u v) (hk : k + 5 ≤ 2563) (v1 : Int32) (v2 : Int32) : wpX_restored (fun r => wpY_restored (fun r' v' => r' = r ∧ i_Rel (k + 5) u v') v v1 v2) u v1 v2 := by
  obtain ⟨B, C, R, f_converted, f_reachable, f_guardCount, f_recordForm, f_ranBlocks, f_heldGuards, a_inputs, a_sizes, a_ops, a_dests, a_args, a_tests, a_trueTargets, a_falseTargets, a_onEveryWayTo, a_onEveryPath, a_guardNumbers, a_guardsOnTrue, a_guardsOnFalse, a_heldOnEntry, a_restoredTests, a_restoredTrue, a_restoredFalse, a_finalRegs, f_recorded, f_recForm, f_recC, a_complete, a_guard, rfl, rfl, hBd, hS, hcv, hrec⟩ := I
  obtain ⟨b1, b2, c1, c2, r1, r2⟩ := id hBd
  have ok := ic_Src_ok hS b2
  have hT : ∀ b, b < B → a_trueTargets b = nI (ic_N a_trueTargets b) ∧ a_falseTargets b = nI (ic_N a_falseTargets b) := fun b hb => ic_Src_T hS b2 hb
  unfold wpX_restored
  rcases hcv with rfl | ⟨rfl, cv⟩
  · refine xm_icb_no (by omega) (Or.inl rfl) (br_t rfl ?_)
    unfold wpY_restored
    exact ym_gof_no (by omega) (Or.inl rfl) (br_t rfl ⟨rfl, ic_mk hBd hS (Or.inl rfl) hrec⟩)
  have M : ∀ cm g, i_Rel (k + 5) (nI B, nI C, nI R, 1, f_reachable, f_guardCount, f_recordForm, f_ranBlocks, f_heldGuards, a_inputs, a_sizes, a_ops, a_dests, a_args, a_tests, a_trueTargets, a_falseTargets, a_onEveryWayTo, a_onEveryPath, a_guardNumbers, a_guardsOnTrue, a_guardsOnFalse, a_heldOnEntry, a_restoredTests, a_restoredTrue, a_restoredFalse, a_finalRegs) (nI B, nI C, nI R, 1, f_recorded, f_recForm, f_ranBlocks, f_recC, a_ops, a_dests, a_args, a_sizes, a_tests, a_trueTargets, a_falseTargets, a_inputs, a_finalRegs, cm, g) := fun cm g => ic_mk hBd hS (Or.inr ⟨rfl, cv⟩) hrec
  rcases ic_NBc v1 b2 (T := ic_N a_trueTargets) (F := ic_N a_falseTargets) with n1 | ⟨b, hb, rfl, rb⟩
  · refine xm_icb_nb b2 (Or.inr ⟨rfl, cv.1, n1⟩) (br_t rfl ?_)
    unfold wpY_restored
    exact ym_gof_nb ok b2 hT (Or.inr ⟨rfl, n1⟩) (fun cm g => br_t rfl ⟨rfl, M cm g⟩)
  refine xm_icb b2 hb cv.1 (fun _ => br_f (by decide) ?_) (fun q => absurd rb q)
  have v12 : vp_in (nI b) 12 := ic_v12 (by omega)
  have cb : (nI b).toNatClampNeg = b := nI_clamp (by omega)
  obtain ⟨t1, t2, t3, t4⟩ := cv.2.2.2.2.2 b hb rb
  have o := ok b hb
  have hTb := hT b hb
  have Y : ∀ r, (∀ cm g, ((v2 = 0 → (vp_in (nI b) 12 ∧ (vp_in (nI b) 12 ∧ (((a_trueTargets (nI b).toNatClampNeg) = (a_falseTargets (nI b).toNatClampNeg) → (-1 = r)) ∧ (¬ (a_trueTargets (nI b).toNatClampNeg) = (a_falseTargets (nI b).toNatClampNeg) → wpY_source (fun r' => r' = r) (nI B, nI C, nI R, 1, f_recorded, f_recForm, f_ranBlocks, f_recC, a_ops, a_dests, a_args, a_sizes, a_tests, a_trueTargets, a_falseTargets, a_inputs, a_finalRegs, cm, g) (nI b) v2))))) ∧ (¬ v2 = 0 → wpY_source (fun r' => r' = r) (nI B, nI C, nI R, 1, f_recorded, f_recForm, f_ranBlocks, f_recC, a_ops, a_dests, a_args, a_sizes, a_tests, a_trueTargets, a_falseTargets, a_inputs, a_finalRegs, cm, g) (nI b) v2))) → wpY_restored (fun r' v' => r' = r ∧ i_Rel (k + 5) (nI B, nI C, nI R, 1, f_reachable, f_guardCount, f_recordForm, f_ranBlocks, f_heldGuards, a_inputs, a_sizes, a_ops, a_dests, a_args, a_tests, a_trueTargets, a_falseTargets, a_onEveryWayTo, a_onEveryPath, a_guardNumbers, a_guardsOnTrue, a_guardsOnFalse, a_heldOnEntry, a_restoredTests, a_restoredTrue, a_restoredFalse, a_finalRegs) v') (nI B, nI C, nI R, 1, f_recorded, f_recForm, f_ranBlocks, f_recC, a_ops, a_dests, a_args, a_sizes, a_tests, a_trueTargets, a_falseTargets, a_inputs, a_finalRegs, a_complete, a_guard) (nI b) v2 := by
    intro r H
    unfold wpY_restored
    refine ym_gof_re ok b2 hT hb rb (fun cm g x hx => br_f hx ?_)
    have S : wpY_source (fun r' => r' = r) (nI B, nI C, nI R, 1, f_recorded, f_recForm, f_ranBlocks, f_recC, a_ops, a_dests, a_args, a_sizes, a_tests, a_trueTargets, a_falseTargets, a_inputs, a_finalRegs, cm, g) (nI b) v2 → wY_restored_32 (fun r' v' => r' = r ∧ i_Rel (k + 5) (nI B, nI C, nI R, 1, f_reachable, f_guardCount, f_recordForm, f_ranBlocks, f_heldGuards, a_inputs, a_sizes, a_ops, a_dests, a_args, a_tests, a_trueTargets, a_falseTargets, a_onEveryWayTo, a_onEveryPath, a_guardNumbers, a_guardsOnTrue, a_guardsOnFalse, a_heldOnEntry, a_restoredTests, a_restoredTrue, a_restoredFalse, a_finalRegs) v') (nI b) v2 (nI B) (nI C) (nI R) 1 f_recorded f_recForm f_ranBlocks f_recC a_ops a_dests a_args a_sizes a_tests a_trueTargets a_falseTargets a_inputs a_finalRegs cm g := by
      intro h
      unfold wY_restored_32
      exact ym_src_mono (fun r' e => ⟨e, M cm g⟩) h
    refine br_c (fun e => ?_) (fun e => S ((H cm g).2 e))
    have h := (H cm g).1 e
    exact ⟨v12, v12, br_c (fun e2 => ⟨h.2.2.1 e2, M cm g⟩) (fun e2 => S (h.2.2.2 e2))⟩
  rcases ic_cls v2 (n := 4) (by omega) with h | ⟨j, hj, rfl⟩
  · have n0 : ¬ v2 = 0 := by
      rintro rfl
      rcases h with h | h
      · exact absurd h (by decide)
      · exact absurd h (by decide)
    have YY := Y (-1) (fun cm g => br_f n0 (by
      unfold wpY_source
      exact ym_in b B rfl rfl (by omega) hb (br_f (by decide) (ym_out 4 (by decide) (by omega) h (br_t rfl rfl)))))
    rcases h with h | h
    · exact br_t h YY
    · have g := ic_not_lt (n := 3) (by omega) h
      exact br_f g.1 (br_t g.2 YY)
  · have h4 : j = 0 ∨ j = 1 ∨ j = 2 ∨ j = 3 := by omega
    refine br_f (nI_pos (by omega)) (br_f (nI_nlt (a := 3) (by omega) (by omega)) ?_)
    rcases h4 with rfl | rfl | rfl | rfl
    · refine br_t (by decide) ⟨v12, Y _ (fun cm g => br_t (by decide) ⟨v12, v12, ?_⟩)⟩
      rw [cb, hTb.1, hTb.2]
      refine pk_eq (ic_N a_trueTargets b) (ic_N a_falseTargets b) (fun e => (t3 e).symm) (fun e => ?_)
      unfold wpY_source
      exact ym_in b B rfl rfl (by omega) hb (br_f (by decide) (ym_in 0 4 rfl (by decide) (by omega) (by omega) (br_f (by decide) (br_f (by decide) (br_t (by decide) ⟨v12, by rw [cb, t4 e]⟩)))))
    · refine br_f (by decide) (br_t (by decide) ⟨v12, Y _ (fun cm g => br_f (by decide) ?_)⟩)
      unfold wpY_source
      exact ym_in b B rfl rfl (by omega) hb (br_f (by decide) (ym_in 1 4 rfl (by decide) (by omega) (by omega) (br_f (by decide) (br_f (by decide) (br_f (by decide) (br_t (by decide) ⟨v12, by rw [cb, t1, hTb.1]⟩))))))
    · refine br_f (by decide) (br_f (by decide) (br_t (by decide) ⟨v12, Y _ (fun cm g => br_f (by decide) ?_)⟩))
      unfold wpY_source
      exact ym_in b B rfl rfl (by omega) hb (br_f (by decide) (ym_in 2 4 rfl (by decide) (by omega) (by omega) (br_f (by decide) (br_f (by decide) (br_f (by decide) (br_f (by decide) ⟨v12, by rw [cb, t2, hTb.2]⟩))))))
    · refine br_f (by decide) (br_f (by decide) (br_f (by decide) (br_t (by decide) ⟨v12, Y _ (fun cm g => br_f (by decide) ?_)⟩)))
      unfold wpY_source
      exact ym_in b B rfl rfl (by omega) hb (br_f (by decide) (ym_in 3 4 rfl (by decide) (by omega) (by omega) (br_f (by decide) (br_t (by decide) ⟨v12, rfl⟩))))
end
section
/-! run and holds -/
section
variable {B C R : Nat} {T F : Nat → Nat} {f_blocks f_cells f_regs f_converted f_recorded f_recForm f_recRan f_recC : Int32} {a_ops a_dests a_args a_size a_test a_onTrue a_onFalse a_inputs a_recRegs a_complete a_guard : Nat → Int32}
theorem ym_run (hB : B ≤ 12) (hC : C ≤ 4) (hR : R ≤ 8) (hS : ic_Src B C R a_size a_ops a_dests a_args a_test a_onTrue a_onFalse) {post : Int32 → SY → Prop} {f stop : Nat} (hf : f < 3) (hst : stop ≤ B) (hc : f = 0 ∨ ¬ f_converted = 0) (hp : post (nI (ic_rn a_size a_ops a_dests a_args a_test a_onTrue a_onFalse (ic_cp a_inputs a_recRegs R) stop).1) (nI B, f_cells, nI R, f_converted, 1, nI f, (ic_rn a_size a_ops a_dests a_args a_test a_onTrue a_onFalse (ic_cp a_inputs a_recRegs R) stop).2.2, nI (ic_rn a_size a_ops a_dests a_args a_test a_onTrue a_onFalse (ic_cp a_inputs a_recRegs R) stop).1, a_ops, a_dests, a_args, a_size, a_test, a_onTrue, a_onFalse, a_inputs, (ic_rn a_size a_ops a_dests a_args a_test a_onTrue a_onFalse (ic_cp a_inputs a_recRegs R) stop).2.1, a_complete, a_guard)) :
    wpY_run post (nI B, f_cells, nI R, f_converted, f_recorded, f_recForm, f_recRan, f_recC, a_ops, a_dests, a_args, a_size, a_test, a_onTrue, a_onFalse, a_inputs, a_recRegs, a_complete, a_guard) (nI f) (nI stop) := by
  have H : wY_run_38 post (nI f) (nI stop) (nI B) f_cells (nI R) f_converted f_recorded f_recForm f_recRan f_recC a_ops a_dests a_args a_size a_test a_onTrue a_onFalse a_inputs a_recRegs a_complete a_guard := ym_38 hB hC hR hS rfl hst hp
  unfold wpY_run
  refine ym_in f 3 rfl (by decide) (by omega) hf (br_f (by decide) (br_f (nI_pos (by omega)) (br_t (nI_le hst (by omega)) ?_)))
  by_cases e : f = 0
  · exact br_t (by rw [e]; exact nI_0) H
  · exact br_f (nI_ne0 (by omega) (by omega)) (br_f (hc.resolve_left e) H)
theorem ym_h63 {post : Int32 → SY → Prop} {J : Int32 → Prop} {x3 : Int32} {g : Nat} (hB : B ≤ 12) (h0 : ∀ b, b < B → a_guard b = nI g → bt (f_recRan ||| x3) b = false → post 0 (nI B, f_cells, f_regs, f_converted, f_recorded, f_recForm, f_recRan, f_recC, a_ops, a_dests, a_args, a_size, a_test, a_onTrue, a_onFalse, a_inputs, a_recRegs, a_complete, a_guard))
    (h1 : (∀ b, b < B → a_guard b = nI g → bt (f_recRan ||| x3) b = true) → ∀ y, y = x3 + 1 → J y) :
    ∀ d b, b + d = B → (∀ c, c < b → a_guard c = nI g → bt (f_recRan ||| x3) c = true) → ∀ n, d < n → wY_holds_63 post J (nI g) x3 (nI B) f_cells f_regs f_converted f_recorded f_recForm f_recRan f_recC a_ops a_dests a_args a_size a_test a_onTrue a_onFalse a_inputs a_recRegs a_complete a_guard n (nI b) := by
  intro d
  induction d with
  | zero =>
    intro b hb h n hn
    cases n with
    | zero => exact absurd hn (Nat.not_lt_zero _)
    | succ n =>
      have e : b = B := by omega
      rw [e] at h
      exact br_t (nI_le (by omega) (by omega)) (h1 h)
  | succ d ih =>
    intro b hb h n hn
    cases n with
    | zero => exact absurd hn (Nat.not_lt_zero _)
    | succ n =>
      have N : (a_guard b = nI g → bt (f_recRan ||| x3) b = true) → ∀ y, y = nI b + 1 → wY_holds_63 post J (nI g) x3 (nI B) f_cells f_regs f_converted f_recorded f_recForm f_recRan f_recC a_ops a_dests a_args a_size a_test a_onTrue a_onFalse a_inputs a_recRegs a_complete a_guard n y := by
        intro q
        refine nm_r (nI_1 b) (ih (b + 1) (by omega) (fun c hc => ?_) n (by omega))
        by_cases e : c = b
        · rw [e]
          exact q
        · exact h c (by omega)
      refine br_f (nI_ge (by omega) (by omega)) ⟨ic_v12 (by omega), br_c (fun q => ?_) (fun q => N (fun z => ?_))⟩
      · rw [nI_clamp (by omega)] at q
        exact ym_has b rfl (by omega) (fun e => br_f (by decide) (N (fun _ => e))) (fun e => br_t rfl (h0 b (by omega) q e))
      · rw [nI_clamp (by omega)] at q
        exact absurd z q
theorem ym_h35 (ok : ic_Ok B T F) (hB : B ≤ 12) (hT : ∀ b, b < B → a_onTrue b = nI (T b) ∧ a_onFalse b = nI (F b)) {post : Int32 → SY → Prop} {g c : Nat} (hc : c ≤ B) (ec : f_recC = nI c)
    (h0 : ¬ (∀ s, s < 2 ^ B → ic_YP B T F s.testBit c → ∀ b, b < B → a_guard b = nI g → bt (f_recRan ||| nI s) b = true) → post 0 (nI B, f_cells, f_regs, f_converted, f_recorded, f_recForm, f_recRan, f_recC, a_ops, a_dests, a_args, a_size, a_test, a_onTrue, a_onFalse, a_inputs, a_recRegs, a_complete, a_guard))
    (h1 : (∀ s, s < 2 ^ B → ic_YP B T F s.testBit c → ∀ b, b < B → a_guard b = nI g → bt (f_recRan ||| nI s) b = true) → post 1 (nI B, f_cells, f_regs, f_converted, f_recorded, f_recForm, f_recRan, f_recC, a_ops, a_dests, a_args, a_size, a_test, a_onTrue, a_onFalse, a_inputs, a_recRegs, a_complete, a_guard)) :
    ∀ d m, m + d = 2 ^ B → (∀ s, s < m → ic_YP B T F s.testBit c → ∀ b, b < B → a_guard b = nI g → bt (f_recRan ||| nI s) b = true) → ∀ n, d < n → wY_holds_35 post (nI g) (nI B) f_cells f_regs f_converted f_recorded f_recForm f_recRan f_recC a_ops a_dests a_args a_size a_test a_onTrue a_onFalse a_inputs a_recRegs a_complete a_guard n (nI m) := by
  have h2 := ic_pB hB
  intro d
  induction d with
  | zero =>
    intro m hm h n hn
    cases n with
    | zero => exact absurd hn (Nat.not_lt_zero _)
    | succ n =>
      have e : m = 2 ^ B := by omega
      rw [e] at h
      exact br_t (by rw [ic_p2 B (by omega)]; exact nI_le (by omega) (by omega)) (h1 h)
  | succ d ih =>
    intro m hm h n hn
    cases n with
    | zero => exact absurd hn (Nat.not_lt_zero _)
    | succ n =>
      have N : (ic_YP B T F m.testBit c → ∀ b, b < B → a_guard b = nI g → bt (f_recRan ||| nI m) b = true) → ∀ y, y = nI m + 1 → wY_holds_35 post (nI g) (nI B) f_cells f_regs f_converted f_recorded f_recForm f_recRan f_recC a_ops a_dests a_args a_size a_test a_onTrue a_onFalse a_inputs a_recRegs a_complete a_guard n y := by
        intro q
        refine nm_r (nI_1 m) (ih (m + 1) (by omega) (fun s hs => ?_) n (by omega))
        by_cases e : s = m
        · rw [e]
          exact q
        · exact h s (by omega)
      refine br_f (by rw [ic_p2 B (by omega)]; exact nI_ge (by omega) (by omega)) ?_
      refine ym_path ok hB hT hc (by omega) ec (fun q => br_f (by decide) ?_) (fun q => br_t rfl (N (fun z => absurd z q)))
      refine ⟨B + 1, ym_h63 hB (fun b hb e1 e2 => h0 (fun K => ?_)) (fun H => N (fun _ => H)) B 0 (by omega) (fun c hc => absurd hc (Nat.not_lt_zero c)) (B + 1) (by omega)⟩
      have := K m (by omega) q b hb e1
      rw [e2] at this
      cases this
end
theorem i_vc_holds {k : Nat} {u : SX} {v : SY} (I : i_Rel k u v) (hk : k + 5 ≤ 2563) (v1 : Int32) : wpX_holds (fun r => wpY_holds (fun r' v' => r' = r ∧ i_Rel (k + 5) u v') v v1) u v1 := by
  obtain ⟨B, C, R, f_converted, f_reachable, f_guardCount, f_recordForm, f_ranBlocks, f_heldGuards, a_inputs, a_sizes, a_ops, a_dests, a_args, a_tests, a_trueTargets, a_falseTargets, a_onEveryWayTo, a_onEveryPath, a_guardNumbers, a_guardsOnTrue, a_guardsOnFalse, a_heldOnEntry, a_restoredTests, a_restoredTrue, a_restoredFalse, a_finalRegs, f_recorded, f_recForm, f_recC, a_complete, a_guard, rfl, rfl, hBd, hS, hcv, hrec⟩ := I
  obtain ⟨b1, b2, c1, c2, r1, r2⟩ := id hBd
  have ok := ic_Src_ok hS b2
  have hT : ∀ b, b < B → a_trueTargets b = nI (ic_N a_trueTargets b) ∧ a_falseTargets b = nI (ic_N a_falseTargets b) := fun b hb => ic_Src_T hS b2 hb
  have M : ∀ cm g, i_Rel (k + 5) (nI B, nI C, nI R, f_converted, f_reachable, f_guardCount, f_recordForm, f_ranBlocks, f_heldGuards, a_inputs, a_sizes, a_ops, a_dests, a_args, a_tests, a_trueTargets, a_falseTargets, a_onEveryWayTo, a_onEveryPath, a_guardNumbers, a_guardsOnTrue, a_guardsOnFalse, a_heldOnEntry, a_restoredTests, a_restoredTrue, a_restoredFalse, a_finalRegs) (nI B, nI C, nI R, f_converted, f_recorded, f_recForm, f_ranBlocks, f_recC, a_ops, a_dests, a_args, a_sizes, a_tests, a_trueTargets, a_falseTargets, a_inputs, a_finalRegs, cm, g) := fun cm g => ic_mk hBd hS hcv hrec
  rcases hrec with ⟨q1, q2⟩ | ⟨q1, q2, q3 | q3 | ⟨q3, q4, V, c, ec, J, hV⟩⟩
  · exact br_f (by rw [q1]; decide) (br_t q2 ⟨rfl, M _ _⟩)
  · exact br_f (by rw [q3]; decide) (br_f (by rw [q1]; decide) (br_f (by rw [q2, q3]; decide) ⟨rfl, M _ _⟩))
  · exact br_f (by rw [q3]; decide) (br_f (by rw [q1]; decide) (br_f (by rw [q2, q3]; decide) ⟨rfl, M _ _⟩))
  have cv := (hcv.resolve_left (by rw [q4]; decide)).2
  have gc := cv.2.2.1
  have hcnt := ic_cnt_le (B := B) (T := ic_N a_trueTargets) (F := ic_N a_falseTargets) B
  refine br_t q3 ?_
  have P : ∀ r, (∀ cm g, (∀ b, b < B → g b = ic_gy B (ic_N a_trueTargets) (ic_N a_falseTargets) b) → wpY_within (fun r_23 => (((r_23 = 0 → (-1 = r ∧ i_Rel (k + 5) (nI B, nI C, nI R, f_converted, f_reachable, f_guardCount, f_recordForm, f_ranBlocks, f_heldGuards, a_inputs, a_sizes, a_ops, a_dests, a_args, a_tests, a_trueTargets, a_falseTargets, a_onEveryWayTo, a_onEveryPath, a_guardNumbers, a_guardsOnTrue, a_guardsOnFalse, a_heldOnEntry, a_restoredTests, a_restoredTrue, a_restoredFalse, a_finalRegs) (nI B, nI C, nI R, f_converted, f_recorded, f_recForm, f_ranBlocks, f_recC, a_ops, a_dests, a_args, a_sizes, a_tests, a_trueTargets, a_falseTargets, a_inputs, a_finalRegs, cm, g))) ∧ (¬ r_23 = 0 → (∃ n35 : Nat, wY_holds_35 (fun r' v' => r' = r ∧ i_Rel (k + 5) (nI B, nI C, nI R, f_converted, f_reachable, f_guardCount, f_recordForm, f_ranBlocks, f_heldGuards, a_inputs, a_sizes, a_ops, a_dests, a_args, a_tests, a_trueTargets, a_falseTargets, a_onEveryWayTo, a_onEveryPath, a_guardNumbers, a_guardsOnTrue, a_guardsOnFalse, a_heldOnEntry, a_restoredTests, a_restoredTrue, a_restoredFalse, a_finalRegs) v') v1 (nI B) (nI C) (nI R) f_converted f_recorded f_recForm f_ranBlocks f_recC a_ops a_dests a_args a_sizes a_tests a_trueTargets a_falseTargets a_inputs a_finalRegs cm g n35 0))))) (nI B, nI C, nI R, f_converted, f_recorded, f_recForm, f_ranBlocks, f_recC, a_ops, a_dests, a_args, a_sizes, a_tests, a_trueTargets, a_falseTargets, a_inputs, a_finalRegs, cm, g) v1 (nI (ic_cnt B (ic_N a_trueTargets) (ic_N a_falseTargets) B))) → wpY_holds (fun r' v' => r' = r ∧ i_Rel (k + 5) (nI B, nI C, nI R, f_converted, f_reachable, f_guardCount, f_recordForm, f_ranBlocks, f_heldGuards, a_inputs, a_sizes, a_ops, a_dests, a_args, a_tests, a_trueTargets, a_falseTargets, a_onEveryWayTo, a_onEveryPath, a_guardNumbers, a_guardsOnTrue, a_guardsOnFalse, a_heldOnEntry, a_restoredTests, a_restoredTrue, a_restoredFalse, a_finalRegs) v') (nI B, nI C, nI R, f_converted, f_recorded, f_recForm, f_ranBlocks, f_recC, a_ops, a_dests, a_args, a_sizes, a_tests, a_trueTargets, a_falseTargets, a_inputs, a_finalRegs, a_complete, a_guard) v1 := by
    intro r H
    refine br_f (by rw [q1]; decide) (br_t (by rw [q2, q3]) ?_)
    exact ym_ng ok b2 hT (fun cm g hg => H cm g hg)
  rcases ic_cls v1 (n := ic_cnt B (ic_N a_trueTargets) (ic_N a_falseTargets) B) (by omega) with h | ⟨g, hg, rfl⟩
  · have YY := P (-1) (fun cm gd _ => ym_out _ rfl (by omega) h (br_t rfl ⟨rfl, M cm gd⟩))
    rcases h with h | h
    · exact br_t h YY
    · refine br_f (ic_not_le (by omega) h) (br_f ?_ YY)
      rw [gc]
      exact Int32.not_lt.mpr h
  refine br_f (nI_pos (by omega)) (br_t (by rw [gc]; exact nI_lt hg (by omega)) ?_)
  have E := ic_holds J hg
  have hcB := J.2.1
  have Q : ∀ gd : Nat → Int32, (∀ b, b < B → gd b = ic_gy B (ic_N a_trueTargets) (ic_N a_falseTargets) b) → ((∀ s, s < 2 ^ B → ic_YP B (ic_N a_trueTargets) (ic_N a_falseTargets) s.testBit c → ∀ b, b < B → gd b = nI g → bt (f_ranBlocks ||| nI s) b = true) ↔ bt f_heldGuards g = true) := by
    intro gd hgd
    rw [ic_set_H b2 hV (by omega) hgd, E]
  refine xm_has g rfl (by omega) (fun e => br_f (by decide) ?_) (fun e => br_t rfl ?_)
  · refine P 1 (fun cm gd hgd => ?_)
    refine ym_in g _ rfl rfl (by omega) hg (br_f (by decide) ⟨2 ^ B + 1, ?_⟩)
    exact ym_h35 ok b2 hT hcB ec (fun n => absurd ((Q gd hgd).mpr e) n) (fun _ => ⟨rfl, M cm gd⟩) (2 ^ B) 0 (by omega) (fun s hs => absurd hs (Nat.not_lt_zero s)) (2 ^ B + 1) (by omega)
  · refine P 0 (fun cm gd hgd => ?_)
    refine ym_in g _ rfl rfl (by omega) hg (br_f (by decide) ⟨2 ^ B + 1, ?_⟩)
    refine ym_h35 ok b2 hT hcB ec (fun _ => ⟨rfl, M cm gd⟩) (fun n => ?_) (2 ^ B) 0 (by omega) (fun s hs => absurd hs (Nat.not_lt_zero s)) (2 ^ B + 1) (by omega)
    have := (Q gd hgd).mp n
    rw [e] at this
    cases this
theorem i_vc_run {k : Nat} {u : SX} {v : SY} (I : i_Rel k u v) (hk : k + 5 ≤ 2563) (v1 : Int32) (v2 : Int32) : wpX_run (fun r u' => wpY_run (fun r' v' => r' = r ∧ i_Rel (k + 5) u' v') v v1 v2) u v1 v2 := by
  have I' := I
  obtain ⟨B, C, R, f_converted, f_reachable, f_guardCount, f_recordForm, f_ranBlocks, f_heldGuards, a_inputs, a_sizes, a_ops, a_dests, a_args, a_tests, a_trueTargets, a_falseTargets, a_onEveryWayTo, a_onEveryPath, a_guardNumbers, a_guardsOnTrue, a_guardsOnFalse, a_heldOnEntry, a_restoredTests, a_restoredTrue, a_restoredFalse, a_finalRegs, f_recorded, f_recForm, f_recC, a_complete, a_guard, rfl, rfl, hBd, hS, hcv, hrec⟩ := I
  obtain ⟨b1, b2, c1, c2, r1, r2⟩ := id hBd
  have ok := ic_Src_ok hS b2
  have hT : ∀ b, b < B → a_trueTargets b = nI (ic_N a_trueTargets b) ∧ a_falseTargets b = nI (ic_N a_falseTargets b) := fun b hb => ic_Src_T hS b2 hb
  rcases ic_cls v1 (n := 3) (by omega) with h | ⟨f, hf, rfl⟩
  · have Y : wpY_run (fun r' v' => r' = -2 ∧ i_Rel (k + 5) (nI B, nI C, nI R, f_converted, f_reachable, f_guardCount, f_recordForm, f_ranBlocks, f_heldGuards, a_inputs, a_sizes, a_ops, a_dests, a_args, a_tests, a_trueTargets, a_falseTargets, a_onEveryWayTo, a_onEveryPath, a_guardNumbers, a_guardsOnTrue, a_guardsOnFalse, a_heldOnEntry, a_restoredTests, a_restoredTrue, a_restoredFalse, a_finalRegs) v') (nI B, nI C, nI R, f_converted, f_recorded, f_recForm, f_ranBlocks, f_recC, a_ops, a_dests, a_args, a_sizes, a_tests, a_trueTargets, a_falseTargets, a_inputs, a_finalRegs, a_complete, a_guard) v1 v2 := by
      unfold wpY_run
      exact ym_out 3 (by decide) (by omega) h (br_t rfl ⟨rfl, I'⟩)
    rcases h with h | h
    · exact br_t h Y
    · have g := ic_not_lt (n := 2) (by omega) h
      exact br_f g.1 (br_t g.2 Y)
  refine br_f (nI_pos (by omega)) (br_f (nI_nlt (a := 2) (by omega) (by omega)) ?_)
  rcases ic_cls v2 (n := B + 1) (by omega) with h | ⟨stop, hs, rfl⟩
  · rcases h with h | h
    · refine br_t h ?_
      unfold wpY_run
      exact ym_in f 3 rfl (by decide) (by omega) hf (br_f (by decide) (br_t h ⟨rfl, I'⟩))
    · have g := ic_not_lt (n := B) (by omega) h
      refine br_f g.1 (br_f (Int32.not_le.mpr g.2) ?_)
      unfold wpY_run
      exact ym_in f 3 rfl (by decide) (by omega) hf (br_f (by decide) (br_f g.1 (br_f (Int32.not_le.mpr g.2) ⟨rfl, I'⟩)))
  have hst : stop ≤ B := by omega
  refine br_f (nI_pos (by omega)) (br_t (nI_le hst (by omega)) ?_)
  have h3 : f = 0 ∨ f = 1 ∨ f = 2 := by omega
  rcases h3 with rfl | rfl | rfl
  · refine br_t (by decide) ?_
    unfold wX_run_38
    refine xm_start r2 (br_f (by decide) (br_f (by decide) ?_))
    refine xm_rbS b2 c2 r2 hS (fun b hb _ => ⟨(hT b hb).1, (hT b hb).2, Or.inl rfl⟩) hst ?_
    exact ym_run b2 c2 r2 hS hf hst (Or.inl rfl) ⟨rfl, ic_mk hBd hS hcv (Or.inr ⟨rfl, rfl, Or.inl nI_0⟩)⟩
  · refine br_f (by decide) ?_
    rcases hcv with rfl | ⟨rfl, cv⟩
    · refine br_t rfl ?_
      unfold wpY_run
      exact ym_in 1 3 rfl (by decide) (by omega) hf (br_f (by decide) (br_f (nI_pos (by omega)) (br_t (nI_le hst (by omega)) (br_f (by decide) (br_t rfl ⟨rfl, I'⟩)))))
    · refine br_f (by decide) ?_
      unfold wX_run_38
      refine xm_start r2 (br_t (by decide) ?_)
      refine xm_rs b2 (by omega) c2 r2 hS cv.2.2.2.1 cv.2.2.2.2.1 hst (fun h V hV J => ?_)
      exact ym_run b2 c2 r2 hS hf hst (Or.inr (by decide)) ⟨rfl, ic_mk hBd hS (Or.inr ⟨rfl, cv⟩) (Or.inr ⟨rfl, rfl, Or.inr (Or.inr ⟨by decide, rfl, V, _, rfl, J, hV.2.2.2.2⟩)⟩)⟩
  · refine br_f (by decide) ?_
    rcases hcv with rfl | ⟨rfl, cv⟩
    · refine br_t rfl ?_
      unfold wpY_run
      exact ym_in 2 3 rfl (by decide) (by omega) hf (br_f (by decide) (br_f (nI_pos (by omega)) (br_t (nI_le hst (by omega)) (br_f (by decide) (br_t rfl ⟨rfl, I'⟩)))))
    · refine br_f (by decide) ?_
      unfold wX_run_38
      refine xm_start r2 (br_f (by decide) (br_t (by decide) ?_))
      refine xm_rbR b2 c2 r2 hS (fun b hb rb => ?_) hst ?_
      · obtain ⟨t1, t2, t3, t4⟩ := cv.2.2.2.2.2 b hb rb
        refine ⟨t1, t2, ?_⟩
        by_cases e : ic_N a_trueTargets b = ic_N a_falseTargets b
        · exact Or.inr ⟨e, t3 e⟩
        · exact Or.inl (t4 e)
      · exact ym_run b2 c2 r2 hS hf hst (Or.inr (by decide)) ⟨rfl, ic_mk hBd hS (Or.inr ⟨rfl, cv⟩) (Or.inr ⟨rfl, rfl, Or.inr (Or.inl (by decide))⟩)⟩
end
