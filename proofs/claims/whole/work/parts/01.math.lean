/-! the mathematics: walks over a region whose edges rise, what lies on every path, what is passed on every way, guards -/
section
variable (B : Nat) (T F : Nat → Nat)
/-- a walk from x to y over the blocks w (y itself left out) -/
def ic_wy : List Nat → Nat → Nat → Prop
  | [], x, y => x = y
  | a :: w, x, y => a = x ∧ x < B ∧ (ic_wy w (T x) y ∨ ic_wy w (F x) y)
def ic_Ok : Prop := ∀ b, b < B → b < T b ∧ T b ≤ B ∧ b < F b ∧ F b ≤ B
/-- every path from x contains b -/
def ic_A (x b : Nat) : Prop := ∀ l, ic_wy B T F l x B → b ∈ l
def ic_Re (b : Nat) : Prop := ∃ w, ic_wy B T F w 0 b
/-- every way from 0 to b passes a -/
def ic_Do (b a : Nat) : Prop := ∀ w, ic_wy B T F w 0 b → a ∈ w
def ic_Tg (a b : Nat) : Prop := ∀ l, ic_wy B T F l 0 B → (a ∈ l ↔ b ∈ l)
end
section
variable {B : Nat} {T F : Nat → Nat}
theorem ic_app {w l : List Nat} {x y z : Nat} (h : ic_wy B T F w x y) (k : ic_wy B T F l y z) : ic_wy B T F (w ++ l) x z := by
  induction w generalizing x with
  | nil =>
    have h : x = y := h
    rw [h]
    exact k
  | cons a w ih =>
    obtain ⟨h1, h2, h3⟩ := h
    exact ⟨h1, h2, h3.elim (fun g => Or.inl (ih g)) (fun g => Or.inr (ih g))⟩
theorem ic_split {l : List Nat} {x y z : Nat} (h : ic_wy B T F l x z) (m : y ∈ l) : ∃ w l', l = w ++ l' ∧ ic_wy B T F w x y ∧ ic_wy B T F l' y z := by
  induction l generalizing x with
  | nil => cases m
  | cons a l ih =>
    have h' := h
    obtain ⟨h1, h2, h3⟩ := h
    by_cases e : y = a
    · have ex : x = y := h1.symm.trans e.symm
      exact ⟨[], a :: l, rfl, ex, by rw [← ex]; exact h'⟩
    · have m' : y ∈ l := by
        rcases List.mem_cons.mp m with g | g
        · exact absurd g e
        · exact g
      rcases h3 with g | g
      · obtain ⟨w, l', e1, e2, e3⟩ := ih g m'
        exact ⟨a :: w, l', by simp [e1], ⟨h1, h2, Or.inl e2⟩, e3⟩
      · obtain ⟨w, l', e1, e2, e3⟩ := ih g m'
        exact ⟨a :: w, l', by simp [e1], ⟨h1, h2, Or.inr e2⟩, e3⟩
theorem ic_ge (ok : ic_Ok B T F) {w : List Nat} {x y : Nat} (h : ic_wy B T F w x y) : x ≤ y ∧ ∀ a, a ∈ w → x ≤ a ∧ a < y := by
  induction w generalizing x with
  | nil =>
    have h : x = y := h
    exact ⟨by omega, fun a m => by cases m⟩
  | cons b w ih =>
    obtain ⟨h1, h2, h3⟩ := h
    have o := ok x h2
    have q : ∃ z, x < z ∧ z ≤ y ∧ ∀ a, a ∈ w → z ≤ a ∧ a < y := by
      rcases h3 with g | g
      · exact ⟨T x, o.1, (ih g).1, (ih g).2⟩
      · exact ⟨F x, o.2.2.1, (ih g).1, (ih g).2⟩
    obtain ⟨z, q1, q2, q3⟩ := q
    refine ⟨by omega, fun a m => ?_⟩
    rcases List.mem_cons.mp m with g | g
    · omega
    · have := q3 a g
      omega
theorem ic_ex (ok : ic_Ok B T F) {x : Nat} (hx : x ≤ B) : ∃ l, ic_wy B T F l x B := by
  have H : ∀ n x, x ≤ B → B - x ≤ n → ∃ l, ic_wy B T F l x B := by
    intro n
    induction n with
    | zero =>
      intro x h1 h2
      have e : x = B := by omega
      exact ⟨[], e⟩
    | succ n ih =>
      intro x h1 h2
      by_cases e : x = B
      · exact ⟨[], e⟩
      · have o := ok x (by omega)
        obtain ⟨l, hl⟩ := ih (T x) o.2.1 (by omega)
        exact ⟨x :: l, rfl, by omega, Or.inl hl⟩
  exact H _ x hx (Nat.le_refl _)
theorem ic_A_B {b : Nat} : ¬ ic_A B T F B b := fun h => by
  have g := h [] rfl
  cases g
theorem ic_A_s {x b : Nat} (hx : x < B) : ic_A B T F x b ↔ (b = x ∨ (ic_A B T F (T x) b ∧ ic_A B T F (F x) b)) := by
  constructor
  · intro h
    by_cases e : b = x
    · exact Or.inl e
    · refine Or.inr ⟨fun l hl => ?_, fun l hl => ?_⟩
      · have m := h (x :: l) ⟨rfl, hx, Or.inl hl⟩
        rcases List.mem_cons.mp m with g | g
        · exact absurd g e
        · exact g
      · have m := h (x :: l) ⟨rfl, hx, Or.inr hl⟩
        rcases List.mem_cons.mp m with g | g
        · exact absurd g e
        · exact g
  · intro h l hl
    cases l with
    | nil =>
      have e : x = B := hl
      omega
    | cons a l =>
      obtain ⟨h1, _, h3⟩ := hl
      rcases h with e | ⟨g1, g2⟩
      · have e2 : b = a := by omega
        rw [e2]
        exact List.mem_cons.mpr (Or.inl rfl)
      · rcases h3 with k | k
        · exact List.mem_cons_of_mem _ (g1 l k)
        · exact List.mem_cons_of_mem _ (g2 l k)
theorem ic_A_b (ok : ic_Ok B T F) {x b : Nat} (hx : x ≤ B) (h : ic_A B T F x b) : x ≤ b ∧ b < B := by
  obtain ⟨l, hl⟩ := ic_ex ok hx
  exact (ic_ge ok hl).2 b (h l hl)
theorem ic_snoc {w : List Nat} {x y z : Nat} (h : ic_wy B T F w x y) (hy : y < B) (e : T y = z ∨ F y = z) : ic_wy B T F (w ++ [y]) x z := by
  refine ic_app h ⟨rfl, hy, ?_⟩
  rcases e with e | e
  · exact Or.inl e
  · exact Or.inr e
theorem ic_last {w : List Nat} {x z : Nat} (h : ic_wy B T F w x z) : (w = [] ∧ x = z) ∨ ∃ w' y, w = w' ++ [y] ∧ ic_wy B T F w' x y ∧ y < B ∧ (T y = z ∨ F y = z) := by
  induction w generalizing x with
  | nil => exact Or.inl ⟨rfl, h⟩
  | cons a w ih =>
    obtain ⟨h1, h2, h3⟩ := h
    have q : ∃ t, (T x = t ∨ F x = t) ∧ ic_wy B T F w t z := by
      rcases h3 with g | g
      · exact ⟨T x, Or.inl rfl, g⟩
      · exact ⟨F x, Or.inr rfl, g⟩
    obtain ⟨t, q1, q2⟩ := q
    rcases ih q2 with ⟨e1, e2⟩ | ⟨w', y, e1, e2, e3, e4⟩
    · rw [e2] at q1
      exact Or.inr ⟨[], x, by simp [e1, h1], rfl, h2, q1⟩
    · refine Or.inr ⟨a :: w', y, by simp [e1], ⟨h1, h2, ?_⟩, e3, e4⟩
      rcases q1 with g | g
      · exact Or.inl (by rw [g]; exact e2)
      · exact Or.inr (by rw [g]; exact e2)
theorem ic_Re_0 : ic_Re B T F 0 := ⟨[], rfl⟩
theorem ic_Re_s {b : Nat} : ic_Re B T F b ↔ (b = 0 ∨ ∃ p, p < B ∧ ic_Re B T F p ∧ (T p = b ∨ F p = b)) := by
  constructor
  · rintro ⟨w, h⟩
    rcases ic_last h with ⟨_, e⟩ | ⟨w', y, _, e2, e3, e4⟩
    · exact Or.inl e.symm
    · exact Or.inr ⟨y, e3, ⟨w', e2⟩, e4⟩
  · rintro (e | ⟨p, h1, ⟨w, h2⟩, h3⟩)
    · exact ⟨[], e.symm⟩
    · exact ⟨w ++ [p], ic_snoc h2 h1 h3⟩
theorem ic_Do_s {b a : Nat} : ic_Do B T F b a ↔ (b ≠ 0 ∧ ∀ p, p < B → ic_Re B T F p → (T p = b ∨ F p = b) → (ic_Do B T F p a ∨ a = p)) := by
  constructor
  · intro h
    refine ⟨fun e => ?_, fun p hp hr he => ?_⟩
    · have g := h [] (e.symm)
      cases g
    · by_cases e : a = p
      · exact Or.inr e
      · refine Or.inl fun w hw => ?_
        have m := h (w ++ [p]) (ic_snoc hw hp he)
        rcases List.mem_append.mp m with g | g
        · exact g
        · exact absurd (List.mem_singleton.mp g) e
  · rintro ⟨h0, h⟩ w hw
    rcases ic_last hw with ⟨_, e⟩ | ⟨w', y, e1, e2, e3, e4⟩
    · exact absurd e.symm h0
    · rw [e1]
      rcases h y e3 ⟨w', e2⟩ e4 with g | g
      · exact List.mem_append.mpr (Or.inl (g w' e2))
      · exact List.mem_append.mpr (Or.inr (List.mem_singleton.mpr g))
theorem ic_A_Re (ok : ic_Ok B T F) {z b : Nat} (hz : z ≤ B) (r : ic_Re B T F z) (h : ic_A B T F z b) : ic_Re B T F b := by
  obtain ⟨w, hw⟩ := r
  obtain ⟨l, hl⟩ := ic_ex ok hz
  obtain ⟨w', l', _, k, _⟩ := ic_split hl (h l hl)
  exact ⟨w ++ w', ic_app hw k⟩
theorem ic_hd {l : List Nat} {b : Nat} (hb : b < B) (h : ic_wy B T F l b B) : b ∈ l := (ic_A_s (T := T) (F := F) hb).mpr (Or.inl rfl) l h
theorem ic_Re_c (ok : ic_Ok B T F) {b : Nat} : (∃ l, ic_wy B T F l 0 B ∧ b ∈ l) ↔ (b < B ∧ ic_Re B T F b) := by
  constructor
  · rintro ⟨l, h, m⟩
    obtain ⟨w, l', _, k, _⟩ := ic_split h m
    exact ⟨((ic_ge ok h).2 b m).2, w, k⟩
  · rintro ⟨hb, w, h⟩
    obtain ⟨l, hl⟩ := ic_ex ok (Nat.le_of_lt hb)
    exact ⟨w ++ l, ic_app h hl, List.mem_append.mpr (Or.inr (ic_hd hb hl))⟩
theorem ic_Tg_iff (ok : ic_Ok B T F) {a b : Nat} (hab : a < b) (hb : b < B) (r : ic_Re B T F b) : (ic_Do B T F b a ∧ ic_A B T F a b) ↔ ic_Tg B T F a b := by
  constructor
  · rintro ⟨h1, h2⟩ l hl
    constructor
    · intro m
      obtain ⟨w, l', e, _, k2⟩ := ic_split hl m
      rw [e]
      exact List.mem_append.mpr (Or.inr (h2 l' k2))
    · intro m
      obtain ⟨w, l', e, k1, _⟩ := ic_split hl m
      rw [e]
      exact List.mem_append.mpr (Or.inl (h1 w k1))
  · intro h
    have hD : ic_Do B T F b a := by
      intro w hw
      obtain ⟨l, hl⟩ := ic_ex ok (Nat.le_of_lt hb)
      have m := (h (w ++ l) (ic_app hw hl)).mpr (List.mem_append.mpr (Or.inr (ic_hd hb hl)))
      rcases List.mem_append.mp m with g | g
      · exact g
      · have := (ic_ge ok hl).2 a g
        omega
    refine ⟨hD, fun l hl => ?_⟩
    obtain ⟨w0, hw0⟩ := r
    obtain ⟨w, _, _, k1, _⟩ := ic_split hw0 (hD w0 hw0)
    have m := (h (w ++ l) (ic_app k1 hl)).mp (List.mem_append.mpr (Or.inr (ic_hd (by omega) hl)))
    rcases List.mem_append.mp m with g | g
    · have := (ic_ge ok k1).2 b g
      omega
    · exact g
theorem ic_Tg_r {a : Nat} : ic_Tg B T F a a := fun _ _ => Iff.rfl
theorem ic_Tg_y {a b : Nat} (h : ic_Tg B T F a b) : ic_Tg B T F b a := fun l hl => (h l hl).symm
theorem ic_Tg_t {a b c : Nat} (h : ic_Tg B T F a b) (k : ic_Tg B T F b c) : ic_Tg B T F a c := fun l hl => (h l hl).trans (k l hl)
end
/-! guards: leaders, their count, each block's number -/
noncomputable def ic_c (p : Prop) : Nat := @ite Nat p (Classical.propDecidable p) 1 0
theorem ic_c_t {p : Prop} (h : p) : ic_c p = 1 := if_pos h
theorem ic_c_f {p : Prop} (h : ¬ p) : ic_c p = 0 := if_neg h
section
variable (B : Nat) (T F : Nat → Nat)
def ic_ldr (b : Nat) : Prop := ic_Re B T F b ∧ ∀ a, a < b → ¬ (ic_Re B T F a ∧ ic_Tg B T F a b)
noncomputable def ic_cnt : Nat → Nat
  | 0 => 0
  | i + 1 => ic_cnt i + ic_c (ic_ldr B T F i)
noncomputable def ic_ld (b : Nat) : Nat := Classical.epsilon (fun x => x ≤ b ∧ ic_ldr B T F x ∧ ic_Tg B T F x b)
noncomputable def ic_G (b : Nat) : Nat := ic_cnt B T F (ic_ld B T F b)
/-- the guard number that X keeps: 12 where there is none -/
noncomputable def ic_gn (b : Nat) : Nat := @ite Nat (ic_Re B T F b) (Classical.propDecidable _) (ic_G B T F b) 12
end
section
variable {B : Nat} {T F : Nat → Nat}
theorem ic_gn_t {b : Nat} (h : ic_Re B T F b) : ic_gn B T F b = ic_G B T F b := if_pos h
theorem ic_gn_f {b : Nat} (h : ¬ ic_Re B T F b) : ic_gn B T F b = 12 := if_neg h
theorem ic_ld_ex : ∀ n b, b ≤ n → ic_Re B T F b → ∃ x, x ≤ b ∧ ic_ldr B T F x ∧ ic_Tg B T F x b := by
  intro n
  induction n with
  | zero =>
    intro b hb r
    exact ⟨b, Nat.le_refl _, ⟨r, fun a ha => by omega⟩, ic_Tg_r⟩
  | succ n ih =>
    intro b hb r
    rcases Classical.em (∃ a, a < b ∧ ic_Re B T F a ∧ ic_Tg B T F a b) with ⟨a, h1, h2, h3⟩ | h
    · obtain ⟨x, k1, k2, k3⟩ := ih a (by omega) h2
      exact ⟨x, by omega, k2, ic_Tg_t k3 h3⟩
    · exact ⟨b, Nat.le_refl _, ⟨r, fun a ha hh => h ⟨a, ha, hh⟩⟩, ic_Tg_r⟩
theorem ic_ld_s {b : Nat} (r : ic_Re B T F b) : ic_ld B T F b ≤ b ∧ ic_ldr B T F (ic_ld B T F b) ∧ ic_Tg B T F (ic_ld B T F b) b :=
  Classical.epsilon_spec (p := fun x => x ≤ b ∧ ic_ldr B T F x ∧ ic_Tg B T F x b) (ic_ld_ex b b (Nat.le_refl _) r)
theorem ic_ldr_u {x y : Nat} (hx : ic_ldr B T F x) (hy : ic_ldr B T F y) (h : ic_Tg B T F x y) : x = y := by
  rcases Nat.lt_trichotomy x y with g | g | g
  · exact absurd ⟨hx.1, h⟩ (hy.2 x g)
  · exact g
  · exact absurd ⟨hy.1, ic_Tg_y h⟩ (hx.2 y g)
theorem ic_cnt_s (i : Nat) : ic_cnt B T F (i + 1) = ic_cnt B T F i + ic_c (ic_ldr B T F i) := rfl
theorem ic_cnt_mono {i j : Nat} (h : i ≤ j) : ic_cnt B T F i ≤ ic_cnt B T F j := by
  induction h with
  | refl => exact Nat.le_refl _
  | step _ ih => exact Nat.le_trans ih (by rw [ic_cnt_s]; omega)
theorem ic_cnt_lt {i j : Nat} (hi : ic_ldr B T F i) (h : i < j) : ic_cnt B T F i < ic_cnt B T F j := by
  have h1 : ic_cnt B T F (i + 1) ≤ ic_cnt B T F j := ic_cnt_mono h
  have h2 := ic_cnt_s (B := B) (T := T) (F := F) i
  rw [ic_c_t hi] at h2
  omega
theorem ic_cnt_le (i : Nat) : ic_cnt B T F i ≤ i := by
  induction i with
  | zero => exact Nat.le_refl _
  | succ i ih =>
    rw [ic_cnt_s]
    rcases Classical.em (ic_ldr B T F i) with h | h
    · rw [ic_c_t h]; omega
    · rw [ic_c_f h]; omega
theorem ic_G_new {b : Nat} (h : ic_ldr B T F b) : ic_G B T F b = ic_cnt B T F b := by
  have s := ic_ld_s h.1
  unfold ic_G
  rw [ic_ldr_u s.2.1 h s.2.2]
theorem ic_G_eq {a b : Nat} (ra : ic_Re B T F a) (rb : ic_Re B T F b) (h : ic_Tg B T F a b) : ic_G B T F b = ic_G B T F a := by
  have sa := ic_ld_s ra
  have sb := ic_ld_s rb
  unfold ic_G
  rw [ic_ldr_u sa.2.1 sb.2.1 (ic_Tg_t sa.2.2 (ic_Tg_t h (ic_Tg_y sb.2.2)))]
theorem ic_G_lt {b : Nat} (r : ic_Re B T F b) : ic_G B T F b < ic_cnt B T F (b + 1) := by
  have s := ic_ld_s r
  exact ic_cnt_lt s.2.1 (by omega)
theorem ic_G_Tg {a b : Nat} (ra : ic_Re B T F a) (rb : ic_Re B T F b) (h : ic_G B T F a = ic_G B T F b) : ic_Tg B T F a b := by
  have sa := ic_ld_s ra
  have sb := ic_ld_s rb
  have e : ic_ld B T F a = ic_ld B T F b := by
    unfold ic_G at h
    rcases Nat.lt_trichotomy (ic_ld B T F a) (ic_ld B T F b) with g | g | g
    · have := ic_cnt_lt sa.2.1 g
      omega
    · exact g
    · have := ic_cnt_lt sb.2.1 g
      omega
  have s2 := sa.2.2
  rw [e] at s2
  exact ic_Tg_t (ic_Tg_y s2) sb.2.2
theorem ic_G_on {i k : Nat} (h : k < ic_cnt B T F i) : ∃ b, b < i ∧ ic_Re B T F b ∧ ic_G B T F b = k := by
  induction i with
  | zero => exact absurd h (Nat.not_lt_zero _)
  | succ i ih =>
    rw [ic_cnt_s] at h
    rcases Classical.em (ic_ldr B T F i) with g | g
    · rw [ic_c_t g] at h
      by_cases e : k = ic_cnt B T F i
      · exact ⟨i, by omega, g.1, by rw [ic_G_new g, e]⟩
      · obtain ⟨b, h1, h2⟩ := ih (by omega)
        exact ⟨b, by omega, h2⟩
    · rw [ic_c_f g] at h
      obtain ⟨b, h1, h2⟩ := ih (by omega)
      exact ⟨b, by omega, h2⟩
theorem ic_gn_le {b : Nat} (h : b < B) (hB : B ≤ 12) : ic_gn B T F b ≤ 12 := by
  rcases Classical.em (ic_Re B T F b) with g | g
  · have h1 := ic_G_lt g
    have h2 := ic_cnt_le (B := B) (T := T) (F := F) (b + 1)
    rw [ic_gn_t g]
    omega
  · rw [ic_gn_f g]
    exact Nat.le_refl _
end
