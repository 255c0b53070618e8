/-! what X keeps once it is converted -/
section
variable (B : Nat) (T F : Nat → Nat)
def ic_HE (Es : Nat → Nat → Prop) (he : Nat → Int32) : Prop := ∀ b, b < B → (b = 0 ∨ ∃ p, Es p b) → ∃ V, ic_Inv B T F V b (bt (he b))
/-- the guards that the endings make true -/
def ic_GD (i : Nat) (gT gF : Nat → Int32) : Prop := ∀ a, a < i → ic_Re B T F a → ∀ k, k ≤ 12 → (bt (gT a) k = true ↔ ic_Mk B T F a (T a) k) ∧ (bt (gF a) k = true ↔ ic_Mk B T F a (F a) k)
def ic_RS (i : Nat) (tests rt rT rF : Nat → Int32) : Prop := ∀ b, b < i → ic_Re B T F b → rT b = nI (T b) ∧ rF b = nI (F b) ∧ (T b = F b → rt b = -1) ∧ (T b ≠ F b → rt b = tests b)
def ic_CV (tests : Nat → Int32) (ρ gc : Int32) (P gn gT gF rt rT rF : Nat → Int32) : Prop :=
  (∀ b, b < B → (bt ρ b = true ↔ ic_Re B T F b)) ∧ ic_PD B T F P ∧ gc = nI (ic_cnt B T F B) ∧ (∀ b, b < B → gn b = nI (ic_gn B T F b)) ∧ ic_GD B T F B gT gF ∧ ic_RS B T F B tests rt rT rF
end
section
variable {B : Nat} {T F : Nat → Nat}
theorem ic_HE_e {Es : Nat → Nat → Prop} {he : Nat → Int32} {V : List Nat} {i z : Nat} {held : Int32} (h : ic_HE B T F Es he) (I : ic_Inv B T F V z (bt held)) : ic_HE B T F (fun p b => Es p b ∨ (p = i ∧ b = z)) (upd he z held) := by
  intro b hb k
  by_cases e : b = z
  · rw [e, pk_us]
    exact ⟨V, I⟩
  · rw [pk_un e]
    exact h b hb (k.elim Or.inl (fun ⟨p, k⟩ => k.elim (fun k => Or.inr ⟨p, k⟩) (fun k => absurd k.2 e)))
theorem ic_HE_c {Es Es' : Nat → Nat → Prop} {he : Nat → Int32} (h : ic_HE B T F Es he) (e : ∀ p b, b < B → (Es' p b → Es p b)) : ic_HE B T F Es' he := by
  intro b hb k
  exact h b hb (k.elim Or.inl (fun ⟨p, k⟩ => Or.inr ⟨p, e p b hb k⟩))
theorem ic_HE_0 (hB : 0 < B) (hB2 : B ≤ 12) {he : Nat → Int32} : ic_HE B T F (ic_Es B T F 0) (upd he 0 1) := by
  intro b hb k
  rcases k with e | ⟨p, k⟩
  · rw [e, pk_us]
    exact ⟨[], ic_Inv_0 hB (fun k hk => ic_b1 k (by omega)) hB2⟩
  · exact absurd k.1 (Nat.not_lt_zero _)
theorem ic_HE_s {i : Nat} (r : ic_Re B T F i) (p b : Nat) (h : ic_Es B T F (i + 1) p b) : (ic_Es B T F i p b ∨ (p = i ∧ b = T i)) ∨ (p = i ∧ b = F i) := by
  obtain ⟨g1, g2, g3⟩ := h
  by_cases e : p = i
  · rw [e] at g3
    rcases g3 with g3 | g3
    · exact Or.inl (Or.inr ⟨e, g3.symm⟩)
    · exact Or.inr ⟨e, g3.symm⟩
  · exact Or.inl (Or.inl ⟨by omega, g2, g3⟩)
/-- behind an edge of block i: what is held, and that the next held block is the edge's target -/
theorem ic_edge (ok : ic_Ok B T F) (hB : B ≤ 12) {V : List Nat} {i z : Nat} {h m : Int32} (I : ic_Inv B T F V i (bt h)) (hi : i < B) (hz : T i = z ∨ F i = z) (hm : ∀ k, k ≤ 12 → (bt m k = true ↔ ic_Mk B T F i z k)) :
    ic_Inv B T F (V ++ [i]) z (bt (h ||| m)) ∧ i + 1 ≤ z ∧ z ≤ B ∧ (∀ x, i + 1 ≤ x → x < z → bt (h ||| m) (ic_gn B T F x) = false) ∧ (z < B → bt (h ||| m) (ic_gn B T F z) = true) := by
  have J : ic_Inv B T F (V ++ [i]) z (bt (h ||| m)) := ic_Inv_s ok hB I hi hz (fun k hk => by rw [b_or, Bool.or_eq_true, hm k hk])
  have o := ok i hi
  have hlt : i + 1 ≤ z ∧ z ≤ B := by rcases hz with g | g <;> omega
  have hV : ∀ v, v ∈ V ++ [i] → v < i + 1 := by
    intro v mv
    rcases List.mem_append.mp mv with g | g
    · have := (ic_ge ok I.1).2 v g
      omega
    · rw [List.mem_singleton.mp g]
      exact Nat.lt_succ_self _
  refine ⟨J, hlt.1, hlt.2, fun x h1 h2 => ?_, fun h2 => ?_⟩
  · cases e : bt (h ||| m) (ic_gn B T F x) with
    | false => rfl
    | true =>
      have := (ic_held ok J hV h1 (by omega) (by omega)).mp e
      omega
  · exact (ic_held ok J hV hlt.1 h2 (Nat.le_refl _)).mpr rfl
end
