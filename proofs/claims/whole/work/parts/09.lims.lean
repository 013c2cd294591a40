/-! the pure picture, 8: which keys have a result, and how far the parts are -/
def mr_h (L : Nat → List Int32) : Nat → Bool := fun q => !(L q).isEmpty
theorem mr_h_t {L : Nat → List Int32} {q : Nat} : mr_h L q = true ↔ L q ≠ [] := by
  unfold mr_h
  cases L q <;> simp
theorem mr_h_f {L : Nat → List Int32} {q : Nat} : mr_h L q = false ↔ L q = [] := by
  unfold mr_h
  cases L q <;> simp
def mr_lim (f : Nat → Nat) (p : Nat) : Nat → Nat := fun i => if i < p then f i else 0
theorem mr_lim_up {f : Nat → Nat} {p : Nat} : mr_up (mr_lim f p) p (f p) = mr_lim f (p + 1) := by
  funext i
  unfold mr_lim
  by_cases c : i = p
  · subst c
    rw [mr_up_s, if_pos (Nat.lt_succ_self i)]
  · rw [mr_up_n c]
    by_cases d : i < p
    · rw [if_pos d, if_pos (by omega)]
    · rw [if_neg d, if_neg (by omega)]
theorem mr_lim_p {f : Nat → Nat} {p : Nat} : mr_lim f p p = 0 := if_neg (Nat.lt_irrefl p)
theorem mr_lim_0 {f : Nat → Nat} : mr_lim f 0 = fun _ => 0 := by
  funext i
  exact if_neg (Nat.not_lt_zero i)
theorem mr_lim_le {f : Nat → Nat} {p : Nat} (h : ∀ i, f i ≤ 16) : ∀ i, mr_lim f p i ≤ 16 := by
  intro i
  unfold mr_lim
  by_cases d : i < p
  · rw [if_pos d]; exact h i
  · rw [if_neg d]; omega
