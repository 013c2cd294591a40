/-! the pure picture, 2: the results of a part: how many keys below n belong to part p and have a result; where they stand -/
def mr_k (h : Nat → Bool) (P p : Nat) : Nat → Nat
  | 0 => 0
  | n + 1 => mr_k h P p n + (if h n = true ∧ n % P = p then 1 else 0)
theorem mr_k_s (h : Nat → Bool) (P p n : Nat) : mr_k h P p (n + 1) = mr_k h P p n + (if h n = true ∧ n % P = p then 1 else 0) := rfl
theorem mr_k_y {h : Nat → Bool} {P p n : Nat} (h1 : h n = true) (h2 : n % P = p) : mr_k h P p (n + 1) = mr_k h P p n + 1 := by
  rw [mr_k_s, if_pos ⟨h1, h2⟩]
theorem mr_k_n {h : Nat → Bool} {P p n : Nat} (h1 : ¬ (h n = true ∧ n % P = p)) : mr_k h P p (n + 1) = mr_k h P p n := by
  rw [mr_k_s, if_neg h1]
  rfl
theorem mr_k_le (h : Nat → Bool) (P p : Nat) : ∀ n, mr_k h P p n ≤ n := by
  intro n
  induction n with
  | zero => exact Nat.le_refl _
  | succ n ih => rw [mr_k_s]; split <;> omega
theorem mr_k_mono (h : Nat → Bool) (P p m : Nat) : ∀ d, mr_k h P p m ≤ mr_k h P p (m + d) := by
  intro d
  induction d with
  | zero => exact Nat.le_refl _
  | succ d ih => rw [← Nat.add_assoc, mr_k_s]; omega
theorem mr_k_lt {h : Nat → Bool} {P p q n : Nat} (hq : q < n) (h1 : h q = true) (h2 : q % P = p) : mr_k h P p q < mr_k h P p n := by
  obtain ⟨d, rfl⟩ : ∃ d, n = q + 1 + d := ⟨n - (q + 1), by omega⟩
  have e := mr_k_y (p := p) (P := P) h1 h2
  have := mr_k_mono h P p (q + 1) d
  omega
theorem mr_k_sur {h : Nat → Bool} {P p i : Nat} : ∀ n, i < mr_k h P p n → ∃ q, q < n ∧ h q = true ∧ q % P = p ∧ mr_k h P p q = i := by
  intro n
  induction n with
  | zero => intro z; exact absurd z (Nat.not_lt_zero _)
  | succ n ih =>
    intro z
    by_cases c : h n = true ∧ n % P = p
    · rw [mr_k_y c.1 c.2] at z
      by_cases c2 : i < mr_k h P p n
      · obtain ⟨q, a, b⟩ := ih c2
        exact ⟨q, by omega, b⟩
      · exact ⟨n, by omega, c.1, c.2, by omega⟩
    · rw [mr_k_n c] at z
      obtain ⟨q, a, b⟩ := ih z
      exact ⟨q, by omega, b⟩
theorem mr_k_skip {h : Nat → Bool} {P p m : Nat} : ∀ d, (∀ q, m ≤ q → q < m + d → h q = false) → mr_k h P p (m + d) = mr_k h P p m := by
  intro d
  induction d with
  | zero => intro _; rfl
  | succ d ih =>
    intro z
    have e : h (m + d) = false := z _ (by omega) (by omega)
    rw [← Nat.add_assoc, mr_k_n (by rw [e]; simp), ih (fun q a b => z q a (by omega))]
theorem mr_k_none {h : Nat → Bool} {P p : Nat} : ∀ n, (∀ q, q < n → h q = true → q % P ≠ p) → mr_k h P p n = 0 := by
  intro n
  induction n with
  | zero => intro _; rfl
  | succ n ih =>
    intro z
    rw [mr_k_n (fun y => z n (by omega) y.1 y.2), ih (fun q a => z q (by omega))]
/-- the sum over the parts below p -/
def mr_S (h : Nat → Bool) (P n : Nat) : Nat → Nat
  | 0 => 0
  | p + 1 => mr_S h P n p + mr_k h P p n
theorem mr_S_s (h : Nat → Bool) (P n p : Nat) : mr_S h P n (p + 1) = mr_S h P n p + mr_k h P p n := rfl
theorem mr_S_n0 (h : Nat → Bool) (P : Nat) : ∀ p, mr_S h P 0 p = 0 := by
  intro p
  induction p with
  | zero => rfl
  | succ p ih => rw [mr_S_s, ih]; rfl
theorem mr_S_n (h : Nat → Bool) (P n : Nat) : ∀ p, mr_S h P (n + 1) p = mr_S h P n p + (if h n = true ∧ n % P < p then 1 else 0) := by
  intro p
  induction p with
  | zero => rw [if_neg (fun z => absurd z.2 (Nat.not_lt_zero _))]; rfl
  | succ p ih =>
    rw [mr_S_s, mr_S_s, ih, mr_k_s]
    by_cases c : h n = true
    · by_cases c1 : n % P < p
      · rw [if_pos ⟨c, c1⟩, if_neg (fun z => by have := z.2; omega), if_pos ⟨c, by omega⟩]; omega
      · by_cases c2 : n % P = p
        · rw [if_neg (fun z => c1 z.2), if_pos ⟨c, c2⟩, if_pos ⟨c, by omega⟩]; omega
        · rw [if_neg (fun z => c1 z.2), if_neg (fun z => c2 z.2), if_neg (fun z => by have := z.2; omega)]; omega
    · rw [if_neg (fun z => c z.1), if_neg (fun z => c z.1), if_neg (fun z => c z.1)]; omega
theorem mr_S_all {h : Nat → Bool} {P : Nat} (hP : 0 < P) : ∀ n, mr_S h P n P = mr_ct h n := by
  intro n
  induction n with
  | zero => exact mr_S_n0 h P P
  | succ n ih =>
    have hm : n % P < P := Nat.mod_lt _ hP
    rw [mr_S_n, ih, mr_ct_s]
    by_cases c : h n = true
    · rw [if_pos ⟨c, hm⟩, if_pos c]
    · rw [if_neg (fun z => c z.1), if_neg c]
theorem mr_S_le {h : Nat → Bool} {P : Nat} (n : Nat) : ∀ p, p ≤ 4 → mr_S h P n p ≤ 4 * n := by
  intro p hp
  have h0 := mr_k_le h P 0 n
  have h1 := mr_k_le h P 1 n
  have h2 := mr_k_le h P 2 n
  have h3 := mr_k_le h P 3 n
  have a0 : mr_S h P n 0 = 0 := rfl
  have a1 : mr_S h P n 1 = mr_S h P n 0 + mr_k h P 0 n := rfl
  have a2 : mr_S h P n 2 = mr_S h P n 1 + mr_k h P 1 n := rfl
  have a3 : mr_S h P n 3 = mr_S h P n 2 + mr_k h P 2 n := rfl
  have a4 : mr_S h P n 4 = mr_S h P n 3 + mr_k h P 3 n := rfl
  obtain rfl | rfl | rfl | rfl | rfl : p = 0 ∨ p = 1 ∨ p = 2 ∨ p = 3 ∨ p = 4 := by omega
  all_goals omega
/-- the counts, keys and values that stand in the parts: part p has the results of its keys below lim p -/
def mr_Res (h : Nat → Bool) (P : Nat) (val : Nat → Int32) (lim : Nat → Nat) (rc rk rv : Nat → Int32) : Prop :=
  ∀ p, p < 4 → rc p = nI (mr_k h P p (lim p)) ∧ ∀ q, q < lim p → h q = true → q % P = p → rk (16 * p + mr_k h P p q) = nI q ∧ rv (16 * p + mr_k h P p q) = val q
def mr_up (lim : Nat → Nat) (p n : Nat) : Nat → Nat := fun j => if j = p then n else lim j
theorem mr_up_s {lim : Nat → Nat} {p n : Nat} : mr_up lim p n p = n := if_pos rfl
theorem mr_up_n {lim : Nat → Nat} {p n j : Nat} (h : j ≠ p) : mr_up lim p n j = lim j := if_neg h
theorem mr_up_up {lim : Nat → Nat} {p n m : Nat} : mr_up (mr_up lim p n) p m = mr_up lim p m := by
  funext j
  by_cases c : j = p
  · subst c; rw [mr_up_s, mr_up_s]
  · rw [mr_up_n c, mr_up_n c, mr_up_n c]
theorem mr_up_id {lim : Nat → Nat} {p n : Nat} (h : lim p = n) : mr_up lim p n = lim := by
  funext j
  by_cases c : j = p
  · subst c; rw [mr_up_s, h]
  · rw [mr_up_n c]
theorem mr_Res_skip {h : Nat → Bool} {P p n : Nat} {val : Nat → Int32} {lim : Nat → Nat} {rc rk rv : Nat → Int32} (R : mr_Res h P val (mr_up lim p n) rc rk rv)
    (hn : ¬ (h n = true ∧ n % P = p)) : mr_Res h P val (mr_up lim p (n + 1)) rc rk rv := by
  intro j hj
  obtain ⟨a, b⟩ := R j hj
  by_cases c : j = p
  · subst c
    rw [mr_up_s] at a b
    rw [mr_up_s, mr_k_n hn]
    refine ⟨a, fun q hq h1 h2 => b q ?_ h1 h2⟩
    by_cases d : q = n
    · subst d; exact absurd ⟨h1, h2⟩ hn
    · omega
  · rw [mr_up_n c] at a b
    rw [mr_up_n c]
    exact ⟨a, b⟩
theorem mr_Res_put {h : Nat → Bool} {P p n : Nat} {val : Nat → Int32} {lim : Nat → Nat} {rc rk rv : Nat → Int32} (R : mr_Res h P val (mr_up lim p n) rc rk rv)
    (h1 : h n = true) (h2 : n % P = p) (hn : n < 16) (hl : ∀ j, lim j ≤ 16) :
    mr_Res h P val (mr_up lim p (n + 1)) (upd rc p (nI (mr_k h P p n + 1))) (upd rk (16 * p + mr_k h P p n) (nI n)) (upd rv (16 * p + mr_k h P p n) (val n)) := by
  have hk := mr_k_le h P p n
  intro j hj
  obtain ⟨a, b⟩ := R j hj
  by_cases c : j = p
  · subst c
    rw [mr_up_s] at a b
    rw [mr_up_s, mr_k_y h1 h2]
    refine ⟨pk_us, fun q hq g1 g2 => ?_⟩
    by_cases d : q = n
    · subst d; exact ⟨pk_us, pk_us⟩
    · have hlt : mr_k h P j q < mr_k h P j n := mr_k_lt (by omega) g1 g2
      rw [pk_un (by omega), pk_un (by omega)]
      exact b q (by omega) g1 g2
  · rw [mr_up_n c] at a b
    rw [mr_up_n c]
    refine ⟨by rw [pk_un c]; exact a, fun q hq g1 g2 => ?_⟩
    have hq2 := mr_k_le h P j q
    have := hl j
    rw [pk_un (by omega), pk_un (by omega)]
    exact b q hq g1 g2
theorem mr_Res_0 {h : Nat → Bool} {P : Nat} {val : Nat → Int32} {rc rk rv : Nat → Int32} (hc : ∀ p, p < 4 → rc p = 0) : mr_Res h P val (fun _ => 0) rc rk rv :=
  fun p hp => ⟨(hc p hp).trans nI_0.symm, fun _ hq => absurd hq (Nat.not_lt_zero _)⟩
