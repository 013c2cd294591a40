/-! the pure picture, 1: the values of a key among the records; stretches of the pair arrays; insertion -/
/-- the values of the pairs of key q among the first n records: b says whether a record is mapped, ky its key, w its value -/
def mr_vs (b : Nat → Bool) (ky w : Nat → Int32) (q : Int32) : Nat → List Int32
  | 0 => []
  | n + 1 => mr_vs b ky w q n ++ (if b n = true ∧ ky n = q then [w n] else [])
/-- how many of the first n -/
def mr_ct (b : Nat → Bool) : Nat → Nat
  | 0 => 0
  | n + 1 => mr_ct b n + (if b n = true then 1 else 0)
theorem mr_vs_s (b : Nat → Bool) (ky w : Nat → Int32) (q : Int32) (n : Nat) : mr_vs b ky w q (n + 1) = mr_vs b ky w q n ++ (if b n = true ∧ ky n = q then [w n] else []) := rfl
theorem mr_ct_s (b : Nat → Bool) (n : Nat) : mr_ct b (n + 1) = mr_ct b n + (if b n = true then 1 else 0) := rfl
theorem mr_ct_le (b : Nat → Bool) : ∀ n, mr_ct b n ≤ n := by
  intro n
  induction n with
  | zero => exact Nat.le_refl _
  | succ n ih => rw [mr_ct_s]; split <;> omega
theorem mr_vs_skip {b : Nat → Bool} {ky w : Nat → Int32} {q : Int32} {m : Nat} : ∀ d, (∀ i, m ≤ i → i < m + d → b i = false) → mr_vs b ky w q (m + d) = mr_vs b ky w q m := by
  intro d
  induction d with
  | zero => intro _; rfl
  | succ d ih =>
    intro h
    have e : b (m + d) = false := h _ (by omega) (by omega)
    rw [← Nat.add_assoc, mr_vs_s, ih (fun i h1 h2 => h i h1 (by omega)), e]
    simp
theorem mr_ct_skip {b : Nat → Bool} {m : Nat} : ∀ d, (∀ i, m ≤ i → i < m + d → b i = false) → mr_ct b (m + d) = mr_ct b m := by
  intro d
  induction d with
  | zero => intro _; rfl
  | succ d ih =>
    intro h
    have e : b (m + d) = false := h _ (by omega) (by omega)
    rw [← Nat.add_assoc, mr_ct_s, ih (fun i h1 h2 => h i h1 (by omega)), e]
    simp
theorem mr_vs_none {b : Nat → Bool} {ky w : Nat → Int32} {q : Int32} : ∀ n, (∀ i, i < n → b i = true → ky i ≠ q) → mr_vs b ky w q n = [] := by
  intro n
  induction n with
  | zero => intro _; rfl
  | succ n ih =>
    intro h
    have e : ¬ (b n = true ∧ ky n = q) := fun z => h n (by omega) z.1 z.2
    rw [mr_vs_s, ih (fun i h1 => h i (by omega)), if_neg e]
    rfl
theorem mr_vs_len (b : Nat → Bool) (ky w : Nat → Int32) (q : Int32) : ∀ n, (mr_vs b ky w q n).length ≤ n := by
  intro n
  induction n with
  | zero => exact Nat.le_refl _
  | succ n ih =>
    rw [mr_vs_s, List.length_append]
    split
    · rw [List.length_singleton]; omega
    · rw [List.length_nil]; omega
theorem mr_vs_cg {b b' : Nat → Bool} {ky ky' w w' : Nat → Int32} {q : Int32} : ∀ n, (∀ i, i < n → b i = b' i ∧ (b i = true → ky i = ky' i ∧ w i = w' i)) → mr_vs b ky w q n = mr_vs b' ky' w' q n := by
  intro n
  induction n with
  | zero => intro _; rfl
  | succ n ih =>
    intro h
    obtain ⟨e1, e2⟩ := h n (by omega)
    rw [mr_vs_s, mr_vs_s, ih (fun i h1 => h i (by omega))]
    by_cases z : b n = true
    · obtain ⟨e3, e4⟩ := e2 z
      rw [← e1, e3, e4]
    · rw [if_neg (fun y => z y.1), if_neg (fun y => z (e1.trans y.1))]
theorem mr_ct_cg {b b' : Nat → Bool} : ∀ n, (∀ i, i < n → b i = b' i) → mr_ct b n = mr_ct b' n := by
  intro n
  induction n with
  | zero => intro _; rfl
  | succ n ih =>
    intro h
    rw [mr_ct_s, mr_ct_s, ih (fun i h1 => h i (by omega)), h n (by omega)]
/-- the values of key q in the stretch of n pairs from a on -/
def mr_sv (pk pv : Nat → Int32) (q : Int32) (a : Nat) : Nat → List Int32
  | 0 => []
  | n + 1 => mr_sv pk pv q a n ++ (if pk (a + n) = q then [pv (a + n)] else [])
theorem mr_sv_s (pk pv : Nat → Int32) (q : Int32) (a n : Nat) : mr_sv pk pv q a (n + 1) = mr_sv pk pv q a n ++ (if pk (a + n) = q then [pv (a + n)] else []) := rfl
theorem mr_sv_add (pk pv : Nat → Int32) (q : Int32) (a m : Nat) : ∀ n, mr_sv pk pv q a (m + n) = mr_sv pk pv q a m ++ mr_sv pk pv q (a + m) n := by
  intro n
  induction n with
  | zero => exact (List.append_nil _).symm
  | succ n ih => rw [← Nat.add_assoc, mr_sv_s, ih, mr_sv_s, List.append_assoc, Nat.add_assoc]
theorem mr_sv_cg {pk pv pk' pv' : Nat → Int32} {q : Int32} {a a' : Nat} : ∀ n, (∀ i, i < n → pk' (a' + i) = pk (a + i) ∧ pv' (a' + i) = pv (a + i)) → mr_sv pk' pv' q a' n = mr_sv pk pv q a n := by
  intro n
  induction n with
  | zero => intro _; rfl
  | succ n ih =>
    intro h
    obtain ⟨e1, e2⟩ := h n (by omega)
    rw [mr_sv_s, mr_sv_s, ih (fun i h1 => h i (by omega)), e1, e2]
theorem mr_sv_nil {pk pv : Nat → Int32} {q : Int32} {a : Nat} : ∀ n, (∀ i, i < n → pk (a + i) ≠ q) → mr_sv pk pv q a n = [] := by
  intro n
  induction n with
  | zero => intro _; rfl
  | succ n ih =>
    intro h
    rw [mr_sv_s, ih (fun i h1 => h i (by omega)), if_neg (h n (by omega))]
    rfl
theorem mr_sv_len (pk pv : Nat → Int32) (q : Int32) (a : Nat) : ∀ n, (mr_sv pk pv q a n).length ≤ n := by
  intro n
  induction n with
  | zero => exact Nat.le_refl _
  | succ n ih =>
    rw [mr_sv_s, List.length_append]
    split
    · rw [List.length_singleton]; omega
    · rw [List.length_nil]; omega
/-- f with x put in at t, the stretch from t to n - 1 moved on by one -/
def mr_in (f : Nat → Int32) (t n : Nat) (x : Int32) : Nat → Int32 := fun j => if j < t then f j else if j = t then x else if j ≤ n then f (j - 1) else f j
theorem mr_in_lt {f : Nat → Int32} {t n j : Nat} {x : Int32} (h : j < t) : mr_in f t n x j = f j := if_pos h
theorem mr_in_eq {f : Nat → Int32} {t n : Nat} {x : Int32} : mr_in f t n x t = x := by
  unfold mr_in
  rw [if_neg (Nat.lt_irrefl t), if_pos rfl]
theorem mr_in_gt {f : Nat → Int32} {t n j : Nat} {x : Int32} (h : t < j) (hn : j ≤ n) : mr_in f t n x j = f (j - 1) := by
  unfold mr_in
  rw [if_neg (by omega), if_neg (by omega), if_pos hn]
theorem mr_in_hi {f : Nat → Int32} {t n j : Nat} {x : Int32} (h : t ≤ n) (hn : n < j) : mr_in f t n x j = f j := by
  unfold mr_in
  rw [if_neg (by omega), if_neg (by omega), if_neg (by omega)]
theorem mr_sv_ins {pk pv : Nat → Int32} {a t n : Nat} (hat : a ≤ t) (htn : t ≤ n) (hgt : ∀ j, t ≤ j → j < n → (pk n).toInt < (pk j).toInt) (q : Int32) :
    mr_sv (mr_in pk t n (pk n)) (mr_in pv t n (pv n)) q a (n + 1 - a) = mr_sv pk pv q a (n + 1 - a) := by
  obtain ⟨e, rfl⟩ : ∃ e, t = a + e := ⟨t - a, by omega⟩
  obtain ⟨d, rfl⟩ : ∃ d, n = a + e + d := ⟨n - (a + e), by omega⟩
  have hn : a + e + d + 1 - a = e + (1 + d) := by omega
  have hn2 : e + (1 + d) = e + (d + 1) := by omega
  rw [hn, mr_sv_add, mr_sv_add _ _ _ (a + e) 1 d]
  rw [hn2, mr_sv_add pk pv q a e (d + 1), mr_sv_s pk pv q (a + e) d]
  have h1 : mr_sv (mr_in pk (a + e) (a + e + d) (pk (a + e + d))) (mr_in pv (a + e) (a + e + d) (pv (a + e + d))) q a e = mr_sv pk pv q a e :=
    mr_sv_cg e (fun i hi => ⟨mr_in_lt (by omega), mr_in_lt (by omega)⟩)
  have h2 : mr_sv (mr_in pk (a + e) (a + e + d) (pk (a + e + d))) (mr_in pv (a + e) (a + e + d) (pv (a + e + d))) q (a + e + 1) d = mr_sv pk pv q (a + e) d :=
    mr_sv_cg d (fun i hi => ⟨by rw [mr_in_gt (by omega) (by omega)]; exact congrArg pk (by omega), by rw [mr_in_gt (by omega) (by omega)]; exact congrArg pv (by omega)⟩)
  have h3 : mr_sv (mr_in pk (a + e) (a + e + d) (pk (a + e + d))) (mr_in pv (a + e) (a + e + d) (pv (a + e + d))) q (a + e) 1 = (if pk (a + e + d) = q then [pv (a + e + d)] else []) := by
    show [] ++ (if mr_in pk (a + e) (a + e + d) (pk (a + e + d)) (a + e + 0) = q then [mr_in pv (a + e) (a + e + d) (pv (a + e + d)) (a + e + 0)] else []) = _
    rw [Nat.add_zero, mr_in_eq, mr_in_eq]
    rfl
  rw [h1, h2, h3]
  by_cases z : pk (a + e + d) = q
  · have h4 : mr_sv pk pv q (a + e) d = [] := mr_sv_nil d (fun i hi y => by
      have := hgt (a + e + i) (by omega) (by omega)
      rw [y, z] at this
      omega)
    rw [h4, if_pos z]
    rfl
  · rw [if_neg z, List.nil_append, List.append_nil]
/-- the keys from a to b - 1 rise -/
def mr_So (pk : Nat → Int32) (a b : Nat) : Prop := ∀ i j, a ≤ i → i < j → j < b → (pk i).toInt ≤ (pk j).toInt
theorem mr_So_ins {pk : Nat → Int32} {a t n : Nat} (hs : mr_So pk a n) (hat : a ≤ t) (htn : t ≤ n) (hgt : ∀ j, t ≤ j → j < n → (pk n).toInt < (pk j).toInt)
    (hle : t = a ∨ (pk (t - 1)).toInt ≤ (pk n).toInt) : mr_So (mr_in pk t n (pk n)) a (n + 1) := by
  intro i j hai hij hjn
  by_cases c1 : j < t
  · rw [mr_in_lt c1, mr_in_lt (show i < t by omega)]
    exact hs i j hai hij (by omega)
  · by_cases c2 : j = t
    · subst c2
      rw [mr_in_eq, mr_in_lt hij]
      have h1 : (pk (j - 1)).toInt ≤ (pk n).toInt := by
        cases hle with
        | inl h => omega
        | inr h => exact h
      by_cases c3 : i = j - 1
      · rw [c3]; exact h1
      · exact Int.le_trans (hs i (j - 1) hai (by omega) (by omega)) h1
    · rw [mr_in_gt (show t < j by omega) (show j ≤ n by omega)]
      by_cases c4 : i < t
      · rw [mr_in_lt c4]
        exact hs i (j - 1) hai (by omega) (by omega)
      · by_cases c5 : i = t
        · subst c5
          rw [mr_in_eq]
          exact Int.le_of_lt (hgt (j - 1) (by omega) (by omega))
        · rw [mr_in_gt (show t < i by omega) (show i ≤ n by omega)]
          exact hs (i - 1) (j - 1) (by omega) (by omega) (by omega)
theorem mr_So_cg {pk pk' : Nat → Int32} {a b : Nat} (hs : mr_So pk a b) (h : ∀ j, a ≤ j → j < b → pk' j = pk j) : mr_So pk' a b := by
  intro i j hai hij hjb
  rw [h i hai (by omega), h j (by omega) hjb]
  exact hs i j hai hij hjb
