/-! the pure picture, 4: runs and their cursors -/
def mr_Runs (pk st en : Nat → Int32) (n pc : Nat) (S : Nat → Nat) : Prop :=
  S 0 = 0 ∧ S n = pc ∧ ∀ r, r < n → S r < S (r + 1) ∧ st r = nI (S r) ∧ en r = nI (S (r + 1)) ∧ mr_So pk (S r) (S (r + 1))
theorem mr_Runs_ge {pk st en : Nat → Int32} {n pc : Nat} {S : Nat → Nat} (R : mr_Runs pk st en n pc S) : ∀ r, r ≤ n → r ≤ S r := by
  obtain ⟨h0, h1, h2⟩ := R
  intro r
  induction r with
  | zero => intro _; exact Nat.zero_le _
  | succ r ih =>
    intro hr
    have := (h2 r (by omega)).1
    have := ih (by omega)
    omega
theorem mr_Runs_le {pk st en : Nat → Int32} {n pc : Nat} {S : Nat → Nat} (R : mr_Runs pk st en n pc S) : ∀ d r, r + d = n → S r ≤ pc := by
  obtain ⟨h0, h1, h2⟩ := R
  intro d
  induction d with
  | zero => intro r hr; rw [← h1]; rw [Nat.add_zero] at hr; rw [hr]; exact Nat.le_refl _
  | succ d ih =>
    intro r hr
    have := (h2 r (by omega)).1
    have := ih (r + 1) (by omega)
    omega
theorem mr_Runs_S {pk st en : Nat → Int32} {n pc : Nat} {S : Nat → Nat} (R : mr_Runs pk st en n pc S) {r : Nat} (hr : r ≤ n) : S r ≤ pc := mr_Runs_le R (n - r) r (by omega)
theorem mr_Runs_cg {pk pk' st en : Nat → Int32} {n pc : Nat} {S : Nat → Nat} (R : mr_Runs pk st en n pc S) (h : ∀ j, j < pc → pk' j = pk j) : mr_Runs pk' st en n pc S := by
  refine ⟨R.1, R.2.1, fun r hr => ?_⟩
  obtain ⟨a, b, c, d⟩ := R.2.2 r hr
  have := mr_Runs_S R (show r + 1 ≤ n by omega)
  exact ⟨a, b, c, mr_So_cg d (fun j _ hj => h j (by omega))⟩
theorem mr_Runs_0 (pk st en : Nat → Int32) : mr_Runs pk st en 0 0 (fun _ => 0) := ⟨rfl, rfl, fun _ h => absurd h (Nat.not_lt_zero _)⟩
theorem mr_Runs_close {pk pk' st en : Nat → Int32} {n a pc : Nat} {S : Nat → Nat} (R : mr_Runs pk st en n a S) (hap : a < pc) (hs : mr_So pk' a pc) (h : ∀ j, j < a → pk' j = pk j) :
    mr_Runs pk' (upd st n (nI a)) (upd en n (nI pc)) (n + 1) pc (mr_up S (n + 1) pc) := by
  refine ⟨?_, mr_up_s, fun r hr => ?_⟩
  · rw [mr_up_n (by omega)]; exact R.1
  · by_cases c : r = n
    · subst c
      rw [mr_up_s, mr_up_n (by omega), R.2.1, pk_us, pk_us]
      exact ⟨hap, rfl, rfl, hs⟩
    · obtain ⟨g1, g2, g3, g4⟩ := R.2.2 r (by omega)
      have := mr_Runs_S R (show r + 1 ≤ n by omega)
      rw [mr_up_n (by omega), mr_up_n (by omega), pk_un c, pk_un c]
      exact ⟨g1, g2, g3, mr_So_cg g4 (fun j _ hj => h j (by omega))⟩
/-- the cursor of run r has passed only keys below q -/
def mr_C1 (pk cur : Nat → Int32) (S : Nat → Nat) (r : Nat) (q : Nat) : Prop := ∃ x, cur r = nI x ∧ S r ≤ x ∧ x ≤ S (r + 1) ∧ ∀ j, S r ≤ j → j < x → (pk j).toInt < (q : Int)
theorem mr_C1_up {pk cur : Nat → Int32} {S : Nat → Nat} {r q q' : Nat} (h : mr_C1 pk cur S r q) (hq : q ≤ q') : mr_C1 pk cur S r q' := by
  obtain ⟨x, a, b, c, d⟩ := h
  refine ⟨x, a, b, c, fun j h1 h2 => ?_⟩
  have := d j h1 h2
  omega
theorem mr_C1_cg {pk cur cur' : Nat → Int32} {S : Nat → Nat} {r q : Nat} (h : mr_C1 pk cur S r q) (e : cur' r = cur r) : mr_C1 pk cur' S r q := by
  obtain ⟨x, a, b⟩ := h
  exact ⟨x, e.trans a, b⟩
/-- taking from the cursor x to t takes just the values of key q of the run from a to b -/
theorem mr_take {pk pv : Nat → Int32} {a b x t : Nat} {q : Int32} (hs : mr_So pk a b) (h1 : a ≤ x) (h2 : x ≤ t) (h3 : t ≤ b) (hlo : ∀ j, a ≤ j → j < x → (pk j).toInt < q.toInt)
    (hhi : t = b ∨ q.toInt < (pk t).toInt) : mr_sv pk pv q a (b - a) = mr_sv pk pv q x (t - x) := by
  have e1 : b - a = (x - a) + ((t - x) + (b - t)) := by omega
  have e2 : a + (x - a) = x := by omega
  have e3 : x + (t - x) = t := by omega
  rw [e1, mr_sv_add, mr_sv_add, e2, e3]
  have z1 : mr_sv pk pv q a (x - a) = [] := mr_sv_nil _ (fun i hi y => by
    have := hlo (a + i) (by omega) (by omega)
    rw [y] at this
    omega)
  have z2 : mr_sv pk pv q t (b - t) = [] := mr_sv_nil _ (fun i hi y => by
    cases hhi with
    | inl h => omega
    | inr h =>
      by_cases c : i = 0
      · subst c
        rw [Nat.add_zero] at y
        rw [y] at h
        omega
      · have := hs t (t + i) (by omega) (by omega) (by omega)
        rw [y] at this
        omega)
  rw [z1, z2, List.nil_append, List.append_nil]
/-- while key q is asked for: the cursors of the runs below r have passed q, the others have not -/
def mr_Cs (pk cur : Nat → Int32) (S : Nat → Nat) (n r q : Nat) : Prop := ∀ j, j < n → mr_C1 pk cur S j (if j < r then q + 1 else q)
theorem mr_Cs_0 {pk cur : Nat → Int32} {S : Nat → Nat} {n q : Nat} (h : ∀ j, j < n → mr_C1 pk cur S j q) : mr_Cs pk cur S n 0 q := fun j hj => by
  rw [if_neg (Nat.not_lt_zero j)]
  exact h j hj
theorem mr_Cs_n {pk cur : Nat → Int32} {S : Nat → Nat} {n q : Nat} (h : mr_Cs pk cur S n n q) : ∀ j, j < n → mr_C1 pk cur S j (q + 1) := fun j hj => by
  have := h j hj
  rw [if_pos hj] at this
  exact this
theorem mr_C_rew {pk cur st en : Nat → Int32} {n pc : Nat} {S : Nat → Nat} (R : mr_Runs pk st en n pc S) (h : ∀ j, j < n → cur j = st j) (q : Nat) : ∀ j, j < n → mr_C1 pk cur S j q := fun j hj => by
  obtain ⟨a, b, _, _⟩ := R.2.2 j hj
  exact ⟨S j, (h j hj).trans b, Nat.le_refl _, Nat.le_of_lt a, fun i h1 h2 => by omega⟩
theorem mr_take_step {pk pv cur st en : Nat → Int32} {n pc r q : Nat} {S : Nat → Nat} (R : mr_Runs pk st en n pc S) (C : mr_Cs pk cur S n r q) (hr : r < n) (hq : q < 2 ^ 31) :
    ∃ x, cur r = nI x ∧ en r = nI (S (r + 1)) ∧ x ≤ S (r + 1) ∧ S (r + 1) ≤ pc ∧ ∀ t, x ≤ t → t ≤ S (r + 1) → (t = S (r + 1) ∨ (q : Int) < (pk t).toInt) →
      (∀ j, x ≤ j → j < t → (pk j).toInt ≤ (q : Int)) → mr_Cs pk (upd cur r (nI t)) S n (r + 1) q ∧ mr_sv pk pv (nI q) 0 (S (r + 1)) = mr_sv pk pv (nI q) 0 (S r) ++ mr_sv pk pv (nI q) x (t - x) := by
  obtain ⟨g1, g2, g3, g4⟩ := R.2.2 r hr
  have c := C r hr
  rw [if_neg (Nat.lt_irrefl r)] at c
  obtain ⟨x, c1, c2, c3, c4⟩ := c
  refine ⟨x, c1, g3, c3, mr_Runs_S R (show r + 1 ≤ n by omega), fun t h1 h2 h3 h4 => ⟨fun j hj => ?_, ?_⟩⟩
  · by_cases d : j = r
    · subst d
      rw [if_pos (Nat.lt_succ_self j)]
      refine ⟨t, pk_us, by omega, h2, fun i i1 i2 => ?_⟩
      by_cases e : i < x
      · have := c4 i i1 e
        omega
      · have := h4 i (by omega) i2
        omega
    · have z := C j hj
      have e : (if j < r + 1 then q + 1 else q) = (if j < r then q + 1 else q) := by
        by_cases f : j < r
        · rw [if_pos f, if_pos (by omega)]
        · rw [if_neg f, if_neg (by omega)]
      rw [e]
      exact mr_C1_cg z (pk_un d)
  · have hqi : (nI q).toInt = (q : Int) := nI_toInt hq
    have e : S (r + 1) = S r + (S (r + 1) - S r) := by omega
    rw [← mr_take (pv := pv) (q := nI q) g4 c2 h1 h2 (fun j j1 j2 => by rw [hqi]; exact c4 j j1 j2) (by rw [hqi]; exact h3)]
    have f := mr_sv_add pk pv (nI q) 0 (S r) (S (r + 1) - S r)
    rw [← e, Nat.zero_add] at f
    exact f
