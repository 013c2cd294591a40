section
/-! rows of the kit, pasted (starting texts): stores, numbers, branches by naturals -/
theorem pk_us {f : Nat → Int32} {k : Nat} {x : Int32} : upd f k x k = x := if_pos rfl
theorem pk_un {f : Nat → Int32} {k j : Nat} {x : Int32} (h : j ≠ k) : upd f k x j = f j := if_neg h
theorem pk_sub {a b : Nat} (h : b ≤ a) : nI a - nI b = nI (a - b) := by
  obtain ⟨c, rfl⟩ : ∃ c, a = c + b := ⟨a - b, by omega⟩
  rw [← nI_add, Int32.add_sub_cancel, Nat.add_sub_cancel]
theorem pk_m1 (n : Nat) : nI (n + 1) + (-1) = nI n := by
  rw [← nI_1, Int32.add_assoc, show (1 : Int32) + (-1) = 0 from rfl, Int32.add_zero]
theorem pk_mul (a b : Nat) : nI a * nI b = nI (a * b) := (Int32.ofNat_mul a b).symm
theorem pk_div {a d : Nat} (ha : a < 2 ^ 31) (h0 : 0 < d) (hd : d < 2 ^ 31) : nI a / nI d = nI (a / d) := by
  apply Int32.toInt_inj.mp
  rw [lg_idiv_nonneg (by rw [nI_toInt ha]; omega) (by rw [nI_toInt hd]; omega), nI_toInt ha, nI_toInt hd, nI_toInt (Nat.lt_of_le_of_lt (Nat.div_le_self a d) ha)]
  first | rfl | exact (Int.natCast_ediv _ _).symm
theorem pk_rem {a d : Nat} (ha : a < 2 ^ 31) (h0 : 0 < d) (hd : d < 2 ^ 31) : nI a - nI a / nI d * nI d = nI (a % d) := by
  rw [pk_div ha h0 hd, pk_mul, pk_sub (Nat.div_mul_le_self a d)]
  exact congrArg nI (by have := Nat.div_add_mod' a d; omega)
theorem pk_ix (x : Int32) {n : Nat} (hn : n < 2 ^ 31) : x < 0 ∨ nI n ≤ x ∨ ∃ j : Nat, j < n ∧ x = nI j := by
  by_cases h : x < 0
  · exact Or.inl h
  · obtain ⟨j, hj, rfl⟩ := nI_of h
    by_cases h2 : j < n
    · exact Or.inr (Or.inr ⟨j, h2, rfl⟩)
    · exact Or.inr (Or.inl (nI_le (by omega) hj))
theorem pk_le {x y : Int32} {A B : Prop} (a b : Nat) (f : a ≤ b → A) (g : b < a → B) (hx : x = nI a := by rfl) (hy : y = nI b := by rfl) (ha : a < 2 ^ 31 := by omega) (hb : b < 2 ^ 31 := by omega) : (x ≤ y → A) ∧ (¬ x ≤ y → B) := by
  subst hx hy
  rw [nI_leI ha hb]
  exact ⟨f, fun z => g (by omega)⟩
theorem pk_lt {x y : Int32} {A B : Prop} (a b : Nat) (f : a < b → A) (g : b ≤ a → B) (hx : x = nI a := by rfl) (hy : y = nI b := by rfl) (ha : a < 2 ^ 31 := by omega) (hb : b < 2 ^ 31 := by omega) : (x < y → A) ∧ (¬ x < y → B) := by
  subst hx hy
  rw [nI_ltI ha hb]
  exact ⟨f, fun z => g (by omega)⟩
theorem pk_eq {x y : Int32} {A B : Prop} (a b : Nat) (f : a = b → A) (g : a ≠ b → B) (hx : x = nI a := by rfl) (hy : y = nI b := by rfl) (ha : a < 2 ^ 31 := by omega) (hb : b < 2 ^ 31 := by omega) : (x = y → A) ∧ (¬ x = y → B) := by
  subst hx hy
  rw [nI_eq ha hb]
  exact ⟨f, g⟩
theorem pk_in {x : Int32} (n N : Nat) (h : n < N) (hx : x = nI n := by rfl) (hN : N < 2 ^ 31 := by omega) : vp_in x N := by
  subst hx
  exact vp_in_nI h hN
theorem pk_cl {x : Int32} (n : Nat) (hx : x = nI n := by rfl) (h : n < 2 ^ 31 := by omega) : x.toNatClampNeg = n := by
  subst hx
  exact nI_clamp h
theorem pk_tn {n : Nat} (h : n < 2 ^ 32) : (nI n).toBitVec.toNat = n := Nat.mod_eq_of_lt h
theorem pk_and (x : Int32) {m : Int32} (k : Nat) (hm : m.toBitVec.toNat = 2 ^ k - 1) : x &&& m = nI (x.toBitVec.toNat % 2 ^ k) := by
  apply Int32.toBitVec_inj.mp
  apply BitVec.eq_of_toNat_eq
  rw [Int32.toBitVec_and, BitVec.toNat_and, hm, Nat.and_two_pow_sub_one_eq_mod]
  show _ = (BitVec.ofNat 32 _).toNat
  rw [BitVec.toNat_ofNat]
  exact (Nat.mod_eq_of_lt (Nat.lt_of_le_of_lt (Nat.mod_le _ _) x.toBitVec.isLt)).symm
theorem pk_andN {n : Nat} (h : n < 2 ^ 32) {m : Int32} (k : Nat) (hm : m.toBitVec.toNat = 2 ^ k - 1) : nI n &&& m = nI (n % 2 ^ k) := by
  rw [pk_and _ k hm, pk_tn h]
theorem pk_shr (a s : Int32) (k : Nat) (hs : (s.toBitVec.smod 32).toNat = k) : (a >>> s).toInt = a.toInt >>> k := by
  show (a.toBitVec.sshiftRight (s.toBitVec.smod 32).toNat).toInt = _
  rw [hs, BitVec.toInt_sshiftRight]
  rfl
theorem pk_shrN {n : Nat} (h : n < 2 ^ 31) (s : Int32) (k : Nat) (hs : (s.toBitVec.smod 32).toNat = k) : nI n >>> s = nI (n / 2 ^ k) := by
  apply Int32.toInt_inj.mp
  have h2 : n / 2 ^ k ≤ n := Nat.div_le_self _ _
  rw [pk_shr _ _ k hs, nI_toInt h, nI_toInt (by omega), Int.shiftRight_eq_div_pow]
  rfl
theorem pk_loop {σ : Type} (W : Nat → Nat → σ → Prop) (I : Nat → σ → Prop) (e i0 : Nat) (s : σ) (hi : i0 ≤ e) (h0 : I i0 s) (hx : ∀ n s, I e s → W (n + 1) e s)
    (hs : ∀ n i s, i < e → I i s → (∀ s', I (i + 1) s' → W n (i + 1) s') → W (n + 1) i s) : ∃ n, W n i0 s :=
  ⟨e + 1, loop_i W I e hx hs (e + 1) i0 s hi (by omega) h0⟩
theorem sb_m1 {p : Nat} (h : 0 < p) : nI p + (-1) = nI (p - 1) := by
  obtain ⟨q, rfl⟩ : ∃ q, p = q + 1 := ⟨p - 1, by omega⟩
  exact pk_m1 q
end
section
/-! the pure picture, 1: the values of a key among the records; stretches of the pair arrays; insertion -/
/-- the values of the pairs of key q among the first n records: b says whether a record is mapped, ky its key, w its value -/
def mr_vs (b : Nat → Bool) (ky w : Nat → Int32) (q : Int32) : Nat → List Int32
  | 0 => []
  | n + 1 => mr_vs b ky w q n ++ (if b n = true ∧ ky n = q then [w n] else [])
/-- how many of the first n -/
def mr_ct (b : Nat → Bool) : Nat → Nat
  | 0 => 0
  | n + 1 => mr_ct b n + (if b n = true then 1 else 0)
theorem mr_vs_s (b : Nat → Bool) (ky w : Nat → Int32) (q : Int32) (n : Nat) : mr_vs b ky w q (n + 1) = mr_vs b ky w q n ++ (if b n = true ∧ ky n = q then [w n] else []) := rfl
theorem mr_ct_s (b : Nat → Bool) (n : Nat) : mr_ct b (n + 1) = mr_ct b n + (if b n = true then 1 else 0) := rfl
theorem mr_ct_le (b : Nat → Bool) : ∀ n, mr_ct b n ≤ n := by
  intro n
  induction n with
  | zero => exact Nat.le_refl _
  | succ n ih => rw [mr_ct_s]; split <;> omega
theorem mr_vs_skip {b : Nat → Bool} {ky w : Nat → Int32} {q : Int32} {m : Nat} : ∀ d, (∀ i, m ≤ i → i < m + d → b i = false) → mr_vs b ky w q (m + d) = mr_vs b ky w q m := by
  intro d
  induction d with
  | zero => intro _; rfl
  | succ d ih =>
    intro h
    have e : b (m + d) = false := h _ (by omega) (by omega)
    rw [← Nat.add_assoc, mr_vs_s, ih (fun i h1 h2 => h i h1 (by omega)), e]
    simp
theorem mr_ct_skip {b : Nat → Bool} {m : Nat} : ∀ d, (∀ i, m ≤ i → i < m + d → b i = false) → mr_ct b (m + d) = mr_ct b m := by
  intro d
  induction d with
  | zero => intro _; rfl
  | succ d ih =>
    intro h
    have e : b (m + d) = false := h _ (by omega) (by omega)
    rw [← Nat.add_assoc, mr_ct_s, ih (fun i h1 h2 => h i h1 (by omega)), e]
    simp
theorem mr_vs_none {b : Nat → Bool} {ky w : Nat → Int32} {q : Int32} : ∀ n, (∀ i, i < n → b i = true → ky i ≠ q) → mr_vs b ky w q n = [] := by
  intro n
  induction n with
  | zero => intro _; rfl
  | succ n ih =>
    intro h
    have e : ¬ (b n = true ∧ ky n = q) := fun z => h n (by omega) z.1 z.2
    rw [mr_vs_s, ih (fun i h1 => h i (by omega)), if_neg e]
    rfl
theorem mr_vs_len (b : Nat → Bool) (ky w : Nat → Int32) (q : Int32) : ∀ n, (mr_vs b ky w q n).length ≤ n := by
  intro n
  induction n with
  | zero => exact Nat.le_refl _
  | succ n ih =>
    rw [mr_vs_s, List.length_append]
    split
    · rw [List.length_singleton]; omega
    · rw [List.length_nil]; omega
theorem mr_vs_cg {b b' : Nat → Bool} {ky ky' w w' : Nat → Int32} {q : Int32} : ∀ n, (∀ i, i < n → b i = b' i ∧ (b i = true → ky i = ky' i ∧ w i = w' i)) → mr_vs b ky w q n = mr_vs b' ky' w' q n := by
  intro n
  induction n with
  | zero => intro _; rfl
  | succ n ih =>
    intro h
    obtain ⟨e1, e2⟩ := h n (by omega)
    rw [mr_vs_s, mr_vs_s, ih (fun i h1 => h i (by omega))]
    by_cases z : b n = true
    · obtain ⟨e3, e4⟩ := e2 z
      rw [← e1, e3, e4]
    · rw [if_neg (fun y => z y.1), if_neg (fun y => z (e1.trans y.1))]
theorem mr_ct_cg {b b' : Nat → Bool} : ∀ n, (∀ i, i < n → b i = b' i) → mr_ct b n = mr_ct b' n := by
  intro n
  induction n with
  | zero => intro _; rfl
  | succ n ih =>
    intro h
    rw [mr_ct_s, mr_ct_s, ih (fun i h1 => h i (by omega)), h n (by omega)]
/-- the values of key q in the stretch of n pairs from a on -/
def mr_sv (pk pv : Nat → Int32) (q : Int32) (a : Nat) : Nat → List Int32
  | 0 => []
  | n + 1 => mr_sv pk pv q a n ++ (if pk (a + n) = q then [pv (a + n)] else [])
theorem mr_sv_s (pk pv : Nat → Int32) (q : Int32) (a n : Nat) : mr_sv pk pv q a (n + 1) = mr_sv pk pv q a n ++ (if pk (a + n) = q then [pv (a + n)] else []) := rfl
theorem mr_sv_add (pk pv : Nat → Int32) (q : Int32) (a m : Nat) : ∀ n, mr_sv pk pv q a (m + n) = mr_sv pk pv q a m ++ mr_sv pk pv q (a + m) n := by
  intro n
  induction n with
  | zero => exact (List.append_nil _).symm
  | succ n ih => rw [← Nat.add_assoc, mr_sv_s, ih, mr_sv_s, List.append_assoc, Nat.add_assoc]
theorem mr_sv_cg {pk pv pk' pv' : Nat → Int32} {q : Int32} {a a' : Nat} : ∀ n, (∀ i, i < n → pk' (a' + i) = pk (a + i) ∧ pv' (a' + i) = pv (a + i)) → mr_sv pk' pv' q a' n = mr_sv pk pv q a n := by
  intro n
  induction n with
  | zero => intro _; rfl
  | succ n ih =>
    intro h
    obtain ⟨e1, e2⟩ := h n (by omega)
    rw [mr_sv_s, mr_sv_s, ih (fun i h1 => h i (by omega)), e1, e2]
theorem mr_sv_nil {pk pv : Nat → Int32} {q : Int32} {a : Nat} : ∀ n, (∀ i, i < n → pk (a + i) ≠ q) → mr_sv pk pv q a n = [] := by
  intro n
  induction n with
  | zero => intro _; rfl
  | succ n ih =>
    intro h
    rw [mr_sv_s, ih (fun i h1 => h i (by omega)), if_neg (h n (by omega))]
    rfl
theorem mr_sv_len (pk pv : Nat → Int32) (q : Int32) (a : Nat) : ∀ n, (mr_sv pk pv q a n).length ≤ n := by
  intro n
  induction n with
  | zero => exact Nat.le_refl _
  | succ n ih =>
    rw [mr_sv_s, List.length_append]
    split
    · rw [List.length_singleton]; omega
    · rw [List.length_nil]; omega
/-- f with x put in at t, the stretch from t to n - 1 moved on by one -/
def mr_in (f : Nat → Int32) (t n : Nat) (x : Int32) : Nat → Int32 := fun j => if j < t then f j else if j = t then x else if j ≤ n then f (j - 1) else f j
theorem mr_in_lt {f : Nat → Int32} {t n j : Nat} {x : Int32} (h : j < t) : mr_in f t n x j = f j := if_pos h
theorem mr_in_eq {f : Nat → Int32} {t n : Nat} {x : Int32} : mr_in f t n x t = x := by
  unfold mr_in
  rw [if_neg (Nat.lt_irrefl t), if_pos rfl]
theorem mr_in_gt {f : Nat → Int32} {t n j : Nat} {x : Int32} (h : t < j) (hn : j ≤ n) : mr_in f t n x j = f (j - 1) := by
  unfold mr_in
  rw [if_neg (by omega), if_neg (by omega), if_pos hn]
theorem mr_in_hi {f : Nat → Int32} {t n j : Nat} {x : Int32} (h : t ≤ n) (hn : n < j) : mr_in f t n x j = f j := by
  unfold mr_in
  rw [if_neg (by omega), if_neg (by omega), if_neg (by omega)]
theorem mr_sv_ins {pk pv : Nat → Int32} {a t n : Nat} (hat : a ≤ t) (htn : t ≤ n) (hgt : ∀ j, t ≤ j → j < n → (pk n).toInt < (pk j).toInt) (q : Int32) :
    mr_sv (mr_in pk t n (pk n)) (mr_in pv t n (pv n)) q a (n + 1 - a) = mr_sv pk pv q a (n + 1 - a) := by
  obtain ⟨e, rfl⟩ : ∃ e, t = a + e := ⟨t - a, by omega⟩
  obtain ⟨d, rfl⟩ : ∃ d, n = a + e + d := ⟨n - (a + e), by omega⟩
  have hn : a + e + d + 1 - a = e + (1 + d) := by omega
  have hn2 : e + (1 + d) = e + (d + 1) := by omega
  rw [hn, mr_sv_add, mr_sv_add _ _ _ (a + e) 1 d]
  rw [hn2, mr_sv_add pk pv q a e (d + 1), mr_sv_s pk pv q (a + e) d]
  have h1 : mr_sv (mr_in pk (a + e) (a + e + d) (pk (a + e + d))) (mr_in pv (a + e) (a + e + d) (pv (a + e + d))) q a e = mr_sv pk pv q a e :=
    mr_sv_cg e (fun i hi => ⟨mr_in_lt (by omega), mr_in_lt (by omega)⟩)
  have h2 : mr_sv (mr_in pk (a + e) (a + e + d) (pk (a + e + d))) (mr_in pv (a + e) (a + e + d) (pv (a + e + d))) q (a + e + 1) d = mr_sv pk pv q (a + e) d :=
    mr_sv_cg d (fun i hi => ⟨by rw [mr_in_gt (by omega) (by omega)]; exact congrArg pk (by omega), by rw [mr_in_gt (by omega) (by omega)]; exact congrArg pv (by omega)⟩)
  have h3 : mr_sv (mr_in pk (a + e) (a + e + d) (pk (a + e + d))) (mr_in pv (a + e) (a + e + d) (pv (a + e + d))) q (a + e) 1 = (if pk (a + e + d) = q then [pv (a + e + d)] else []) := by
    show [] ++ (if mr_in pk (a + e) (a + e + d) (pk (a + e + d)) (a + e + 0) = q then [mr_in pv (a + e) (a + e + d) (pv (a + e + d)) (a + e + 0)] else []) = _
    rw [Nat.add_zero, mr_in_eq, mr_in_eq]
    rfl
  rw [h1, h2, h3]
  by_cases z : pk (a + e + d) = q
  · have h4 : mr_sv pk pv q (a + e) d = [] := mr_sv_nil d (fun i hi y => by
      have := hgt (a + e + i) (by omega) (by omega)
      rw [y, z] at this
      omega)
    rw [h4, if_pos z]
    rfl
  · rw [if_neg z, List.nil_append, List.append_nil]
/-- the keys from a to b - 1 rise -/
def mr_So (pk : Nat → Int32) (a b : Nat) : Prop := ∀ i j, a ≤ i → i < j → j < b → (pk i).toInt ≤ (pk j).toInt
theorem mr_So_ins {pk : Nat → Int32} {a t n : Nat} (hs : mr_So pk a n) (hat : a ≤ t) (htn : t ≤ n) (hgt : ∀ j, t ≤ j → j < n → (pk n).toInt < (pk j).toInt)
    (hle : t = a ∨ (pk (t - 1)).toInt ≤ (pk n).toInt) : mr_So (mr_in pk t n (pk n)) a (n + 1) := by
  intro i j hai hij hjn
  by_cases c1 : j < t
  · rw [mr_in_lt c1, mr_in_lt (show i < t by omega)]
    exact hs i j hai hij (by omega)
  · by_cases c2 : j = t
    · subst c2
      rw [mr_in_eq, mr_in_lt hij]
      have h1 : (pk (j - 1)).toInt ≤ (pk n).toInt := by
        cases hle with
        | inl h => omega
        | inr h => exact h
      by_cases c3 : i = j - 1
      · rw [c3]; exact h1
      · exact Int.le_trans (hs i (j - 1) hai (by omega) (by omega)) h1
    · rw [mr_in_gt (show t < j by omega) (show j ≤ n by omega)]
      by_cases c4 : i < t
      · rw [mr_in_lt c4]
        exact hs i (j - 1) hai (by omega) (by omega)
      · by_cases c5 : i = t
        · subst c5
          rw [mr_in_eq]
          exact Int.le_of_lt (hgt (j - 1) (by omega) (by omega))
        · rw [mr_in_gt (show t < i by omega) (show i ≤ n by omega)]
          exact hs (i - 1) (j - 1) (by omega) (by omega) (by omega)
theorem mr_So_cg {pk pk' : Nat → Int32} {a b : Nat} (hs : mr_So pk a b) (h : ∀ j, a ≤ j → j < b → pk' j = pk j) : mr_So pk' a b := by
  intro i j hai hij hjb
  rw [h i hai (by omega), h j (by omega) hjb]
  exact hs i j hai hij hjb
end
section
/-! the pure picture, 2: the results of a part: how many keys below n belong to part p and have a result; where they stand -/
def mr_k (h : Nat → Bool) (P p : Nat) : Nat → Nat
  | 0 => 0
  | n + 1 => mr_k h P p n + (if h n = true ∧ n % P = p then 1 else 0)
theorem mr_k_s (h : Nat → Bool) (P p n : Nat) : mr_k h P p (n + 1) = mr_k h P p n + (if h n = true ∧ n % P = p then 1 else 0) := rfl
theorem mr_k_y {h : Nat → Bool} {P p n : Nat} (h1 : h n = true) (h2 : n % P = p) : mr_k h P p (n + 1) = mr_k h P p n + 1 := by
  rw [mr_k_s, if_pos ⟨h1, h2⟩]
theorem mr_k_n {h : Nat → Bool} {P p n : Nat} (h1 : ¬ (h n = true ∧ n % P = p)) : mr_k h P p (n + 1) = mr_k h P p n := by
  rw [mr_k_s, if_neg h1]
  rfl
theorem mr_k_le (h : Nat → Bool) (P p : Nat) : ∀ n, mr_k h P p n ≤ n := by
  intro n
  induction n with
  | zero => exact Nat.le_refl _
  | succ n ih => rw [mr_k_s]; split <;> omega
theorem mr_k_mono (h : Nat → Bool) (P p m : Nat) : ∀ d, mr_k h P p m ≤ mr_k h P p (m + d) := by
  intro d
  induction d with
  | zero => exact Nat.le_refl _
  | succ d ih => rw [← Nat.add_assoc, mr_k_s]; omega
theorem mr_k_lt {h : Nat → Bool} {P p q n : Nat} (hq : q < n) (h1 : h q = true) (h2 : q % P = p) : mr_k h P p q < mr_k h P p n := by
  obtain ⟨d, rfl⟩ : ∃ d, n = q + 1 + d := ⟨n - (q + 1), by omega⟩
  have e := mr_k_y (p := p) (P := P) h1 h2
  have := mr_k_mono h P p (q + 1) d
  omega
theorem mr_k_sur {h : Nat → Bool} {P p i : Nat} : ∀ n, i < mr_k h P p n → ∃ q, q < n ∧ h q = true ∧ q % P = p ∧ mr_k h P p q = i := by
  intro n
  induction n with
  | zero => intro z; exact absurd z (Nat.not_lt_zero _)
  | succ n ih =>
    intro z
    by_cases c : h n = true ∧ n % P = p
    · rw [mr_k_y c.1 c.2] at z
      by_cases c2 : i < mr_k h P p n
      · obtain ⟨q, a, b⟩ := ih c2
        exact ⟨q, by omega, b⟩
      · exact ⟨n, by omega, c.1, c.2, by omega⟩
    · rw [mr_k_n c] at z
      obtain ⟨q, a, b⟩ := ih z
      exact ⟨q, by omega, b⟩
theorem mr_k_skip {h : Nat → Bool} {P p m : Nat} : ∀ d, (∀ q, m ≤ q → q < m + d → h q = false) → mr_k h P p (m + d) = mr_k h P p m := by
  intro d
  induction d with
  | zero => intro _; rfl
  | succ d ih =>
    intro z
    have e : h (m + d) = false := z _ (by omega) (by omega)
    rw [← Nat.add_assoc, mr_k_n (by rw [e]; simp), ih (fun q a b => z q a (by omega))]
theorem mr_k_none {h : Nat → Bool} {P p : Nat} : ∀ n, (∀ q, q < n → h q = true → q % P ≠ p) → mr_k h P p n = 0 := by
  intro n
  induction n with
  | zero => intro _; rfl
  | succ n ih =>
    intro z
    rw [mr_k_n (fun y => z n (by omega) y.1 y.2), ih (fun q a => z q (by omega))]
/-- the sum over the parts below p -/
def mr_S (h : Nat → Bool) (P n : Nat) : Nat → Nat
  | 0 => 0
  | p + 1 => mr_S h P n p + mr_k h P p n
theorem mr_S_s (h : Nat → Bool) (P n p : Nat) : mr_S h P n (p + 1) = mr_S h P n p + mr_k h P p n := rfl
theorem mr_S_n0 (h : Nat → Bool) (P : Nat) : ∀ p, mr_S h P 0 p = 0 := by
  intro p
  induction p with
  | zero => rfl
  | succ p ih => rw [mr_S_s, ih]; rfl
theorem mr_S_n (h : Nat → Bool) (P n : Nat) : ∀ p, mr_S h P (n + 1) p = mr_S h P n p + (if h n = true ∧ n % P < p then 1 else 0) := by
  intro p
  induction p with
  | zero => rw [if_neg (fun z => absurd z.2 (Nat.not_lt_zero _))]; rfl
  | succ p ih =>
    rw [mr_S_s, mr_S_s, ih, mr_k_s]
    by_cases c : h n = true
    · by_cases c1 : n % P < p
      · rw [if_pos ⟨c, c1⟩, if_neg (fun z => by have := z.2; omega), if_pos ⟨c, by omega⟩]; omega
      · by_cases c2 : n % P = p
        · rw [if_neg (fun z => c1 z.2), if_pos ⟨c, c2⟩, if_pos ⟨c, by omega⟩]; omega
        · rw [if_neg (fun z => c1 z.2), if_neg (fun z => c2 z.2), if_neg (fun z => by have := z.2; omega)]; omega
    · rw [if_neg (fun z => c z.1), if_neg (fun z => c z.1), if_neg (fun z => c z.1)]; omega
theorem mr_S_all {h : Nat → Bool} {P : Nat} (hP : 0 < P) : ∀ n, mr_S h P n P = mr_ct h n := by
  intro n
  induction n with
  | zero => exact mr_S_n0 h P P
  | succ n ih =>
    have hm : n % P < P := Nat.mod_lt _ hP
    rw [mr_S_n, ih, mr_ct_s]
    by_cases c : h n = true
    · rw [if_pos ⟨c, hm⟩, if_pos c]
    · rw [if_neg (fun z => c z.1), if_neg c]
theorem mr_S_le {h : Nat → Bool} {P : Nat} (n : Nat) : ∀ p, p ≤ 4 → mr_S h P n p ≤ 4 * n := by
  intro p hp
  have h0 := mr_k_le h P 0 n
  have h1 := mr_k_le h P 1 n
  have h2 := mr_k_le h P 2 n
  have h3 := mr_k_le h P 3 n
  have a0 : mr_S h P n 0 = 0 := rfl
  have a1 : mr_S h P n 1 = mr_S h P n 0 + mr_k h P 0 n := rfl
  have a2 : mr_S h P n 2 = mr_S h P n 1 + mr_k h P 1 n := rfl
  have a3 : mr_S h P n 3 = mr_S h P n 2 + mr_k h P 2 n := rfl
  have a4 : mr_S h P n 4 = mr_S h P n 3 + mr_k h P 3 n := rfl
  obtain rfl | rfl | rfl | rfl | rfl : p = 0 ∨ p = 1 ∨ p = 2 ∨ p = 3 ∨ p = 4 := by omega
  all_goals omega
/-- the counts, keys and values that stand in the parts: part p has the results of its keys below lim p -/
def mr_Res (h : Nat → Bool) (P : Nat) (val : Nat → Int32) (lim : Nat → Nat) (rc rk rv : Nat → Int32) : Prop :=
  ∀ p, p < 4 → rc p = nI (mr_k h P p (lim p)) ∧ ∀ q, q < lim p → h q = true → q % P = p → rk (16 * p + mr_k h P p q) = nI q ∧ rv (16 * p + mr_k h P p q) = val q
def mr_up (lim : Nat → Nat) (p n : Nat) : Nat → Nat := fun j => if j = p then n else lim j
theorem mr_up_s {lim : Nat → Nat} {p n : Nat} : mr_up lim p n p = n := if_pos rfl
theorem mr_up_n {lim : Nat → Nat} {p n j : Nat} (h : j ≠ p) : mr_up lim p n j = lim j := if_neg h
theorem mr_up_up {lim : Nat → Nat} {p n m : Nat} : mr_up (mr_up lim p n) p m = mr_up lim p m := by
  funext j
  by_cases c : j = p
  · subst c; rw [mr_up_s, mr_up_s]
  · rw [mr_up_n c, mr_up_n c, mr_up_n c]
theorem mr_up_id {lim : Nat → Nat} {p n : Nat} (h : lim p = n) : mr_up lim p n = lim := by
  funext j
  by_cases c : j = p
  · subst c; rw [mr_up_s, h]
  · rw [mr_up_n c]
theorem mr_Res_skip {h : Nat → Bool} {P p n : Nat} {val : Nat → Int32} {lim : Nat → Nat} {rc rk rv : Nat → Int32} (R : mr_Res h P val (mr_up lim p n) rc rk rv)
    (hn : ¬ (h n = true ∧ n % P = p)) : mr_Res h P val (mr_up lim p (n + 1)) rc rk rv := by
  intro j hj
  obtain ⟨a, b⟩ := R j hj
  by_cases c : j = p
  · subst c
    rw [mr_up_s] at a b
    rw [mr_up_s, mr_k_n hn]
    refine ⟨a, fun q hq h1 h2 => b q ?_ h1 h2⟩
    by_cases d : q = n
    · subst d; exact absurd ⟨h1, h2⟩ hn
    · omega
  · rw [mr_up_n c] at a b
    rw [mr_up_n c]
    exact ⟨a, b⟩
theorem mr_Res_put {h : Nat → Bool} {P p n : Nat} {val : Nat → Int32} {lim : Nat → Nat} {rc rk rv : Nat → Int32} (R : mr_Res h P val (mr_up lim p n) rc rk rv)
    (h1 : h n = true) (h2 : n % P = p) (hn : n < 16) (hl : ∀ j, lim j ≤ 16) :
    mr_Res h P val (mr_up lim p (n + 1)) (upd rc p (nI (mr_k h P p n + 1))) (upd rk (16 * p + mr_k h P p n) (nI n)) (upd rv (16 * p + mr_k h P p n) (val n)) := by
  have hk := mr_k_le h P p n
  intro j hj
  obtain ⟨a, b⟩ := R j hj
  by_cases c : j = p
  · subst c
    rw [mr_up_s] at a b
    rw [mr_up_s, mr_k_y h1 h2]
    refine ⟨pk_us, fun q hq g1 g2 => ?_⟩
    by_cases d : q = n
    · subst d; exact ⟨pk_us, pk_us⟩
    · have hlt : mr_k h P j q < mr_k h P j n := mr_k_lt (by omega) g1 g2
      rw [pk_un (by omega), pk_un (by omega)]
      exact b q (by omega) g1 g2
  · rw [mr_up_n c] at a b
    rw [mr_up_n c]
    refine ⟨by rw [pk_un c]; exact a, fun q hq g1 g2 => ?_⟩
    have hq2 := mr_k_le h P j q
    have := hl j
    rw [pk_un (by omega), pk_un (by omega)]
    exact b q hq g1 g2
theorem mr_Res_0 {h : Nat → Bool} {P : Nat} {val : Nat → Int32} {rc rk rv : Nat → Int32} (hc : ∀ p, p < 4 → rc p = 0) : mr_Res h P val (fun _ => 0) rc rk rv :=
  fun p hp => ⟨(hc p hp).trans nI_0.symm, fun _ hq => absurd hq (Nat.not_lt_zero _)⟩
end
section
/-! the pure picture, 3: a group's result, and the reference's five running numbers -/
def mr_s0 (r : Int32) : Int32 := if r = 1 then -2147483648 else if r = 2 then 2147483647 else if r = 4 then 7 else 0
def mr_st (r s v : Int32) : Int32 := if r = 0 then s + v else if r = 1 then (if s < v then v else s) else if r = 2 then (if v < s then v else s) else if r = 3 then s + 1 else 31 * s + v
def mr_fd (r : Int32) (l : List Int32) : Int32 := l.foldl (mr_st r) (mr_s0 r)
theorem mr_fd_snoc (r : Int32) (l : List Int32) (v : Int32) : mr_fd r (l ++ [v]) = mr_st r (mr_fd r l) v := by
  unfold mr_fd
  rw [List.foldl_append]
  rfl
theorem mr_st0 (s v : Int32) : mr_st 0 s v = s + v := by
  unfold mr_st
  rw [if_pos rfl]
theorem mr_st1 (s v : Int32) : mr_st 1 s v = if s < v then v else s := by
  unfold mr_st
  rw [if_neg (show ¬ (1 : Int32) = 0 by decide), if_pos rfl]
theorem mr_st2 (s v : Int32) : mr_st 2 s v = if v < s then v else s := by
  unfold mr_st
  rw [if_neg (show ¬ (2 : Int32) = 0 by decide), if_neg (show ¬ (2 : Int32) = 1 by decide), if_pos rfl]
theorem mr_st3 (s v : Int32) : mr_st 3 s v = s + 1 := by
  unfold mr_st
  rw [if_neg (show ¬ (3 : Int32) = 0 by decide), if_neg (show ¬ (3 : Int32) = 1 by decide), if_neg (show ¬ (3 : Int32) = 2 by decide), if_pos rfl]
theorem mr_st4 (s v : Int32) : mr_st 4 s v = 31 * s + v := by
  unfold mr_st
  rw [if_neg (show ¬ (4 : Int32) = 0 by decide), if_neg (show ¬ (4 : Int32) = 1 by decide), if_neg (show ¬ (4 : Int32) = 2 by decide), if_neg (show ¬ (4 : Int32) = 3 by decide)]
theorem mr_fn (r : Int32) : mr_fd r [] = mr_s0 r := rfl
theorem mr_z0 : mr_s0 0 = 0 := by decide
theorem mr_z1 : mr_s0 1 = -2147483648 := by decide
theorem mr_z2 : mr_s0 2 = 2147483647 := by decide
theorem mr_z3 : mr_s0 3 = 0 := by decide
theorem mr_z4 : mr_s0 4 = 7 := by decide
theorem mr_lst (v : Int32) : (if (-2147483648 : Int32) < v then v else -2147483648) = v := by
  by_cases c : (-2147483648 : Int32) < v
  · exact if_pos c
  · rw [if_neg c]
    have h := Int32.le_toInt v
    rw [Int32.lt_iff_toInt_lt, show (-2147483648 : Int32).toInt = -2147483648 from by decide] at c
    apply Int32.toInt_inj.mp
    rw [show (-2147483648 : Int32).toInt = -2147483648 from by decide]
    omega
theorem mr_gst (v : Int32) : (if v < (2147483647 : Int32) then v else 2147483647) = v := by
  by_cases c : v < (2147483647 : Int32)
  · exact if_pos c
  · rw [if_neg c]
    have h := Int32.toInt_lt v
    rw [Int32.lt_iff_toInt_lt, show (2147483647 : Int32).toInt = 2147483647 from by decide] at c
    apply Int32.toInt_inj.mp
    rw [show (2147483647 : Int32).toInt = 2147483647 from by decide]
    omega
/-- the reference's h, sum, count, most, least over the values l -/
def mr_Y (l : List Int32) (h sum count most least : Int32) : Prop :=
  h = mr_fd 4 l ∧ sum = mr_fd 0 l ∧ count = nI l.length ∧ count = mr_fd 3 l ∧ (l ≠ [] → most = mr_fd 1 l) ∧ (l ≠ [] → least = mr_fd 2 l)
theorem mr_Y0 (a b : Int32) : mr_Y [] 7 0 0 a b := ⟨by rw [mr_fn, mr_z4], by rw [mr_fn, mr_z0], nI_0.symm, by rw [mr_fn, mr_z3], fun z => absurd rfl z, fun z => absurd rfl z⟩
theorem mr_Y1 {l : List Int32} {h sum count most least : Int32} (Y : mr_Y l h sum count most least) (w : Int32) (hl : l.length < 2 ^ 31) :
    mr_Y (l ++ [w]) (31 * h + w) (sum + w) (count + 1) (if count = 0 ∨ most < w then w else most) (if count = 0 ∨ w < least then w else least) := by
  obtain ⟨e1, e2, e3, e4, e5, e6⟩ := Y
  have n1 : nI l.length + 1 = nI (l ++ [w]).length := by rw [nI_1, List.length_append]; rfl
  refine ⟨?_, ?_, ?_, ?_, ?_, ?_⟩
  · rw [mr_fd_snoc, e1, mr_st4]
  · rw [mr_fd_snoc, e2, mr_st0]
  · rw [e3, n1]
  · rw [mr_fd_snoc, e4, mr_st3]
  · intro _
    rw [mr_fd_snoc, mr_st1]
    by_cases c : l = []
    · subst c
      have c0 : count = 0 := e3.trans nI_0
      rw [if_pos (Or.inl c0), mr_fn, mr_z1]
      exact (mr_lst w).symm
    · have c0 : ¬ count = 0 := by
        rw [e3]
        exact nI_ne0 (List.length_pos_iff.mpr c) hl
      rw [e5 c]
      by_cases d : mr_fd 1 l < w
      · rw [if_pos (Or.inr d), if_pos d]
      · rw [if_neg (fun z => z.elim c0 d), if_neg d]
  · intro _
    rw [mr_fd_snoc, mr_st2]
    by_cases c : l = []
    · subst c
      have c0 : count = 0 := e3.trans nI_0
      rw [if_pos (Or.inl c0), mr_fn, mr_z2]
      exact (mr_gst w).symm
    · have c0 : ¬ count = 0 := by
        rw [e3]
        exact nI_ne0 (List.length_pos_iff.mpr c) hl
      rw [e6 c]
      by_cases d : w < mr_fd 2 l
      · rw [if_pos (Or.inr d), if_pos d]
      · rw [if_neg (fun z => z.elim c0 d), if_neg d]
/-- a record's key by the modulus m -/
def mr_ky (m k : Int32) : Int32 := if k - k / m * m < 0 then k - k / m * m + m else k - k / m * m
theorem mr_ky_of {M : Nat} (h0 : 0 < M) (h1 : M < 2 ^ 30) (k : Int32) : ∃ j, j < M ∧ mr_ky (nI M) k = nI j := by
  have hM : (nI M).toInt = (M : Int) := nI_toInt (by omega)
  have hb := tmod_bounds (a := k.toInt) (M := (nI M).toInt) (by rw [hM]; omega)
  have hr := rem_toInt k (nI M)
  rw [← hr, hM] at hb
  have z : (0 : Int32).toInt = 0 := by decide
  unfold mr_ky
  generalize k - k / nI M * nI M = x at hb ⊢
  by_cases c : x < 0
  · rw [if_pos c]
    rw [Int32.lt_iff_toInt_lt, z] at c
    have hs : (x + nI M).toInt = x.toInt + M := by
      rw [Int32.toInt_add, hM]
      exact Int.bmod_eq_of_le (by omega) (by omega)
    refine ⟨(x.toInt + M).toNat, by omega, ?_⟩
    apply Int32.toInt_inj.mp
    rw [hs, nI_toInt (by omega)]
    omega
  · rw [if_neg c]
    rw [Int32.lt_iff_toInt_lt, z] at c
    refine ⟨x.toInt.toNat, by omega, ?_⟩
    apply Int32.toInt_inj.mp
    rw [nI_toInt (by omega)]
    omega
end
section
/-! the pure picture, 4: runs and their cursors -/
def mr_Runs (pk st en : Nat → Int32) (n pc : Nat) (S : Nat → Nat) : Prop :=
  S 0 = 0 ∧ S n = pc ∧ ∀ r, r < n → S r < S (r + 1) ∧ st r = nI (S r) ∧ en r = nI (S (r + 1)) ∧ mr_So pk (S r) (S (r + 1))
theorem mr_Runs_ge {pk st en : Nat → Int32} {n pc : Nat} {S : Nat → Nat} (R : mr_Runs pk st en n pc S) : ∀ r, r ≤ n → r ≤ S r := by
  obtain ⟨h0, h1, h2⟩ := R
  intro r
  induction r with
  | zero => intro _; exact Nat.zero_le _
  | succ r ih =>
    intro hr
    have := (h2 r (by omega)).1
    have := ih (by omega)
    omega
theorem mr_Runs_le {pk st en : Nat → Int32} {n pc : Nat} {S : Nat → Nat} (R : mr_Runs pk st en n pc S) : ∀ d r, r + d = n → S r ≤ pc := by
  obtain ⟨h0, h1, h2⟩ := R
  intro d
  induction d with
  | zero => intro r hr; rw [← h1]; rw [Nat.add_zero] at hr; rw [hr]; exact Nat.le_refl _
  | succ d ih =>
    intro r hr
    have := (h2 r (by omega)).1
    have := ih (r + 1) (by omega)
    omega
theorem mr_Runs_S {pk st en : Nat → Int32} {n pc : Nat} {S : Nat → Nat} (R : mr_Runs pk st en n pc S) {r : Nat} (hr : r ≤ n) : S r ≤ pc := mr_Runs_le R (n - r) r (by omega)
theorem mr_Runs_cg {pk pk' st en : Nat → Int32} {n pc : Nat} {S : Nat → Nat} (R : mr_Runs pk st en n pc S) (h : ∀ j, j < pc → pk' j = pk j) : mr_Runs pk' st en n pc S := by
  refine ⟨R.1, R.2.1, fun r hr => ?_⟩
  obtain ⟨a, b, c, d⟩ := R.2.2 r hr
  have := mr_Runs_S R (show r + 1 ≤ n by omega)
  exact ⟨a, b, c, mr_So_cg d (fun j _ hj => h j (by omega))⟩
theorem mr_Runs_0 (pk st en : Nat → Int32) : mr_Runs pk st en 0 0 (fun _ => 0) := ⟨rfl, rfl, fun _ h => absurd h (Nat.not_lt_zero _)⟩
theorem mr_Runs_close {pk pk' st en : Nat → Int32} {n a pc : Nat} {S : Nat → Nat} (R : mr_Runs pk st en n a S) (hap : a < pc) (hs : mr_So pk' a pc) (h : ∀ j, j < a → pk' j = pk j) :
    mr_Runs pk' (upd st n (nI a)) (upd en n (nI pc)) (n + 1) pc (mr_up S (n + 1) pc) := by
  refine ⟨?_, mr_up_s, fun r hr => ?_⟩
  · rw [mr_up_n (by omega)]; exact R.1
  · by_cases c : r = n
    · subst c
      rw [mr_up_s, mr_up_n (by omega), R.2.1, pk_us, pk_us]
      exact ⟨hap, rfl, rfl, hs⟩
    · obtain ⟨g1, g2, g3, g4⟩ := R.2.2 r (by omega)
      have := mr_Runs_S R (show r + 1 ≤ n by omega)
      rw [mr_up_n (by omega), mr_up_n (by omega), pk_un c, pk_un c]
      exact ⟨g1, g2, g3, mr_So_cg g4 (fun j _ hj => h j (by omega))⟩
/-- the cursor of run r has passed only keys below q -/
def mr_C1 (pk cur : Nat → Int32) (S : Nat → Nat) (r : Nat) (q : Nat) : Prop := ∃ x, cur r = nI x ∧ S r ≤ x ∧ x ≤ S (r + 1) ∧ ∀ j, S r ≤ j → j < x → (pk j).toInt < (q : Int)
theorem mr_C1_up {pk cur : Nat → Int32} {S : Nat → Nat} {r q q' : Nat} (h : mr_C1 pk cur S r q) (hq : q ≤ q') : mr_C1 pk cur S r q' := by
  obtain ⟨x, a, b, c, d⟩ := h
  refine ⟨x, a, b, c, fun j h1 h2 => ?_⟩
  have := d j h1 h2
  omega
theorem mr_C1_cg {pk cur cur' : Nat → Int32} {S : Nat → Nat} {r q : Nat} (h : mr_C1 pk cur S r q) (e : cur' r = cur r) : mr_C1 pk cur' S r q := by
  obtain ⟨x, a, b⟩ := h
  exact ⟨x, e.trans a, b⟩
/-- taking from the cursor x to t takes just the values of key q of the run from a to b -/
theorem mr_take {pk pv : Nat → Int32} {a b x t : Nat} {q : Int32} (hs : mr_So pk a b) (h1 : a ≤ x) (h2 : x ≤ t) (h3 : t ≤ b) (hlo : ∀ j, a ≤ j → j < x → (pk j).toInt < q.toInt)
    (hhi : t = b ∨ q.toInt < (pk t).toInt) : mr_sv pk pv q a (b - a) = mr_sv pk pv q x (t - x) := by
  have e1 : b - a = (x - a) + ((t - x) + (b - t)) := by omega
  have e2 : a + (x - a) = x := by omega
  have e3 : x + (t - x) = t := by omega
  rw [e1, mr_sv_add, mr_sv_add, e2, e3]
  have z1 : mr_sv pk pv q a (x - a) = [] := mr_sv_nil _ (fun i hi y => by
    have := hlo (a + i) (by omega) (by omega)
    rw [y] at this
    omega)
  have z2 : mr_sv pk pv q t (b - t) = [] := mr_sv_nil _ (fun i hi y => by
    cases hhi with
    | inl h => omega
    | inr h =>
      by_cases c : i = 0
      · subst c
        rw [Nat.add_zero] at y
        rw [y] at h
        omega
      · have := hs t (t + i) (by omega) (by omega) (by omega)
        rw [y] at this
        omega)
  rw [z1, z2, List.nil_append, List.append_nil]
/-- while key q is asked for: the cursors of the runs below r have passed q, the others have not -/
def mr_Cs (pk cur : Nat → Int32) (S : Nat → Nat) (n r q : Nat) : Prop := ∀ j, j < n → mr_C1 pk cur S j (if j < r then q + 1 else q)
theorem mr_Cs_0 {pk cur : Nat → Int32} {S : Nat → Nat} {n q : Nat} (h : ∀ j, j < n → mr_C1 pk cur S j q) : mr_Cs pk cur S n 0 q := fun j hj => by
  rw [if_neg (Nat.not_lt_zero j)]
  exact h j hj
theorem mr_Cs_n {pk cur : Nat → Int32} {S : Nat → Nat} {n q : Nat} (h : mr_Cs pk cur S n n q) : ∀ j, j < n → mr_C1 pk cur S j (q + 1) := fun j hj => by
  have := h j hj
  rw [if_pos hj] at this
  exact this
theorem mr_C_rew {pk cur st en : Nat → Int32} {n pc : Nat} {S : Nat → Nat} (R : mr_Runs pk st en n pc S) (h : ∀ j, j < n → cur j = st j) (q : Nat) : ∀ j, j < n → mr_C1 pk cur S j q := fun j hj => by
  obtain ⟨a, b, _, _⟩ := R.2.2 j hj
  exact ⟨S j, (h j hj).trans b, Nat.le_refl _, Nat.le_of_lt a, fun i h1 h2 => by omega⟩
theorem mr_take_step {pk pv cur st en : Nat → Int32} {n pc r q : Nat} {S : Nat → Nat} (R : mr_Runs pk st en n pc S) (C : mr_Cs pk cur S n r q) (hr : r < n) (hq : q < 2 ^ 31) :
    ∃ x, cur r = nI x ∧ en r = nI (S (r + 1)) ∧ x ≤ S (r + 1) ∧ S (r + 1) ≤ pc ∧ ∀ t, x ≤ t → t ≤ S (r + 1) → (t = S (r + 1) ∨ (q : Int) < (pk t).toInt) →
      (∀ j, x ≤ j → j < t → (pk j).toInt ≤ (q : Int)) → mr_Cs pk (upd cur r (nI t)) S n (r + 1) q ∧ mr_sv pk pv (nI q) 0 (S (r + 1)) = mr_sv pk pv (nI q) 0 (S r) ++ mr_sv pk pv (nI q) x (t - x) := by
  obtain ⟨g1, g2, g3, g4⟩ := R.2.2 r hr
  have c := C r hr
  rw [if_neg (Nat.lt_irrefl r)] at c
  obtain ⟨x, c1, c2, c3, c4⟩ := c
  refine ⟨x, c1, g3, c3, mr_Runs_S R (show r + 1 ≤ n by omega), fun t h1 h2 h3 h4 => ⟨fun j hj => ?_, ?_⟩⟩
  · by_cases d : j = r
    · subst d
      rw [if_pos (Nat.lt_succ_self j)]
      refine ⟨t, pk_us, by omega, h2, fun i i1 i2 => ?_⟩
      by_cases e : i < x
      · have := c4 i i1 e
        omega
      · have := h4 i (by omega) i2
        omega
    · have z := C j hj
      have e : (if j < r + 1 then q + 1 else q) = (if j < r then q + 1 else q) := by
        by_cases f : j < r
        · rw [if_pos f, if_pos (by omega)]
        · rw [if_neg f, if_neg (by omega)]
      rw [e]
      exact mr_C1_cg z (pk_un d)
  · have hqi : (nI q).toInt = (q : Int) := nI_toInt hq
    have e : S (r + 1) = S r + (S (r + 1) - S r) := by omega
    rw [← mr_take (pv := pv) (q := nI q) g4 c2 h1 h2 (fun j j1 j2 => by rw [hqi]; exact c4 j j1 j2) (by rw [hqi]; exact h3)]
    have f := mr_sv_add pk pv (nI q) 0 (S r) (S (r + 1) - S r)
    rw [← e, Nat.zero_add] at f
    exact f
end
section
/-! the pure picture, 5: sums of failures; which record is mapped, its key, its value; the relation's parts -/
def mr_sm (s : Int32) (f : Nat → Int32) : Nat → Int32
  | 0 => s
  | n + 1 => mr_sm s f n + f n
theorem mr_sm_s (s : Int32) (f : Nat → Int32) (n : Nat) : mr_sm s f (n + 1) = mr_sm s f n + f n := rfl
theorem mr_sm_cg {s : Int32} {f g : Nat → Int32} : ∀ n, (∀ i, i < n → f i = g i) → mr_sm s f n = mr_sm s g n := by
  intro n
  induction n with
  | zero => intro _; rfl
  | succ n ih =>
    intro h
    rw [mr_sm_s, mr_sm_s, ih (fun i hi => h i (by omega)), h n (by omega)]
theorem mr_sm_add (s : Int32) (f : Nat → Int32) (m : Nat) : ∀ n, mr_sm s f (m + n) = mr_sm (mr_sm s f m) (fun i => f (m + i)) n := by
  intro n
  induction n with
  | zero => rfl
  | succ n ih => rw [← Nat.add_assoc, mr_sm_s, ih, mr_sm_s]
theorem mr_sm_z {s : Int32} {f : Nat → Int32} {m : Nat} : ∀ d, (∀ i, m ≤ i → i < m + d → f i = 0) → mr_sm s f (m + d) = mr_sm s f m := by
  intro d
  induction d with
  | zero => intro _; rfl
  | succ d ih =>
    intro h
    rw [← Nat.add_assoc, mr_sm_s, ih (fun i a b => h i a (by omega)), h (m + d) (by omega) (by omega), Int32.add_zero]
theorem mr_fail {P : Nat} {xf xg yf : Nat → Int32} (hP : P ≤ 4) (h1 : ∀ s, s < 4 → xf s = yf s) (h2 : ∀ p, p < P → xg p = yf (4 + p)) (h3 : ∀ p, P ≤ p → p < 4 → yf (4 + p) = 0) :
    mr_sm 0 yf 8 = mr_sm (mr_sm 0 xf 4) xg P := by
  rw [show (8 : Nat) = 4 + 4 from rfl, mr_sm_add]
  obtain ⟨d, hd⟩ : ∃ d, 4 = P + d := ⟨4 - P, by omega⟩
  have e : mr_sm (mr_sm 0 yf 4) (fun i => yf (4 + i)) (P + d) = mr_sm (mr_sm 0 yf 4) (fun i => yf (4 + i)) P := mr_sm_z d (fun i a b => h3 i a (by omega))
  rw [← hd] at e
  rw [e, mr_sm_cg (s := 0) (f := xf) (g := yf) 4 h1]
  exact (mr_sm_cg P h2).symm
def mr_b (c : Nat → Nat) (V : Nat → Int32) (lo hi : Int32) : Nat → Bool := fun r => decide (r % 16 < c (r / 16)) && (decide (lo ≤ V r) && decide (V r ≤ hi))
def mr_w (fa og : Int32) (V : Nat → Int32) : Nat → Int32 := fun r => fa * V r + og
def mr_kf (m : Int32) (K : Nat → Int32) : Nat → Int32 := fun r => mr_ky m (K r)
/-- the values of key q over the whole input -/
def mr_all (c : Nat → Nat) (K V : Nat → Int32) (m fa og lo hi q : Int32) (n : Nat) : List Int32 := mr_vs (mr_b c V lo hi) (mr_kf m K) (mr_w fa og V) q n
/-- the records of both sides are the same -/
def mr_Rec (c : Nat → Nat) (xc xk xv yc yk yv : Nat → Int32) : Prop :=
  ∀ s, s < 4 → c s ≤ 16 ∧ xc s = nI (c s) ∧ yc s = nI (c s) ∧ ∀ i, i < c s → xk (16 * s + i) = yk (16 * s + i) ∧ xv (16 * s + i) = yv (16 * s + i)
theorem mr_Rec_at {c : Nat → Nat} {xc xk xv yc yk yv : Nat → Int32} (R : mr_Rec c xc xk xv yc yk yv) {r : Nat} (hr : r < 64) (h : r % 16 < c (r / 16)) : xk r = yk r ∧ xv r = yv r := by
  have e : 16 * (r / 16) + r % 16 = r := Nat.div_add_mod r 16
  have := (R (r / 16) (by omega)).2.2.2 (r % 16) h
  rw [e] at this
  exact this
theorem mr_Rec_b {c : Nat → Nat} {xc xk xv yc yk yv : Nat → Int32} (R : mr_Rec c xc xk xv yc yk yv) {lo hi : Int32} {r : Nat} (hr : r < 64) : mr_b c xv lo hi r = mr_b c yv lo hi r := by
  unfold mr_b
  by_cases h : r % 16 < c (r / 16)
  · rw [(mr_Rec_at R hr h).2]
  · rw [decide_eq_false h, Bool.false_and, Bool.false_and]
theorem mr_b_in {c : Nat → Nat} {V : Nat → Int32} {lo hi : Int32} {r : Nat} (h : mr_b c V lo hi r = true) : r % 16 < c (r / 16) := by
  unfold mr_b at h
  rw [Bool.and_eq_true] at h
  exact of_decide_eq_true h.1
theorem mr_Rec_all {c : Nat → Nat} {xc xk xv yc yk yv : Nat → Int32} (R : mr_Rec c xc xk xv yc yk yv) (m fa og lo hi q : Int32) : mr_all c xk xv m fa og lo hi q 64 = mr_all c yk yv m fa og lo hi q 64 := by
  refine mr_vs_cg 64 (fun r hr => ⟨mr_Rec_b R hr, fun hb => ?_⟩)
  obtain ⟨e1, e2⟩ := mr_Rec_at R hr (mr_b_in hb)
  exact ⟨congrArg (mr_ky m) e1, congrArg (fun z => fa * z + og) e2⟩
theorem mr_Rec_ct {c : Nat → Nat} {xc xk xv yc yk yv : Nat → Int32} (R : mr_Rec c xc xk xv yc yk yv) (lo hi : Int32) : mr_ct (mr_b c xv lo hi) 64 = mr_ct (mr_b c yv lo hi) 64 :=
  mr_ct_cg 64 (fun _ hr => mr_Rec_b R hr)
/-- no pair has a key at or beyond the modulus -/
theorem mr_all_hi {c : Nat → Nat} {K V : Nat → Int32} {M : Nat} {fa og lo hi : Int32} (h0 : 0 < M) (h1 : M ≤ 16) {q : Nat} (hq : M ≤ q) (hq2 : q < 2 ^ 31) (n : Nat) : mr_all c K V (nI M) fa og lo hi (nI q) n = [] := by
  refine mr_vs_none n (fun i _ _ e => ?_)
  obtain ⟨j, hj, ej⟩ := mr_ky_of h0 (show M < 2 ^ 30 by omega) (K i)
  have : nI j = nI q := ej.symm.trans e
  rw [nI_eq (by omega) hq2] at this
  omega
/-- a record within a split: its place, whether it is mapped -/
theorem mr_b_at {c : Nat → Nat} {V : Nat → Int32} {lo hi : Int32} {s i : Nat} (hi1 : i < 16) : mr_b c V lo hi (16 * s + i) = (decide (i < c s) && (decide (lo ≤ V (16 * s + i)) && decide (V (16 * s + i) ≤ hi))) := by
  unfold mr_b
  rw [show (16 * s + i) % 16 = i by omega, show (16 * s + i) / 16 = s by omega]
theorem mr_b_out {c : Nat → Nat} {V : Nat → Int32} {lo hi : Int32} {s i : Nat} (hi1 : i < 16) (h : c s ≤ i) : mr_b c V lo hi (16 * s + i) = false := by
  rw [mr_b_at hi1, decide_eq_false (show ¬ i < c s by omega), Bool.false_and]
theorem mr_end {c : Nat → Nat} {K V : Nat → Int32} {m fa og lo hi q : Int32} {s : Nat} (hc : c s ≤ 16) :
    mr_all c K V m fa og lo hi q (16 * (s + 1)) = mr_all c K V m fa og lo hi q (16 * s + c s) ∧ mr_ct (mr_b c V lo hi) (16 * (s + 1)) = mr_ct (mr_b c V lo hi) (16 * s + c s) := by
  have e : 16 * (s + 1) = (16 * s + c s) + (16 - c s) := by omega
  have z : ∀ i, 16 * s + c s ≤ i → i < (16 * s + c s) + (16 - c s) → mr_b c V lo hi i = false := fun i h1 h2 => by
    have := mr_b_out (c := c) (V := V) (lo := lo) (hi := hi) (s := s) (i := i - 16 * s) (by omega) (by omega)
    rw [show 16 * s + (i - 16 * s) = i by omega] at this
    exact this
  rw [e]
  exact ⟨mr_vs_skip _ z, mr_ct_skip _ z⟩
end
section
/-! the pure picture, 6: the sort's two loops, and the mapping of the input record by record -/
/-- f with the stretch from t to n - 1 moved on by one; t itself not yet written -/
def mr_sh (f : Nat → Int32) (t n : Nat) : Nat → Int32 := fun j => if j ≤ t then f j else if j ≤ n then f (j - 1) else f j
theorem mr_sh_n {f : Nat → Int32} {n : Nat} : mr_sh f n n = f := by
  funext j
  unfold mr_sh
  by_cases c : j ≤ n
  · rw [if_pos c]
  · rw [if_neg c, if_neg c]
theorem mr_sh_at {f : Nat → Int32} {t n j : Nat} (h : j ≤ t) : mr_sh f t n j = f j := if_pos h
theorem mr_sh_s {f : Nat → Int32} {t n : Nat} (h0 : 0 < t) (h : t ≤ n) : upd (mr_sh f t n) t (f (t - 1)) = mr_sh f (t - 1) n := by
  funext j
  by_cases c : j = t
  · subst c
    rw [pk_us]
    unfold mr_sh
    rw [if_neg (by omega), if_pos h]
  · rw [pk_un c]
    unfold mr_sh
    by_cases c1 : j ≤ t
    · rw [if_pos c1, if_pos (by omega)]
    · rw [if_neg c1, if_neg (show ¬ j ≤ t - 1 by omega)]
theorem mr_sh_in {f : Nat → Int32} {t n : Nat} {x : Int32} : upd (mr_sh f t n) t x = mr_in f t n x := by
  funext j
  by_cases c : j = t
  · subst c
    rw [pk_us, mr_in_eq]
  · rw [pk_un c]
    unfold mr_sh mr_in
    by_cases c1 : j ≤ t
    · rw [if_pos c1, if_pos (by omega)]
    · rw [if_neg c1, if_neg (show ¬ j < t by omega), if_neg c]
/-- the stretch from a to n - 1 is sorted, each key's values as they were; the rest as it was -/
def mr_Srt (pk0 pv0 pk pv : Nat → Int32) (a n : Nat) : Prop :=
  (∀ j, j < a ∨ n ≤ j → pk j = pk0 j ∧ pv j = pv0 j) ∧ (∀ q, mr_sv pk pv q a (n - a) = mr_sv pk0 pv0 q a (n - a)) ∧ mr_So pk a n
theorem mr_Srt_0 (pk pv : Nat → Int32) (a : Nat) : mr_Srt pk pv pk pv a (a + 1) := ⟨fun _ _ => ⟨rfl, rfl⟩, fun _ => rfl, fun i j h1 h2 h3 => by omega⟩
theorem mr_Srt_s {pk0 pv0 pk pv : Nat → Int32} {a t n : Nat} (R : mr_Srt pk0 pv0 pk pv a n) (hat : a ≤ t) (htn : t ≤ n) (hgt : ∀ j, t ≤ j → j < n → (pk n).toInt < (pk j).toInt)
    (hle : t = a ∨ (pk (t - 1)).toInt ≤ (pk n).toInt) : mr_Srt pk0 pv0 (mr_in pk t n (pk n)) (mr_in pv t n (pv n)) a (n + 1) := by
  obtain ⟨h1, h2, h3⟩ := R
  refine ⟨fun j hj => ?_, fun q => ?_, mr_So_ins h3 hat htn hgt hle⟩
  · cases hj with
    | inl h => rw [mr_in_lt (by omega), mr_in_lt (by omega)]; exact h1 j (Or.inl h)
    | inr h => rw [mr_in_hi htn (by omega), mr_in_hi htn (by omega)]; exact h1 j (Or.inr (by omega))
  · obtain ⟨e1, e2⟩ := h1 n (Or.inr (Nat.le_refl _))
    rw [mr_sv_ins hat htn hgt q, show n + 1 - a = (n - a) + 1 by omega, mr_sv_s, mr_sv_s, h2 q, show a + (n - a) = n by omega, e1, e2]
/-- the first n records are mapped: pc pairs, rn runs closed, the run that is being filled begins at rs -/
def mr_Map (c : Nat → Nat) (K V : Nat → Int32) (m fa og lo hi : Int32) (n : Nat) (pk pv st en : Nat → Int32) (rn rs pc : Nat) : Prop :=
  pc = mr_ct (mr_b c V lo hi) n ∧ (∀ q, mr_sv pk pv q 0 pc = mr_all c K V m fa og lo hi q n) ∧ (∃ S, mr_Runs pk st en rn rs S) ∧ rs ≤ pc
theorem mr_Map_0 (c : Nat → Nat) (K V : Nat → Int32) (m fa og lo hi : Int32) (pk pv st en : Nat → Int32) : mr_Map c K V m fa og lo hi 0 pk pv st en 0 0 0 :=
  ⟨rfl, fun _ => rfl, ⟨_, mr_Runs_0 pk st en⟩, Nat.le_refl _⟩
theorem mr_Map_drop {c : Nat → Nat} {K V : Nat → Int32} {m fa og lo hi : Int32} {n : Nat} {pk pv st en : Nat → Int32} {rn rs pc : Nat} (R : mr_Map c K V m fa og lo hi n pk pv st en rn rs pc)
    (h : mr_b c V lo hi n = false) : mr_Map c K V m fa og lo hi (n + 1) pk pv st en rn rs pc := by
  obtain ⟨h1, h2, h3⟩ := R
  refine ⟨?_, fun q => ?_, h3⟩
  · rw [mr_ct_s, h]; exact h1
  · rw [h2 q]
    unfold mr_all
    rw [mr_vs_s, h]
    simp
theorem mr_sv_put {pk pv : Nat → Int32} {n : Nat} {k v q : Int32} : mr_sv (upd pk n k) (upd pv n v) q 0 (n + 1) = mr_sv pk pv q 0 n ++ (if k = q then [v] else []) := by
  rw [mr_sv_s, Nat.zero_add, pk_us, pk_us, mr_sv_cg (pk := pk) (pv := pv) (a := 0) n (fun i hi => ⟨pk_un (by omega), pk_un (by omega)⟩)]
theorem mr_Map_put {c : Nat → Nat} {K V : Nat → Int32} {m fa og lo hi : Int32} {n : Nat} {pk pv st en : Nat → Int32} {rn rs pc : Nat} (R : mr_Map c K V m fa og lo hi n pk pv st en rn rs pc)
    (h : mr_b c V lo hi n = true) : mr_Map c K V m fa og lo hi (n + 1) (upd pk pc (mr_ky m (K n))) (upd pv pc (fa * V n + og)) st en rn rs (pc + 1) := by
  obtain ⟨h1, h2, ⟨S, h3⟩, h4⟩ := R
  refine ⟨?_, fun q => ?_, ⟨S, mr_Runs_cg h3 (fun j hj => pk_un (by omega))⟩, by omega⟩
  · rw [mr_ct_s, h, if_pos rfl, h1]
  · rw [mr_sv_put, h2 q]
    unfold mr_all
    rw [mr_vs_s, h]
    by_cases z : mr_ky m (K n) = q
    · rw [if_pos z, if_pos ⟨rfl, z⟩]; rfl
    · rw [if_neg z, if_neg (fun y => z y.2)]
theorem mr_Map_close {c : Nat → Nat} {K V : Nat → Int32} {m fa og lo hi : Int32} {n : Nat} {pk pv pk' pv' st en : Nat → Int32} {rn rs pc : Nat} (R : mr_Map c K V m fa og lo hi n pk pv st en rn rs pc)
    (h : rs < pc) (hs : mr_Srt pk pv pk' pv' rs pc) : mr_Map c K V m fa og lo hi n pk' pv' (upd st rn (nI rs)) (upd en rn (nI pc)) (rn + 1) pc pc := by
  obtain ⟨h1, h2, ⟨S, h3⟩, h4⟩ := R
  obtain ⟨g1, g2, g3⟩ := hs
  refine ⟨h1, fun q => ?_, ⟨_, mr_Runs_close h3 h g3 (fun j hj => (g1 j (Or.inl hj)).1)⟩, Nat.le_refl _⟩
  rw [← h2 q, show pc = rs + (pc - rs) by omega, mr_sv_add, mr_sv_add, Nat.zero_add, g2 q]
  rw [mr_sv_cg (pk := pk) (pv := pv) (a := 0) rs (fun i hi => g1 (0 + i) (Or.inl (by omega)))]
theorem mr_Map_le {c : Nat → Nat} {K V : Nat → Int32} {m fa og lo hi : Int32} {n : Nat} {pk pv st en : Nat → Int32} {rn rs pc : Nat} (R : mr_Map c K V m fa og lo hi n pk pv st en rn rs pc) : pc ≤ n ∧ rn ≤ rs ∧ rs ≤ pc := by
  obtain ⟨h1, h2, ⟨S, h3⟩, h4⟩ := R
  have a := mr_ct_le (mr_b c V lo hi) n
  have b := mr_Runs_ge h3 rn (Nat.le_refl _)
  rw [h3.2.1] at b
  exact ⟨by omega, b, h4⟩
theorem mr_Map_end {c : Nat → Nat} {K V : Nat → Int32} {m fa og lo hi : Int32} {s : Nat} {pk pv st en : Nat → Int32} {rn rs pc : Nat} (R : mr_Map c K V m fa og lo hi (16 * s + c s) pk pv st en rn rs pc)
    (hc : c s ≤ 16) : mr_Map c K V m fa og lo hi (16 * (s + 1)) pk pv st en rn rs pc := by
  obtain ⟨h1, h2, h3⟩ := R
  refine ⟨?_, fun q => ?_, h3⟩
  · rw [(mr_end (K := V) (m := m) (fa := fa) (og := og) (q := m) hc).2]; exact h1
  · rw [(mr_end hc).1]; exact h2 q
end
section
/-! the pure picture, 7: the output after a job, and the output made the input -/
theorem mr_Res_fin {h : Nat → Bool} {P M : Nat} {val yr : Nat → Int32} {rc rk rv : Nat → Int32} (hP : 0 < P) (hM : M ≤ 16) (hh : ∀ q, M ≤ q → q < 16 → h q = false)
    (hv : ∀ q, q < 16 → h q = true → val q = yr q) (R : mr_Res h P val (fun j => if j < P then M else 0) rc rk rv) : mr_Res h P yr (fun _ => 16) rc rk rv := by
  intro p hp
  obtain ⟨a, b⟩ := R p hp
  dsimp only at a b ⊢
  by_cases c : p < P
  · rw [if_pos c] at a b
    have e : mr_k h P p 16 = mr_k h P p M := by
      have := mr_k_skip (h := h) (P := P) (p := p) (m := M) (16 - M) (fun q g1 g2 => hh q g1 (by omega))
      rw [show M + (16 - M) = 16 by omega] at this
      exact this
    refine ⟨by rw [e]; exact a, fun q hq g1 g2 => ?_⟩
    have hqM : q < M := by
      by_cases z : q < M
      · exact z
      · have := hh q (by omega) hq
        rw [this] at g1
        exact absurd g1 (by decide)
    rw [← hv q hq g1]
    exact b q hqM g1 g2
  · rw [if_neg c] at a b
    have n1 : ∀ q, q % P ≠ p := fun q z => by
      have := Nat.mod_lt q hP
      omega
    have e : mr_k h P p 16 = 0 := mr_k_none 16 (fun q _ _ => n1 q)
    refine ⟨by rw [e]; exact a, fun q _ _ g2 => absurd g2 (n1 q)⟩
theorem mr_Res_gu {P : Nat} {yr : Nat → Int32} {rc rk rv : Nat → Int32} (hc : ∀ p, p < 4 → rc p = 0) : mr_Res (fun _ => false) P yr (fun _ => 16) rc rk rv := by
  intro p hp
  have e : mr_k (fun _ => false) P p 16 = 0 := mr_k_none 16 (fun q _ z => absurd z (by decide))
  refine ⟨by dsimp only; rw [e, nI_0]; exact hc p hp, fun q _ z => absurd (show false = true from z) (by decide)⟩
theorem mr_ct_M {h : Nat → Bool} {M : Nat} (hM : M ≤ 16) (hh : ∀ q, M ≤ q → q < 16 → h q = false) : mr_ct h 16 = mr_ct h M := by
  have := mr_ct_skip (b := h) (m := M) (16 - M) (fun q g1 g2 => hh q g1 (by omega))
  rw [show M + (16 - M) = 16 by omega] at this
  exact this
theorem mr_Res_no {h : Nat → Bool} {P n : Nat} {val : Nat → Int32} {rc rk rv : Nat → Int32} (R : mr_Res h P val (fun _ => n) rc rk rv) (hn : ¬ h n = true) : mr_Res h P val (fun _ => n + 1) rc rk rv := by
  intro p hp
  obtain ⟨a, b⟩ := R p hp
  dsimp only at a b ⊢
  refine ⟨by rw [mr_k_n (fun z => hn z.1)]; exact a, fun q hq g1 g2 => b q ?_ g1 g2⟩
  by_cases d : q = n
  · subst d; exact absurd g1 hn
  · omega
theorem mr_Res_yes {h : Nat → Bool} {P n p : Nat} {val : Nat → Int32} {rc rk rv : Nat → Int32} (R : mr_Res h P val (fun _ => n) rc rk rv) (hn : h n = true) (hp : n % P = p) (hn16 : n < 16) :
    mr_Res h P val (fun _ => n + 1) (upd rc p (nI (mr_k h P p n + 1))) (upd rk (16 * p + mr_k h P p n) (nI n)) (upd rv (16 * p + mr_k h P p n) (val n)) := by
  have R0 : mr_Res h P val (mr_up (fun _ => n) p n) rc rk rv := by
    rw [mr_up_id (lim := fun _ => n) rfl]; exact R
  have R1 := mr_Res_put R0 hn hp hn16 (fun _ => by omega)
  intro j hj
  obtain ⟨a, b⟩ := R1 j hj
  by_cases c : j = p
  · subst c
    rw [mr_up_s] at a b
    exact ⟨a, b⟩
  · rw [mr_up_n c] at a b
    dsimp only at a b ⊢
    refine ⟨by rw [mr_k_n (fun z => c (z.2.symm.trans hp))]; exact a, fun q hq g1 g2 => b q ?_ g1 g2⟩
    by_cases d : q = n
    · subst d; exact absurd (g2.symm.trans hp) c
    · omega
/-- the records of part p below lim p are copies of the output's -/
def mr_Cp (ok ov : Nat → Int32) (lim : Nat → Nat) (rc rk rv : Nat → Int32) : Prop :=
  ∀ p, p < 4 → rc p = nI (lim p) ∧ ∀ i, i < lim p → rk (16 * p + i) = ok (16 * p + i) ∧ rv (16 * p + i) = ov (16 * p + i)
theorem mr_Cp_s {ok ov : Nat → Int32} {lim : Nat → Nat} {rc rk rv : Nat → Int32} {p n : Nat} (R : mr_Cp ok ov (mr_up lim p n) rc rk rv) (hn : n < 16) (hl : ∀ j, lim j ≤ 16) :
    mr_Cp ok ov (mr_up lim p (n + 1)) (upd rc p (nI (n + 1))) (upd rk (16 * p + n) (ok (16 * p + n))) (upd rv (16 * p + n) (ov (16 * p + n))) := by
  intro j hj
  obtain ⟨a, b⟩ := R j hj
  by_cases c : j = p
  · subst c
    rw [mr_up_s] at a b
    rw [mr_up_s]
    refine ⟨pk_us, fun i hi => ?_⟩
    by_cases d : i = n
    · subst d; exact ⟨pk_us, pk_us⟩
    · rw [pk_un (by omega), pk_un (by omega)]
      exact b i (by omega)
  · rw [mr_up_n c] at a b
    rw [mr_up_n c]
    refine ⟨by rw [pk_un c]; exact a, fun i hi => ?_⟩
    have := hl j
    rw [pk_un (by omega), pk_un (by omega)]
    exact b i hi
theorem mr_Cp_0 {ok ov rc rk rv : Nat → Int32} (hc : ∀ p, p < 4 → rc p = 0) : mr_Cp ok ov (fun _ => 0) rc rk rv :=
  fun p hp => ⟨(hc p hp).trans nI_0.symm, fun _ hq => absurd hq (Nat.not_lt_zero _)⟩
theorem mr_Cp_fin {h : Nat → Bool} {P : Nat} (hP : 0 < P) {ok ov rc rk rv : Nat → Int32} (R : mr_Cp ok ov (fun j => if j < P then mr_k h P j 16 else 0) rc rk rv) : mr_Cp ok ov (fun j => mr_k h P j 16) rc rk rv := by
  intro p hp
  obtain ⟨a, b⟩ := R p hp
  dsimp only at a b ⊢
  by_cases c : p < P
  · rw [if_pos c] at a b
    exact ⟨a, b⟩
  · have e : mr_k h P p 16 = 0 := mr_k_none 16 (fun q _ _ z => by
      have := Nat.mod_lt q hP
      omega)
    rw [if_neg c] at a b
    rw [e]
    exact ⟨a, b⟩
/-- both sides' new input -/
theorem mr_fed {h : Nat → Bool} {P : Nat} {yr oc ok ov xc xk xv yc yk yv : Nat → Int32} (O : mr_Res h P yr (fun _ => 16) oc ok ov) (X : mr_Cp ok ov (fun j => mr_k h P j 16) xc xk xv)
    (Y : mr_Res h P yr (fun _ => 16) yc yk yv) : mr_Rec (fun j => mr_k h P j 16) xc xk xv yc yk yv := by
  intro p hp
  obtain ⟨o1, o2⟩ := O p hp
  obtain ⟨x1, x2⟩ := X p hp
  obtain ⟨y1, y2⟩ := Y p hp
  dsimp only at *
  refine ⟨mr_k_le h P p 16, x1, y1, fun i hi => ?_⟩
  obtain ⟨q, q1, q2, q3, q4⟩ := mr_k_sur 16 hi
  obtain ⟨a1, a2⟩ := o2 q q1 q2 q3
  obtain ⟨b1, b2⟩ := y2 q q1 q2 q3
  obtain ⟨c1, c2⟩ := x2 i hi
  rw [q4] at a1 a2 b1 b2
  exact ⟨by rw [c1, a1, b1], by rw [c2, a2, b2]⟩
end
section
/-! the pure picture, 8: which keys have a result, and how far the parts are -/
def mr_h (L : Nat → List Int32) : Nat → Bool := fun q => !(L q).isEmpty
theorem mr_h_t {L : Nat → List Int32} {q : Nat} : mr_h L q = true ↔ L q ≠ [] := by
  unfold mr_h
  cases L q <;> simp
theorem mr_h_f {L : Nat → List Int32} {q : Nat} : mr_h L q = false ↔ L q = [] := by
  unfold mr_h
  cases L q <;> simp
def mr_lim (f : Nat → Nat) (p : Nat) : Nat → Nat := fun i => if i < p then f i else 0
theorem mr_lim_up {f : Nat → Nat} {p : Nat} : mr_up (mr_lim f p) p (f p) = mr_lim f (p + 1) := by
  funext i
  unfold mr_lim
  by_cases c : i = p
  · subst c
    rw [mr_up_s, if_pos (Nat.lt_succ_self i)]
  · rw [mr_up_n c]
    by_cases d : i < p
    · rw [if_pos d, if_pos (by omega)]
    · rw [if_neg d, if_neg (by omega)]
theorem mr_lim_p {f : Nat → Nat} {p : Nat} : mr_lim f p p = 0 := if_neg (Nat.lt_irrefl p)
theorem mr_lim_0 {f : Nat → Nat} : mr_lim f 0 = fun _ => 0 := by
  funext i
  exact if_neg (Nat.not_lt_zero i)
theorem mr_lim_le {f : Nat → Nat} {p : Nat} (h : ∀ i, f i ≤ 16) : ∀ i, mr_lim f p i ≤ 16 := by
  intro i
  unfold mr_lim
  by_cases d : i < p
  · rw [if_pos d]; exact h i
  · rw [if_neg d]; omega
end
section
/-! walks of the component, 1: the small methods -/
section
variable {xP xB xM xF xG xL xH pc rn gs gr : Int32} {rk rv rc mf rf pk pv rs re cu ok ov oc : Nat → Int32}
theorem mr_16 (s i : Nat) : nI s * 16 + nI i = nI (16 * s + i) := by
  show nI s * nI 16 + nI i = _
  rw [pk_mul, nI_add, Nat.mul_comm]
theorem mx_clamp {post : Int32 → Prop} {p0 : Int32} (a b : Nat) (hab : a ≤ b) (hb : b < 2 ^ 31) (H : ∀ j, a ≤ j → j ≤ b → post (nI j)) : wpX_clamp post p0 (nI a) (nI b) := by
  by_cases h1 : nI a ≤ p0
  · by_cases h2 : p0 ≤ nI b
    · have h0 : ¬ p0 < 0 := Int32.not_lt.mpr (Int32.le_trans (nI_pos' (n := a) (by omega)) h1)
      obtain ⟨j, hj, rfl⟩ := nI_of h0
      rw [nI_leI (by omega) hj] at h1
      rw [nI_leI hj hb] at h2
      exact br_t (nI_le h1 hj) (br_t (nI_le h2 hb) (H j h1 h2))
    · exact br_t h1 (br_f h2 (H b hab (Nat.le_refl _)))
  · exact br_f h1 (H a (Nat.le_refl _) hab)
theorem mx_append {post : SX → Prop} {s n : Nat} {k v : Int32} (hs : s < 4) (hn : n < 16) (hc : rc s = nI n)
    (H : post (xP, xB, xM, xF, xG, xL, xH, pc, rn, gs, gr, (upd rk (16 * s + n) k), (upd rv (16 * s + n) v), (upd rc s (nI (n + 1))), mf, rf, pk, pv, rs, re, cu, ok, ov, oc)) : wpX_appendRecord post (xP, xB, xM, xF, xG, xL, xH, pc, rn, gs, gr, rk, rv, rc, mf, rf, pk, pv, rs, re, cu, ok, ov, oc) (nI s) k v := by
  have e3 : (nI s).toNatClampNeg = s := nI_clamp (by omega)
  have e : nI s * 16 + rc (nI s).toNatClampNeg = nI (16 * s + n) := by rw [e3, hc]; exact mr_16 s n
  have e2 : (nI (16 * s + n)).toNatClampNeg = 16 * s + n := nI_clamp (by omega)
  have i4 : vp_in (nI s) 4 := vp_in_nI hs (by decide)
  have i64 : vp_in (nI (16 * s + n)) 64 := vp_in_nI (by omega) (by decide)
  exact ⟨i4, nm_r e ⟨i64, nm_r (by rw [e2]) ⟨i64, nm_r (by rw [e2]) ⟨i4, i4, nm_r (by rw [e3, hc, nI_1]) H⟩⟩⟩⟩
theorem mx_appendResult {post : SX → Prop} {s n : Nat} {k v : Int32} (hs : s < 4) (hn : n < 16) (hc : oc s = nI n)
    (H : post (xP, xB, xM, xF, xG, xL, xH, pc, rn, gs, gr, rk, rv, rc, mf, rf, pk, pv, rs, re, cu, (upd ok (16 * s + n) k), (upd ov (16 * s + n) v), (upd oc s (nI (n + 1))))) : wpX_appendResult post (xP, xB, xM, xF, xG, xL, xH, pc, rn, gs, gr, rk, rv, rc, mf, rf, pk, pv, rs, re, cu, ok, ov, oc) (nI s) k v := by
  have e3 : (nI s).toNatClampNeg = s := nI_clamp (by omega)
  have e : nI s * 16 + oc (nI s).toNatClampNeg = nI (16 * s + n) := by rw [e3, hc]; exact mr_16 s n
  have e2 : (nI (16 * s + n)).toNatClampNeg = 16 * s + n := nI_clamp (by omega)
  have i4 : vp_in (nI s) 4 := vp_in_nI hs (by decide)
  have i64 : vp_in (nI (16 * s + n)) 64 := vp_in_nI (by omega) (by decide)
  exact ⟨i4, nm_r e ⟨i64, nm_r (by rw [e2]) ⟨i64, nm_r (by rw [e2]) ⟨i4, i4, nm_r (by rw [e3, hc, nI_1]) H⟩⟩⟩⟩
theorem mx_uf2 {post : Int32 → SX → Prop} {P : Nat} (hP : P ≤ 4) {s0 : Int32} {rf0 : Nat → Int32} (H : ∀ rf', (∀ j, j < P → rf' j = 0) → post (mr_sm s0 rf0 P) ((nI P), xB, xM, xF, xG, xL, xH, pc, rn, gs, gr, rk, rv, rc, mf, rf', pk, pv, rs, re, cu, ok, ov, oc)) :
    ∀ n p rf, p ≤ P → P - p < n → (∀ j, p ≤ j → rf j = rf0 j) → (∀ j, j < p → rf j = 0) → wX_useUpFailures_33 post (nI P) xB xM xF xG xL xH pc rn gs gr n (mr_sm s0 rf0 p) (nI p) rk rv rc mf rf pk pv rs re cu ok ov oc := by
  intro n
  induction n with
  | zero => intro p rf _ h; omega
  | succ n ih =>
    intro p rf hp hn h1 h2
    by_cases c : p < P
    · have e : (nI p).toNatClampNeg = p := nI_clamp (by omega)
      have i4 : vp_in (nI p) 4 := vp_in_nI (by omega) (by decide)
      refine br_f (nI_ge c (by omega)) ⟨i4, nm_r (e' := mr_sm s0 rf0 (p + 1)) (by rw [e, h1 p (Nat.le_refl _)]; rfl) ⟨i4, nm_r (e' := upd rf p 0) (by rw [e]) (nm_r (nI_1 p) (ih (p + 1) (upd rf p 0) c (by omega) (fun j hj => ?_) (fun j hj => ?_)))⟩⟩
      · rw [pk_un (by omega)]; exact h1 j (by omega)
      · by_cases d : j = p
        · subst d; exact pk_us
        · rw [pk_un d]; exact h2 j (by omega)
    · have d : p = P := by omega
      subst d
      exact br_t (nI_le (Nat.le_refl _) (by omega)) (H rf h2)
theorem mx_uf1 {post : Int32 → SX → Prop} {mf0 : Nat → Int32} (H : ∀ mf', (∀ j, j < 4 → mf' j = 0) → ∃ n, wX_useUpFailures_33 post xP xB xM xF xG xL xH pc rn gs gr n (mr_sm 0 mf0 4) 0 rk rv rc mf' rf pk pv rs re cu ok ov oc) :
    ∀ n p mf, p ≤ 4 → 4 - p < n → (∀ j, p ≤ j → mf j = mf0 j) → (∀ j, j < p → mf j = 0) → wX_useUpFailures_4 post xP xB xM xF xG xL xH pc rn gs gr n (mr_sm 0 mf0 p) (nI p) rk rv rc mf rf pk pv rs re cu ok ov oc := by
  intro n
  induction n with
  | zero => intro p mf _ h; omega
  | succ n ih =>
    intro p mf hp hn h1 h2
    by_cases c : p < 4
    · have e : (nI p).toNatClampNeg = p := nI_clamp (by omega)
      have i4 : vp_in (nI p) 4 := vp_in_nI (by omega) (by decide)
      refine br_f (nI_ge (b := 4) c (by omega)) ⟨i4, nm_r (e' := mr_sm 0 mf0 (p + 1)) (by rw [e, h1 p (Nat.le_refl _)]; rfl) ⟨i4, nm_r (e' := upd mf p 0) (by rw [e]) (nm_r (nI_1 p) (ih (p + 1) (upd mf p 0) c (by omega) (fun j hj => ?_) (fun j hj => ?_)))⟩⟩
      · rw [pk_un (by omega)]; exact h1 j (by omega)
      · by_cases d : j = p
        · subst d; exact pk_us
        · rw [pk_un d]; exact h2 j (by omega)
    · have d : p = 4 := by omega
      subst d
      exact br_t (nI_le (b := 4) (Nat.le_refl _) (by omega)) (H mf h2)
theorem mx_useUp {post : Int32 → SX → Prop} {P : Nat} (hP : P ≤ 4) (H : ∀ mf' rf', (∀ j, j < 4 → mf' j = 0) → (∀ j, j < P → rf' j = 0) → post (mr_sm (mr_sm 0 mf 4) rf P) ((nI P), xB, xM, xF, xG, xL, xH, pc, rn, gs, gr, rk, rv, rc, mf', rf', pk, pv, rs, re, cu, ok, ov, oc)) :
    wpX_useUpFailures post ((nI P), xB, xM, xF, xG, xL, xH, pc, rn, gs, gr, rk, rv, rc, mf, rf, pk, pv, rs, re, cu, ok, ov, oc) :=
  ⟨5, mx_uf1 (mf0 := mf) (fun mf' h => ⟨5, mx_uf2 hP (rf0 := rf) (fun rf' h' => H mf' rf' h h') 5 0 rf (by omega) (by omega) (fun _ _ => rfl) (fun _ h => absurd h (Nat.not_lt_zero _))⟩) 5 0 mf (by omega) (by omega) (fun _ _ => rfl) (fun _ h => absurd h (Nat.not_lt_zero _))⟩
theorem mx_clearOutput2 {post : SX → Prop} (H : ∀ oc', (∀ j, j < 4 → oc' j = 0) → post (xP, xB, xM, xF, xG, xL, xH, pc, rn, gs, gr, rk, rv, rc, mf, rf, pk, pv, rs, re, cu, ok, ov, oc')) :
    ∀ n p oc, p ≤ 4 → 4 - p < n → (∀ j, j < p → oc j = 0) → wX_clearOutput_2 post xP xB xM xF xG xL xH pc rn gs gr n (nI p) rk rv rc mf rf pk pv rs re cu ok ov oc := by
  intro n
  induction n with
  | zero => intro p oc _ h; omega
  | succ n ih =>
    intro p oc hp hn h2
    by_cases c : p < 4
    · have e : (nI p).toNatClampNeg = p := nI_clamp (by omega)
      refine br_f (nI_ge (b := 4) c (by omega)) ⟨vp_in_nI (by omega) (by decide), nm_r (e' := upd oc p 0) (by rw [e]) (nm_r (nI_1 p) (ih (p + 1) (upd oc p 0) c (by omega) (fun j hj => ?_)))⟩
      by_cases d : j = p
      · subst d; exact pk_us
      · rw [pk_un d]; exact h2 j (by omega)
    · have d : p = 4 := by omega
      subst d
      exact br_t (nI_le (b := 4) (Nat.le_refl _) (by omega)) (H oc h2)
theorem mx_clearOutput {post : SX → Prop} (H : ∀ oc', (∀ j, j < 4 → oc' j = 0) → post (xP, xB, xM, xF, xG, xL, xH, pc, rn, gs, gr, rk, rv, rc, mf, rf, pk, pv, rs, re, cu, ok, ov, oc')) : wpX_clearOutput post (xP, xB, xM, xF, xG, xL, xH, pc, rn, gs, gr, rk, rv, rc, mf, rf, pk, pv, rs, re, cu, ok, ov, oc) :=
  ⟨5, mx_clearOutput2 H 5 0 oc (by omega) (by omega) (fun _ h => absurd h (Nat.not_lt_zero _))⟩
theorem mx_clearInput2 {post : SX → Prop} (H : ∀ rc', (∀ j, j < 4 → rc' j = 0) → post (xP, xB, xM, xF, xG, xL, xH, pc, rn, gs, gr, rk, rv, rc', mf, rf, pk, pv, rs, re, cu, ok, ov, oc)) :
    ∀ n p rc, p ≤ 4 → 4 - p < n → (∀ j, j < p → rc j = 0) → wX_clearInput_2 post xP xB xM xF xG xL xH pc rn gs gr n (nI p) rk rv rc mf rf pk pv rs re cu ok ov oc := by
  intro n
  induction n with
  | zero => intro p rc _ h; omega
  | succ n ih =>
    intro p rc hp hn h2
    by_cases c : p < 4
    · have e : (nI p).toNatClampNeg = p := nI_clamp (by omega)
      refine br_f (nI_ge (b := 4) c (by omega)) ⟨vp_in_nI (by omega) (by decide), nm_r (e' := upd rc p 0) (by rw [e]) (nm_r (nI_1 p) (ih (p + 1) (upd rc p 0) c (by omega) (fun j hj => ?_)))⟩
      by_cases d : j = p
      · subst d; exact pk_us
      · rw [pk_un d]; exact h2 j (by omega)
    · have d : p = 4 := by omega
      subst d
      exact br_t (nI_le (b := 4) (Nat.le_refl _) (by omega)) (H rc h2)
theorem mx_clearInput {post : SX → Prop} (H : ∀ rc', (∀ j, j < 4 → rc' j = 0) → post (xP, xB, xM, xF, xG, xL, xH, pc, rn, gs, gr, rk, rv, rc', mf, rf, pk, pv, rs, re, cu, ok, ov, oc)) : wpX_clearInput post (xP, xB, xM, xF, xG, xL, xH, pc, rn, gs, gr, rk, rv, rc, mf, rf, pk, pv, rs, re, cu, ok, ov, oc) :=
  ⟨5, mx_clearInput2 H 5 0 rc (by omega) (by omega) (fun _ h => absurd h (Nat.not_lt_zero _))⟩
theorem mx_rewind2 {post : SX → Prop} {r : Nat} (hr : r ≤ 64) (H : ∀ cu', (∀ j, j < r → cu' j = rs j) → post (xP, xB, xM, xF, xG, xL, xH, pc, (nI r), gs, gr, rk, rv, rc, mf, rf, pk, pv, rs, re, cu', ok, ov, oc)) :
    ∀ n p cu, p ≤ r → r - p < n → (∀ j, j < p → cu j = rs j) → wX_rewindRuns_2 post xP xB xM xF xG xL xH pc (nI r) gs gr n (nI p) rk rv rc mf rf pk pv rs re cu ok ov oc := by
  intro n
  induction n with
  | zero => intro p cu _ h; omega
  | succ n ih =>
    intro p cu hp hn h2
    by_cases c : p < r
    · have e : (nI p).toNatClampNeg = p := nI_clamp (by omega)
      have i64 : vp_in (nI p) 64 := vp_in_nI (by omega) (by decide)
      refine br_f (nI_ge c (by omega)) ⟨i64, i64, nm_r (e' := upd cu p (rs p)) (by rw [e]) (nm_r (nI_1 p) (ih (p + 1) (upd cu p (rs p)) c (by omega) (fun j hj => ?_)))⟩
      by_cases d : j = p
      · subst d; exact pk_us
      · rw [pk_un d]; exact h2 j (by omega)
    · have d : p = r := by omega
      subst d
      exact br_t (nI_le (Nat.le_refl _) (by omega)) (H cu h2)
theorem mx_rewind {post : SX → Prop} {r : Nat} (hr : r ≤ 64) (H : ∀ cu', (∀ j, j < r → cu' j = rs j) → post (xP, xB, xM, xF, xG, xL, xH, pc, (nI r), gs, gr, rk, rv, rc, mf, rf, pk, pv, rs, re, cu', ok, ov, oc)) : wpX_rewindRuns post (xP, xB, xM, xF, xG, xL, xH, pc, (nI r), gs, gr, rk, rv, rc, mf, rf, pk, pv, rs, re, cu, ok, ov, oc) :=
  ⟨r + 1, mx_rewind2 hr H (r + 1) 0 cu (by omega) (by omega) (fun _ h => absurd h (Nat.not_lt_zero _))⟩
theorem mx_startOf {post : Int32 → Prop} {j : Nat} (hj : j ≤ 4) (H : post (mr_s0 (nI j))) : wpX_startOf post (nI j) := by
  obtain rfl | rfl | rfl | rfl | rfl : j = 0 ∨ j = 1 ∨ j = 2 ∨ j = 3 ∨ j = 4 := by omega
  · exact br_t (by decide) H
  · exact br_f (by decide) (br_f (by decide) (br_t (by decide) H))
  · exact br_f (by decide) (br_f (by decide) (br_f (by decide) (br_t (by decide) H)))
  · exact br_f (by decide) (br_f (by decide) (br_f (by decide) (br_f (by decide) (br_t (by decide) H))))
  · exact br_f (by decide) (br_f (by decide) (br_f (by decide) (br_f (by decide) (br_f (by decide) (br_t (by decide) H)))))
theorem mx_step {post : Int32 → Prop} {j : Nat} {s v : Int32} (hj : j ≤ 4) (H : post (mr_st (nI j) s v)) : wpX_step post (nI j) s v := by
  obtain rfl | rfl | rfl | rfl | rfl : j = 0 ∨ j = 1 ∨ j = 2 ∨ j = 3 ∨ j = 4 := by omega
  · have e : mr_st (nI 0) s v = s + v := mr_st0 s v
    rw [e] at H
    exact br_f (by decide) (br_f (by decide) (br_t (by decide) H))
  · have e : mr_st (nI 1) s v = if s < v then v else s := mr_st1 s v
    rw [e] at H
    refine br_f (by decide) (br_f (by decide) (br_f (by decide) (br_t (by decide) (br_c (fun h => ?_) (fun h => ?_)))))
    · rw [if_neg (Int32.not_lt.mpr h)] at H; exact H
    · rw [if_pos (Int32.not_le.mp h)] at H; exact H
  · have e : mr_st (nI 2) s v = if v < s then v else s := mr_st2 s v
    rw [e] at H
    refine br_f (by decide) (br_f (by decide) (br_f (by decide) (br_f (by decide) (br_t (by decide) (br_c (fun h => ?_) (fun h => ?_))))))
    · rw [if_neg (Int32.not_lt.mpr h)] at H; exact H
    · rw [if_pos (Int32.not_le.mp h)] at H; exact H
  · have e : mr_st (nI 3) s v = s + 1 := mr_st3 s v
    rw [e] at H
    exact br_f (by decide) (br_f (by decide) (br_f (by decide) (br_f (by decide) (br_f (by decide) (br_t (by decide) H)))))
  · have e : mr_st (nI 4) s v = 31 * s + v := mr_st4 s v
    rw [e] at H
    exact br_f (by decide) (br_t (by decide) H)
end
end
section
/-! walks of the component, 2: the sort, a run's end, the mapping -/
section
variable {xP xB xM xF xG xL xH pc rn gs gr : Int32} {rk rv rc mf rf pk pv rs re cu ok ov oc : Nat → Int32}
theorem mx_key {post : Int32 → Prop} {M : Nat} {k : Int32} (h0 : 0 < M) (h1 : M < 2 ^ 30) (H : post (mr_ky (nI M) k)) : wpX_pairKeyOf post (xP, xB, (nI M), xF, xG, xL, xH, pc, rn, gs, gr, rk, rv, rc, mf, rf, pk, pv, rs, re, cu, ok, ov, oc) k := by
  refine ⟨nI_ne0 h0 (by omega), nm_e (br_c (fun h => ?_) (fun h => ?_))⟩
  · have e : mr_ky (nI M) k = k - k / nI M * nI M := if_neg (Int32.not_lt.mpr h)
    rw [e] at H
    exact H
  · have e : mr_ky (nI M) k = k - k / nI M * nI M + nI M := if_pos (Int32.not_le.mp h)
    rw [e] at H
    exact H
theorem mx_mapRecord {post : SX → Prop} {r n M : Nat} (hr : r < 64) (hn : n < 64) (h0 : 0 < M) (h1 : M < 2 ^ 30)
    (Hd : ¬ (xL ≤ rv r ∧ rv r ≤ xH) → post (xP, xB, (nI M), xF, xG, xL, xH, (nI n), rn, gs, gr, rk, rv, rc, mf, rf, pk, pv, rs, re, cu, ok, ov, oc))
    (Hp : xL ≤ rv r → rv r ≤ xH → post (xP, xB, (nI M), xF, xG, xL, xH, (nI (n + 1)), rn, gs, gr, rk, rv, rc, mf, rf, (upd pk n (mr_ky (nI M) (rk r))), (upd pv n (xF * rv r + xG)), rs, re, cu, ok, ov, oc)) : wpX_mapRecord post (xP, xB, (nI M), xF, xG, xL, xH, (nI n), rn, gs, gr, rk, rv, rc, mf, rf, pk, pv, rs, re, cu, ok, ov, oc) (nI r) := by
  have e : (nI r).toNatClampNeg = r := nI_clamp (by omega)
  have en : (nI n).toNatClampNeg = n := nI_clamp (by omega)
  have ir : vp_in (nI r) 64 := vp_in_nI hr (by decide)
  have iN : vp_in (nI n) 64 := vp_in_nI hn (by decide)
  refine ⟨ir, nm_r (e' := rv r) (by rw [e]) (br_c (fun h => Hd (fun z => Int32.not_lt.mpr z.1 h)) (fun h => br_c (fun h2 => ⟨ir, ?_⟩) (fun h2 => Hd (fun z => h2 z.2))))⟩
  exact mx_key h0 h1 ⟨iN, nm_r (by rw [e, en]) ⟨iN, nm_r (by rw [en]) (nm_r (nI_1 n) (Hp (Int32.not_lt.mp h) h2))⟩⟩
theorem mx_ins {post : SX → Prop} {J4 : Int32 → (Nat → Int32) → (Nat → Int32) → (Nat → Int32) → (Nat → Int32) → (Nat → Int32) → (Nat → Int32) → (Nat → Int32) → (Nat → Int32) → (Nat → Int32) → (Nat → Int32) → (Nat → Int32) → (Nat → Int32) → (Nat → Int32) → Prop}
    {x2 : Int32} {a m : Nat} (ham : a ≤ m) (hm : m < 64)
    (H : ∀ t, a ≤ t → t ≤ m → (∀ j, t ≤ j → j < m → (pk m).toInt < (pk j).toInt) → (t = a ∨ (pk (t - 1)).toInt ≤ (pk m).toInt) → J4 (nI (m + 1)) rk rv rc mf rf (mr_in pk t m (pk m)) (mr_in pv t m (pv m)) rs re cu ok ov oc) :
    ∀ n t, a ≤ t → t ≤ m → t - a < n → (∀ j, t ≤ j → j < m → (pk m).toInt < (pk j).toInt) →
      wX_sortPairs_28 post J4 (nI a) x2 (nI m) (pk m) (pv m) xP xB xM xF xG xL xH pc rn gs gr n (nI t) rk rv rc mf rf (mr_sh pk t m) (mr_sh pv t m) rs re cu ok ov oc := by
  intro n
  induction n with
  | zero => intro t _ _ h; omega
  | succ n ih =>
    intro t hat htm hn hgt
    have et : (nI t).toNatClampNeg = t := nI_clamp (by omega)
    have it : vp_in (nI t) 64 := vp_in_nI (by omega) (by decide)
    have fin : (t = a ∨ (pk (t - 1)).toInt ≤ (pk m).toInt) → wX_sortPairs_86 post J4 (nI a) x2 (nI m) (pk m) (pv m) (nI t) xP xB xM xF xG xL xH pc rn gs gr rk rv rc mf rf (mr_sh pk t m) (mr_sh pv t m) rs re cu ok ov oc := fun hle =>
      ⟨it, nm_r (e' := mr_in pk t m (pk m)) (by rw [et, mr_sh_in]) ⟨it, nm_r (e' := mr_in pv t m (pv m)) (by rw [et, mr_sh_in]) (nm_r (nI_1 m) (H t hat htm hgt hle))⟩⟩
    by_cases c : t = a
    · exact br_t (nI_le (by omega) (by omega)) (fin (Or.inl c))
    · obtain ⟨u, rfl⟩ : ∃ u, t = u + 1 := ⟨t - 1, by omega⟩
      have ep : nI (u + 1) - 1 = nI u := nI_pred u
      have eu : (nI (u + 1) - 1).toNatClampNeg = u := by rw [ep]; exact nI_clamp (by omega)
      have iu : vp_in (nI (u + 1) - 1) 64 := by rw [ep]; exact vp_in_nI (by omega) (by decide)
      have k1 : mr_sh pk (u + 1) m (nI (u + 1) - 1).toNatClampNeg = pk u := by rw [eu]; exact mr_sh_at (by omega)
      have k2 : mr_sh pv (u + 1) m (nI (u + 1) - 1).toNatClampNeg = pv u := by rw [eu]; exact mr_sh_at (by omega)
      by_cases h : pk u ≤ pk m
      · exact br_f (nI_ge (by omega) (by omega)) ⟨iu, br_t (by rw [k1]; exact h) (fin (Or.inr (Int32.le_iff_toInt_le.mp h)))⟩
      · have hlt : (pk m).toInt < (pk u).toInt := Int32.lt_iff_toInt_lt.mp (Int32.not_le.mp h)
        refine br_f (nI_ge (by omega) (by omega)) ⟨iu, br_f (by rw [k1]; exact h) ⟨iu, it, nm_r (e' := mr_sh pk u m) (by rw [k1, et]; exact mr_sh_s (t := u + 1) (by omega) htm)
          ⟨iu, it, nm_r (e' := mr_sh pv u m) (by rw [k2, et]; exact mr_sh_s (t := u + 1) (by omega) htm) (nm_r (pk_m1 u) (ih u (by omega) (by omega) (by omega) (fun j h1 h2 => ?_)))⟩⟩⟩
        by_cases d : j = u
        · subst d; exact hlt
        · exact hgt j (by omega) h2
theorem mx_ins0 {post : SX → Prop} {J4 : Int32 → (Nat → Int32) → (Nat → Int32) → (Nat → Int32) → (Nat → Int32) → (Nat → Int32) → (Nat → Int32) → (Nat → Int32) → (Nat → Int32) → (Nat → Int32) → (Nat → Int32) → (Nat → Int32) → (Nat → Int32) → (Nat → Int32) → Prop}
    {x2 : Int32} {a m : Nat} (ham : a ≤ m) (hm : m < 64)
    (H : ∀ t, a ≤ t → t ≤ m → (∀ j, t ≤ j → j < m → (pk m).toInt < (pk j).toInt) → (t = a ∨ (pk (t - 1)).toInt ≤ (pk m).toInt) → J4 (nI (m + 1)) rk rv rc mf rf (mr_in pk t m (pk m)) (mr_in pv t m (pv m)) rs re cu ok ov oc) :
    wX_sortPairs_28 post J4 (nI a) x2 (nI m) (pk m) (pv m) xP xB xM xF xG xL xH pc rn gs gr (m - a + 1) (nI m) rk rv rc mf rf pk pv rs re cu ok ov oc := by
  have h : wX_sortPairs_28 post J4 (nI a) x2 (nI m) (pk m) (pv m) xP xB xM xF xG xL xH pc rn gs gr (m - a + 1) (nI m) rk rv rc mf rf (mr_sh pk m m) (mr_sh pv m m) rs re cu ok ov oc :=
    mx_ins ham hm H (m - a + 1) m ham (Nat.le_refl _) (by omega) (fun j h1 h2 => by omega)
  rw [mr_sh_n, mr_sh_n] at h
  exact h
theorem mx_sort4 {post : SX → Prop} {a e : Nat} {pk0 pv0 : Nat → Int32} (he : e ≤ 64) (H : ∀ pk' pv', mr_Srt pk0 pv0 pk' pv' a e → post (xP, xB, xM, xF, xG, xL, xH, pc, rn, gs, gr, rk, rv, rc, mf, rf, pk', pv', rs, re, cu, ok, ov, oc)) :
    ∀ n m pk pv, a < m → m ≤ e → e - m < n → mr_Srt pk0 pv0 pk pv a m → wX_sortPairs_4 post (nI a) (nI e) xP xB xM xF xG xL xH pc rn gs gr n (nI m) rk rv rc mf rf pk pv rs re cu ok ov oc := by
  intro n
  induction n with
  | zero => intro m pk pv _ _ h; omega
  | succ n ih =>
    intro m pk pv ham hme hn R
    by_cases c : m < e
    · have em : (nI m).toNatClampNeg = m := nI_clamp (by omega)
      have im : vp_in (nI m) 64 := vp_in_nI (by omega) (by decide)
      refine br_f (nI_ge c (by omega)) ⟨im, nm_r (e' := pk m) (by rw [em]) ⟨im, nm_r (e' := pv m) (by rw [em]) ⟨m - a + 1, ?_⟩⟩⟩
      exact mx_ins0 (by omega) (by omega) (fun t h1 h2 h3 h4 => ih (m + 1) _ _ (by omega) (by omega) (by omega) (mr_Srt_s R h1 h2 h3 h4))
    · have d : m = e := by omega
      subst d
      exact br_t (nI_le (Nat.le_refl _) (by omega)) (H pk pv R)
theorem mx_sortPairs {post : SX → Prop} {a e : Nat} (hae : a < e) (he : e ≤ 64) (H : ∀ pk' pv', mr_Srt pk pv pk' pv' a e → post (xP, xB, xM, xF, xG, xL, xH, pc, rn, gs, gr, rk, rv, rc, mf, rf, pk', pv', rs, re, cu, ok, ov, oc)) : wpX_sortPairs post (xP, xB, xM, xF, xG, xL, xH, pc, rn, gs, gr, rk, rv, rc, mf, rf, pk, pv, rs, re, cu, ok, ov, oc) (nI a) (nI e) :=
  nm_r (nI_1 a) ⟨e, mx_sort4 he H e (a + 1) pk pv (by omega) (by omega) (by omega) (mr_Srt_0 pk pv a)⟩
theorem mx_closeRun {post : SX → Prop} {a n r : Nat} (han : a < n) (hn : n ≤ 64) (hr : r < 64)
    (H : ∀ pk' pv', mr_Srt pk pv pk' pv' a n → post (xP, xB, xM, xF, xG, xL, xH, (nI n), (nI (r + 1)), gs, gr, rk, rv, rc, mf, rf, pk', pv', (upd rs r (nI a)), (upd re r (nI n)), cu, ok, ov, oc)) : wpX_closeRun post (xP, xB, xM, xF, xG, xL, xH, (nI n), (nI r), gs, gr, rk, rv, rc, mf, rf, pk, pv, rs, re, cu, ok, ov, oc) (nI a) := by
  have e : (nI r).toNatClampNeg = r := nI_clamp (by omega)
  have i : vp_in (nI r) 64 := vp_in_nI hr (by decide)
  unfold wpX_closeRun
  refine mx_sortPairs han hn (fun pk' pv' hs => ?_)
  exact ⟨i, nm_r (by rw [e]) ⟨i, nm_r (by rw [e]) (nm_r (nI_1 r) (H pk' pv' hs))⟩⟩
theorem mx_mapRecordM {post : SX → Prop} {c : Nat → Nat} {M s i r st p : Nat} (h0 : 0 < M) (h1 : M < 2 ^ 30) (hs : s < 4) (hi : i < c s) (hc : c s ≤ 16)
    (R : mr_Map c rk rv (nI M) xF xG xL xH (16 * s + i) pk pv rs re r st p)
    (H : ∀ pk1 pv1 p1, mr_Map c rk rv (nI M) xF xG xL xH (16 * s + (i + 1)) pk1 pv1 rs re r st p1 → post (xP, xB, (nI M), xF, xG, xL, xH, (nI p1), rn, gs, gr, rk, rv, rc, mf, rf, pk1, pv1, rs, re, cu, ok, ov, oc)) : wpX_mapRecord post (xP, xB, (nI M), xF, xG, xL, xH, (nI p), rn, gs, gr, rk, rv, rc, mf, rf, pk, pv, rs, re, cu, ok, ov, oc) (nI (16 * s + i)) := by
  have hb := mr_b_at (c := c) (V := rv) (lo := xL) (hi := xH) (s := s) (i := i) (by omega)
  rw [decide_eq_true hi, Bool.true_and] at hb
  obtain ⟨b1, b2, b3⟩ := mr_Map_le R
  refine mx_mapRecord (by omega) (by omega) h0 h1 (fun h => H _ _ _ (mr_Map_drop R ?_)) (fun g1 g2 => H _ _ _ (mr_Map_put R ?_))
  · refine hb.trans ?_
    by_cases z : xL ≤ rv (16 * s + i)
    · have y : ¬ rv (16 * s + i) ≤ xH := fun y => h ⟨z, y⟩
      rw [decide_eq_false y, Bool.and_false]
    · rw [decide_eq_false z, Bool.false_and]
  · refine hb.trans ?_
    rw [decide_eq_true g1, decide_eq_true g2]
    rfl
theorem mx_mapSplit7 {post : SX → Prop} {c : Nat → Nat} {M B s : Nat} (h0 : 0 < M) (h1 : M < 2 ^ 30) (hB : 0 < B) (hB2 : B < 2 ^ 30) (hs : s < 4) (hc : c s ≤ 16) (hrc : rc s = nI (c s))
    (H : ∀ pk' pv' rs' re' r' p', mr_Map c rk rv (nI M) xF xG xL xH (16 * (s + 1)) pk' pv' rs' re' r' p' p' → post (xP, (nI B), (nI M), xF, xG, xL, xH, (nI p'), (nI r'), gs, gr, rk, rv, rc, mf, rf, pk', pv', rs', re', cu, ok, ov, oc)) :
    ∀ n i pk pv rs re r st p, i ≤ c s → c s - i < n → mr_Map c rk rv (nI M) xF xG xL xH (16 * s + i) pk pv rs re r st p →
      wX_mapSplit_7 post (nI s) n (nI st) (nI i) xP (nI B) (nI M) xF xG xL xH (nI p) (nI r) gs gr rk rv rc mf rf pk pv rs re cu ok ov oc := by
  intro n
  induction n with
  | zero => intro i pk pv rs re r st p _ h; omega
  | succ n ih =>
    intro i pk pv rs re r st p hi hn R
    obtain ⟨b1, b2, b3⟩ := mr_Map_le R
    have ec : rc (nI s).toNatClampNeg = nI (c s) := by rw [nI_clamp (by omega)]; exact hrc
    refine ⟨vp_in_nI hs (by decide), ?_⟩
    by_cases d : i < c s
    · refine br_f (by rw [ec]; exact nI_ge d (by omega)) ?_
      rw [mr_16 s i]
      refine mx_mapRecordM h0 h1 hs d hc R (fun pk1 pv1 p1 R1 => ?_)
      obtain ⟨d1, d2, d3⟩ := mr_Map_le R1
      refine br_c (fun hb => ?_) (fun _ => nm_r (nI_1 i) (ih (i + 1) pk1 pv1 rs re r st p1 d (by omega) R1))
      have hlt : st < p1 := by
        rw [pk_sub d3, nI_eq (by omega) (by omega)] at hb
        omega
      exact mx_closeRun hlt (by omega) (by omega) (fun pk2 pv2 hs2 => nm_r (nI_1 i) (ih (i + 1) pk2 pv2 _ _ (r + 1) p1 p1 d (by omega) (mr_Map_close R1 hlt hs2)))
    · have di : i = c s := by omega
      subst di
      refine br_t (by rw [ec]; exact nI_le (Nat.le_refl _) (by omega)) ?_
      by_cases hl : st < p
      · exact br_f (nI_ge hl (by omega)) (mx_closeRun hl (by omega) (by omega) (fun pk2 pv2 hs2 => H _ _ _ _ _ _ (mr_Map_end (mr_Map_close R hl hs2) hc)))
      · have ds : st = p := by omega
        subst ds
        exact br_t (nI_le (Nat.le_refl _) (by omega)) (H _ _ _ _ _ _ (mr_Map_end R hc))
theorem mx_mapSplit {post : SX → Prop} {c : Nat → Nat} {M B s r p : Nat} (h0 : 0 < M) (h1 : M < 2 ^ 30) (hB : 0 < B) (hB2 : B < 2 ^ 30) (hs : s < 4) (hc : c s ≤ 16) (hrc : rc s = nI (c s))
    (R : mr_Map c rk rv (nI M) xF xG xL xH (16 * s) pk pv rs re r p p)
    (H : ∀ pk' pv' rs' re' r' p', mr_Map c rk rv (nI M) xF xG xL xH (16 * (s + 1)) pk' pv' rs' re' r' p' p' → post (xP, (nI B), (nI M), xF, xG, xL, xH, (nI p'), (nI r'), gs, gr, rk, rv, rc, mf, rf, pk', pv', rs', re', cu, ok, ov, oc)) :
    wpX_mapSplit post (xP, (nI B), (nI M), xF, xG, xL, xH, (nI p), (nI r), gs, gr, rk, rv, rc, mf, rf, pk, pv, rs, re, cu, ok, ov, oc) (nI s) :=
  ⟨17, mx_mapSplit7 h0 h1 hB hB2 hs hc hrc H 17 0 pk pv rs re r p p (Nat.zero_le _) (by omega) R⟩
theorem mx_mapInput12 {post : SX → Prop} {c : Nat → Nat} {M B : Nat} (h0 : 0 < M) (h1 : M < 2 ^ 30) (hB : 0 < B) (hB2 : B < 2 ^ 30) (hc : ∀ s, s < 4 → c s ≤ 16 ∧ rc s = nI (c s))
    (H : ∀ pk' pv' rs' re' r' p', mr_Map c rk rv (nI M) xF xG xL xH 64 pk' pv' rs' re' r' p' p' → post (xP, (nI B), (nI M), xF, xG, xL, xH, (nI p'), (nI r'), gs, gr, rk, rv, rc, mf, rf, pk', pv', rs', re', cu, ok, ov, oc)) :
    ∀ n s pk pv rs re r p, s ≤ 4 → 4 - s < n → mr_Map c rk rv (nI M) xF xG xL xH (16 * s) pk pv rs re r p p → wX_mapInput_12 post n (nI s) xP (nI B) (nI M) xF xG xL xH (nI p) (nI r) gs gr rk rv rc mf rf pk pv rs re cu ok ov oc := by
  intro n
  induction n with
  | zero => intro s pk pv rs re r p _ h; omega
  | succ n ih =>
    intro s pk pv rs re r p hs hn R
    by_cases d : s < 4
    · obtain ⟨c1, c2⟩ := hc s d
      exact br_f (nI_ge (b := 4) d (by omega)) (mx_mapSplit h0 h1 hB hB2 d c1 c2 R (fun pk' pv' rs' re' r' p' R' => nm_r (nI_1 s) (ih (s + 1) pk' pv' rs' re' r' p' d (by omega) R')))
    · have ds : s = 4 := by omega
      subst ds
      exact br_t (nI_le (b := 4) (Nat.le_refl _) (by omega)) (H _ _ _ _ _ _ R)
theorem mx_mapInput {post : SX → Prop} {c : Nat → Nat} {M B : Nat} (h0 : 0 < M) (h1 : M < 2 ^ 30) (hB : 0 < B) (hB2 : B < 2 ^ 30) (hc : ∀ s, s < 4 → c s ≤ 16 ∧ rc s = nI (c s))
    (H : ∀ pk' pv' rs' re' r' p', mr_Map c rk rv (nI M) xF xG xL xH 64 pk' pv' rs' re' r' p' p' → post (xP, (nI B), (nI M), xF, xG, xL, xH, (nI p'), (nI r'), gs, gr, rk, rv, rc, mf, rf, pk', pv', rs', re', cu, ok, ov, oc)) :
    wpX_mapInput post (xP, (nI B), (nI M), xF, xG, xL, xH, pc, rn, gs, gr, rk, rv, rc, mf, rf, pk, pv, rs, re, cu, ok, ov, oc) :=
  ⟨5, mx_mapInput12 h0 h1 hB hB2 hc H 5 0 pk pv rs re 0 0 (by omega) (by omega) (mr_Map_0 c rk rv (nI M) xF xG xL xH pk pv rs re)⟩
end
end
section
/-! walks of the component, 3: the reducing -/
section
variable {xP xB xM xF xG xL xH pc rn gs gr : Int32} {rk rv rc mf rf pk pv rs re cu ok ov oc : Nat → Int32}
theorem mx_take8 {post : SX → Prop} {j q r e x g : Nat} {g0 : Int32} (hj : j ≤ 4) (hr : r < 64) (hxe : x ≤ e) (he : e ≤ 64) (hre : re r = nI e) (hq : q < 2 ^ 30)
    (H : ∀ t, x ≤ t → t ≤ e → (t = e ∨ (q : Int) < (pk t).toInt) → (∀ i, x ≤ i → i < t → (pk i).toInt ≤ (q : Int)) →
      post (xP, xB, xM, xF, xG, xL, xH, pc, rn, (nI (g + (mr_sv pk pv (nI q) x (t - x)).length)), (List.foldl (mr_st (nI j)) g0 (mr_sv pk pv (nI q) x (t - x))), rk, rv, rc, mf, rf, pk, pv, rs, re, (upd cu r (nI t)), ok, ov, oc)) :
    ∀ n t, x ≤ t → t ≤ e → e - t < n → (∀ i, x ≤ i → i < t → (pk i).toInt ≤ (q : Int)) →
      wX_takeFromRun_8 post (nI r) (nI q) (nI j) xP xB xM xF xG xL xH pc rn rk rv rc mf rf pk pv rs re cu ok ov oc n (nI t) (nI (g + (mr_sv pk pv (nI q) x (t - x)).length)) (List.foldl (mr_st (nI j)) g0 (mr_sv pk pv (nI q) x (t - x))) := by
  have er : (nI r).toNatClampNeg = r := nI_clamp (by omega)
  have ir : vp_in (nI r) 64 := vp_in_nI hr (by decide)
  have eq : (nI q).toInt = (q : Int) := nI_toInt (by omega)
  intro n
  induction n with
  | zero => intro t _ _ h; omega
  | succ n ih =>
    intro t hxt hte hn hle
    have et : (nI t).toNatClampNeg = t := nI_clamp (by omega)
    have ee : re (nI r).toNatClampNeg = nI e := by rw [er]; exact hre
    refine ⟨ir, ?_⟩
    by_cases c : t < e
    · have it : vp_in (nI t) 64 := vp_in_nI (by omega) (by decide)
      refine br_f (by rw [ee]; exact nI_ge c (by omega)) ⟨it, ?_⟩
      by_cases d : nI q < pk t
      · exact br_t (by rw [et]; exact d) ⟨ir, nm_r (by rw [er]) (H t hxt hte (Or.inr (by rw [← eq]; exact Int32.lt_iff_toInt_lt.mp d)) hle)⟩
      · have dle : (pk t).toInt ≤ (q : Int) := by
          rw [← eq]
          exact Int32.le_iff_toInt_le.mp (Int32.not_lt.mp d)
        have hle' : ∀ i, x ≤ i → i < t + 1 → (pk i).toInt ≤ (q : Int) := fun i h1 h2 => by
          by_cases f : i = t
          · subst f; exact dle
          · exact hle i h1 (by omega)
        have es : mr_sv pk pv (nI q) x (t + 1 - x) = mr_sv pk pv (nI q) x (t - x) ++ (if pk t = nI q then [pv t] else []) := by
          rw [show t + 1 - x = (t - x) + 1 by omega, mr_sv_s, show x + (t - x) = t by omega]
        have nx := ih (t + 1) (by omega) c (by omega) hle'
        refine br_f (by rw [et]; exact d) ⟨it, ?_⟩
        by_cases f : pk t = nI q
        · rw [if_pos f] at es
          rw [es, List.foldl_append, List.length_append] at nx
          refine br_t (by rw [et]; exact f) ⟨it, mx_step hj (nm_r (by rw [nI_1]) (nm_r (nI_1 t) ?_))⟩
          rw [et]
          exact nx
        · rw [if_neg f, List.append_nil] at es
          rw [es] at nx
          exact br_f (by rw [et]; exact f) (nm_r (nI_1 t) nx)
    · have dt : t = e := by omega
      exact br_t (by rw [ee]; exact nI_le (by omega) (by omega)) ⟨ir, nm_r (by rw [er]) (H t hxt hte (Or.inl dt) hle)⟩
theorem mx_takeFromRun {post : SX → Prop} {j q r e x g : Nat} (hj : j ≤ 4) (hr : r < 64) (hxe : x ≤ e) (he : e ≤ 64) (hre : re r = nI e) (hcu : cu r = nI x) (hq : q < 2 ^ 30)
    (H : ∀ t, x ≤ t → t ≤ e → (t = e ∨ (q : Int) < (pk t).toInt) → (∀ i, x ≤ i → i < t → (pk i).toInt ≤ (q : Int)) →
      post (xP, xB, xM, xF, xG, xL, xH, pc, rn, (nI (g + (mr_sv pk pv (nI q) x (t - x)).length)), (List.foldl (mr_st (nI j)) gr (mr_sv pk pv (nI q) x (t - x))), rk, rv, rc, mf, rf, pk, pv, rs, re, (upd cu r (nI t)), ok, ov, oc)) :
    wpX_takeFromRun post (xP, xB, xM, xF, xG, xL, xH, pc, rn, (nI g), gr, rk, rv, rc, mf, rf, pk, pv, rs, re, cu, ok, ov, oc) (nI r) (nI q) (nI j) := by
  have er : (nI r).toNatClampNeg = r := nI_clamp (by omega)
  refine ⟨vp_in_nI hr (by decide), nm_r (e' := nI x) (by rw [er]; exact hcu) ⟨e - x + 1, ?_⟩⟩
  have h := mx_take8 (xP := xP) (xB := xB) (xM := xM) (xF := xF) (xG := xG) (xL := xL) (xH := xH) (pc := pc) (rn := rn) (g := g) (g0 := gr) hj hr hxe he hre hq H (e - x + 1) x (Nat.le_refl _) hxe (by omega) (fun i h1 h2 => by omega)
  rw [Nat.sub_self] at h
  exact h
/-- one key asked of all runs -/
theorem mx_rk16 {post : SX → Prop} {j q nn p part m : Nat} {S : Nat → Nat} (hj : j ≤ 4) (hq : q < 2 ^ 30) (R : mr_Runs pk rs re nn p S) (hp : p ≤ 64) (hpart : part < 4) (hm : m < 16) (hoc : oc part = nI m)
    (H0 : mr_sv pk pv (nI q) 0 p = [] → ∀ cu' gs' gr', (∀ i, i < nn → mr_C1 pk cu' S i (q + 1)) → post (xP, xB, xM, xF, xG, xL, xH, pc, (nI nn), gs', gr', rk, rv, rc, mf, rf, pk, pv, rs, re, cu', ok, ov, oc))
    (H1 : mr_sv pk pv (nI q) 0 p ≠ [] → ∀ cu' gs' gr', (∀ i, i < nn → mr_C1 pk cu' S i (q + 1)) →
      post (xP, xB, xM, xF, xG, xL, xH, pc, (nI nn), gs', gr', rk, rv, rc, mf, rf, pk, pv, rs, re, cu', (upd ok (16 * part + m) (nI q)), (upd ov (16 * part + m) (mr_fd (nI j) (mr_sv pk pv (nI q) 0 p))), (upd oc part (nI (m + 1))))) :
    ∀ n r cu, r ≤ nn → nn - r < n → mr_Cs pk cu S nn r q →
      wX_reduceKey_16 post (nI part) (nI q) (nI j) n (nI r) xP xB xM xF xG xL xH pc (nI nn) (nI (mr_sv pk pv (nI q) 0 (S r)).length) (mr_fd (nI j) (mr_sv pk pv (nI q) 0 (S r))) rk rv rc mf rf pk pv rs re cu ok ov oc := by
  have hnn : nn ≤ p := by
    have := mr_Runs_ge R nn (Nat.le_refl _)
    rw [R.2.1] at this
    exact this
  intro n
  induction n with
  | zero => intro r cu _ h; omega
  | succ n ih =>
    intro r cu hr hn C
    by_cases c : r < nn
    · obtain ⟨x, a1, a2, a3, a4, a5⟩ := mr_take_step (pv := pv) R C c (show q < 2 ^ 31 by omega)
      refine br_f (nI_ge c (by omega)) (mx_takeFromRun hj (by omega) a3 (by omega) a2 a1 hq (fun t t1 t2 t3 t4 => nm_r (nI_1 r) ?_))
      obtain ⟨C', es⟩ := a5 t t1 t2 t3 t4
      have nx := ih (r + 1) (upd cu r (nI t)) c (by omega) C'
      rw [es, List.length_append] at nx
      unfold mr_fd at nx ⊢
      rw [List.foldl_append] at nx
      exact nx
    · have dr : r = nn := by omega
      subst dr
      rw [R.2.1]
      have hlen := mr_sv_len pk pv (nI q) 0 p
      refine br_t (nI_le (Nat.le_refl _) (by omega)) ?_
      by_cases z : mr_sv pk pv (nI q) 0 p = []
      · exact br_t (by rw [z]; decide) (H0 z _ _ _ (mr_Cs_n C))
      · exact br_f (nI_nle (List.length_pos_iff.mpr z) (by omega)) (mx_appendResult hpart hm hoc (H1 z _ _ _ (mr_Cs_n C)))
theorem mx_reduceKey {post : SX → Prop} {j q nn p part m : Nat} {S : Nat → Nat} (hj : j ≤ 4) (hq : q < 2 ^ 30) (R : mr_Runs pk rs re nn p S) (hp : p ≤ 64) (hpart : part < 4) (hm : m < 16) (hoc : oc part = nI m)
    (C : ∀ i, i < nn → mr_C1 pk cu S i q)
    (H0 : mr_sv pk pv (nI q) 0 p = [] → ∀ cu' gs' gr', (∀ i, i < nn → mr_C1 pk cu' S i (q + 1)) → post (xP, xB, xM, xF, xG, xL, xH, pc, (nI nn), gs', gr', rk, rv, rc, mf, rf, pk, pv, rs, re, cu', ok, ov, oc))
    (H1 : mr_sv pk pv (nI q) 0 p ≠ [] → ∀ cu' gs' gr', (∀ i, i < nn → mr_C1 pk cu' S i (q + 1)) →
      post (xP, xB, xM, xF, xG, xL, xH, pc, (nI nn), gs', gr', rk, rv, rc, mf, rf, pk, pv, rs, re, cu', (upd ok (16 * part + m) (nI q)), (upd ov (16 * part + m) (mr_fd (nI j) (mr_sv pk pv (nI q) 0 p))), (upd oc part (nI (m + 1))))) :
    wpX_reduceKey post (xP, xB, xM, xF, xG, xL, xH, pc, (nI nn), gs, gr, rk, rv, rc, mf, rf, pk, pv, rs, re, cu, ok, ov, oc) (nI part) (nI q) (nI j) := by
  unfold wpX_reduceKey
  refine mx_startOf hj ⟨nn + 1, ?_⟩
  have h := mx_rk16 (xP := xP) (xB := xB) (xM := xM) (xF := xF) (xG := xG) (xL := xL) (xH := xH) (pc := pc) hj hq R hp hpart hm hoc H0 H1 (nn + 1) 0 cu (Nat.zero_le _) (by omega) (mr_Cs_0 C)
  rw [R.1] at h
  exact h
end
end
section
/-! walks of the component, 4: the parts, a job, the output made the input -/
section
variable {xP xB xM xF xG xL xH pc rn gs gr : Int32} {rk rv rc mf rf pk pv rs re cu ok ov oc : Nat → Int32}
theorem mx_rp6 {post : SX → Prop} {j nn p part P M : Nat} {S : Nat → Nat} {L : Nat → List Int32} {lim : Nat → Nat} (hj : j ≤ 4) (hP0 : 0 < P) (hP : P ≤ 4) (hM : M ≤ 16) (hpart : part < 4) (hl : ∀ i, lim i ≤ 16)
    (R : mr_Runs pk rs re nn p S) (hp : p ≤ 64) (hL : ∀ q, mr_sv pk pv (nI q) 0 p = L q)
    (H : ∀ cu' gs' gr' ok' ov' oc', mr_Res (mr_h L) P (fun q => mr_fd (nI j) (L q)) (mr_up lim part M) oc' ok' ov' → post ((nI P), xB, (nI M), xF, xG, xL, xH, pc, (nI nn), gs', gr', rk, rv, rc, mf, rf, pk, pv, rs, re, cu', ok', ov', oc')) :
    ∀ n q cu gs gr ok ov oc, q ≤ M → M - q < n → mr_Res (mr_h L) P (fun q => mr_fd (nI j) (L q)) (mr_up lim part q) oc ok ov → (∀ i, i < nn → mr_C1 pk cu S i q) →
      wX_reducePart_6 post (nI part) (nI j) n (nI q) (nI P) xB (nI M) xF xG xL xH pc (nI nn) gs gr rk rv rc mf rf pk pv rs re cu ok ov oc := by
  intro n
  induction n with
  | zero => intro q cu gs gr ok ov oc _ h; omega
  | succ n ih =>
    intro q cu gs gr ok ov oc hq hn RR C
    by_cases c : q < M
    · have er : nI q - nI q / nI P * nI P = nI (q % P) := pk_rem (by omega) hP0 (by omega)
      have hqP : q % P < 4 := by
        have := Nat.mod_lt q hP0
        omega
      refine br_f (nI_ge c (by omega)) ⟨nI_ne0 hP0 (by omega), ?_⟩
      by_cases d : q % P = part
      · refine br_t (by rw [er, d]) ?_
        have hk := mr_k_le (mr_h L) P part q
        have hoc : oc part = nI (mr_k (mr_h L) P part q) := by
          have := (RR part hpart).1
          rw [mr_up_s] at this
          exact this
        refine mx_reduceKey hj (by omega) R hp hpart (show mr_k (mr_h L) P part q < 16 by omega) hoc C (fun z cu' gs' gr' C' => ?_) (fun z cu' gs' gr' C' => ?_)
        · exact nm_r (nI_1 q) (ih (q + 1) cu' gs' gr' ok ov oc c (by omega) (mr_Res_skip RR (fun y => mr_h_t.mp y.1 ((hL q).symm.trans z))) C')
        · refine nm_r (nI_1 q) (ih (q + 1) cu' gs' gr' _ _ _ c (by omega) ?_ C')
          have := mr_Res_put RR (mr_h_t.mpr (fun y => z ((hL q).trans y))) d (by omega) hl
          rw [hL q]
          exact this
      · exact br_f (by rw [er, nI_eq (by omega) (by omega)]; exact d) (nm_r (nI_1 q) (ih (q + 1) cu gs gr ok ov oc c (by omega) (mr_Res_skip RR (fun y => d y.2)) (fun i hi => mr_C1_up (C i hi) (by omega))))
    · have d : q = M := by omega
      subst d
      exact br_t (nI_le (Nat.le_refl _) (by omega)) (H _ _ _ _ _ _ RR)
theorem mx_reducePart {post : SX → Prop} {j nn p part P M : Nat} {S : Nat → Nat} {L : Nat → List Int32} {lim : Nat → Nat} (hj : j ≤ 4) (hP0 : 0 < P) (hP : P ≤ 4) (hM : M ≤ 16) (hpart : part < 4) (hl : ∀ i, lim i ≤ 16)
    (R : mr_Runs pk rs re nn p S) (hp : p ≤ 64) (hL : ∀ q, mr_sv pk pv (nI q) 0 p = L q) (RR : mr_Res (mr_h L) P (fun q => mr_fd (nI j) (L q)) lim oc ok ov) (hlim : lim part = 0)
    (H : ∀ cu' gs' gr' ok' ov' oc', mr_Res (mr_h L) P (fun q => mr_fd (nI j) (L q)) (mr_up lim part M) oc' ok' ov' → post ((nI P), xB, (nI M), xF, xG, xL, xH, pc, (nI nn), gs', gr', rk, rv, rc, mf, rf, pk, pv, rs, re, cu', ok', ov', oc')) :
    wpX_reducePart post ((nI P), xB, (nI M), xF, xG, xL, xH, pc, (nI nn), gs, gr, rk, rv, rc, mf, rf, pk, pv, rs, re, cu, ok, ov, oc) (nI part) (nI j) := by
  have hnn : nn ≤ p := by
    have := mr_Runs_ge R nn (Nat.le_refl _)
    rw [R.2.1] at this
    exact this
  unfold wpX_reducePart
  refine mx_rewind (by omega) (fun cu' hcu => ⟨M + 1, ?_⟩)
  exact mx_rp6 hj hP0 hP hM hpart hl R hp hL H (M + 1) 0 cu' gs gr ok ov oc (Nat.zero_le _) (by omega) (by rw [mr_up_id hlim]; exact RR) (mr_C_rew R hcu 0)
theorem mx_rps4 {post : Int32 → SX → Prop} {j nn p P M : Nat} {S : Nat → Nat} {L : Nat → List Int32} (hj : j ≤ 4) (hP0 : 0 < P) (hP : P ≤ 4) (hM : M ≤ 16)
    (R : mr_Runs pk rs re nn p S) (hp : p ≤ 64) (hL : ∀ q, mr_sv pk pv (nI q) 0 p = L q)
    (H : ∀ cu' gs' gr' ok' ov' oc', mr_Res (mr_h L) P (fun q => mr_fd (nI j) (L q)) (mr_lim (fun _ => M) P) oc' ok' ov' → post (nI (mr_S (mr_h L) P M P)) ((nI P), xB, (nI M), xF, xG, xL, xH, pc, (nI nn), gs', gr', rk, rv, rc, mf, rf, pk, pv, rs, re, cu', ok', ov', oc')) :
    ∀ n part cu gs gr ok ov oc, part ≤ P → P - part < n → mr_Res (mr_h L) P (fun q => mr_fd (nI j) (L q)) (mr_lim (fun _ => M) part) oc ok ov →
      wX_reducePairs_4 post (nI j) n (nI (mr_S (mr_h L) P M part)) (nI part) (nI P) xB (nI M) xF xG xL xH pc (nI nn) gs gr rk rv rc mf rf pk pv rs re cu ok ov oc := by
  intro n
  induction n with
  | zero => intro part cu gs gr ok ov oc _ h; omega
  | succ n ih =>
    intro part cu gs gr ok ov oc hq hn RR
    by_cases c : part < P
    · refine br_f (nI_ge c (by omega)) (mx_reducePart hj hP0 hP hM (by omega) (mr_lim_le (fun _ => hM)) R hp hL RR mr_lim_p (fun cu' gs' gr' ok' ov' oc' R' => ⟨vp_in_nI (by omega) (by decide), ?_⟩))
      have e : oc' part = nI (mr_k (mr_h L) P part M) := by
        have := (R' part (by omega)).1
        rw [mr_up_s] at this
        exact this
      have R2 := R'
      rw [show M = (fun _ : Nat => M) part from rfl, mr_lim_up] at R2
      exact nm_r (e' := nI (mr_S (mr_h L) P M (part + 1))) (by rw [nI_clamp (by omega), e, nI_add]; rfl) (nm_r (nI_1 part) (ih (part + 1) cu' gs' gr' ok' ov' oc' c (by omega) R2))
    · have d : part = P := by omega
      subst d
      exact br_t (nI_le (Nat.le_refl _) (by omega)) (H _ _ _ _ _ _ RR)
theorem mx_reducePairs {post : Int32 → SX → Prop} {j nn p P M : Nat} {S : Nat → Nat} {L : Nat → List Int32} (hj : j ≤ 4) (hP0 : 0 < P) (hP : P ≤ 4) (hM : M ≤ 16)
    (R : mr_Runs pk rs re nn p S) (hp : p ≤ 64) (hL : ∀ q, mr_sv pk pv (nI q) 0 p = L q) (h0 : ∀ i, i < 4 → oc i = 0)
    (H : ∀ cu' gs' gr' ok' ov' oc', mr_Res (mr_h L) P (fun q => mr_fd (nI j) (L q)) (mr_lim (fun _ => M) P) oc' ok' ov' → post (nI (mr_S (mr_h L) P M P)) ((nI P), xB, (nI M), xF, xG, xL, xH, pc, (nI nn), gs', gr', rk, rv, rc, mf, rf, pk, pv, rs, re, cu', ok', ov', oc')) :
    wpX_reducePairs post ((nI P), xB, (nI M), xF, xG, xL, xH, pc, (nI nn), gs, gr, rk, rv, rc, mf, rf, pk, pv, rs, re, cu, ok, ov, oc) (nI j) :=
  ⟨P + 1, mx_rps4 hj hP0 hP hM R hp hL H (P + 1) 0 cu gs gr ok ov oc (Nat.zero_le _) (by omega) (by rw [mr_lim_0]; exact mr_Res_0 h0)⟩
theorem mx_run {post : Int32 → SX → Prop} {c : Nat → Nat} {P B M j : Nat} (hj : j ≤ 4) (hP0 : 0 < P) (hP : P ≤ 4) (hB : 0 < B) (hB2 : B ≤ 8) (hM0 : 0 < M) (hM : M ≤ 16) (hc : ∀ s, s < 4 → c s ≤ 16 ∧ rc s = nI (c s))
    (Hg : ¬ mr_sm (mr_sm 0 mf 4) rf P ≤ 6 → ∀ mf' rf' pk' pv' rs' re' r' oc', (∀ i, i < 4 → mf' i = 0) → (∀ i, i < P → rf' i = 0) → (∀ i, i < 4 → oc' i = 0) →
      post (-3) ((nI P), (nI B), (nI M), xF, xG, xL, xH, (nI (mr_ct (mr_b c rv xL xH) 64)), (nI r'), gs, gr, rk, rv, rc, mf', rf', pk', pv', rs', re', cu, ok, ov, oc'))
    (Hr : mr_sm (mr_sm 0 mf 4) rf P ≤ 6 → ∀ mf' rf' pk' pv' rs' re' r' cu' gs' gr' ok' ov' oc', (∀ i, i < 4 → mf' i = 0) → (∀ i, i < P → rf' i = 0) →
      mr_Res (mr_h (fun q => mr_all c rk rv (nI M) xF xG xL xH (nI q) 64)) P (fun q => mr_fd (nI j) (mr_all c rk rv (nI M) xF xG xL xH (nI q) 64)) (mr_lim (fun _ => M) P) oc' ok' ov' →
      post (nI (mr_S (mr_h (fun q => mr_all c rk rv (nI M) xF xG xL xH (nI q) 64)) P M P))
        ((nI P), (nI B), (nI M), xF, xG, xL, xH, (nI (mr_ct (mr_b c rv xL xH) 64)), (nI r'), gs', gr', rk, rv, rc, mf', rf', pk', pv', rs', re', cu', ok', ov', oc')) :
    wpX_run post ((nI P), (nI B), (nI M), xF, xG, xL, xH, pc, rn, gs, gr, rk, rv, rc, mf, rf, pk, pv, rs, re, cu, ok, ov, oc) (nI j) := by
  refine br_f (nI_pos (by omega)) (br_t (nI_le (b := 4) hj (by decide)) (mx_useUp hP (fun mf' rf' hm hr => ?_)))
  refine mx_mapInput hM0 (by omega) hB (by omega) hc (fun pk' pv' rs' re' r' p' R => mx_clearOutput (fun oc' ho => ?_))
  have hle := (mr_Map_le R).1
  obtain ⟨e, hv, ⟨S, hS⟩, _⟩ := R
  subst e
  exact br_c (fun h => mx_reducePairs hj hP0 hP hM hS hle (fun q => hv (nI q)) ho (fun cu' gs' gr' ok' ov' oc' RR => Hr h mf' rf' pk' pv' rs' re' r' cu' gs' gr' ok' ov' oc' hm hr RR))
    (fun h => Hg h mf' rf' pk' pv' rs' re' r' oc' hm hr ho)
end
end
section
/-! walks of the component, 5: the output made the input -/
section
variable {xP xB xM xF xG xL xH pc rn gs gr : Int32} {rk rv rc mf rf pk pv rs re cu ok ov oc : Nat → Int32}
theorem mx_fb18 {post : Int32 → SX → Prop} {J8 : Int32 → Int32 → Int32 → Int32 → Int32 → Int32 → Int32 → Int32 → Int32 → Int32 → Int32 → Int32 → Int32 → (Nat → Int32) → (Nat → Int32) → (Nat → Int32) → (Nat → Int32) → (Nat → Int32) → (Nat → Int32) → (Nat → Int32) → (Nat → Int32) → (Nat → Int32) → (Nat → Int32) → (Nat → Int32) → (Nat → Int32) → (Nat → Int32) → Prop}
    {x1 y1 : Int32} {part K : Nat} {lim : Nat → Nat} (hpart : part < 4) (hK : oc part = nI K) (hK16 : K ≤ 16) (hl : ∀ i, lim i ≤ 16) (hx : x1 + nI K = y1)
    (H : ∀ rk' rv' rc', mr_Cp ok ov (mr_up lim part K) rc' rk' rv' → J8 y1 (nI (part + 1)) xP xB xM xF xG xL xH pc rn gs gr rk' rv' rc' mf rf pk pv rs re cu ok ov oc) :
    ∀ n i rk rv rc, i ≤ K → K - i < n → mr_Cp ok ov (mr_up lim part i) rc rk rv → wX_feedBack_18 post J8 x1 (nI part) n (nI i) xP xB xM xF xG xL xH pc rn gs gr rk rv rc mf rf pk pv rs re cu ok ov oc := by
  have ep : (nI part).toNatClampNeg = part := nI_clamp (by omega)
  have ip : vp_in (nI part) 4 := vp_in_nI hpart (by decide)
  have eK : oc (nI part).toNatClampNeg = nI K := by rw [ep]; exact hK
  intro n
  induction n with
  | zero => intro i rk rv rc _ h; omega
  | succ n ih =>
    intro i rk rv rc hi hn R
    have hc : rc part = nI i := by
      have := (R part hpart).1
      rw [mr_up_s] at this
      exact this
    refine ⟨ip, ?_⟩
    by_cases c : i < K
    · have e : (nI (16 * part + i)).toNatClampNeg = 16 * part + i := nI_clamp (by omega)
      have i64 : vp_in (nI (16 * part + i)) 64 := vp_in_nI (by omega) (by decide)
      refine br_f (by rw [eK]; exact nI_ge c (by omega)) (nm_r (mr_16 part i) ⟨i64, i64, ?_⟩)
      refine mx_append hpart (by omega) hc (nm_r (nI_1 i) (ih (i + 1) _ _ _ c (by omega) ?_))
      rw [e]
      exact mr_Cp_s R (by omega) hl
    · have d : i = K := by omega
      subst d
      refine br_t (by rw [eK]; exact nI_le (Nat.le_refl _) (by omega)) ⟨ip, nm_r (e' := y1) (by rw [ep, hc]; exact hx) (nm_r (nI_1 part) (H _ _ _ R))⟩
theorem mx_fb8 {post : Int32 → SX → Prop} {h : Nat → Bool} {P : Nat} (hP : P ≤ 4) (hoc : ∀ i, i < 4 → oc i = nI (mr_k h P i 16))
    (H : ∀ rk' rv' rc', mr_Cp ok ov (mr_lim (fun i => mr_k h P i 16) P) rc' rk' rv' → post (nI (mr_S h P 16 P)) ((nI P), xB, xM, xF, xG, xL, xH, pc, rn, gs, gr, rk', rv', rc', mf, rf, pk, pv, rs, re, cu, ok, ov, oc)) :
    ∀ n part rk rv rc, part ≤ P → P - part < n → mr_Cp ok ov (mr_lim (fun i => mr_k h P i 16) part) rc rk rv → wX_feedBack_8 post n (nI (mr_S h P 16 part)) (nI part) (nI P) xB xM xF xG xL xH pc rn gs gr rk rv rc mf rf pk pv rs re cu ok ov oc := by
  intro n
  induction n with
  | zero => intro part rk rv rc _ h; omega
  | succ n ih =>
    intro part rk rv rc hp hn R
    by_cases c : part < P
    · have hk : mr_k h P part 16 ≤ 16 := mr_k_le h P part 16
      refine br_f (nI_ge c (by omega)) ⟨17, mx_fb18 (y1 := nI (mr_S h P 16 (part + 1))) (K := mr_k h P part 16) (lim := mr_lim (fun i => mr_k h P i 16) part) (by omega) (hoc part (by omega)) hk (mr_lim_le (fun i => mr_k_le h P i 16)) (by rw [nI_add]; rfl)
        (fun rk' rv' rc' R' => ih (part + 1) rk' rv' rc' c (by omega) ?_) 17 0 rk rv rc (Nat.zero_le _) (by omega) (by rw [mr_up_id mr_lim_p]; exact R)⟩
      rw [← mr_lim_up]
      exact R'
    · have d : part = P := by omega
      subst d
      exact br_t (nI_le (Nat.le_refl _) (by omega)) (H _ _ _ R)
theorem mx_feedBack {post : Int32 → SX → Prop} {h : Nat → Bool} {P : Nat} (hP0 : 0 < P) (hP : P ≤ 4) (hoc : ∀ i, i < 4 → oc i = nI (mr_k h P i 16))
    (H : ∀ rk' rv' rc', mr_Cp ok ov (fun i => mr_k h P i 16) rc' rk' rv' → post (nI (mr_ct h 16)) ((nI P), xB, xM, xF, xG, xL, xH, pc, rn, gs, gr, rk', rv', rc', mf, rf, pk, pv, rs, re, cu, ok, ov, oc)) : wpX_feedBack post ((nI P), xB, xM, xF, xG, xL, xH, pc, rn, gs, gr, rk, rv, rc, mf, rf, pk, pv, rs, re, cu, ok, ov, oc) := by
  unfold wpX_feedBack
  refine mx_clearInput (fun rc' h0 => ⟨P + 1, ?_⟩)
  refine mx_fb8 hP hoc (fun rk' rv' rc' R => ?_) (P + 1) 0 rk rv rc' (Nat.zero_le _) (by omega) (by rw [mr_lim_0]; exact mr_Cp_0 h0)
  rw [mr_S_all hP0]
  exact H _ _ _ (mr_Cp_fin hP0 R)
end
end
section
/-! walks of the reference, 1: counts, keys, a group's reducing -/
section
variable {yP yM yF yG yL yH mp : Int32} {sz yk yv yf ha yr : Nat → Int32}
theorem my_counts {post : Int32 → Prop} {c : Nat → Nat} {r : Nat} (hr : r < 64) (hsz : sz (r / 16) = nI (c (r / 16))) (hc : c (r / 16) ≤ 16)
    (H0 : mr_b c yv yL yH r = false → post 0) (H1 : mr_b c yv yL yH r = true → post 1) : wpY_counts post (yP, yM, yF, yG, yL, yH, mp, sz, yk, yv, yf, ha, yr) (nI r) := by
  have e1 : nI r >>> ((4 : Int32) &&& 31) = nI (r / 16) := pk_shrN (by omega) ((4 : Int32) &&& 31) 4 (by decide)
  have e2 : nI r &&& 15 = nI (r % 16) := pk_andN (by omega) 4 (by decide)
  have e3 : (nI r >>> ((4 : Int32) &&& 31)).toNatClampNeg = r / 16 := by rw [e1]; exact nI_clamp (by omega)
  have er : (nI r).toNatClampNeg = r := nI_clamp (by omega)
  have ir : vp_in (nI r) 64 := vp_in_nI hr (by decide)
  refine ⟨by rw [e1]; exact vp_in_nI (by omega) (by decide), ?_⟩
  by_cases z : r % 16 < c (r / 16)
  · refine br_f (by rw [e3, e2, hsz]; exact nI_ge z (by omega)) ⟨ir, br_c (fun h => ?_) (fun h => ⟨ir, br_c (fun h2 => ?_) (fun h2 => ?_)⟩)⟩
    · rw [er] at h
      refine H0 ?_
      unfold mr_b
      rw [decide_eq_false (Int32.not_le.mpr h), Bool.false_and, Bool.and_false]
    · rw [er] at h2
      refine H0 ?_
      unfold mr_b
      rw [decide_eq_false (Int32.not_le.mpr h2), Bool.and_false, Bool.and_false]
    · rw [er] at h h2
      refine H1 ?_
      unfold mr_b
      rw [decide_eq_true z, decide_eq_true (Int32.not_lt.mp h), decide_eq_true (Int32.not_lt.mp h2)]
      rfl
  · refine br_t (by rw [e3, e2, hsz]; exact nI_le (by omega) (by omega)) (H0 ?_)
    unfold mr_b
    rw [decide_eq_false z, Bool.false_and]
theorem my_keyOf {post : Int32 → Prop} {M r : Nat} (hr : r < 64) (h0 : 0 < M) (h1 : M < 2 ^ 30) (H : post (mr_ky (nI M) (yk r))) : wpY_keyOf post (yP, (nI M), yF, yG, yL, yH, mp, sz, yk, yv, yf, ha, yr) (nI r) := by
  have er : (nI r).toNatClampNeg = r := nI_clamp (by omega)
  refine ⟨vp_in_nI hr (by decide), br_t (nI_le (a := 1) h0 (by omega)) ?_⟩
  rw [er]
  refine ⟨nI_ne0 h0 (by omega), nm_e (br_c (fun h => ?_) (fun h => ?_))⟩
  · have e : mr_ky (nI M) (yk r) = yk r - yk r / nI M * nI M := if_neg (Int32.not_lt.mpr h)
    rw [e] at H
    exact H
  · have e : mr_ky (nI M) (yk r) = yk r - yk r / nI M * nI M + nI M := if_pos (Int32.not_le.mp h)
    rw [e] at H
    exact H
theorem my_94 {post : Int32 → SY → Prop} {J18 : Int32 → Int32 → Int32 → Int32 → Int32 → Int32 → Prop} {x1 x2 x3 x4 x5 x6 x7 x8 x9 : Int32}
    (H : J18 x3 x4 (x5 + 1) x6 (if x5 = 0 ∨ x9 < x7 then x9 else x7) (x8 + 1)) : wY_reduce_94 post J18 x1 x2 x3 x4 x5 x6 x7 x8 x9 yP yM yF yG yL yH mp sz yk yv yf ha yr := by
  refine br_c (fun h => nm_e (nm_e ?_)) (fun h => br_c (fun h2 => nm_e (nm_e ?_)) (fun h2 => nm_e (nm_e ?_)))
  · rw [if_pos (Or.inl h)] at H; exact H
  · rw [if_neg (fun z => z.elim h (Int32.not_lt.mpr h2))] at H; exact H
  · rw [if_pos (Or.inr (Int32.not_le.mp h2))] at H; exact H
theorem my_134 {post : Int32 → SY → Prop} {j q : Nat} {x3 x4 x5 x6 x7 z0 : Int32} {l : List Int32} (hj : j ≤ 4) (hq : q < 16) (Y : mr_Y l x3 x4 x5 x6 x7) (hz : vp_nar .boolean z0 = z0)
    (H : ∀ r, (l ≠ [] → r = mr_fd (nI j) l) → post r (yP, yM, yF, yG, yL, yH, mp, sz, yk, yv, yf, (upd ha q z0), yr)) : wY_reduce_134 post (nI j) x3 x4 x5 x6 x7 z0 (nI q) yP yM yF yG yL yH mp sz yk yv yf ha yr := by
  obtain ⟨a1, a2, a3, a4, a5, a6⟩ := Y
  refine ⟨vp_in_nI hq (by decide), nm_r (e' := upd ha q z0) (by rw [hz, nI_clamp (by omega)]) ?_⟩
  obtain rfl | rfl | rfl | rfl | rfl : j = 0 ∨ j = 1 ∨ j = 2 ∨ j = 3 ∨ j = 4 := by omega
  · exact br_t (by decide) (H _ (fun _ => a2))
  · exact br_f (by decide) (br_t (by decide) (H _ a5))
  · exact br_f (by decide) (br_f (by decide) (br_t (by decide) (H _ a6)))
  · exact br_f (by decide) (br_f (by decide) (br_f (by decide) (br_t (by decide) (H _ (fun _ => a4)))))
  · exact br_f (by decide) (br_f (by decide) (br_f (by decide) (br_f (by decide) (H _ (fun _ => a1)))))
theorem mr_nar0 : vp_nar .boolean 0 = 0 := by decide
theorem mr_nar1 : vp_nar .boolean 1 = 1 := by decide
theorem my_red18 {post : Int32 → SY → Prop} {c : Nat → Nat} {M j q : Nat} (hj : j ≤ 4) (hq : q < 16) (h0 : 0 < M) (hM : M ≤ 16) (hc : ∀ s, s < 4 → c s ≤ 16 ∧ sz s = nI (c s))
    (H : ∀ r z, (mr_all c yk yv (nI M) yF yG yL yH (nI q) 64 ≠ [] → r = mr_fd (nI j) (mr_all c yk yv (nI M) yF yG yL yH (nI q) 64)) →
      z = (if mr_all c yk yv (nI M) yF yG yL yH (nI q) 64 = [] then 0 else 1) → post r (yP, (nI M), yF, yG, yL, yH, mp, sz, yk, yv, yf, (upd ha q z), yr)) :
    ∀ n r x3 x4 x5 x6 x7, r ≤ 64 → 64 - r < n → mr_Y (mr_all c yk yv (nI M) yF yG yL yH (nI q) r) x3 x4 x5 x6 x7 →
      wY_reduce_18 post (nI j) (nI q) yP (nI M) yF yG yL yH mp sz yk yv yf ha yr n x3 x4 x5 x6 x7 (nI r) := by
  intro n
  induction n with
  | zero => intro r x3 x4 x5 x6 x7 _ h; omega
  | succ n ih =>
    intro r x3 x4 x5 x6 x7 hr hn Y
    by_cases d : r < 64
    · obtain ⟨c1, c2⟩ := hc (r / 16) (by omega)
      have er : (nI r).toNatClampNeg = r := nI_clamp (by omega)
      have es : mr_all c yk yv (nI M) yF yG yL yH (nI q) (r + 1) = mr_all c yk yv (nI M) yF yG yL yH (nI q) r ++ (if mr_b c yv yL yH r = true ∧ mr_ky (nI M) (yk r) = nI q then [yF * yv r + yG] else []) := rfl
      have hlen : (mr_all c yk yv (nI M) yF yG yL yH (nI q) r).length ≤ r := mr_vs_len _ _ _ _ r
      refine br_f (nI_ge (b := 64) d (by decide)) (my_counts d c2 c1 (fun hb => ?_) (fun hb => ?_))
      · rw [if_neg (fun z => by rw [hb] at z; exact absurd z.1 (by decide)), List.append_nil] at es
        exact br_t rfl (nm_r (nI_1 r) (ih (r + 1) x3 x4 x5 x6 x7 d (by omega) (by rw [es]; exact Y)))
      · refine br_f (by decide) (my_keyOf d h0 (by omega) ?_)
        by_cases hk : mr_ky (nI M) (yk r) = nI q
        · rw [if_pos ⟨hb, hk⟩] at es
          have Y1 := mr_Y1 Y (yF * yv r + yG) (by omega)
          rw [← es] at Y1
          have nx := ih (r + 1) _ _ _ _ _ d (by omega) Y1
          rw [← nI_1 r] at nx
          refine br_t hk ⟨vp_in_nI d (by decide), nm_r (e' := yF * yv r + yG) (by rw [er]) (nm_e (nm_e (br_c (fun z => ?_) (fun z => br_c (fun z2 => ?_) (fun z2 => ?_)))))⟩
          · rw [if_pos (Or.inl z)] at nx
            exact my_94 nx
          · rw [if_neg (fun y => y.elim z (Int32.not_lt.mpr z2))] at nx
            exact my_94 nx
          · rw [if_pos (Or.inr (Int32.not_le.mp z2))] at nx
            exact my_94 nx
        · rw [if_neg (fun z => hk z.2), List.append_nil] at es
          exact br_f hk (nm_r (nI_1 r) (ih (r + 1) x3 x4 x5 x6 x7 d (by omega) (by rw [es]; exact Y)))
    · have dr : r = 64 := by omega
      subst dr
      have hlen : (mr_all c yk yv (nI M) yF yG yL yH (nI q) 64).length ≤ 64 := mr_vs_len _ _ _ _ 64
      have e5 := Y.2.2.1
      refine br_t (nI_le (b := 64) (Nat.le_refl _) (by decide)) ?_
      by_cases z : mr_all c yk yv (nI M) yF yG yL yH (nI q) 64 = []
      · exact br_t (by rw [e5, z]; decide) (my_134 hj hq Y mr_nar0 (fun r hr => H r 0 hr (by rw [if_pos z])))
      · exact br_f (by rw [e5]; exact nI_nle (List.length_pos_iff.mpr z) (by omega)) (my_134 hj hq Y mr_nar1 (fun r hr => H r 1 hr (by rw [if_neg z])))
theorem my_reduce {post : Int32 → SY → Prop} {c : Nat → Nat} {M j q : Nat} (hj : j ≤ 4) (hq : q < 16) (h0 : 0 < M) (hM : M ≤ 16) (hc : ∀ s, s < 4 → c s ≤ 16 ∧ sz s = nI (c s))
    (H : ∀ r z, (mr_all c yk yv (nI M) yF yG yL yH (nI q) 64 ≠ [] → r = mr_fd (nI j) (mr_all c yk yv (nI M) yF yG yL yH (nI q) 64)) →
      z = (if mr_all c yk yv (nI M) yF yG yL yH (nI q) 64 = [] then 0 else 1) → post r (yP, (nI M), yF, yG, yL, yH, mp, sz, yk, yv, yf, (upd ha q z), yr)) : wpY_reduce post (yP, (nI M), yF, yG, yL, yH, mp, sz, yk, yv, yf, ha, yr) (nI j) (nI q) :=
  ⟨65, my_red18 hj hq h0 hM hc H 65 0 7 0 0 0 0 (by omega) (by omega) (mr_Y0 0 0)⟩
end
end
section
/-! walks of the reference, 2: a job, the questions, the output made the input -/
def mr_bit (b : Bool) : Int32 := if b = true then 1 else 0
theorem mr_bit_t {b : Bool} (h : b = true) : mr_bit b = 1 := if_pos h
theorem mr_bit_f {b : Bool} (h : ¬ b = true) : mr_bit b = 0 := if_neg h
theorem mr_hL {c : Nat → Nat} {K V : Nat → Int32} {m fa og lo hi : Int32} {q : Nat} : mr_h (fun q => mr_all c K V m fa og lo hi (nI q) 64) q = true ↔ mr_all c K V m fa og lo hi (nI q) 64 ≠ [] :=
  mr_h_t (L := fun q => mr_all c K V m fa og lo hi (nI q) 64) (q := q)
section
variable {yP yM yF yG yL yH mp : Int32} {sz yk yv yf ha yr : Nat → Int32}
theorem my_120 {post : Int32 → SY → Prop} {J85 : Int32 → Int32 → Int32 → Int32 → Int32 → Int32 → Int32 → Int32 → Int32 → (Nat → Int32) → (Nat → Int32) → (Nat → Int32) → (Nat → Int32) → (Nat → Int32) → (Nat → Int32) → Prop}
    {x1 x2 : Int32} {g : Nat → Bool} {q : Nat} (hq : q < 16) (hh : ha q = mr_bit (g q)) (H : J85 (nI (mr_ct g (q + 1))) (nI (q + 1)) yP yM yF yG yL yH mp sz yk yv yf ha yr) :
    wY_run_120 post J85 x1 x2 (nI (mr_ct g q)) (nI q) yP yM yF yG yL yH mp sz yk yv yf ha yr := by
  have e : ha (nI q).toNatClampNeg = mr_bit (g q) := by rw [nI_clamp (by omega)]; exact hh
  refine ⟨vp_in_nI hq (by decide), ?_⟩
  by_cases z : g q = true
  · exact br_f (by rw [e, mr_bit_t z]; decide) (nm_r (e' := nI (mr_ct g (q + 1))) (by rw [nI_1, mr_ct_s, if_pos z]) (nm_r (nI_1 q) H))
  · rw [mr_ct_s, if_neg z] at H
    exact br_t (by rw [e, mr_bit_f z]) (nm_r (nI_1 q) H)
theorem my_run85 {post : Int32 → SY → Prop} {c : Nat → Nat} {M j : Nat} {F : Int32} {g : Nat → Bool} (hj : j ≤ 4) (h0 : 0 < M) (hM : M ≤ 16) (hc : ∀ s, s < 4 → c s ≤ 16 ∧ sz s = nI (c s))
    (hg1 : F ≤ 6 → ∀ q, g q = mr_h (fun q => mr_all c yk yv (nI M) yF yG yL yH (nI q) 64) q) (hg2 : ¬ F ≤ 6 → ∀ q, g q = false)
    (H : ∀ ha' yr', (∀ q, q < 16 → ha' q = mr_bit (g q)) → (∀ q, q < 16 → g q = true → yr' q = mr_fd (nI j) (mr_all c yk yv (nI M) yF yG yL yH (nI q) 64)) →
      (F ≤ 6 → post (nI (mr_ct g 16)) (yP, (nI M), yF, yG, yL, yH, mp, sz, yk, yv, yf, ha', yr')) ∧ (¬ F ≤ 6 → post (-3) (yP, (nI M), yF, yG, yL, yH, mp, sz, yk, yv, yf, ha', yr'))) :
    ∀ n q ha yr, q ≤ 16 → 16 - q < n → (∀ k, k < q → ha k = mr_bit (g k)) → (∀ k, k < q → g k = true → yr k = mr_fd (nI j) (mr_all c yk yv (nI M) yF yG yL yH (nI k) 64)) →
      wY_run_85 post (nI j) F n (nI (mr_ct g q)) (nI q) yP (nI M) yF yG yL yH mp sz yk yv yf ha yr := by
  intro n
  induction n with
  | zero => intro q ha yr _ h; omega
  | succ n ih =>
    intro q ha yr hq hn h1 h2
    by_cases d : q < 16
    · have eq : (nI q).toNatClampNeg = q := nI_clamp (by omega)
      have iq : vp_in (nI q) 16 := vp_in_nI d (by decide)
      refine br_f (nI_ge (b := 16) d (by decide)) (my_reduce hj d h0 hM hc (fun r z hr hz => ⟨iq, nm_r (e' := upd yr q r) (by rw [eq]) (br_c (fun hF => ?_) (fun hF => ⟨iq, nm_r (e' := upd (upd ha q z) q 0) (by rw [eq, mr_nar0]) ?_⟩))⟩))
      · have hb : z = mr_bit (g q) := by
          rw [hz, hg1 hF q]
          by_cases y : mr_all c yk yv (nI M) yF yG yL yH (nI q) 64 = []
          · rw [if_pos y, mr_bit_f (fun w => mr_hL.mp w y)]
          · rw [if_neg y, mr_bit_t (mr_hL.mpr y)]
        refine my_120 (g := g) d (by rw [pk_us]; exact hb) (ih (q + 1) (upd ha q z) (upd yr q r) d (by omega) (fun k hk => ?_) (fun k hk hgk => ?_))
        · by_cases e : k = q
          · subst e; rw [pk_us]; exact hb
          · rw [pk_un e]; exact h1 k (by omega)
        · by_cases e : k = q
          · subst e
            rw [pk_us]
            rw [hg1 hF k] at hgk
            exact hr (mr_hL.mp hgk)
          · rw [pk_un e]; exact h2 k (by omega) hgk
      · have hb : (0 : Int32) = mr_bit (g q) := by rw [mr_bit_f (by rw [hg2 hF q]; decide)]
        refine my_120 (g := g) d (by rw [pk_us]; exact hb) (ih (q + 1) (upd (upd ha q z) q 0) (upd yr q r) d (by omega) (fun k hk => ?_) (fun k hk hgk => ?_))
        · by_cases e : k = q
          · subst e; rw [pk_us]; exact hb
          · rw [pk_un e, pk_un e]; exact h1 k (by omega)
        · rw [hg2 hF k] at hgk
          exact absurd hgk (by decide)
    · have dq : q = 16 := by omega
      subst dq
      exact br_t (nI_le (b := 16) (Nat.le_refl _) (by decide)) (H ha yr h1 h2)
theorem my_run50 {post : Int32 → SY → Prop} {c : Nat → Nat} {x1 x2 : Int32} (hc : ∀ s, s < 4 → c s ≤ 16 ∧ sz s = nI (c s))
    (H : ∃ n, wY_run_85 post x1 x2 n 0 0 yP yM yF yG yL yH (nI (mr_ct (mr_b c yv yL yH) 64)) sz yk yv yf ha yr) :
    ∀ n r, r ≤ 64 → 64 - r < n → wY_run_50 post x1 x2 yP yM yF yG yL yH sz yk yv yf ha yr n (nI r) (nI (mr_ct (mr_b c yv yL yH) r)) := by
  intro n
  induction n with
  | zero => intro r _ h; omega
  | succ n ih =>
    intro r hr hn
    by_cases d : r < 64
    · obtain ⟨c1, c2⟩ := hc (r / 16) (by omega)
      have nx := ih (r + 1) d (by omega)
      refine br_f (nI_ge (b := 64) d (by decide)) (my_counts d c2 c1 (fun hb => ?_) (fun hb => ?_))
      · rw [mr_ct_s, if_neg (by rw [hb]; decide)] at nx
        exact br_t rfl (nm_r (nI_1 r) nx)
      · rw [mr_ct_s, if_pos hb] at nx
        exact br_f (by decide) (nm_r (nI_1 _) (nm_r (nI_1 r) nx))
    · have dr : r = 64 := by omega
      subst dr
      exact br_t (nI_le (b := 64) (Nat.le_refl _) (by decide)) H
theorem my_run15 {post : Int32 → SY → Prop} {x1 : Int32} {yf0 : Nat → Int32} (H : ∀ yf', (∀ i, i < 8 → yf' i = 0) → ∃ n, wY_run_50 post x1 (mr_sm 0 yf0 8) yP yM yF yG yL yH sz yk yv yf' ha yr n 0 0) :
    ∀ n p yf, p ≤ 8 → 8 - p < n → (∀ j, p ≤ j → yf j = yf0 j) → (∀ j, j < p → yf j = 0) → wY_run_15 post x1 yP yM yF yG yL yH mp n (mr_sm 0 yf0 p) (nI p) sz yk yv yf ha yr := by
  intro n
  induction n with
  | zero => intro p yf _ h; omega
  | succ n ih =>
    intro p yf hp hn h1 h2
    by_cases c : p < 8
    · have e : (nI p).toNatClampNeg = p := nI_clamp (by omega)
      have i8 : vp_in (nI p) 8 := vp_in_nI c (by decide)
      refine br_f (nI_ge (b := 8) c (by decide)) ⟨i8, nm_r (e' := mr_sm 0 yf0 (p + 1)) (by rw [e, h1 p (Nat.le_refl _)]; rfl) ⟨i8, nm_r (e' := upd yf p 0) (by rw [e]) (nm_r (nI_1 p) (ih (p + 1) (upd yf p 0) c (by omega) (fun j hj => ?_) (fun j hj => ?_)))⟩⟩
      · rw [pk_un (by omega)]; exact h1 j (by omega)
      · by_cases d : j = p
        · subst d; exact pk_us
        · rw [pk_un d]; exact h2 j (by omega)
    · have d : p = 8 := by omega
      subst d
      exact br_t (nI_le (b := 8) (Nat.le_refl _) (by decide)) (H yf h2)
theorem my_run {post : Int32 → SY → Prop} {c : Nat → Nat} {M j : Nat} {F : Int32} {g : Nat → Bool} (hj : j ≤ 4) (h0 : 0 < M) (hM : M ≤ 16) (hc : ∀ s, s < 4 → c s ≤ 16 ∧ sz s = nI (c s)) (hF : mr_sm 0 yf 8 = F)
    (hg1 : F ≤ 6 → ∀ q, g q = mr_h (fun q => mr_all c yk yv (nI M) yF yG yL yH (nI q) 64) q) (hg2 : ¬ F ≤ 6 → ∀ q, g q = false)
    (H : ∀ yf' ha' yr', (∀ i, i < 8 → yf' i = 0) → (∀ q, q < 16 → ha' q = mr_bit (g q)) → (∀ q, q < 16 → g q = true → yr' q = mr_fd (nI j) (mr_all c yk yv (nI M) yF yG yL yH (nI q) 64)) →
      (F ≤ 6 → post (nI (mr_ct g 16)) (yP, (nI M), yF, yG, yL, yH, (nI (mr_ct (mr_b c yv yL yH) 64)), sz, yk, yv, yf', ha', yr')) ∧ (¬ F ≤ 6 → post (-3) (yP, (nI M), yF, yG, yL, yH, (nI (mr_ct (mr_b c yv yL yH) 64)), sz, yk, yv, yf', ha', yr'))) :
    wpY_run post (yP, (nI M), yF, yG, yL, yH, mp, sz, yk, yv, yf, ha, yr) (nI j) := by
  subst hF
  refine br_f (nI_pos (by omega)) (br_t (nI_le (b := 4) hj (by decide)) ⟨9, ?_⟩)
  refine my_run15 (yf0 := yf) (fun yf' h => ⟨65, ?_⟩) 9 0 yf (by omega) (by omega) (fun _ _ => rfl) (fun _ h => absurd h (Nat.not_lt_zero _))
  refine my_run50 (c := c) hc ⟨17, ?_⟩ 65 0 (by omega) (by omega)
  exact my_run85 hj h0 hM hc hg1 hg2 (fun ha' yr' a b => H yf' ha' yr' h a b) 17 0 ha yr (by omega) (by omega) (fun _ h => absurd h (Nat.not_lt_zero _)) (fun _ h => absurd h (Nat.not_lt_zero _))
theorem my_results18 {post : Int32 → Prop} {h : Nat → Bool} {P part : Nat} (hP0 : 0 < P) (hP : P ≤ 4) (hpart : part < 4) (hh : ∀ q, q < 16 → ha q = mr_bit (h q)) (H : post (nI (mr_k h P part 16))) :
    ∀ n q, q ≤ 16 → 16 - q < n → wY_results_18 post (nI part) (nI P) yM yF yG yL yH mp sz yk yv yf ha yr n (nI (mr_k h P part q)) (nI q) := by
  intro n
  induction n with
  | zero => intro q _ h; omega
  | succ n ih =>
    intro q hq hn
    by_cases d : q < 16
    · have er : nI q - nI q / nI P * nI P = nI (q % P) := pk_rem (by omega) hP0 (by omega)
      have e : ha (nI q).toNatClampNeg = mr_bit (h q) := by rw [nI_clamp (by omega)]; exact hh q d
      have hqP : q % P < 4 := by
        have := Nat.mod_lt q hP0
        omega
      have nx := ih (q + 1) d (by omega)
      refine br_f (nI_ge (b := 16) d (by decide)) ⟨vp_in_nI d (by decide), ?_⟩
      by_cases z : h q = true
      · refine br_f (by rw [e, mr_bit_t z]; decide) ⟨nI_ne0 hP0 (by omega), ?_⟩
        by_cases f : q % P = part
        · rw [mr_k_y z f] at nx
          exact br_t (by rw [er, f]) (nm_r (nI_1 _) (nm_r (nI_1 q) nx))
        · rw [mr_k_n (fun y => f y.2)] at nx
          exact br_f (by rw [er, nI_eq (by omega) (by omega)]; exact f) (nm_r (nI_1 q) nx)
      · rw [mr_k_n (fun y => z y.1)] at nx
        exact br_t (by rw [e, mr_bit_f z]) (nm_r (nI_1 q) nx)
    · have dq : q = 16 := by omega
      subst dq
      exact br_t (nI_le (b := 16) (Nat.le_refl _) (by decide)) H
theorem my_keyAt19 {post : Int32 → Prop} {h : Nat → Bool} {P part : Nat} {i : Int32} (hP0 : 0 < P) (hP : P ≤ 4) (hpart : part < 4) (hh : ∀ q, q < 16 → ha q = mr_bit (h q)) :
    ∀ n q, q ≤ 16 → 16 - q < n → (∀ k, q ≤ k → k < 16 → h k = true → k % P = part → nI (mr_k h P part k) = i → post (nI k)) →
      ((∀ k, q ≤ k → k < 16 → h k = true → k % P = part → nI (mr_k h P part k) ≠ i) → post (-1)) → wY_keyAt_19 post (nI part) i (nI P) yM yF yG yL yH mp sz yk yv yf ha yr n (nI (mr_k h P part q)) (nI q) := by
  intro n
  induction n with
  | zero => intro q _ h; omega
  | succ n ih =>
    intro q hq hn H1 H2
    by_cases d : q < 16
    · have er : nI q - nI q / nI P * nI P = nI (q % P) := pk_rem (by omega) hP0 (by omega)
      have e : ha (nI q).toNatClampNeg = mr_bit (h q) := by rw [nI_clamp (by omega)]; exact hh q d
      have hqP : q % P < 4 := by
        have := Nat.mod_lt q hP0
        omega
      refine br_f (nI_ge (b := 16) d (by decide)) ⟨vp_in_nI d (by decide), ?_⟩
      have nx : ¬ (h q = true ∧ q % P = part ∧ nI (mr_k h P part q) = i) → wY_keyAt_19 post (nI part) i (nI P) yM yF yG yL yH mp sz yk yv yf ha yr n (nI (mr_k h P part (q + 1))) (nI (q + 1)) := fun hno =>
        ih (q + 1) d (by omega) (fun k a b => H1 k (by omega) b) (fun hz => H2 (fun k a b c1 c2 c3 => by
          by_cases f : k = q
          · subst f; exact hno ⟨c1, c2, c3⟩
          · exact hz k (by omega) b c1 c2 c3))
      by_cases z : h q = true
      · refine br_f (by rw [e, mr_bit_t z]; decide) ⟨nI_ne0 hP0 (by omega), ?_⟩
        by_cases f : q % P = part
        · refine br_t (by rw [er, f]) ?_
          by_cases w : nI (mr_k h P part q) = i
          · exact br_t w (H1 q (Nat.le_refl _) d z f w)
          · have nx := nx (fun y => w y.2.2)
            rw [mr_k_y z f] at nx
            exact br_f w (nm_r (nI_1 _) (nm_r (nI_1 q) nx))
        · have nx := nx (fun y => f y.2.1)
          rw [mr_k_n (fun y => f y.2)] at nx
          exact br_f (by rw [er, nI_eq (by omega) (by omega)]; exact f) (nm_r (nI_1 q) nx)
      · have nx := nx (fun y => z y.1)
        rw [mr_k_n (fun y => z y.1)] at nx
        exact br_t (by rw [e, mr_bit_f z]) (nm_r (nI_1 q) nx)
    · have dq : q = 16 := by omega
      subst dq
      exact br_t (nI_le (b := 16) (Nat.le_refl _) (by decide)) (H2 (fun k a b => by omega))
theorem my_add {post : Int32 → SY → Prop} {s n : Nat} {k v : Int32} (hs : s < 4) (hn : n < 16) (hc : sz s = nI n)
    (H : post (nI (n + 1)) (yP, yM, yF, yG, yL, yH, mp, (upd sz s (nI (n + 1))), (upd yk (16 * s + n) k), (upd yv (16 * s + n) v), yf, ha, yr)) : wpY_addRecord post (yP, yM, yF, yG, yL, yH, mp, sz, yk, yv, yf, ha, yr) (nI s) k v := by
  have e3 : (nI s).toNatClampNeg = s := nI_clamp (by omega)
  have es : sz (nI s).toNatClampNeg = nI n := by rw [e3]; exact hc
  have e : 16 * nI s + sz (nI s).toNatClampNeg = nI (16 * s + n) := by
    rw [es]
    show nI 16 * nI s + nI n = _
    rw [pk_mul, nI_add]
  have e2 : (16 * nI s + sz (nI s).toNatClampNeg).toNatClampNeg = 16 * s + n := by rw [e]; exact nI_clamp (by omega)
  have i4 : vp_in (nI s) 4 := vp_in_nI hs (by decide)
  have i64 : vp_in (16 * nI s + sz (nI s).toNatClampNeg) 64 := by rw [e]; exact vp_in_nI (by omega) (by decide)
  have n16 : ¬ sz (nI s).toNatClampNeg = 16 := by
    rw [es]
    intro z
    have : nI n = nI 16 := z
    rw [nI_eq (by omega) (by omega)] at this
    omega
  refine br_f (nI_pos (by omega)) (br_t (nI_le (b := 3) (by omega) (by decide)) ⟨i4, br_f n16 ⟨i4, i64, nm_r (e' := upd yk (16 * s + n) k) (by rw [e2]) ⟨i4, i64, nm_r (e' := upd yv (16 * s + n) v) (by rw [e2]) ⟨i4, i4, nm_r (e' := upd sz s (nI (n + 1))) (by rw [es, e3, nI_1]) ⟨i4, ?_⟩⟩⟩⟩⟩)
  rw [e3, pk_us]
  exact H
theorem my_fb24 {post : Int32 → SY → Prop} {h : Nat → Bool} {P : Nat} (hP0 : 0 < P) (hP : P ≤ 4) (hh : ∀ q, q < 16 → ha q = mr_bit (h q))
    (H : ∀ sz' yk' yv', mr_Res h P yr (fun _ => 16) sz' yk' yv' → post (nI (mr_ct h 16)) ((nI P), yM, yF, yG, yL, yH, mp, sz', yk', yv', yf, ha, yr)) :
    ∀ n q sz yk yv, q ≤ 16 → 16 - q < n → mr_Res h P yr (fun _ => q) sz yk yv → wY_feedBack_24 post n (nI (mr_ct h q)) (nI q) (nI P) yM yF yG yL yH mp sz yk yv yf ha yr := by
  intro n
  induction n with
  | zero => intro q sz yk yv _ h; omega
  | succ n ih =>
    intro q sz yk yv hq hn R
    by_cases d : q < 16
    · have er : nI q - nI q / nI P * nI P = nI (q % P) := pk_rem (by omega) hP0 (by omega)
      have eq : (nI q).toNatClampNeg = q := nI_clamp (by omega)
      have e : ha (nI q).toNatClampNeg = mr_bit (h q) := by rw [eq]; exact hh q d
      have iq : vp_in (nI q) 16 := vp_in_nI d (by decide)
      have hqP : q % P < 4 := by
        have := Nat.mod_lt q hP0
        omega
      refine br_f (nI_ge (b := 16) d (by decide)) ⟨iq, ?_⟩
      by_cases z : h q = true
      · refine br_f (by rw [e, mr_bit_t z]; decide) ⟨nI_ne0 hP0 (by omega), iq, ?_⟩
        rw [er, eq]
        have hk := mr_k_le h P (q % P) q
        refine my_add hqP (show mr_k h P (q % P) q < 16 by omega) (R (q % P) hqP).1 (nm_r (e' := nI (mr_ct h (q + 1))) (by rw [nI_1, mr_ct_s, if_pos z]) (nm_r (nI_1 q) (ih (q + 1) _ _ _ d (by omega) (mr_Res_yes R z rfl d))))
      · have nx := ih (q + 1) sz yk yv d (by omega) (mr_Res_no R z)
        rw [mr_ct_s, if_neg z] at nx
        exact br_t (by rw [e, mr_bit_f z]) (nm_r (nI_1 q) nx)
    · have dq : q = 16 := by omega
      subst dq
      exact br_t (nI_le (b := 16) (Nat.le_refl _) (by decide)) (H _ _ _ R)
theorem my_fb4 {post : Int32 → SY → Prop} {x1 : Int32} (H : ∀ sz', (∀ j, j < 4 → sz' j = 0) → ∃ n, wY_feedBack_24 post n x1 0 yP yM yF yG yL yH mp sz' yk yv yf ha yr) :
    ∀ n p sz, p ≤ 4 → 4 - p < n → (∀ j, j < p → sz j = 0) → wY_feedBack_4 post x1 yP yM yF yG yL yH mp n (nI p) sz yk yv yf ha yr := by
  intro n
  induction n with
  | zero => intro p sz _ h; omega
  | succ n ih =>
    intro p sz hp hn h2
    by_cases c : p < 4
    · have e : (nI p).toNatClampNeg = p := nI_clamp (by omega)
      refine br_f (nI_ge (b := 4) c (by omega)) ⟨vp_in_nI (by omega) (by decide), nm_r (e' := upd sz p 0) (by rw [e]) (nm_r (nI_1 p) (ih (p + 1) (upd sz p 0) c (by omega) (fun j hj => ?_)))⟩
      by_cases d : j = p
      · subst d; exact pk_us
      · rw [pk_un d]; exact h2 j (by omega)
    · have d : p = 4 := by omega
      subst d
      exact br_t (nI_le (b := 4) (Nat.le_refl _) (by omega)) (H sz h2)
theorem my_feedBack {post : Int32 → SY → Prop} {h : Nat → Bool} {P : Nat} (hP0 : 0 < P) (hP : P ≤ 4) (hh : ∀ q, q < 16 → ha q = mr_bit (h q))
    (H : ∀ sz' yk' yv', mr_Res h P yr (fun _ => 16) sz' yk' yv' → post (nI (mr_ct h 16)) ((nI P), yM, yF, yG, yL, yH, mp, sz', yk', yv', yf, ha, yr)) : wpY_feedBack post ((nI P), yM, yF, yG, yL, yH, mp, sz, yk, yv, yf, ha, yr) :=
  ⟨5, my_fb4 (fun sz' h0 => ⟨17, my_fb24 hP0 hP hh H 17 0 sz' yk yv (by omega) (by omega) (mr_Res_0 h0)⟩) 5 0 sz (by omega) (by omega) (fun _ h => absurd h (Nat.not_lt_zero _))⟩
end
end
section
/-! the relation -/
/-- what both sides keep: the same settings; the same records; the same failures to come; the results of the same keys, the component's by part and rank -/
def mr_Rel (u : SX) (v : SY) : Prop :=
  ∃ (P B M : Nat) (c : Nat → Nat) (h : Nat → Bool) (xF xG xL xH pc rn gs gr : Int32) (rk rv rc mf rf pk pv rs re cu ok ov oc sz yk yv yf ha yr : Nat → Int32),
    u = ((nI P), (nI B), (nI M), xF, xG, xL, xH, pc, rn, gs, gr, rk, rv, rc, mf, rf, pk, pv, rs, re, cu, ok, ov, oc) ∧ v = (nI P, nI M, xF, xG, xL, xH, pc, sz, yk, yv, yf, ha, yr) ∧
    (1 ≤ P ∧ P ≤ 4) ∧ (2 ≤ B ∧ B ≤ 8) ∧ (1 ≤ M ∧ M ≤ 16) ∧ mr_Rec c rc rk rv sz yk yv ∧
    (∀ s, s < 4 → mf s = yf s) ∧ (∀ p, p < P → rf p = yf (4 + p)) ∧ (∀ p, P ≤ p → p < 4 → yf (4 + p) = 0) ∧
    (∀ q, q < 16 → ha q = mr_bit (h q)) ∧ mr_Res h P yr (fun _ => 16) oc ok ov
def i_Rel (k : Nat) (u : SX) (v : SY) : Prop := mr_Rel u v
theorem i_up {k : Nat} {u : SX} {v : SY} (h : i_Rel k u v) : i_Rel (k + 4) u v := h
theorem mr_rel0 {P B : Nat} (hP : 1 ≤ P ∧ P ≤ 4) (hB : 2 ≤ B ∧ B ≤ 8) :
    mr_Rel (nI P, nI B, 16, 1, 0, (-2147483648), 2147483647, 0, 0, 0, 0, (fun _ => 0), (fun _ => 0), (fun _ => 0), (fun _ => 0), (fun _ => 0), (fun _ => 0), (fun _ => 0), (fun _ => 0), (fun _ => 0), (fun _ => 0), (fun _ => 0), (fun _ => 0), (fun _ => 0))
      (nI P, 16, 1, 0, (-2147483648), 2147483647, 0, (fun _ => 0), (fun _ => 0), (fun _ => 0), (fun _ => 0), (fun _ => 0), (fun _ => 0)) :=
  ⟨P, B, 16, fun _ => 0, fun _ => false, 1, 0, (-2147483648), 2147483647, 0, 0, 0, 0, fun _ => 0, fun _ => 0, fun _ => 0, fun _ => 0, fun _ => 0, fun _ => 0, fun _ => 0, fun _ => 0, fun _ => 0, fun _ => 0, fun _ => 0, fun _ => 0, fun _ => 0,
    fun _ => 0, fun _ => 0, fun _ => 0, fun _ => 0, fun _ => 0, fun _ => 0, rfl, rfl, hP, hB, by omega, fun _ _ => ⟨Nat.zero_le _, nI_0.symm, nI_0.symm, fun _ _ => ⟨rfl, rfl⟩⟩,
    fun _ _ => rfl, fun _ _ => rfl, fun _ _ _ => rfl, fun _ _ => (mr_bit_f (show ¬ false = true by decide)).symm, mr_Res_gu (fun _ _ => rfl)⟩
theorem i_vc0 (k0 : Int32) (k1 : Int32) : wpX_init (fun u => wpY_init (fun v => i_Rel 2 u v) k0 k1) k0 k1 := by
  by_cases h1 : (1 : Int32) ≤ k0
  · by_cases h4 : k0 ≤ 4
    · have h0 : ¬ k0 < 0 := Int32.not_lt.mpr (Int32.le_trans (by decide) h1)
      obtain ⟨P, hP, rfl⟩ := nI_of h0
      have a1 : 1 ≤ P := (nI_leI (a := 1) (by omega) hP).mp h1
      have a4 : P ≤ 4 := (nI_leI (b := 4) hP (by omega)).mp h4
      exact br_t h1 (br_t h4 (mx_clamp 2 8 (by omega) (by omega) (fun B b1 b2 => br_t h1 (br_t h4 (mr_rel0 ⟨a1, a4⟩ ⟨b1, b2⟩)))))
    · exact br_t h1 (br_f h4 (mx_clamp 2 8 (by omega) (by omega) (fun B b1 b2 => br_t h1 (br_f h4 (mr_rel0 (P := 4) ⟨by omega, by omega⟩ ⟨b1, b2⟩)))))
  · exact br_f h1 (mx_clamp 2 8 (by omega) (by omega) (fun B b1 b2 => br_f h1 (mr_rel0 (P := 1) ⟨by omega, by omega⟩ ⟨b1, b2⟩)))
end
section
/-! what is owed, 1: the calls but run and feedBack -/
theorem mr_n0 {x : Int32} {n : Nat} (h : nI n ≤ x) (hn : n < 2 ^ 31) : ¬ x < 0 := Int32.not_lt.mpr (Int32.le_trans (nI_pos' hn) h)
theorem mr_n3 {x : Int32} (h : nI 4 ≤ x) : ¬ x ≤ 3 := by
  rw [Int32.le_iff_toInt_le, nI_toInt (by decide)] at h
  rw [Int32.le_iff_toInt_le, show (3 : Int32).toInt = 3 from by decide]
  omega
theorem mr_Rec_add {c : Nat → Nat} {xc xk xv yc yk yv : Nat → Int32} (R : mr_Rec c xc xk xv yc yk yv) {s : Nat} (hc : c s < 16) (k v : Int32) :
    mr_Rec (mr_up c s (c s + 1)) (upd xc s (nI (c s + 1))) (upd xk (16 * s + c s) k) (upd xv (16 * s + c s) v) (upd yc s (nI (c s + 1))) (upd yk (16 * s + c s) k) (upd yv (16 * s + c s) v) := by
  intro j hj
  obtain ⟨a1, a2, a3, a4⟩ := R j hj
  by_cases d : j = s
  · subst d
    rw [mr_up_s, pk_us, pk_us]
    refine ⟨by omega, rfl, rfl, fun i hi => ?_⟩
    by_cases e : i = c j
    · subst e
      rw [pk_us, pk_us, pk_us, pk_us]
      exact ⟨rfl, rfl⟩
    · rw [pk_un (by omega), pk_un (by omega), pk_un (by omega), pk_un (by omega)]
      exact a4 i (by omega)
  · rw [mr_up_n d, pk_un d, pk_un d]
    refine ⟨a1, a2, a3, fun i hi => ?_⟩
    rw [pk_un (by omega), pk_un (by omega), pk_un (by omega), pk_un (by omega)]
    exact a4 i hi
theorem mr_Rec_empty {c : Nat → Nat} {xc xk xv yc yk yv : Nat → Int32} (R : mr_Rec c xc xk xv yc yk yv) {s : Nat} : mr_Rec (mr_up c s 0) (upd xc s 0) xk xv (upd yc s 0) yk yv := by
  intro j hj
  obtain ⟨a1, a2, a3, a4⟩ := R j hj
  by_cases d : j = s
  · subst d
    rw [mr_up_s, pk_us, pk_us]
    exact ⟨by omega, nI_0.symm, nI_0.symm, fun i hi => absurd hi (Nat.not_lt_zero _)⟩
  · rw [mr_up_n d, pk_un d, pk_un d]
    exact ⟨a1, a2, a3, a4⟩
theorem i_vc_addRecord {k : Nat} {u : SX} {v : SY} (I : i_Rel k u v) (hk : k + 4 ≤ 2050) (v1 : Int32) (v2 : Int32) (v3 : Int32) : wpX_addRecord (fun r u' => wpY_addRecord (fun r' v' => r' = r ∧ i_Rel (k + 4) u' v') v v1 v2 v3) u v1 v2 v3 := by
  have I0 := I
  obtain ⟨P, B, M, c, h, xF, xG, xL, xH, pc, rn, gs, gr, rk, rv, rc, mf, rf, pk, pv, rs, re, cu, ok, ov, oc, sz, yk, yv, yf, ha, yr, rfl, rfl, hP, hB, hM, hR, hf1, hf2, hf3, hh, hO⟩ := I
  rcases pk_ix v1 (n := 4) (by decide) with h1 | h1 | ⟨s, hs, rfl⟩
  · exact br_t h1 (br_t rfl (br_t h1 ⟨rfl, I0⟩))
  · exact br_f (mr_n0 h1 (by decide)) (br_t h1 (br_t rfl (br_f (mr_n0 h1 (by decide)) (br_f (mr_n3 h1) ⟨rfl, I0⟩))))
  · obtain ⟨a1, a2, a3, a4⟩ := hR s hs
    have es : (nI s).toNatClampNeg = s := nI_clamp (by omega)
    have i4 : vp_in (nI s) 4 := vp_in_nI hs (by decide)
    have n0 : ¬ nI s < 0 := nI_pos (by omega)
    have n4 : ¬ (4 : Int32) ≤ nI s := nI_ge (b := 4) hs (by decide)
    have n3 : nI s ≤ (3 : Int32) := nI_le (b := 3) (by omega) (by decide)
    by_cases z : c s < 16
    · refine br_f n0 (br_f n4 (br_f (by decide) ⟨i4, br_t (by rw [es, a2]; exact nI_lt (b := 16) z (by decide)) (mx_append hs z a2 ⟨i4, my_add hs z a3 ⟨?_, ?_⟩⟩)⟩))
      · rw [es, pk_us]
      · exact ⟨P, B, M, mr_up c s (c s + 1), h, xF, xG, xL, xH, pc, rn, gs, gr, _, _, _, mf, rf, pk, pv, rs, re, cu, ok, ov, oc, _, _, _, yf, ha, yr, rfl, rfl, hP, hB, hM, mr_Rec_add hR z v2 v3, hf1, hf2, hf3, hh, hO⟩
    · have z16 : c s = 16 := by omega
      rw [z16] at a2 a3
      exact br_f n0 (br_f n4 (br_f (by decide) ⟨i4, br_f (by rw [es, a2]; decide) (br_f n0 (br_t n3 ⟨i4, br_t (by rw [es, a3]; decide) ⟨rfl, I0⟩⟩))⟩))
theorem i_vc_mapping {k : Nat} {u : SX} {v : SY} (I : i_Rel k u v) (hk : k + 4 ≤ 2050) (v1 : Int32) (v2 : Int32) (v3 : Int32) : wpX_mapping (fun r u' => wpY_mapping (fun r' v' => r' = r ∧ i_Rel (k + 4) u' v') v v1 v2 v3) u v1 v2 v3 := by
  have I0 := I
  obtain ⟨P, B, M, c, h, xF, xG, xL, xH, pc, rn, gs, gr, rk, rv, rc, mf, rf, pk, pv, rs, re, cu, ok, ov, oc, sz, yk, yv, yf, ha, yr, rfl, rfl, hP, hB, hM, hR, hf1, hf2, hf3, hh, hO⟩ := I
  by_cases h1 : v1 < 1
  · exact br_t h1 (br_t h1 ⟨rfl, I0⟩)
  · by_cases h2 : v1 ≤ 16
    · have h0 : ¬ v1 < 0 := Int32.not_lt.mpr (Int32.le_trans (show (0 : Int32) ≤ 1 by decide) (Int32.not_lt.mp h1))
      obtain ⟨m, hm, rfl⟩ := nI_of h0
      have m1 : 1 ≤ m := (nI_leI (a := 1) (by omega) hm).mp (Int32.not_lt.mp h1)
      have m2 : m ≤ 16 := (nI_leI (b := 16) hm (by omega)).mp h2
      exact br_f h1 (br_t h2 (br_f h1 (br_t h2 ⟨rfl, ⟨P, B, m, c, h, v2, v3, xL, xH, pc, rn, gs, gr, rk, rv, rc, mf, rf, pk, pv, rs, re, cu, ok, ov, oc, sz, yk, yv, yf, ha, yr, rfl, rfl, hP, hB, ⟨m1, m2⟩, hR, hf1, hf2, hf3, hh, hO⟩⟩)))
    · exact br_f h1 (br_f h2 (br_f h1 (br_f h2 ⟨rfl, I0⟩)))
theorem i_vc_bounds {k : Nat} {u : SX} {v : SY} (I : i_Rel k u v) (hk : k + 4 ≤ 2050) (v1 : Int32) (v2 : Int32) : wpX_bounds (fun u' => wpY_bounds (fun v' => i_Rel (k + 4) u' v') v v1 v2) u v1 v2 := by
  obtain ⟨P, B, M, c, h, xF, xG, xL, xH, pc, rn, gs, gr, rk, rv, rc, mf, rf, pk, pv, rs, re, cu, ok, ov, oc, sz, yk, yv, yf, ha, yr, rfl, rfl, hP, hB, hM, hR, hf1, hf2, hf3, hh, hO⟩ := I
  exact ⟨P, B, M, c, h, xF, xG, v1, v2, pc, rn, gs, gr, rk, rv, rc, mf, rf, pk, pv, rs, re, cu, ok, ov, oc, sz, yk, yv, yf, ha, yr, rfl, rfl, hP, hB, hM, hR, hf1, hf2, hf3, hh, hO⟩
section
variable {yP yM yF yG yL yH mp : Int32} {sz yk yv yf ha yr : Nat → Int32}
theorem my_fail17_no {post : Int32 → SY → Prop} {x1 x2 x3 z0 z1 : Int32} (hx : x3 < 0 ∨ ¬ x3 ≤ 3) (H : post 0 (yP, yM, yF, yG, yL, yH, mp, sz, yk, yv, yf, ha, yr)) : wY_failures_17 post x1 x2 x3 z0 z1 yP yM yF yG yL yH mp sz yk yv yf ha yr :=
  br_c (fun _ => H) (fun _ => br_c (fun _ => H) (fun h0 => br_f (hx.resolve_left h0) H))
theorem my_fail_no {post : Int32 → SY → Prop} {x1 x2 x3 : Int32} (hx : x3 < 0 ∨ ¬ x3 ≤ 3) (H : post 0 (yP, yM, yF, yG, yL, yH, mp, sz, yk, yv, yf, ha, yr)) : wpY_failures post (yP, yM, yF, yG, yL, yH, mp, sz, yk, yv, yf, ha, yr) x1 x2 x3 :=
  br_c (fun _ => H) (fun _ => br_c (fun _ => my_fail17_no hx H) (fun _ => my_fail17_no hx H))
end
theorem i_vc_failures {k : Nat} {u : SX} {v : SY} (I : i_Rel k u v) (hk : k + 4 ≤ 2050) (v1 : Int32) (v2 : Int32) (v3 : Int32) : wpX_failures (fun r u' => wpY_failures (fun r' v' => r' = r ∧ i_Rel (k + 4) u' v') v (lw_bz v1) v2 v3) u (lw_bz v1) v2 v3 := by
  have I0 := I
  obtain ⟨P, B, M, c, h, xF, xG, xL, xH, pc, rn, gs, gr, rk, rv, rc, mf, rf, pk, pv, rs, re, cu, ok, ov, oc, sz, yk, yv, yf, ha, yr, rfl, rfl, hP, hB, hM, hR, hf1, hf2, hf3, hh, hO⟩ := I
  by_cases t0 : v3 < 0
  · exact br_t t0 (my_fail_no (Or.inl t0) ⟨rfl, I0⟩)
  by_cases t3 : v3 ≤ 3
  · rcases lw_bz_01 v1 with e | e
    · rw [e]
      rcases pk_ix v2 (n := 4) (by decide) with h1 | h1 | ⟨s, hs, rfl⟩
      · exact br_f t0 (br_t t3 (br_t rfl (br_t h1 (br_t rfl ⟨rfl, br_t h1 ⟨rfl, I0⟩⟩))))
      · exact br_f t0 (br_t t3 (br_t rfl (br_f (mr_n0 h1 (by decide)) (br_t h1 (br_t rfl ⟨rfl, br_f (mr_n0 h1 (by decide)) (br_t rfl (br_t h1 ⟨rfl, I0⟩))⟩)))))
      · have es : (nI s).toNatClampNeg = s := nI_clamp (by omega)
        have n0 : ¬ nI s < 0 := nI_pos (by omega)
        have n4 : ¬ (4 : Int32) ≤ nI s := nI_ge (b := 4) hs (by decide)
        refine br_f t0 (br_t t3 (br_t rfl (br_f n0 (br_f n4 (br_f (by decide) ⟨vp_in_nI hs (by decide), nm_r (e' := upd mf s v3) (by rw [es]) ⟨rfl, br_f n0 (br_t rfl (br_f n4 (br_f t0 (br_t t3 (br_t rfl ⟨vp_in_nI (by omega) (by decide), nm_r (e' := upd yf s v3) (by rw [es]) ⟨rfl, ?_⟩⟩)))))⟩⟩)))))
        refine ⟨P, B, M, c, h, xF, xG, xL, xH, pc, rn, gs, gr, rk, rv, rc, _, rf, pk, pv, rs, re, cu, ok, ov, oc, sz, yk, yv, _, ha, yr, rfl, rfl, hP, hB, hM, hR, fun j hj => ?_, fun j hj => ?_, fun j h1 h2 => ?_, hh, hO⟩
        · by_cases d : j = s
          · subst d; rw [pk_us, pk_us]
          · rw [pk_un d, pk_un d]; exact hf1 j hj
        · rw [pk_un (by omega)]; exact hf2 j hj
        · rw [pk_un (by omega)]; exact hf3 j h1 h2
    · rw [e]
      rcases pk_ix v2 (n := P) (by omega) with h1 | h1 | ⟨s, hs, rfl⟩
      · exact br_f t0 (br_t t3 (br_f (by decide) (br_t h1 (br_t rfl ⟨rfl, br_t h1 ⟨rfl, I0⟩⟩))))
      · have n0 : ¬ v2 < 0 := mr_n0 h1 (by omega)
        exact br_f t0 (br_t t3 (br_f (by decide) (br_f n0 (br_t h1 (br_t rfl ⟨rfl, br_f n0 (br_f (by decide) (br_t h1 ⟨rfl, I0⟩))⟩)))))
      · have es : (nI s).toNatClampNeg = s := nI_clamp (by omega)
        have n0 : ¬ nI s < 0 := nI_pos (by omega)
        have nP : ¬ nI P ≤ nI s := nI_ge hs (by omega)
        have e4 : (4 : Int32) + nI s = nI (4 + s) := nI_add 4 s
        refine br_f t0 (br_t t3 (br_f (by decide) (br_f n0 (br_f nP (br_f (by decide) ⟨vp_in_nI (by omega) (by decide), nm_r (e' := upd rf s v3) (by rw [es]) ⟨rfl, br_f n0 (br_f (by decide) (br_f nP (br_f t0 (br_t t3 (br_f (by decide) ⟨by rw [e4]; exact vp_in_nI (by omega) (by decide), nm_r (e' := upd yf (4 + s) v3) (by rw [e4, nI_clamp (by omega)]) ⟨rfl, ?_⟩⟩)))))⟩⟩)))))
        refine ⟨P, B, M, c, h, xF, xG, xL, xH, pc, rn, gs, gr, rk, rv, rc, mf, _, pk, pv, rs, re, cu, ok, ov, oc, sz, yk, yv, _, ha, yr, rfl, rfl, hP, hB, hM, hR, fun j hj => ?_, fun j hj => ?_, fun j h1 h2 => ?_, hh, hO⟩
        · rw [pk_un (by omega)]; exact hf1 j hj
        · by_cases d : j = s
          · subst d; rw [pk_us, pk_us]
          · rw [pk_un d, pk_un (by omega)]; exact hf2 j hj
        · rw [pk_un (by omega)]; exact hf3 j h1 h2
  · exact br_f t0 (br_f t3 (my_fail_no (Or.inr t3) ⟨rfl, I0⟩))
theorem i_vc_mapped {k : Nat} {u : SX} {v : SY} (I : i_Rel k u v) (hk : k + 4 ≤ 2050) : wpX_mapped (fun r => wpY_mapped (fun r' => r' = r ∧ i_Rel (k + 4) u v) v) u := by
  have I0 := I
  obtain ⟨P, B, M, c, h, xF, xG, xL, xH, pc, rn, gs, gr, rk, rv, rc, mf, rf, pk, pv, rs, re, cu, ok, ov, oc, sz, yk, yv, yf, ha, yr, rfl, rfl, hP, hB, hM, hR, hf1, hf2, hf3, hh, hO⟩ := I
  exact ⟨rfl, I0⟩
theorem i_vc_emptySplit {k : Nat} {u : SX} {v : SY} (I : i_Rel k u v) (hk : k + 4 ≤ 2050) (v1 : Int32) : wpX_emptySplit (fun r u' => wpY_emptySplit (fun r' v' => r' = r ∧ i_Rel (k + 4) u' v') v v1) u v1 := by
  have I0 := I
  obtain ⟨P, B, M, c, h, xF, xG, xL, xH, pc, rn, gs, gr, rk, rv, rc, mf, rf, pk, pv, rs, re, cu, ok, ov, oc, sz, yk, yv, yf, ha, yr, rfl, rfl, hP, hB, hM, hR, hf1, hf2, hf3, hh, hO⟩ := I
  rcases pk_ix v1 (n := 4) (by decide) with h1 | h1 | ⟨s, hs, rfl⟩
  · exact br_t h1 (br_t rfl (br_t h1 ⟨rfl, I0⟩))
  · exact br_f (mr_n0 h1 (by decide)) (br_t h1 (br_t rfl (br_f (mr_n0 h1 (by decide)) (br_f (mr_n3 h1) ⟨rfl, I0⟩))))
  · obtain ⟨a1, a2, a3, a4⟩ := hR s hs
    have es : (nI s).toNatClampNeg = s := nI_clamp (by omega)
    have i4 : vp_in (nI s) 4 := vp_in_nI hs (by decide)
    have n0 : ¬ nI s < 0 := nI_pos (by omega)
    have n4 : ¬ (4 : Int32) ≤ nI s := nI_ge (b := 4) hs (by decide)
    have n3 : nI s ≤ (3 : Int32) := nI_le (b := 3) (by omega) (by decide)
    exact br_f n0 (br_f n4 (br_f (by decide) ⟨i4, nm_r (e' := nI (c s)) (by rw [es]; exact a2) ⟨i4, nm_r (e' := upd rc s 0) (by rw [es]) (br_f n0 (br_t n3 ⟨i4, nm_r (e' := nI (c s)) (by rw [es]; exact a3) ⟨i4, nm_r (e' := upd sz s 0) (by rw [es])
      ⟨rfl, ⟨P, B, M, mr_up c s 0, h, xF, xG, xL, xH, pc, rn, gs, gr, rk, rv, _, mf, rf, pk, pv, rs, re, cu, ok, ov, oc, _, yk, yv, yf, ha, yr, rfl, rfl, hP, hB, hM, mr_Rec_empty hR, hf1, hf2, hf3, hh, hO⟩⟩⟩⟩))⟩⟩))
theorem i_vc_results {k : Nat} {u : SX} {v : SY} (I : i_Rel k u v) (hk : k + 4 ≤ 2050) (v1 : Int32) : wpX_results (fun r => wpY_results (fun r' => r' = r ∧ i_Rel (k + 4) u v) v v1) u v1 := by
  have I0 := I
  obtain ⟨P, B, M, c, h, xF, xG, xL, xH, pc, rn, gs, gr, rk, rv, rc, mf, rf, pk, pv, rs, re, cu, ok, ov, oc, sz, yk, yv, yf, ha, yr, rfl, rfl, hP, hB, hM, hR, hf1, hf2, hf3, hh, hO⟩ := I
  rcases pk_ix v1 (n := P) (by omega) with h1 | h1 | ⟨s, hs, rfl⟩
  · exact br_t h1 (br_t rfl (br_t h1 ⟨rfl, I0⟩))
  · have n0 : ¬ v1 < 0 := mr_n0 h1 (by omega)
    exact br_f n0 (br_t h1 (br_t rfl (br_f n0 (br_f (Int32.not_lt.mpr h1) ⟨rfl, I0⟩))))
  · have n0 : ¬ nI s < 0 := nI_pos (by omega)
    have nP : ¬ nI P ≤ nI s := nI_ge hs (by omega)
    exact br_f n0 (br_f nP (br_f (by decide) ⟨vp_in_nI (by omega) (by decide), br_f n0 (br_t (nI_lt hs (by omega)) ⟨17, my_results18 hP.1 hP.2 (by omega) hh ⟨by rw [nI_clamp (by omega)]; exact (hO s (by omega)).1.symm, I0⟩ 17 0 (by omega) (by omega)⟩)⟩))
end
section
/-! what is owed, 2: keyAt, valueAt -/
section
variable {xP xB xM xF xG xL xH pc rn gs gr : Int32} {rk rv rc mf rf pk pv rs re cu ok ov oc : Nat → Int32}
theorem mx_isResult_y {post : Int32 → Prop} {P part i K : Nat} (hP : P ≤ 4) (hp : part < P) (hi : i < K) (hK : K ≤ 16) (hoc : oc part = nI K) (H : post 1) : wpX_isResult post ((nI P), xB, xM, xF, xG, xL, xH, pc, rn, gs, gr, rk, rv, rc, mf, rf, pk, pv, rs, re, cu, ok, ov, oc) (nI part) (nI i) := by
  have e : oc (nI part).toNatClampNeg = nI K := by rw [nI_clamp (by omega)]; exact hoc
  exact br_f (nI_pos (by omega)) (br_f (nI_ge hp (by omega)) (br_f (by decide) (br_f (nI_pos (by omega)) ⟨vp_in_nI (by omega) (by decide), br_f (by rw [e]; exact nI_ge hi (by omega)) H⟩)))
theorem mx_isResult_n {post : Int32 → Prop} {P part K : Nat} {i : Int32} (hP : P ≤ 4) (hp : part < P) (hi : i < 0 ∨ nI K ≤ i) (hoc : oc part = nI K) (H : post 0) : wpX_isResult post ((nI P), xB, xM, xF, xG, xL, xH, pc, rn, gs, gr, rk, rv, rc, mf, rf, pk, pv, rs, re, cu, ok, ov, oc) (nI part) i := by
  have e : oc (nI part).toNatClampNeg = nI K := by rw [nI_clamp (by omega)]; exact hoc
  by_cases z : i < 0
  · exact br_f (nI_pos (by omega)) (br_f (nI_ge hp (by omega)) (br_f (by decide) (br_t z H)))
  · exact br_f (nI_pos (by omega)) (br_f (nI_ge hp (by omega)) (br_f (by decide) (br_f z ⟨vp_in_nI (by omega) (by decide), br_t (by rw [e]; exact hi.resolve_left z) H⟩)))
end
section
variable {yP yM yF yG yL yH mp : Int32} {sz yk yv yf ha yr : Nat → Int32}
/-- the reference finds no key: i is none of the ranks -/
theorem my_keyAt_n {post : Int32 → Prop} {h : Nat → Bool} {P part : Nat} {i : Int32} (hP0 : 0 < P) (hP : P ≤ 4) (hp : part < P) (hh : ∀ q, q < 16 → ha q = mr_bit (h q)) (hi : i < 0 ∨ nI (mr_k h P part 16) ≤ i) (H : post (-1)) : wpY_keyAt post ((nI P), yM, yF, yG, yL, yH, mp, sz, yk, yv, yf, ha, yr) (nI part) i := by
  have hK := mr_k_le h P part 16
  refine br_f (nI_pos (by omega)) (br_t (nI_lt hp (by omega)) ⟨17, ?_⟩)
  refine my_keyAt19 hP0 hP (by omega) hh 17 0 (by omega) (by omega) (fun k _ k2 k3 k4 k5 => ?_) (fun _ => H)
  have hlt := mr_k_lt (P := P) (p := part) k2 k3 k4
  subst k5
  exfalso
  cases hi with
  | inl z => exact nI_pos (by omega) z
  | inr z => exact nI_ge hlt (by omega) z
/-- the reference finds the key of rank i -/
theorem my_keyAt_y {post : Int32 → Prop} {h : Nat → Bool} {P part i : Nat} (hP0 : 0 < P) (hP : P ≤ 4) (hp : part < P) (hh : ∀ q, q < 16 → ha q = mr_bit (h q)) (hi : i < mr_k h P part 16)
    (H : ∀ q, q < 16 → h q = true → q % P = part → mr_k h P part q = i → post (nI q)) : wpY_keyAt post ((nI P), yM, yF, yG, yL, yH, mp, sz, yk, yv, yf, ha, yr) (nI part) (nI i) := by
  have hK := mr_k_le h P part 16
  refine br_f (nI_pos (by omega)) (br_t (nI_lt hp (by omega)) ⟨17, ?_⟩)
  refine my_keyAt19 hP0 hP (by omega) hh 17 0 (by omega) (by omega) (fun k _ k2 k3 k4 k5 => ?_) (fun hz => ?_)
  · have hlt := mr_k_lt (P := P) (p := part) k2 k3 k4
    rw [nI_eq (by omega) (by omega)] at k5
    exact H k k2 k3 k4 k5
  · obtain ⟨q, q1, q2, q3, q4⟩ := mr_k_sur 16 hi
    exact absurd (by rw [q4]) (hz q (Nat.zero_le _) q1 q2 q3)
end
theorem i_vc_keyAt {k : Nat} {u : SX} {v : SY} (I : i_Rel k u v) (hk : k + 4 ≤ 2050) (v1 : Int32) (v2 : Int32) : wpX_keyAt (fun r => wpY_keyAt (fun r' => r' = r ∧ i_Rel (k + 4) u v) v v1 v2) u v1 v2 := by
  have I0 := I
  obtain ⟨P, B, M, c, h, xF, xG, xL, xH, pc, rn, gs, gr, rk, rv, rc, mf, rf, pk, pv, rs, re, cu, ok, ov, oc, sz, yk, yv, yf, ha, yr, rfl, rfl, hP, hB, hM, hR, hf1, hf2, hf3, hh, hO⟩ := I
  rcases pk_ix v1 (n := P) (by omega) with h1 | h1 | ⟨s, hs, rfl⟩
  · exact br_t h1 (br_t rfl (br_t rfl (br_t h1 ⟨rfl, I0⟩)))
  · have n0 : ¬ v1 < 0 := mr_n0 h1 (by omega)
    exact br_f n0 (br_t h1 (br_t rfl (br_t rfl (br_f n0 (br_f (Int32.not_lt.mpr h1) ⟨rfl, I0⟩)))))
  · obtain ⟨o1, o2⟩ := hO s (by omega)
    have hK := mr_k_le h P s 16
    unfold wpX_keyAt
    rcases pk_ix v2 (n := mr_k h P s 16) (by omega) with g1 | g1 | ⟨i, gi, rfl⟩
    · exact mx_isResult_n hP.2 hs (Or.inl g1) o1 (br_t rfl (my_keyAt_n hP.1 hP.2 hs hh (Or.inl g1) ⟨rfl, I0⟩))
    · exact mx_isResult_n hP.2 hs (Or.inr g1) o1 (br_t rfl (my_keyAt_n hP.1 hP.2 hs hh (Or.inr g1) ⟨rfl, I0⟩))
    · refine mx_isResult_y hP.2 hs gi hK o1 (br_f (by decide) ⟨by rw [mr_16]; exact vp_in_nI (by omega) (by decide), my_keyAt_y hP.1 hP.2 hs hh gi (fun q q1 q2 q3 q4 => ⟨?_, I0⟩)⟩)
      have := (o2 q q1 q2 q3).1
      rw [mr_16, nI_clamp (by omega), ← q4]
      exact this.symm
theorem i_vc_valueAt {k : Nat} {u : SX} {v : SY} (I : i_Rel k u v) (hk : k + 4 ≤ 2050) (v1 : Int32) (v2 : Int32) : wpX_valueAt (fun r => wpY_valueAt (fun r' => r' = r ∧ i_Rel (k + 4) u v) v v1 v2) u v1 v2 := by
  have I0 := I
  obtain ⟨P, B, M, c, h, xF, xG, xL, xH, pc, rn, gs, gr, rk, rv, rc, mf, rf, pk, pv, rs, re, cu, ok, ov, oc, sz, yk, yv, yf, ha, yr, rfl, rfl, hP, hB, hM, hR, hf1, hf2, hf3, hh, hO⟩ := I
  rcases pk_ix v1 (n := P) (by omega) with h1 | h1 | ⟨s, hs, rfl⟩
  · exact br_t h1 (br_t rfl (br_t rfl (br_t h1 (br_t rfl ⟨rfl, I0⟩))))
  · have n0 : ¬ v1 < 0 := mr_n0 h1 (by omega)
    exact br_f n0 (br_t h1 (br_t rfl (br_t rfl (br_f n0 (br_f (Int32.not_lt.mpr h1) (br_t rfl ⟨rfl, I0⟩))))))
  · obtain ⟨o1, o2⟩ := hO s (by omega)
    have hK := mr_k_le h P s 16
    unfold wpX_valueAt wpY_valueAt
    rcases pk_ix v2 (n := mr_k h P s 16) (by omega) with g1 | g1 | ⟨i, gi, rfl⟩
    · exact mx_isResult_n hP.2 hs (Or.inl g1) o1 (br_t rfl (my_keyAt_n hP.1 hP.2 hs hh (Or.inl g1) (br_t rfl ⟨rfl, I0⟩)))
    · exact mx_isResult_n hP.2 hs (Or.inr g1) o1 (br_t rfl (my_keyAt_n hP.1 hP.2 hs hh (Or.inr g1) (br_t rfl ⟨rfl, I0⟩)))
    · refine mx_isResult_y hP.2 hs gi hK o1 (br_f (by decide) ⟨by rw [mr_16]; exact vp_in_nI (by omega) (by decide), my_keyAt_y hP.1 hP.2 hs hh gi (fun q q1 q2 q3 q4 => br_f ?_ ⟨vp_in_nI q1 (by decide), ?_, I0⟩)⟩)
      · intro z
        have := nI_pos (n := q) (by omega)
        rw [z] at this
        exact absurd this (by decide)
      · have := (o2 q q1 q2 q3).2
        rw [mr_16, nI_clamp (by omega), nI_clamp (by omega), ← q4]
        exact this.symm
end
section
/-! what is owed, 3: run, feedBack -/
theorem i_vc_feedBack {k : Nat} {u : SX} {v : SY} (I : i_Rel k u v) (hk : k + 4 ≤ 2050) : wpX_feedBack (fun r u' => wpY_feedBack (fun r' v' => r' = r ∧ i_Rel (k + 4) u' v') v) u := by
  obtain ⟨P, B, M, c, h, xF, xG, xL, xH, pc, rn, gs, gr, rk, rv, rc, mf, rf, pk, pv, rs, re, cu, ok, ov, oc, sz, yk, yv, yf, ha, yr, rfl, rfl, hP, hB, hM, hR, hf1, hf2, hf3, hh, hO⟩ := I
  exact mx_feedBack (h := h) hP.1 hP.2 (fun i hi => (hO i hi).1) (fun rk' rv' rc' RX => my_feedBack hP.1 hP.2 hh (fun sz' yk' yv' RY =>
    ⟨rfl, ⟨P, B, M, fun i => mr_k h P i 16, h, xF, xG, xL, xH, pc, rn, gs, gr, rk', rv', rc', mf, rf, pk, pv, rs, re, cu, ok, ov, oc, sz', yk', yv', yf, ha, yr, rfl, rfl, hP, hB, hM, mr_fed hO RX RY, hf1, hf2, hf3, hh, hO⟩⟩))
theorem i_vc_run {k : Nat} {u : SX} {v : SY} (I : i_Rel k u v) (hk : k + 4 ≤ 2050) (v1 : Int32) : wpX_run (fun r u' => wpY_run (fun r' v' => r' = r ∧ i_Rel (k + 4) u' v') v v1) u v1 := by
  have I0 := I
  obtain ⟨P, B, M, c, h, xF, xG, xL, xH, pc, rn, gs, gr, rk, rv, rc, mf, rf, pk, pv, rs, re, cu, ok, ov, oc, sz, yk, yv, yf, ha, yr, rfl, rfl, hP, hB, hM, hR, hf1, hf2, hf3, hh, hO⟩ := I
  by_cases h1 : v1 < 0
  · exact br_t h1 (br_t h1 ⟨rfl, I0⟩)
  by_cases h4 : v1 ≤ 4
  · obtain ⟨j, hj, rfl⟩ := nI_of h1
    have j4 : j ≤ 4 := (nI_leI (b := 4) hj (by omega)).mp h4
    have hF := mr_fail hP.2 hf1 hf2 hf3
    have hcX : ∀ s, s < 4 → c s ≤ 16 ∧ rc s = nI (c s) := fun s hs => ⟨(hR s hs).1, (hR s hs).2.1⟩
    have hcY : ∀ s, s < 4 → c s ≤ 16 ∧ sz s = nI (c s) := fun s hs => ⟨(hR s hs).1, (hR s hs).2.2.1⟩
    refine mx_run j4 hP.1 hP.2 (by omega) hB.2 hM.1 hM.2 hcX (fun hno mf' rf' pk' pv' rs' re' r' oc' g1 g2 g3 => ?_) (fun hyes mf' rf' pk' pv' rs' re' r' cu' gs' gr' ok' ov' oc' g1 g2 RX => ?_)
    · refine my_run (c := c) (g := fun _ => false) j4 hM.1 hM.2 hcY hF (fun y => absurd y hno) (fun _ _ => rfl) (fun yf' ha' yr' y1 y2 y3 => ⟨fun y => absurd y hno, fun _ => ⟨rfl, ?_⟩⟩)
      exact ⟨P, B, M, c, fun _ => false, xF, xG, xL, xH, _, _, gs, gr, rk, rv, rc, mf', rf', pk', pv', rs', re', cu, ok, ov, oc', sz, yk, yv, yf', ha', yr', rfl, by rw [mr_Rec_ct hR], hP, hB, hM, hR, fun s hs => (g1 s hs).trans (y1 s (by omega)).symm, fun p hp => (g2 p hp).trans (y1 (4 + p) (by omega)).symm, fun p _ hp => y1 (4 + p) (by omega), y2, mr_Res_gu g3⟩
    · have eL : (fun q => mr_all c rk rv (nI M) xF xG xL xH (nI q) 64) = (fun q => mr_all c yk yv (nI M) xF xG xL xH (nI q) 64) := funext (fun q => mr_Rec_all hR (nI M) xF xG xL xH (nI q))
      have eV : (fun q => mr_fd (nI j) (mr_all c rk rv (nI M) xF xG xL xH (nI q) 64)) = (fun q => mr_fd (nI j) (mr_all c yk yv (nI M) xF xG xL xH (nI q) 64)) := funext (fun q => congrArg (mr_fd (nI j)) (mr_Rec_all hR (nI M) xF xG xL xH (nI q)))
      rw [eL, eV] at RX
      rw [eL]
      have hz : ∀ q, M ≤ q → q < 16 → mr_h (fun q => mr_all c yk yv (nI M) xF xG xL xH (nI q) 64) q = false := fun q q1 q2 =>
        (mr_h_f (L := fun q => mr_all c yk yv (nI M) xF xG xL xH (nI q) 64) (q := q)).mpr (mr_all_hi hM.1 hM.2 q1 (by omega) 64)
      refine my_run (c := c) (g := mr_h (fun q => mr_all c yk yv (nI M) xF xG xL xH (nI q) 64)) j4 hM.1 hM.2 hcY hF (fun _ _ => rfl) (fun y => absurd hyes y) (fun yf' ha' yr' y1 y2 y3 => ⟨fun _ => ⟨?_, ?_⟩, fun y => absurd hyes y⟩)
      · rw [mr_S_all hP.1, mr_ct_M hM.2 hz]
      · exact ⟨P, B, M, c, mr_h (fun q => mr_all c yk yv (nI M) xF xG xL xH (nI q) 64), xF, xG, xL, xH, _, _, _, _, rk, rv, rc, mf', rf', pk', pv', rs', re', cu', ok', ov', oc', sz, yk, yv, yf', ha', yr', rfl, by rw [mr_Rec_ct hR], hP, hB, hM, hR, fun s hs => (g1 s hs).trans (y1 s (by omega)).symm, fun p hp => (g2 p hp).trans (y1 (4 + p) (by omega)).symm, fun p _ hp => y1 (4 + p) (by omega), y2, mr_Res_fin hP.1 hM.2 hz (fun q q1 q2 => (y3 q q1 q2).symm) RX⟩
  · exact br_f h1 (br_f h4 (br_f h1 (br_f h4 ⟨rfl, I0⟩)))
end
