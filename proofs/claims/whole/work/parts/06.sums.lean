/-! the pure picture, 5: sums of failures; which record is mapped, its key, its value; the relation's parts -/
def mr_sm (s : Int32) (f : Nat → Int32) : Nat → Int32
  | 0 => s
  | n + 1 => mr_sm s f n + f n
theorem mr_sm_s (s : Int32) (f : Nat → Int32) (n : Nat) : mr_sm s f (n + 1) = mr_sm s f n + f n := rfl
theorem mr_sm_cg {s : Int32} {f g : Nat → Int32} : ∀ n, (∀ i, i < n → f i = g i) → mr_sm s f n = mr_sm s g n := by
  intro n
  induction n with
  | zero => intro _; rfl
  | succ n ih =>
    intro h
    rw [mr_sm_s, mr_sm_s, ih (fun i hi => h i (by omega)), h n (by omega)]
theorem mr_sm_add (s : Int32) (f : Nat → Int32) (m : Nat) : ∀ n, mr_sm s f (m + n) = mr_sm (mr_sm s f m) (fun i => f (m + i)) n := by
  intro n
  induction n with
  | zero => rfl
  | succ n ih => rw [← Nat.add_assoc, mr_sm_s, ih, mr_sm_s]
theorem mr_sm_z {s : Int32} {f : Nat → Int32} {m : Nat} : ∀ d, (∀ i, m ≤ i → i < m + d → f i = 0) → mr_sm s f (m + d) = mr_sm s f m := by
  intro d
  induction d with
  | zero => intro _; rfl
  | succ d ih =>
    intro h
    rw [← Nat.add_assoc, mr_sm_s, ih (fun i a b => h i a (by omega)), h (m + d) (by omega) (by omega), Int32.add_zero]
theorem mr_fail {P : Nat} {xf xg yf : Nat → Int32} (hP : P ≤ 4) (h1 : ∀ s, s < 4 → xf s = yf s) (h2 : ∀ p, p < P → xg p = yf (4 + p)) (h3 : ∀ p, P ≤ p → p < 4 → yf (4 + p) = 0) :
    mr_sm 0 yf 8 = mr_sm (mr_sm 0 xf 4) xg P := by
  rw [show (8 : Nat) = 4 + 4 from rfl, mr_sm_add]
  obtain ⟨d, hd⟩ : ∃ d, 4 = P + d := ⟨4 - P, by omega⟩
  have e : mr_sm (mr_sm 0 yf 4) (fun i => yf (4 + i)) (P + d) = mr_sm (mr_sm 0 yf 4) (fun i => yf (4 + i)) P := mr_sm_z d (fun i a b => h3 i a (by omega))
  rw [← hd] at e
  rw [e, mr_sm_cg (s := 0) (f := xf) (g := yf) 4 h1]
  exact (mr_sm_cg P h2).symm
def mr_b (c : Nat → Nat) (V : Nat → Int32) (lo hi : Int32) : Nat → Bool := fun r => decide (r % 16 < c (r / 16)) && (decide (lo ≤ V r) && decide (V r ≤ hi))
def mr_w (fa og : Int32) (V : Nat → Int32) : Nat → Int32 := fun r => fa * V r + og
def mr_kf (m : Int32) (K : Nat → Int32) : Nat → Int32 := fun r => mr_ky m (K r)
/-- the values of key q over the whole input -/
def mr_all (c : Nat → Nat) (K V : Nat → Int32) (m fa og lo hi q : Int32) (n : Nat) : List Int32 := mr_vs (mr_b c V lo hi) (mr_kf m K) (mr_w fa og V) q n
/-- the records of both sides are the same -/
def mr_Rec (c : Nat → Nat) (xc xk xv yc yk yv : Nat → Int32) : Prop :=
  ∀ s, s < 4 → c s ≤ 16 ∧ xc s = nI (c s) ∧ yc s = nI (c s) ∧ ∀ i, i < c s → xk (16 * s + i) = yk (16 * s + i) ∧ xv (16 * s + i) = yv (16 * s + i)
theorem mr_Rec_at {c : Nat → Nat} {xc xk xv yc yk yv : Nat → Int32} (R : mr_Rec c xc xk xv yc yk yv) {r : Nat} (hr : r < 64) (h : r % 16 < c (r / 16)) : xk r = yk r ∧ xv r = yv r := by
  have e : 16 * (r / 16) + r % 16 = r := Nat.div_add_mod r 16
  have := (R (r / 16) (by omega)).2.2.2 (r % 16) h
  rw [e] at this
  exact this
theorem mr_Rec_b {c : Nat → Nat} {xc xk xv yc yk yv : Nat → Int32} (R : mr_Rec c xc xk xv yc yk yv) {lo hi : Int32} {r : Nat} (hr : r < 64) : mr_b c xv lo hi r = mr_b c yv lo hi r := by
  unfold mr_b
  by_cases h : r % 16 < c (r / 16)
  · rw [(mr_Rec_at R hr h).2]
  · rw [decide_eq_false h, Bool.false_and, Bool.false_and]
theorem mr_b_in {c : Nat → Nat} {V : Nat → Int32} {lo hi : Int32} {r : Nat} (h : mr_b c V lo hi r = true) : r % 16 < c (r / 16) := by
  unfold mr_b at h
  rw [Bool.and_eq_true] at h
  exact of_decide_eq_true h.1
theorem mr_Rec_all {c : Nat → Nat} {xc xk xv yc yk yv : Nat → Int32} (R : mr_Rec c xc xk xv yc yk yv) (m fa og lo hi q : Int32) : mr_all c xk xv m fa og lo hi q 64 = mr_all c yk yv m fa og lo hi q 64 := by
  refine mr_vs_cg 64 (fun r hr => ⟨mr_Rec_b R hr, fun hb => ?_⟩)
  obtain ⟨e1, e2⟩ := mr_Rec_at R hr (mr_b_in hb)
  exact ⟨congrArg (mr_ky m) e1, congrArg (fun z => fa * z + og) e2⟩
theorem mr_Rec_ct {c : Nat → Nat} {xc xk xv yc yk yv : Nat → Int32} (R : mr_Rec c xc xk xv yc yk yv) (lo hi : Int32) : mr_ct (mr_b c xv lo hi) 64 = mr_ct (mr_b c yv lo hi) 64 :=
  mr_ct_cg 64 (fun _ hr => mr_Rec_b R hr)
/-- no pair has a key at or beyond the modulus -/
theorem mr_all_hi {c : Nat → Nat} {K V : Nat → Int32} {M : Nat} {fa og lo hi : Int32} (h0 : 0 < M) (h1 : M ≤ 16) {q : Nat} (hq : M ≤ q) (hq2 : q < 2 ^ 31) (n : Nat) : mr_all c K V (nI M) fa og lo hi (nI q) n = [] := by
  refine mr_vs_none n (fun i _ _ e => ?_)
  obtain ⟨j, hj, ej⟩ := mr_ky_of h0 (show M < 2 ^ 30 by omega) (K i)
  have : nI j = nI q := ej.symm.trans e
  rw [nI_eq (by omega) hq2] at this
  omega
/-- a record within a split: its place, whether it is mapped -/
theorem mr_b_at {c : Nat → Nat} {V : Nat → Int32} {lo hi : Int32} {s i : Nat} (hi1 : i < 16) : mr_b c V lo hi (16 * s + i) = (decide (i < c s) && (decide (lo ≤ V (16 * s + i)) && decide (V (16 * s + i) ≤ hi))) := by
  unfold mr_b
  rw [show (16 * s + i) % 16 = i by omega, show (16 * s + i) / 16 = s by omega]
theorem mr_b_out {c : Nat → Nat} {V : Nat → Int32} {lo hi : Int32} {s i : Nat} (hi1 : i < 16) (h : c s ≤ i) : mr_b c V lo hi (16 * s + i) = false := by
  rw [mr_b_at hi1, decide_eq_false (show ¬ i < c s by omega), Bool.false_and]
theorem mr_end {c : Nat → Nat} {K V : Nat → Int32} {m fa og lo hi q : Int32} {s : Nat} (hc : c s ≤ 16) :
    mr_all c K V m fa og lo hi q (16 * (s + 1)) = mr_all c K V m fa og lo hi q (16 * s + c s) ∧ mr_ct (mr_b c V lo hi) (16 * (s + 1)) = mr_ct (mr_b c V lo hi) (16 * s + c s) := by
  have e : 16 * (s + 1) = (16 * s + c s) + (16 - c s) := by omega
  have z : ∀ i, 16 * s + c s ≤ i → i < (16 * s + c s) + (16 - c s) → mr_b c V lo hi i = false := fun i h1 h2 => by
    have := mr_b_out (c := c) (V := V) (lo := lo) (hi := hi) (s := s) (i := i - 16 * s) (by omega) (by omega)
    rw [show 16 * s + (i - 16 * s) = i by omega] at this
    exact this
  rw [e]
  exact ⟨mr_vs_skip _ z, mr_ct_skip _ z⟩
