/-! the pure picture, 7: the output after a job, and the output made the input -/
theorem mr_Res_fin {h : Nat → Bool} {P M : Nat} {val yr : Nat → Int32} {rc rk rv : Nat → Int32} (hP : 0 < P) (hM : M ≤ 16) (hh : ∀ q, M ≤ q → q < 16 → h q = false)
    (hv : ∀ q, q < 16 → h q = true → val q = yr q) (R : mr_Res h P val (fun j => if j < P then M else 0) rc rk rv) : mr_Res h P yr (fun _ => 16) rc rk rv := by
  intro p hp
  obtain ⟨a, b⟩ := R p hp
  dsimp only at a b ⊢
  by_cases c : p < P
  · rw [if_pos c] at a b
    have e : mr_k h P p 16 = mr_k h P p M := by
      have := mr_k_skip (h := h) (P := P) (p := p) (m := M) (16 - M) (fun q g1 g2 => hh q g1 (by omega))
      rw [show M + (16 - M) = 16 by omega] at this
      exact this
    refine ⟨by rw [e]; exact a, fun q hq g1 g2 => ?_⟩
    have hqM : q < M := by
      by_cases z : q < M
      · exact z
      · have := hh q (by omega) hq
        rw [this] at g1
        exact absurd g1 (by decide)
    rw [← hv q hq g1]
    exact b q hqM g1 g2
  · rw [if_neg c] at a b
    have n1 : ∀ q, q % P ≠ p := fun q z => by
      have := Nat.mod_lt q hP
      omega
    have e : mr_k h P p 16 = 0 := mr_k_none 16 (fun q _ _ => n1 q)
    refine ⟨by rw [e]; exact a, fun q _ _ g2 => absurd g2 (n1 q)⟩
theorem mr_Res_gu {P : Nat} {yr : Nat → Int32} {rc rk rv : Nat → Int32} (hc : ∀ p, p < 4 → rc p = 0) : mr_Res (fun _ => false) P yr (fun _ => 16) rc rk rv := by
  intro p hp
  have e : mr_k (fun _ => false) P p 16 = 0 := mr_k_none 16 (fun q _ z => absurd z (by decide))
  refine ⟨by dsimp only; rw [e, nI_0]; exact hc p hp, fun q _ z => absurd (show false = true from z) (by decide)⟩
theorem mr_ct_M {h : Nat → Bool} {M : Nat} (hM : M ≤ 16) (hh : ∀ q, M ≤ q → q < 16 → h q = false) : mr_ct h 16 = mr_ct h M := by
  have := mr_ct_skip (b := h) (m := M) (16 - M) (fun q g1 g2 => hh q g1 (by omega))
  rw [show M + (16 - M) = 16 by omega] at this
  exact this
theorem mr_Res_no {h : Nat → Bool} {P n : Nat} {val : Nat → Int32} {rc rk rv : Nat → Int32} (R : mr_Res h P val (fun _ => n) rc rk rv) (hn : ¬ h n = true) : mr_Res h P val (fun _ => n + 1) rc rk rv := by
  intro p hp
  obtain ⟨a, b⟩ := R p hp
  dsimp only at a b ⊢
  refine ⟨by rw [mr_k_n (fun z => hn z.1)]; exact a, fun q hq g1 g2 => b q ?_ g1 g2⟩
  by_cases d : q = n
  · subst d; exact absurd g1 hn
  · omega
theorem mr_Res_yes {h : Nat → Bool} {P n p : Nat} {val : Nat → Int32} {rc rk rv : Nat → Int32} (R : mr_Res h P val (fun _ => n) rc rk rv) (hn : h n = true) (hp : n % P = p) (hn16 : n < 16) :
    mr_Res h P val (fun _ => n + 1) (upd rc p (nI (mr_k h P p n + 1))) (upd rk (16 * p + mr_k h P p n) (nI n)) (upd rv (16 * p + mr_k h P p n) (val n)) := by
  have R0 : mr_Res h P val (mr_up (fun _ => n) p n) rc rk rv := by
    rw [mr_up_id (lim := fun _ => n) rfl]; exact R
  have R1 := mr_Res_put R0 hn hp hn16 (fun _ => by omega)
  intro j hj
  obtain ⟨a, b⟩ := R1 j hj
  by_cases c : j = p
  · subst c
    rw [mr_up_s] at a b
    exact ⟨a, b⟩
  · rw [mr_up_n c] at a b
    dsimp only at a b ⊢
    refine ⟨by rw [mr_k_n (fun z => c (z.2.symm.trans hp))]; exact a, fun q hq g1 g2 => b q ?_ g1 g2⟩
    by_cases d : q = n
    · subst d; exact absurd (g2.symm.trans hp) c
    · omega
/-- the records of part p below lim p are copies of the output's -/
def mr_Cp (ok ov : Nat → Int32) (lim : Nat → Nat) (rc rk rv : Nat → Int32) : Prop :=
  ∀ p, p < 4 → rc p = nI (lim p) ∧ ∀ i, i < lim p → rk (16 * p + i) = ok (16 * p + i) ∧ rv (16 * p + i) = ov (16 * p + i)
theorem mr_Cp_s {ok ov : Nat → Int32} {lim : Nat → Nat} {rc rk rv : Nat → Int32} {p n : Nat} (R : mr_Cp ok ov (mr_up lim p n) rc rk rv) (hn : n < 16) (hl : ∀ j, lim j ≤ 16) :
    mr_Cp ok ov (mr_up lim p (n + 1)) (upd rc p (nI (n + 1))) (upd rk (16 * p + n) (ok (16 * p + n))) (upd rv (16 * p + n) (ov (16 * p + n))) := by
  intro j hj
  obtain ⟨a, b⟩ := R j hj
  by_cases c : j = p
  · subst c
    rw [mr_up_s] at a b
    rw [mr_up_s]
    refine ⟨pk_us, fun i hi => ?_⟩
    by_cases d : i = n
    · subst d; exact ⟨pk_us, pk_us⟩
    · rw [pk_un (by omega), pk_un (by omega)]
      exact b i (by omega)
  · rw [mr_up_n c] at a b
    rw [mr_up_n c]
    refine ⟨by rw [pk_un c]; exact a, fun i hi => ?_⟩
    have := hl j
    rw [pk_un (by omega), pk_un (by omega)]
    exact b i hi
theorem mr_Cp_0 {ok ov rc rk rv : Nat → Int32} (hc : ∀ p, p < 4 → rc p = 0) : mr_Cp ok ov (fun _ => 0) rc rk rv :=
  fun p hp => ⟨(hc p hp).trans nI_0.symm, fun _ hq => absurd hq (Nat.not_lt_zero _)⟩
theorem mr_Cp_fin {h : Nat → Bool} {P : Nat} (hP : 0 < P) {ok ov rc rk rv : Nat → Int32} (R : mr_Cp ok ov (fun j => if j < P then mr_k h P j 16 else 0) rc rk rv) : mr_Cp ok ov (fun j => mr_k h P j 16) rc rk rv := by
  intro p hp
  obtain ⟨a, b⟩ := R p hp
  dsimp only at a b ⊢
  by_cases c : p < P
  · rw [if_pos c] at a b
    exact ⟨a, b⟩
  · have e : mr_k h P p 16 = 0 := mr_k_none 16 (fun q _ _ z => by
      have := Nat.mod_lt q hP
      omega)
    rw [if_neg c] at a b
    rw [e]
    exact ⟨a, b⟩
/-- both sides' new input -/
theorem mr_fed {h : Nat → Bool} {P : Nat} {yr oc ok ov xc xk xv yc yk yv : Nat → Int32} (O : mr_Res h P yr (fun _ => 16) oc ok ov) (X : mr_Cp ok ov (fun j => mr_k h P j 16) xc xk xv)
    (Y : mr_Res h P yr (fun _ => 16) yc yk yv) : mr_Rec (fun j => mr_k h P j 16) xc xk xv yc yk yv := by
  intro p hp
  obtain ⟨o1, o2⟩ := O p hp
  obtain ⟨x1, x2⟩ := X p hp
  obtain ⟨y1, y2⟩ := Y p hp
  dsimp only at *
  refine ⟨mr_k_le h P p 16, x1, y1, fun i hi => ?_⟩
  obtain ⟨q, q1, q2, q3, q4⟩ := mr_k_sur 16 hi
  obtain ⟨a1, a2⟩ := o2 q q1 q2 q3
  obtain ⟨b1, b2⟩ := y2 q q1 q2 q3
  obtain ⟨c1, c2⟩ := x2 i hi
  rw [q4] at a1 a2 b1 b2
  exact ⟨by rw [c1, a1, b1], by rw [c2, a2, b2]⟩
