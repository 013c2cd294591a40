/-! walks of the component, 1: the small methods -/
section
variable {xP xB xM xF xG xL xH pc rn gs gr : Int32} {rk rv rc mf rf pk pv rs re cu ok ov oc : Nat → Int32}
theorem mr_16 (s i : Nat) : nI s * 16 + nI i = nI (16 * s + i) := by
  show nI s * nI 16 + nI i = _
  rw [pk_mul, nI_add, Nat.mul_comm]
theorem mx_clamp {post : Int32 → Prop} {p0 : Int32} (a b : Nat) (hab : a ≤ b) (hb : b < 2 ^ 31) (H : ∀ j, a ≤ j → j ≤ b → post (nI j)) : wpX_clamp post p0 (nI a) (nI b) := by
  by_cases h1 : nI a ≤ p0
  · by_cases h2 : p0 ≤ nI b
    · have h0 : ¬ p0 < 0 := Int32.not_lt.mpr (Int32.le_trans (nI_pos' (n := a) (by omega)) h1)
      obtain ⟨j, hj, rfl⟩ := nI_of h0
      rw [nI_leI (by omega) hj] at h1
      rw [nI_leI hj hb] at h2
      exact br_t (nI_le h1 hj) (br_t (nI_le h2 hb) (H j h1 h2))
    · exact br_t h1 (br_f h2 (H b hab (Nat.le_refl _)))
  · exact br_f h1 (H a (Nat.le_refl _) hab)
theorem mx_append {post : SX → Prop} {s n : Nat} {k v : Int32} (hs : s < 4) (hn : n < 16) (hc : rc s = nI n)
    (H : post (xP, xB, xM, xF, xG, xL, xH, pc, rn, gs, gr, (upd rk (16 * s + n) k), (upd rv (16 * s + n) v), (upd rc s (nI (n + 1))), mf, rf, pk, pv, rs, re, cu, ok, ov, oc)) : wpX_appendRecord post (xP, xB, xM, xF, xG, xL, xH, pc, rn, gs, gr, rk, rv, rc, mf, rf, pk, pv, rs, re, cu, ok, ov, oc) (nI s) k v := by
  have e3 : (nI s).toNatClampNeg = s := nI_clamp (by omega)
  have e : nI s * 16 + rc (nI s).toNatClampNeg = nI (16 * s + n) := by rw [e3, hc]; exact mr_16 s n
  have e2 : (nI (16 * s + n)).toNatClampNeg = 16 * s + n := nI_clamp (by omega)
  have i4 : vp_in (nI s) 4 := vp_in_nI hs (by decide)
  have i64 : vp_in (nI (16 * s + n)) 64 := vp_in_nI (by omega) (by decide)
  exact ⟨i4, nm_r e ⟨i64, nm_r (by rw [e2]) ⟨i64, nm_r (by rw [e2]) ⟨i4, i4, nm_r (by rw [e3, hc, nI_1]) H⟩⟩⟩⟩
theorem mx_appendResult {post : SX → Prop} {s n : Nat} {k v : Int32} (hs : s < 4) (hn : n < 16) (hc : oc s = nI n)
    (H : post (xP, xB, xM, xF, xG, xL, xH, pc, rn, gs, gr, rk, rv, rc, mf, rf, pk, pv, rs, re, cu, (upd ok (16 * s + n) k), (upd ov (16 * s + n) v), (upd oc s (nI (n + 1))))) : wpX_appendResult post (xP, xB, xM, xF, xG, xL, xH, pc, rn, gs, gr, rk, rv, rc, mf, rf, pk, pv, rs, re, cu, ok, ov, oc) (nI s) k v := by
  have e3 : (nI s).toNatClampNeg = s := nI_clamp (by omega)
  have e : nI s * 16 + oc (nI s).toNatClampNeg = nI (16 * s + n) := by rw [e3, hc]; exact mr_16 s n
  have e2 : (nI (16 * s + n)).toNatClampNeg = 16 * s + n := nI_clamp (by omega)
  have i4 : vp_in (nI s) 4 := vp_in_nI hs (by decide)
  have i64 : vp_in (nI (16 * s + n)) 64 := vp_in_nI (by omega) (by decide)
  exact ⟨i4, nm_r e ⟨i64, nm_r (by rw [e2]) ⟨i64, nm_r (by rw [e2]) ⟨i4, i4, nm_r (by rw [e3, hc, nI_1]) H⟩⟩⟩⟩
theorem mx_uf2 {post : Int32 → SX → Prop} {P : Nat} (hP : P ≤ 4) {s0 : Int32} {rf0 : Nat → Int32} (H : ∀ rf', (∀ j, j < P → rf' j = 0) → post (mr_sm s0 rf0 P) ((nI P), xB, xM, xF, xG, xL, xH, pc, rn, gs, gr, rk, rv, rc, mf, rf', pk, pv, rs, re, cu, ok, ov, oc)) :
    ∀ n p rf, p ≤ P → P - p < n → (∀ j, p ≤ j → rf j = rf0 j) → (∀ j, j < p → rf j = 0) → wX_useUpFailures_33 post (nI P) xB xM xF xG xL xH pc rn gs gr n (mr_sm s0 rf0 p) (nI p) rk rv rc mf rf pk pv rs re cu ok ov oc := by
  intro n
  induction n with
  | zero => intro p rf _ h; omega
  | succ n ih =>
    intro p rf hp hn h1 h2
    by_cases c : p < P
    · have e : (nI p).toNatClampNeg = p := nI_clamp (by omega)
      have i4 : vp_in (nI p) 4 := vp_in_nI (by omega) (by decide)
      refine br_f (nI_ge c (by omega)) ⟨i4, nm_r (e' := mr_sm s0 rf0 (p + 1)) (by rw [e, h1 p (Nat.le_refl _)]; rfl) ⟨i4, nm_r (e' := upd rf p 0) (by rw [e]) (nm_r (nI_1 p) (ih (p + 1) (upd rf p 0) c (by omega) (fun j hj => ?_) (fun j hj => ?_)))⟩⟩
      · rw [pk_un (by omega)]; exact h1 j (by omega)
      · by_cases d : j = p
        · subst d; exact pk_us
        · rw [pk_un d]; exact h2 j (by omega)
    · have d : p = P := by omega
      subst d
      exact br_t (nI_le (Nat.le_refl _) (by omega)) (H rf h2)
theorem mx_uf1 {post : Int32 → SX → Prop} {mf0 : Nat → Int32} (H : ∀ mf', (∀ j, j < 4 → mf' j = 0) → ∃ n, wX_useUpFailures_33 post xP xB xM xF xG xL xH pc rn gs gr n (mr_sm 0 mf0 4) 0 rk rv rc mf' rf pk pv rs re cu ok ov oc) :
    ∀ n p mf, p ≤ 4 → 4 - p < n → (∀ j, p ≤ j → mf j = mf0 j) → (∀ j, j < p → mf j = 0) → wX_useUpFailures_4 post xP xB xM xF xG xL xH pc rn gs gr n (mr_sm 0 mf0 p) (nI p) rk rv rc mf rf pk pv rs re cu ok ov oc := by
  intro n
  induction n with
  | zero => intro p mf _ h; omega
  | succ n ih =>
    intro p mf hp hn h1 h2
    by_cases c : p < 4
    · have e : (nI p).toNatClampNeg = p := nI_clamp (by omega)
      have i4 : vp_in (nI p) 4 := vp_in_nI (by omega) (by decide)
      refine br_f (nI_ge (b := 4) c (by omega)) ⟨i4, nm_r (e' := mr_sm 0 mf0 (p + 1)) (by rw [e, h1 p (Nat.le_refl _)]; rfl) ⟨i4, nm_r (e' := upd mf p 0) (by rw [e]) (nm_r (nI_1 p) (ih (p + 1) (upd mf p 0) c (by omega) (fun j hj => ?_) (fun j hj => ?_)))⟩⟩
      · rw [pk_un (by omega)]; exact h1 j (by omega)
      · by_cases d : j = p
        · subst d; exact pk_us
        · rw [pk_un d]; exact h2 j (by omega)
    · have d : p = 4 := by omega
      subst d
      exact br_t (nI_le (b := 4) (Nat.le_refl _) (by omega)) (H mf h2)
theorem mx_useUp {post : Int32 → SX → Prop} {P : Nat} (hP : P ≤ 4) (H : ∀ mf' rf', (∀ j, j < 4 → mf' j = 0) → (∀ j, j < P → rf' j = 0) → post (mr_sm (mr_sm 0 mf 4) rf P) ((nI P), xB, xM, xF, xG, xL, xH, pc, rn, gs, gr, rk, rv, rc, mf', rf', pk, pv, rs, re, cu, ok, ov, oc)) :
    wpX_useUpFailures post ((nI P), xB, xM, xF, xG, xL, xH, pc, rn, gs, gr, rk, rv, rc, mf, rf, pk, pv, rs, re, cu, ok, ov, oc) :=
  ⟨5, mx_uf1 (mf0 := mf) (fun mf' h => ⟨5, mx_uf2 hP (rf0 := rf) (fun rf' h' => H mf' rf' h h') 5 0 rf (by omega) (by omega) (fun _ _ => rfl) (fun _ h => absurd h (Nat.not_lt_zero _))⟩) 5 0 mf (by omega) (by omega) (fun _ _ => rfl) (fun _ h => absurd h (Nat.not_lt_zero _))⟩
theorem mx_clearOutput2 {post : SX → Prop} (H : ∀ oc', (∀ j, j < 4 → oc' j = 0) → post (xP, xB, xM, xF, xG, xL, xH, pc, rn, gs, gr, rk, rv, rc, mf, rf, pk, pv, rs, re, cu, ok, ov, oc')) :
    ∀ n p oc, p ≤ 4 → 4 - p < n → (∀ j, j < p → oc j = 0) → wX_clearOutput_2 post xP xB xM xF xG xL xH pc rn gs gr n (nI p) rk rv rc mf rf pk pv rs re cu ok ov oc := by
  intro n
  induction n with
  | zero => intro p oc _ h; omega
  | succ n ih =>
    intro p oc hp hn h2
    by_cases c : p < 4
    · have e : (nI p).toNatClampNeg = p := nI_clamp (by omega)
      refine br_f (nI_ge (b := 4) c (by omega)) ⟨vp_in_nI (by omega) (by decide), nm_r (e' := upd oc p 0) (by rw [e]) (nm_r (nI_1 p) (ih (p + 1) (upd oc p 0) c (by omega) (fun j hj => ?_)))⟩
      by_cases d : j = p
      · subst d; exact pk_us
      · rw [pk_un d]; exact h2 j (by omega)
    · have d : p = 4 := by omega
      subst d
      exact br_t (nI_le (b := 4) (Nat.le_refl _) (by omega)) (H oc h2)
theorem mx_clearOutput {post : SX → Prop} (H : ∀ oc', (∀ j, j < 4 → oc' j = 0) → post (xP, xB, xM, xF, xG, xL, xH, pc, rn, gs, gr, rk, rv, rc, mf, rf, pk, pv, rs, re, cu, ok, ov, oc')) : wpX_clearOutput post (xP, xB, xM, xF, xG, xL, xH, pc, rn, gs, gr, rk, rv, rc, mf, rf, pk, pv, rs, re, cu, ok, ov, oc) :=
  ⟨5, mx_clearOutput2 H 5 0 oc (by omega) (by omega) (fun _ h => absurd h (Nat.not_lt_zero _))⟩
theorem mx_clearInput2 {post : SX → Prop} (H : ∀ rc', (∀ j, j < 4 → rc' j = 0) → post (xP, xB, xM, xF, xG, xL, xH, pc, rn, gs, gr, rk, rv, rc', mf, rf, pk, pv, rs, re, cu, ok, ov, oc)) :
    ∀ n p rc, p ≤ 4 → 4 - p < n → (∀ j, j < p → rc j = 0) → wX_clearInput_2 post xP xB xM xF xG xL xH pc rn gs gr n (nI p) rk rv rc mf rf pk pv rs re cu ok ov oc := by
  intro n
  induction n with
  | zero => intro p rc _ h; omega
  | succ n ih =>
    intro p rc hp hn h2
    by_cases c : p < 4
    · have e : (nI p).toNatClampNeg = p := nI_clamp (by omega)
      refine br_f (nI_ge (b := 4) c (by omega)) ⟨vp_in_nI (by omega) (by decide), nm_r (e' := upd rc p 0) (by rw [e]) (nm_r (nI_1 p) (ih (p + 1) (upd rc p 0) c (by omega) (fun j hj => ?_)))⟩
      by_cases d : j = p
      · subst d; exact pk_us
      · rw [pk_un d]; exact h2 j (by omega)
    · have d : p = 4 := by omega
      subst d
      exact br_t (nI_le (b := 4) (Nat.le_refl _) (by omega)) (H rc h2)
theorem mx_clearInput {post : SX → Prop} (H : ∀ rc', (∀ j, j < 4 → rc' j = 0) → post (xP, xB, xM, xF, xG, xL, xH, pc, rn, gs, gr, rk, rv, rc', mf, rf, pk, pv, rs, re, cu, ok, ov, oc)) : wpX_clearInput post (xP, xB, xM, xF, xG, xL, xH, pc, rn, gs, gr, rk, rv, rc, mf, rf, pk, pv, rs, re, cu, ok, ov, oc) :=
  ⟨5, mx_clearInput2 H 5 0 rc (by omega) (by omega) (fun _ h => absurd h (Nat.not_lt_zero _))⟩
theorem mx_rewind2 {post : SX → Prop} {r : Nat} (hr : r ≤ 64) (H : ∀ cu', (∀ j, j < r → cu' j = rs j) → post (xP, xB, xM, xF, xG, xL, xH, pc, (nI r), gs, gr, rk, rv, rc, mf, rf, pk, pv, rs, re, cu', ok, ov, oc)) :
    ∀ n p cu, p ≤ r → r - p < n → (∀ j, j < p → cu j = rs j) → wX_rewindRuns_2 post xP xB xM xF xG xL xH pc (nI r) gs gr n (nI p) rk rv rc mf rf pk pv rs re cu ok ov oc := by
  intro n
  induction n with
  | zero => intro p cu _ h; omega
  | succ n ih =>
    intro p cu hp hn h2
    by_cases c : p < r
    · have e : (nI p).toNatClampNeg = p := nI_clamp (by omega)
      have i64 : vp_in (nI p) 64 := vp_in_nI (by omega) (by decide)
      refine br_f (nI_ge c (by omega)) ⟨i64, i64, nm_r (e' := upd cu p (rs p)) (by rw [e]) (nm_r (nI_1 p) (ih (p + 1) (upd cu p (rs p)) c (by omega) (fun j hj => ?_)))⟩
      by_cases d : j = p
      · subst d; exact pk_us
      · rw [pk_un d]; exact h2 j (by omega)
    · have d : p = r := by omega
      subst d
      exact br_t (nI_le (Nat.le_refl _) (by omega)) (H cu h2)
theorem mx_rewind {post : SX → Prop} {r : Nat} (hr : r ≤ 64) (H : ∀ cu', (∀ j, j < r → cu' j = rs j) → post (xP, xB, xM, xF, xG, xL, xH, pc, (nI r), gs, gr, rk, rv, rc, mf, rf, pk, pv, rs, re, cu', ok, ov, oc)) : wpX_rewindRuns post (xP, xB, xM, xF, xG, xL, xH, pc, (nI r), gs, gr, rk, rv, rc, mf, rf, pk, pv, rs, re, cu, ok, ov, oc) :=
  ⟨r + 1, mx_rewind2 hr H (r + 1) 0 cu (by omega) (by omega) (fun _ h => absurd h (Nat.not_lt_zero _))⟩
theorem mx_startOf {post : Int32 → Prop} {j : Nat} (hj : j ≤ 4) (H : post (mr_s0 (nI j))) : wpX_startOf post (nI j) := by
  obtain rfl | rfl | rfl | rfl | rfl : j = 0 ∨ j = 1 ∨ j = 2 ∨ j = 3 ∨ j = 4 := by omega
  · exact br_t (by decide) H
  · exact br_f (by decide) (br_f (by decide) (br_t (by decide) H))
  · exact br_f (by decide) (br_f (by decide) (br_f (by decide) (br_t (by decide) H)))
  · exact br_f (by decide) (br_f (by decide) (br_f (by decide) (br_f (by decide) (br_t (by decide) H))))
  · exact br_f (by decide) (br_f (by decide) (br_f (by decide) (br_f (by decide) (br_f (by decide) (br_t (by decide) H)))))
theorem mx_step {post : Int32 → Prop} {j : Nat} {s v : Int32} (hj : j ≤ 4) (H : post (mr_st (nI j) s v)) : wpX_step post (nI j) s v := by
  obtain rfl | rfl | rfl | rfl | rfl : j = 0 ∨ j = 1 ∨ j = 2 ∨ j = 3 ∨ j = 4 := by omega
  · have e : mr_st (nI 0) s v = s + v := mr_st0 s v
    rw [e] at H
    exact br_f (by decide) (br_f (by decide) (br_t (by decide) H))
  · have e : mr_st (nI 1) s v = if s < v then v else s := mr_st1 s v
    rw [e] at H
    refine br_f (by decide) (br_f (by decide) (br_f (by decide) (br_t (by decide) (br_c (fun h => ?_) (fun h => ?_)))))
    · rw [if_neg (Int32.not_lt.mpr h)] at H; exact H
    · rw [if_pos (Int32.not_le.mp h)] at H; exact H
  · have e : mr_st (nI 2) s v = if v < s then v else s := mr_st2 s v
    rw [e] at H
    refine br_f (by decide) (br_f (by decide) (br_f (by decide) (br_f (by decide) (br_t (by decide) (br_c (fun h => ?_) (fun h => ?_))))))
    · rw [if_neg (Int32.not_lt.mpr h)] at H; exact H
    · rw [if_pos (Int32.not_le.mp h)] at H; exact H
  · have e : mr_st (nI 3) s v = s + 1 := mr_st3 s v
    rw [e] at H
    exact br_f (by decide) (br_f (by decide) (br_f (by decide) (br_f (by decide) (br_f (by decide) (br_t (by decide) H)))))
  · have e : mr_st (nI 4) s v = 31 * s + v := mr_st4 s v
    rw [e] at H
    exact br_f (by decide) (br_t (by decide) H)
end
