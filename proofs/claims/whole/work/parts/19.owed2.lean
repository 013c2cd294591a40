/-! what is owed, 2: keyAt, valueAt -/
section
variable {xP xB xM xF xG xL xH pc rn gs gr : Int32} {rk rv rc mf rf pk pv rs re cu ok ov oc : Nat → Int32}
theorem mx_isResult_y {post : Int32 → Prop} {P part i K : Nat} (hP : P ≤ 4) (hp : part < P) (hi : i < K) (hK : K ≤ 16) (hoc : oc part = nI K) (H : post 1) : wpX_isResult post ((nI P), xB, xM, xF, xG, xL, xH, pc, rn, gs, gr, rk, rv, rc, mf, rf, pk, pv, rs, re, cu, ok, ov, oc) (nI part) (nI i) := by
  have e : oc (nI part).toNatClampNeg = nI K := by rw [nI_clamp (by omega)]; exact hoc
  exact br_f (nI_pos (by omega)) (br_f (nI_ge hp (by omega)) (br_f (by decide) (br_f (nI_pos (by omega)) ⟨vp_in_nI (by omega) (by decide), br_f (by rw [e]; exact nI_ge hi (by omega)) H⟩)))
theorem mx_isResult_n {post : Int32 → Prop} {P part K : Nat} {i : Int32} (hP : P ≤ 4) (hp : part < P) (hi : i < 0 ∨ nI K ≤ i) (hoc : oc part = nI K) (H : post 0) : wpX_isResult post ((nI P), xB, xM, xF, xG, xL, xH, pc, rn, gs, gr, rk, rv, rc, mf, rf, pk, pv, rs, re, cu, ok, ov, oc) (nI part) i := by
  have e : oc (nI part).toNatClampNeg = nI K := by rw [nI_clamp (by omega)]; exact hoc
  by_cases z : i < 0
  · exact br_f (nI_pos (by omega)) (br_f (nI_ge hp (by omega)) (br_f (by decide) (br_t z H)))
  · exact br_f (nI_pos (by omega)) (br_f (nI_ge hp (by omega)) (br_f (by decide) (br_f z ⟨vp_in_nI (by omega) (by decide), br_t (by rw [e]; exact hi.resolve_left z) H⟩)))
end
section
variable {yP yM yF yG yL yH mp : Int32} {sz yk yv yf ha yr : Nat → Int32}
/-- the reference finds no key: i is none of the ranks -/
theorem my_keyAt_n {post : Int32 → Prop} {h : Nat → Bool} {P part : Nat} {i : Int32} (hP0 : 0 < P) (hP : P ≤ 4) (hp : part < P) (hh : ∀ q, q < 16 → ha q = mr_bit (h q)) (hi : i < 0 ∨ nI (mr_k h P part 16) ≤ i) (H : post (-1)) : wpY_keyAt post ((nI P), yM, yF, yG, yL, yH, mp, sz, yk, yv, yf, ha, yr) (nI part) i := by
  have hK := mr_k_le h P part 16
  refine br_f (nI_pos (by omega)) (br_t (nI_lt hp (by omega)) ⟨17, ?_⟩)
  refine my_keyAt19 hP0 hP (by omega) hh 17 0 (by omega) (by omega) (fun k _ k2 k3 k4 k5 => ?_) (fun _ => H)
  have hlt := mr_k_lt (P := P) (p := part) k2 k3 k4
  subst k5
  exfalso
  cases hi with
  | inl z => exact nI_pos (by omega) z
  | inr z => exact nI_ge hlt (by omega) z
/-- the reference finds the key of rank i -/
theorem my_keyAt_y {post : Int32 → Prop} {h : Nat → Bool} {P part i : Nat} (hP0 : 0 < P) (hP : P ≤ 4) (hp : part < P) (hh : ∀ q, q < 16 → ha q = mr_bit (h q)) (hi : i < mr_k h P part 16)
    (H : ∀ q, q < 16 → h q = true → q % P = part → mr_k h P part q = i → post (nI q)) : wpY_keyAt post ((nI P), yM, yF, yG, yL, yH, mp, sz, yk, yv, yf, ha, yr) (nI part) (nI i) := by
  have hK := mr_k_le h P part 16
  refine br_f (nI_pos (by omega)) (br_t (nI_lt hp (by omega)) ⟨17, ?_⟩)
  refine my_keyAt19 hP0 hP (by omega) hh 17 0 (by omega) (by omega) (fun k _ k2 k3 k4 k5 => ?_) (fun hz => ?_)
  · have hlt := mr_k_lt (P := P) (p := part) k2 k3 k4
    rw [nI_eq (by omega) (by omega)] at k5
    exact H k k2 k3 k4 k5
  · obtain ⟨q, q1, q2, q3, q4⟩ := mr_k_sur 16 hi
    exact absurd (by rw [q4]) (hz q (Nat.zero_le _) q1 q2 q3)
end
theorem i_vc_keyAt {k : Nat} {u : SX} {v : SY} (I : i_Rel k u v) (hk : k + 4 ≤ 2050) (v1 : Int32) (v2 : Int32) : wpX_keyAt (fun r => wpY_keyAt (fun r' => r' = r ∧ i_Rel (k + 4) u v) v v1 v2) u v1 v2 := by
  have I0 := I
  obtain ⟨P, B, M, c, h, xF, xG, xL, xH, pc, rn, gs, gr, rk, rv, rc, mf, rf, pk, pv, rs, re, cu, ok, ov, oc, sz, yk, yv, yf, ha, yr, rfl, rfl, hP, hB, hM, hR, hf1, hf2, hf3, hh, hO⟩ := I
  rcases pk_ix v1 (n := P) (by omega) with h1 | h1 | ⟨s, hs, rfl⟩
  · exact br_t h1 (br_t rfl (br_t rfl (br_t h1 ⟨rfl, I0⟩)))
  · have n0 : ¬ v1 < 0 := mr_n0 h1 (by omega)
    exact br_f n0 (br_t h1 (br_t rfl (br_t rfl (br_f n0 (br_f (Int32.not_lt.mpr h1) ⟨rfl, I0⟩)))))
  · obtain ⟨o1, o2⟩ := hO s (by omega)
    have hK := mr_k_le h P s 16
    unfold wpX_keyAt
    rcases pk_ix v2 (n := mr_k h P s 16) (by omega) with g1 | g1 | ⟨i, gi, rfl⟩
    · exact mx_isResult_n hP.2 hs (Or.inl g1) o1 (br_t rfl (my_keyAt_n hP.1 hP.2 hs hh (Or.inl g1) ⟨rfl, I0⟩))
    · exact mx_isResult_n hP.2 hs (Or.inr g1) o1 (br_t rfl (my_keyAt_n hP.1 hP.2 hs hh (Or.inr g1) ⟨rfl, I0⟩))
    · refine mx_isResult_y hP.2 hs gi hK o1 (br_f (by decide) ⟨by rw [mr_16]; exact vp_in_nI (by omega) (by decide), my_keyAt_y hP.1 hP.2 hs hh gi (fun q q1 q2 q3 q4 => ⟨?_, I0⟩)⟩)
      have := (o2 q q1 q2 q3).1
      rw [mr_16, nI_clamp (by omega), ← q4]
      exact this.symm
theorem i_vc_valueAt {k : Nat} {u : SX} {v : SY} (I : i_Rel k u v) (hk : k + 4 ≤ 2050) (v1 : Int32) (v2 : Int32) : wpX_valueAt (fun r => wpY_valueAt (fun r' => r' = r ∧ i_Rel (k + 4) u v) v v1 v2) u v1 v2 := by
  have I0 := I
  obtain ⟨P, B, M, c, h, xF, xG, xL, xH, pc, rn, gs, gr, rk, rv, rc, mf, rf, pk, pv, rs, re, cu, ok, ov, oc, sz, yk, yv, yf, ha, yr, rfl, rfl, hP, hB, hM, hR, hf1, hf2, hf3, hh, hO⟩ := I
  rcases pk_ix v1 (n := P) (by omega) with h1 | h1 | ⟨s, hs, rfl⟩
  · exact br_t h1 (br_t rfl (br_t rfl (br_t h1 (br_t rfl ⟨rfl, I0⟩))))
  · have n0 : ¬ v1 < 0 := mr_n0 h1 (by omega)
    exact br_f n0 (br_t h1 (br_t rfl (br_t rfl (br_f n0 (br_f (Int32.not_lt.mpr h1) (br_t rfl ⟨rfl, I0⟩))))))
  · obtain ⟨o1, o2⟩ := hO s (by omega)
    have hK := mr_k_le h P s 16
    unfold wpX_valueAt wpY_valueAt
    rcases pk_ix v2 (n := mr_k h P s 16) (by omega) with g1 | g1 | ⟨i, gi, rfl⟩
    · exact mx_isResult_n hP.2 hs (Or.inl g1) o1 (br_t rfl (my_keyAt_n hP.1 hP.2 hs hh (Or.inl g1) (br_t rfl ⟨rfl, I0⟩)))
    · exact mx_isResult_n hP.2 hs (Or.inr g1) o1 (br_t rfl (my_keyAt_n hP.1 hP.2 hs hh (Or.inr g1) (br_t rfl ⟨rfl, I0⟩)))
    · refine mx_isResult_y hP.2 hs gi hK o1 (br_f (by decide) ⟨by rw [mr_16]; exact vp_in_nI (by omega) (by decide), my_keyAt_y hP.1 hP.2 hs hh gi (fun q q1 q2 q3 q4 => br_f ?_ ⟨vp_in_nI q1 (by decide), ?_, I0⟩)⟩)
      · intro z
        have := nI_pos (n := q) (by omega)
        rw [z] at this
        exact absurd this (by decide)
      · have := (o2 q q1 q2 q3).2
        rw [mr_16, nI_clamp (by omega), nI_clamp (by omega), ← q4]
        exact this.symm
