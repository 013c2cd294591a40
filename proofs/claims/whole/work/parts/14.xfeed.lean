/-! walks of the component, 5: the output made the input -/
section
variable {xP xB xM xF xG xL xH pc rn gs gr : Int32} {rk rv rc mf rf pk pv rs re cu ok ov oc : Nat → Int32}
theorem mx_fb18 {post : Int32 → SX → Prop} {J8 : Int32 → Int32 → Int32 → Int32 → Int32 → Int32 → Int32 → Int32 → Int32 → Int32 → Int32 → Int32 → Int32 → (Nat → Int32) → (Nat → Int32) → (Nat → Int32) → (Nat → Int32) → (Nat → Int32) → (Nat → Int32) → (Nat → Int32) → (Nat → Int32) → (Nat → Int32) → (Nat → Int32) → (Nat → Int32) → (Nat → Int32) → (Nat → Int32) → Prop}
    {x1 y1 : Int32} {part K : Nat} {lim : Nat → Nat} (hpart : part < 4) (hK : oc part = nI K) (hK16 : K ≤ 16) (hl : ∀ i, lim i ≤ 16) (hx : x1 + nI K = y1)
    (H : ∀ rk' rv' rc', mr_Cp ok ov (mr_up lim part K) rc' rk' rv' → J8 y1 (nI (part + 1)) xP xB xM xF xG xL xH pc rn gs gr rk' rv' rc' mf rf pk pv rs re cu ok ov oc) :
    ∀ n i rk rv rc, i ≤ K → K - i < n → mr_Cp ok ov (mr_up lim part i) rc rk rv → wX_feedBack_18 post J8 x1 (nI part) n (nI i) xP xB xM xF xG xL xH pc rn gs gr rk rv rc mf rf pk pv rs re cu ok ov oc := by
  have ep : (nI part).toNatClampNeg = part := nI_clamp (by omega)
  have ip : vp_in (nI part) 4 := vp_in_nI hpart (by decide)
  have eK : oc (nI part).toNatClampNeg = nI K := by rw [ep]; exact hK
  intro n
  induction n with
  | zero => intro i rk rv rc _ h; omega
  | succ n ih =>
    intro i rk rv rc hi hn R
    have hc : rc part = nI i := by
      have := (R part hpart).1
      rw [mr_up_s] at this
      exact this
    refine ⟨ip, ?_⟩
    by_cases c : i < K
    · have e : (nI (16 * part + i)).toNatClampNeg = 16 * part + i := nI_clamp (by omega)
      have i64 : vp_in (nI (16 * part + i)) 64 := vp_in_nI (by omega) (by decide)
      refine br_f (by rw [eK]; exact nI_ge c (by omega)) (nm_r (mr_16 part i) ⟨i64, i64, ?_⟩)
      refine mx_append hpart (by omega) hc (nm_r (nI_1 i) (ih (i + 1) _ _ _ c (by omega) ?_))
      rw [e]
      exact mr_Cp_s R (by omega) hl
    · have d : i = K := by omega
      subst d
      refine br_t (by rw [eK]; exact nI_le (Nat.le_refl _) (by omega)) ⟨ip, nm_r (e' := y1) (by rw [ep, hc]; exact hx) (nm_r (nI_1 part) (H _ _ _ R))⟩
theorem mx_fb8 {post : Int32 → SX → Prop} {h : Nat → Bool} {P : Nat} (hP : P ≤ 4) (hoc : ∀ i, i < 4 → oc i = nI (mr_k h P i 16))
    (H : ∀ rk' rv' rc', mr_Cp ok ov (mr_lim (fun i => mr_k h P i 16) P) rc' rk' rv' → post (nI (mr_S h P 16 P)) ((nI P), xB, xM, xF, xG, xL, xH, pc, rn, gs, gr, rk', rv', rc', mf, rf, pk, pv, rs, re, cu, ok, ov, oc)) :
    ∀ n part rk rv rc, part ≤ P → P - part < n → mr_Cp ok ov (mr_lim (fun i => mr_k h P i 16) part) rc rk rv → wX_feedBack_8 post n (nI (mr_S h P 16 part)) (nI part) (nI P) xB xM xF xG xL xH pc rn gs gr rk rv rc mf rf pk pv rs re cu ok ov oc := by
  intro n
  induction n with
  | zero => intro part rk rv rc _ h; omega
  | succ n ih =>
    intro part rk rv rc hp hn R
    by_cases c : part < P
    · have hk : mr_k h P part 16 ≤ 16 := mr_k_le h P part 16
      refine br_f (nI_ge c (by omega)) ⟨17, mx_fb18 (y1 := nI (mr_S h P 16 (part + 1))) (K := mr_k h P part 16) (lim := mr_lim (fun i => mr_k h P i 16) part) (by omega) (hoc part (by omega)) hk (mr_lim_le (fun i => mr_k_le h P i 16)) (by rw [nI_add]; rfl)
        (fun rk' rv' rc' R' => ih (part + 1) rk' rv' rc' c (by omega) ?_) 17 0 rk rv rc (Nat.zero_le _) (by omega) (by rw [mr_up_id mr_lim_p]; exact R)⟩
      rw [← mr_lim_up]
      exact R'
    · have d : part = P := by omega
      subst d
      exact br_t (nI_le (Nat.le_refl _) (by omega)) (H _ _ _ R)
theorem mx_feedBack {post : Int32 → SX → Prop} {h : Nat → Bool} {P : Nat} (hP0 : 0 < P) (hP : P ≤ 4) (hoc : ∀ i, i < 4 → oc i = nI (mr_k h P i 16))
    (H : ∀ rk' rv' rc', mr_Cp ok ov (fun i => mr_k h P i 16) rc' rk' rv' → post (nI (mr_ct h 16)) ((nI P), xB, xM, xF, xG, xL, xH, pc, rn, gs, gr, rk', rv', rc', mf, rf, pk, pv, rs, re, cu, ok, ov, oc)) : wpX_feedBack post ((nI P), xB, xM, xF, xG, xL, xH, pc, rn, gs, gr, rk, rv, rc, mf, rf, pk, pv, rs, re, cu, ok, ov, oc) := by
  unfold wpX_feedBack
  refine mx_clearInput (fun rc' h0 => ⟨P + 1, ?_⟩)
  refine mx_fb8 hP hoc (fun rk' rv' rc' R => ?_) (P + 1) 0 rk rv rc' (Nat.zero_le _) (by omega) (by rw [mr_lim_0]; exact mr_Cp_0 h0)
  rw [mr_S_all hP0]
  exact H _ _ _ (mr_Cp_fin hP0 R)
end
