/-! walks of the component, 4: the parts, a job, the output made the input -/
section
variable {xP xB xM xF xG xL xH pc rn gs gr : Int32} {rk rv rc mf rf pk pv rs re cu ok ov oc : Nat → Int32}
theorem mx_rp6 {post : SX → Prop} {j nn p part P M : Nat} {S : Nat → Nat} {L : Nat → List Int32} {lim : Nat → Nat} (hj : j ≤ 4) (hP0 : 0 < P) (hP : P ≤ 4) (hM : M ≤ 16) (hpart : part < 4) (hl : ∀ i, lim i ≤ 16)
    (R : mr_Runs pk rs re nn p S) (hp : p ≤ 64) (hL : ∀ q, mr_sv pk pv (nI q) 0 p = L q)
    (H : ∀ cu' gs' gr' ok' ov' oc', mr_Res (mr_h L) P (fun q => mr_fd (nI j) (L q)) (mr_up lim part M) oc' ok' ov' → post ((nI P), xB, (nI M), xF, xG, xL, xH, pc, (nI nn), gs', gr', rk, rv, rc, mf, rf, pk, pv, rs, re, cu', ok', ov', oc')) :
    ∀ n q cu gs gr ok ov oc, q ≤ M → M - q < n → mr_Res (mr_h L) P (fun q => mr_fd (nI j) (L q)) (mr_up lim part q) oc ok ov → (∀ i, i < nn → mr_C1 pk cu S i q) →
      wX_reducePart_6 post (nI part) (nI j) n (nI q) (nI P) xB (nI M) xF xG xL xH pc (nI nn) gs gr rk rv rc mf rf pk pv rs re cu ok ov oc := by
  intro n
  induction n with
  | zero => intro q cu gs gr ok ov oc _ h; omega
  | succ n ih =>
    intro q cu gs gr ok ov oc hq hn RR C
    by_cases c : q < M
    · have er : nI q - nI q / nI P * nI P = nI (q % P) := pk_rem (by omega) hP0 (by omega)
      have hqP : q % P < 4 := by
        have := Nat.mod_lt q hP0
        omega
      refine br_f (nI_ge c (by omega)) ⟨nI_ne0 hP0 (by omega), ?_⟩
      by_cases d : q % P = part
      · refine br_t (by rw [er, d]) ?_
        have hk := mr_k_le (mr_h L) P part q
        have hoc : oc part = nI (mr_k (mr_h L) P part q) := by
          have := (RR part hpart).1
          rw [mr_up_s] at this
          exact this
        refine mx_reduceKey hj (by omega) R hp hpart (show mr_k (mr_h L) P part q < 16 by omega) hoc C (fun z cu' gs' gr' C' => ?_) (fun z cu' gs' gr' C' => ?_)
        · exact nm_r (nI_1 q) (ih (q + 1) cu' gs' gr' ok ov oc c (by omega) (mr_Res_skip RR (fun y => mr_h_t.mp y.1 ((hL q).symm.trans z))) C')
        · refine nm_r (nI_1 q) (ih (q + 1) cu' gs' gr' _ _ _ c (by omega) ?_ C')
          have := mr_Res_put RR (mr_h_t.mpr (fun y => z ((hL q).trans y))) d (by omega) hl
          rw [hL q]
          exact this
      · exact br_f (by rw [er, nI_eq (by omega) (by omega)]; exact d) (nm_r (nI_1 q) (ih (q + 1) cu gs gr ok ov oc c (by omega) (mr_Res_skip RR (fun y => d y.2)) (fun i hi => mr_C1_up (C i hi) (by omega))))
    · have d : q = M := by omega
      subst d
      exact br_t (nI_le (Nat.le_refl _) (by omega)) (H _ _ _ _ _ _ RR)
theorem mx_reducePart {post : SX → Prop} {j nn p part P M : Nat} {S : Nat → Nat} {L : Nat → List Int32} {lim : Nat → Nat} (hj : j ≤ 4) (hP0 : 0 < P) (hP : P ≤ 4) (hM : M ≤ 16) (hpart : part < 4) (hl : ∀ i, lim i ≤ 16)
    (R : mr_Runs pk rs re nn p S) (hp : p ≤ 64) (hL : ∀ q, mr_sv pk pv (nI q) 0 p = L q) (RR : mr_Res (mr_h L) P (fun q => mr_fd (nI j) (L q)) lim oc ok ov) (hlim : lim part = 0)
    (H : ∀ cu' gs' gr' ok' ov' oc', mr_Res (mr_h L) P (fun q => mr_fd (nI j) (L q)) (mr_up lim part M) oc' ok' ov' → post ((nI P), xB, (nI M), xF, xG, xL, xH, pc, (nI nn), gs', gr', rk, rv, rc, mf, rf, pk, pv, rs, re, cu', ok', ov', oc')) :
    wpX_reducePart post ((nI P), xB, (nI M), xF, xG, xL, xH, pc, (nI nn), gs, gr, rk, rv, rc, mf, rf, pk, pv, rs, re, cu, ok, ov, oc) (nI part) (nI j) := by
  have hnn : nn ≤ p := by
    have := mr_Runs_ge R nn (Nat.le_refl _)
    rw [R.2.1] at this
    exact this
  unfold wpX_reducePart
  refine mx_rewind (by omega) (fun cu' hcu => ⟨M + 1, ?_⟩)
  exact mx_rp6 hj hP0 hP hM hpart hl R hp hL H (M + 1) 0 cu' gs gr ok ov oc (Nat.zero_le _) (by omega) (by rw [mr_up_id hlim]; exact RR) (mr_C_rew R hcu 0)
theorem mx_rps4 {post : Int32 → SX → Prop} {j nn p P M : Nat} {S : Nat → Nat} {L : Nat → List Int32} (hj : j ≤ 4) (hP0 : 0 < P) (hP : P ≤ 4) (hM : M ≤ 16)
    (R : mr_Runs pk rs re nn p S) (hp : p ≤ 64) (hL : ∀ q, mr_sv pk pv (nI q) 0 p = L q)
    (H : ∀ cu' gs' gr' ok' ov' oc', mr_Res (mr_h L) P (fun q => mr_fd (nI j) (L q)) (mr_lim (fun _ => M) P) oc' ok' ov' → post (nI (mr_S (mr_h L) P M P)) ((nI P), xB, (nI M), xF, xG, xL, xH, pc, (nI nn), gs', gr', rk, rv, rc, mf, rf, pk, pv, rs, re, cu', ok', ov', oc')) :
    ∀ n part cu gs gr ok ov oc, part ≤ P → P - part < n → mr_Res (mr_h L) P (fun q => mr_fd (nI j) (L q)) (mr_lim (fun _ => M) part) oc ok ov →
      wX_reducePairs_4 post (nI j) n (nI (mr_S (mr_h L) P M part)) (nI part) (nI P) xB (nI M) xF xG xL xH pc (nI nn) gs gr rk rv rc mf rf pk pv rs re cu ok ov oc := by
  intro n
  induction n with
  | zero => intro part cu gs gr ok ov oc _ h; omega
  | succ n ih =>
    intro part cu gs gr ok ov oc hq hn RR
    by_cases c : part < P
    · refine br_f (nI_ge c (by omega)) (mx_reducePart hj hP0 hP hM (by omega) (mr_lim_le (fun _ => hM)) R hp hL RR mr_lim_p (fun cu' gs' gr' ok' ov' oc' R' => ⟨vp_in_nI (by omega) (by decide), ?_⟩))
      have e : oc' part = nI (mr_k (mr_h L) P part M) := by
        have := (R' part (by omega)).1
        rw [mr_up_s] at this
        exact this
      have R2 := R'
      rw [show M = (fun _ : Nat => M) part from rfl, mr_lim_up] at R2
      exact nm_r (e' := nI (mr_S (mr_h L) P M (part + 1))) (by rw [nI_clamp (by omega), e, nI_add]; rfl) (nm_r (nI_1 part) (ih (part + 1) cu' gs' gr' ok' ov' oc' c (by omega) R2))
    · have d : part = P := by omega
      subst d
      exact br_t (nI_le (Nat.le_refl _) (by omega)) (H _ _ _ _ _ _ RR)
theorem mx_reducePairs {post : Int32 → SX → Prop} {j nn p P M : Nat} {S : Nat → Nat} {L : Nat → List Int32} (hj : j ≤ 4) (hP0 : 0 < P) (hP : P ≤ 4) (hM : M ≤ 16)
    (R : mr_Runs pk rs re nn p S) (hp : p ≤ 64) (hL : ∀ q, mr_sv pk pv (nI q) 0 p = L q) (h0 : ∀ i, i < 4 → oc i = 0)
    (H : ∀ cu' gs' gr' ok' ov' oc', mr_Res (mr_h L) P (fun q => mr_fd (nI j) (L q)) (mr_lim (fun _ => M) P) oc' ok' ov' → post (nI (mr_S (mr_h L) P M P)) ((nI P), xB, (nI M), xF, xG, xL, xH, pc, (nI nn), gs', gr', rk, rv, rc, mf, rf, pk, pv, rs, re, cu', ok', ov', oc')) :
    wpX_reducePairs post ((nI P), xB, (nI M), xF, xG, xL, xH, pc, (nI nn), gs, gr, rk, rv, rc, mf, rf, pk, pv, rs, re, cu, ok, ov, oc) (nI j) :=
  ⟨P + 1, mx_rps4 hj hP0 hP hM R hp hL H (P + 1) 0 cu gs gr ok ov oc (Nat.zero_le _) (by omega) (by rw [mr_lim_0]; exact mr_Res_0 h0)⟩
theorem mx_run {post : Int32 → SX → Prop} {c : Nat → Nat} {P B M j : Nat} (hj : j ≤ 4) (hP0 : 0 < P) (hP : P ≤ 4) (hB : 0 < B) (hB2 : B ≤ 8) (hM0 : 0 < M) (hM : M ≤ 16) (hc : ∀ s, s < 4 → c s ≤ 16 ∧ rc s = nI (c s))
    (Hg : ¬ mr_sm (mr_sm 0 mf 4) rf P ≤ 6 → ∀ mf' rf' pk' pv' rs' re' r' oc', (∀ i, i < 4 → mf' i = 0) → (∀ i, i < P → rf' i = 0) → (∀ i, i < 4 → oc' i = 0) →
      post (-3) ((nI P), (nI B), (nI M), xF, xG, xL, xH, (nI (mr_ct (mr_b c rv xL xH) 64)), (nI r'), gs, gr, rk, rv, rc, mf', rf', pk', pv', rs', re', cu, ok, ov, oc'))
    (Hr : mr_sm (mr_sm 0 mf 4) rf P ≤ 6 → ∀ mf' rf' pk' pv' rs' re' r' cu' gs' gr' ok' ov' oc', (∀ i, i < 4 → mf' i = 0) → (∀ i, i < P → rf' i = 0) →
      mr_Res (mr_h (fun q => mr_all c rk rv (nI M) xF xG xL xH (nI q) 64)) P (fun q => mr_fd (nI j) (mr_all c rk rv (nI M) xF xG xL xH (nI q) 64)) (mr_lim (fun _ => M) P) oc' ok' ov' →
      post (nI (mr_S (mr_h (fun q => mr_all c rk rv (nI M) xF xG xL xH (nI q) 64)) P M P))
        ((nI P), (nI B), (nI M), xF, xG, xL, xH, (nI (mr_ct (mr_b c rv xL xH) 64)), (nI r'), gs', gr', rk, rv, rc, mf', rf', pk', pv', rs', re', cu', ok', ov', oc')) :
    wpX_run post ((nI P), (nI B), (nI M), xF, xG, xL, xH, pc, rn, gs, gr, rk, rv, rc, mf, rf, pk, pv, rs, re, cu, ok, ov, oc) (nI j) := by
  refine br_f (nI_pos (by omega)) (br_t (nI_le (b := 4) hj (by decide)) (mx_useUp hP (fun mf' rf' hm hr => ?_)))
  refine mx_mapInput hM0 (by omega) hB (by omega) hc (fun pk' pv' rs' re' r' p' R => mx_clearOutput (fun oc' ho => ?_))
  have hle := (mr_Map_le R).1
  obtain ⟨e, hv, ⟨S, hS⟩, _⟩ := R
  subst e
  exact br_c (fun h => mx_reducePairs hj hP0 hP hM hS hle (fun q => hv (nI q)) ho (fun cu' gs' gr' ok' ov' oc' RR => Hr h mf' rf' pk' pv' rs' re' r' cu' gs' gr' ok' ov' oc' hm hr RR))
    (fun h => Hg h mf' rf' pk' pv' rs' re' r' oc' hm hr ho)
end
