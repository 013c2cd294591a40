/-! what is owed, 3: run, feedBack -/
theorem i_vc_feedBack {k : Nat} {u : SX} {v : SY} (I : i_Rel k u v) (hk : k + 4 ≤ 2050) : wpX_feedBack (fun r u' => wpY_feedBack (fun r' v' => r' = r ∧ i_Rel (k + 4) u' v') v) u := by
  obtain ⟨P, B, M, c, h, xF, xG, xL, xH, pc, rn, gs, gr, rk, rv, rc, mf, rf, pk, pv, rs, re, cu, ok, ov, oc, sz, yk, yv, yf, ha, yr, rfl, rfl, hP, hB, hM, hR, hf1, hf2, hf3, hh, hO⟩ := I
  exact mx_feedBack (h := h) hP.1 hP.2 (fun i hi => (hO i hi).1) (fun rk' rv' rc' RX => my_feedBack hP.1 hP.2 hh (fun sz' yk' yv' RY =>
    ⟨rfl, ⟨P, B, M, fun i => mr_k h P i 16, h, xF, xG, xL, xH, pc, rn, gs, gr, rk', rv', rc', mf, rf, pk, pv, rs, re, cu, ok, ov, oc, sz', yk', yv', yf, ha, yr, rfl, rfl, hP, hB, hM, mr_fed hO RX RY, hf1, hf2, hf3, hh, hO⟩⟩))
theorem i_vc_run {k : Nat} {u : SX} {v : SY} (I : i_Rel k u v) (hk : k + 4 ≤ 2050) (v1 : Int32) : wpX_run (fun r u' => wpY_run (fun r' v' => r' = r ∧ i_Rel (k + 4) u' v') v v1) u v1 := by
  have I0 := I
  obtain ⟨P, B, M, c, h, xF, xG, xL, xH, pc, rn, gs, gr, rk, rv, rc, mf, rf, pk, pv, rs, re, cu, ok, ov, oc, sz, yk, yv, yf, ha, yr, rfl, rfl, hP, hB, hM, hR, hf1, hf2, hf3, hh, hO⟩ := I
  by_cases h1 : v1 < 0
  · exact br_t h1 (br_t h1 ⟨rfl, I0⟩)
  by_cases h4 : v1 ≤ 4
  · obtain ⟨j, hj, rfl⟩ := nI_of h1
    have j4 : j ≤ 4 := (nI_leI (b := 4) hj (by omega)).mp h4
    have hF := mr_fail hP.2 hf1 hf2 hf3
    have hcX : ∀ s, s < 4 → c s ≤ 16 ∧ rc s = nI (c s) := fun s hs => ⟨(hR s hs).1, (hR s hs).2.1⟩
    have hcY : ∀ s, s < 4 → c s ≤ 16 ∧ sz s = nI (c s) := fun s hs => ⟨(hR s hs).1, (hR s hs).2.2.1⟩
    refine mx_run j4 hP.1 hP.2 (by omega) hB.2 hM.1 hM.2 hcX (fun hno mf' rf' pk' pv' rs' re' r' oc' g1 g2 g3 => ?_) (fun hyes mf' rf' pk' pv' rs' re' r' cu' gs' gr' ok' ov' oc' g1 g2 RX => ?_)
    · refine my_run (c := c) (g := fun _ => false) j4 hM.1 hM.2 hcY hF (fun y => absurd y hno) (fun _ _ => rfl) (fun yf' ha' yr' y1 y2 y3 => ⟨fun y => absurd y hno, fun _ => ⟨rfl, ?_⟩⟩)
      exact ⟨P, B, M, c, fun _ => false, xF, xG, xL, xH, _, _, gs, gr, rk, rv, rc, mf', rf', pk', pv', rs', re', cu, ok, ov, oc', sz, yk, yv, yf', ha', yr', rfl, by rw [mr_Rec_ct hR], hP, hB, hM, hR, fun s hs => (g1 s hs).trans (y1 s (by omega)).symm, fun p hp => (g2 p hp).trans (y1 (4 + p) (by omega)).symm, fun p _ hp => y1 (4 + p) (by omega), y2, mr_Res_gu g3⟩
    · have eL : (fun q => mr_all c rk rv (nI M) xF xG xL xH (nI q) 64) = (fun q => mr_all c yk yv (nI M) xF xG xL xH (nI q) 64) := funext (fun q => mr_Rec_all hR (nI M) xF xG xL xH (nI q))
      have eV : (fun q => mr_fd (nI j) (mr_all c rk rv (nI M) xF xG xL xH (nI q) 64)) = (fun q => mr_fd (nI j) (mr_all c yk yv (nI M) xF xG xL xH (nI q) 64)) := funext (fun q => congrArg (mr_fd (nI j)) (mr_Rec_all hR (nI M) xF xG xL xH (nI q)))
      rw [eL, eV] at RX
      rw [eL]
      have hz : ∀ q, M ≤ q → q < 16 → mr_h (fun q => mr_all c yk yv (nI M) xF xG xL xH (nI q) 64) q = false := fun q q1 q2 =>
        (mr_h_f (L := fun q => mr_all c yk yv (nI M) xF xG xL xH (nI q) 64) (q := q)).mpr (mr_all_hi hM.1 hM.2 q1 (by omega) 64)
      refine my_run (c := c) (g := mr_h (fun q => mr_all c yk yv (nI M) xF xG xL xH (nI q) 64)) j4 hM.1 hM.2 hcY hF (fun _ _ => rfl) (fun y => absurd hyes y) (fun yf' ha' yr' y1 y2 y3 => ⟨fun _ => ⟨?_, ?_⟩, fun y => absurd hyes y⟩)
      · rw [mr_S_all hP.1, mr_ct_M hM.2 hz]
      · exact ⟨P, B, M, c, mr_h (fun q => mr_all c yk yv (nI M) xF xG xL xH (nI q) 64), xF, xG, xL, xH, _, _, _, _, rk, rv, rc, mf', rf', pk', pv', rs', re', cu', ok', ov', oc', sz, yk, yv, yf', ha', yr', rfl, by rw [mr_Rec_ct hR], hP, hB, hM, hR, fun s hs => (g1 s hs).trans (y1 s (by omega)).symm, fun p hp => (g2 p hp).trans (y1 (4 + p) (by omega)).symm, fun p _ hp => y1 (4 + p) (by omega), y2, mr_Res_fin hP.1 hM.2 hz (fun q q1 q2 => (y3 q q1 q2).symm) RX⟩
  · exact br_f h1 (br_f h4 (br_f h1 (br_f h4 ⟨rfl, I0⟩)))
