/-! what is owed, 1: the calls but run and feedBack -/
theorem mr_n0 {x : Int32} {n : Nat} (h : nI n ≤ x) (hn : n < 2 ^ 31) : ¬ x < 0 := Int32.not_lt.mpr (Int32.le_trans (nI_pos' hn) h)
theorem mr_n3 {x : Int32} (h : nI 4 ≤ x) : ¬ x ≤ 3 := by
  rw [Int32.le_iff_toInt_le, nI_toInt (by decide)] at h
  rw [Int32.le_iff_toInt_le, show (3 : Int32).toInt = 3 from by decide]
  omega
theorem mr_Rec_add {c : Nat → Nat} {xc xk xv yc yk yv : Nat → Int32} (R : mr_Rec c xc xk xv yc yk yv) {s : Nat} (hc : c s < 16) (k v : Int32) :
    mr_Rec (mr_up c s (c s + 1)) (upd xc s (nI (c s + 1))) (upd xk (16 * s + c s) k) (upd xv (16 * s + c s) v) (upd yc s (nI (c s + 1))) (upd yk (16 * s + c s) k) (upd yv (16 * s + c s) v) := by
  intro j hj
  obtain ⟨a1, a2, a3, a4⟩ := R j hj
  by_cases d : j = s
  · subst d
    rw [mr_up_s, pk_us, pk_us]
    refine ⟨by omega, rfl, rfl, fun i hi => ?_⟩
    by_cases e : i = c j
    · subst e
      rw [pk_us, pk_us, pk_us, pk_us]
      exact ⟨rfl, rfl⟩
    · rw [pk_un (by omega), pk_un (by omega), pk_un (by omega), pk_un (by omega)]
      exact a4 i (by omega)
  · rw [mr_up_n d, pk_un d, pk_un d]
    refine ⟨a1, a2, a3, fun i hi => ?_⟩
    rw [pk_un (by omega), pk_un (by omega), pk_un (by omega), pk_un (by omega)]
    exact a4 i hi
theorem mr_Rec_empty {c : Nat → Nat} {xc xk xv yc yk yv : Nat → Int32} (R : mr_Rec c xc xk xv yc yk yv) {s : Nat} : mr_Rec (mr_up c s 0) (upd xc s 0) xk xv (upd yc s 0) yk yv := by
  intro j hj
  obtain ⟨a1, a2, a3, a4⟩ := R j hj
  by_cases d : j = s
  · subst d
    rw [mr_up_s, pk_us, pk_us]
    exact ⟨by omega, nI_0.symm, nI_0.symm, fun i hi => absurd hi (Nat.not_lt_zero _)⟩
  · rw [mr_up_n d, pk_un d, pk_un d]
    exact ⟨a1, a2, a3, a4⟩
theorem i_vc_addRecord {k : Nat} {u : SX} {v : SY} (I : i_Rel k u v) (hk : k + 4 ≤ 2050) (v1 : Int32) (v2 : Int32) (v3 : Int32) : wpX_addRecord (fun r u' => wpY_addRecord (fun r' v' => r' = r ∧ i_Rel (k + 4) u' v') v v1 v2 v3) u v1 v2 v3 := by
  have I0 := I
  obtain ⟨P, B, M, c, h, xF, xG, xL, xH, pc, rn, gs, gr, rk, rv, rc, mf, rf, pk, pv, rs, re, cu, ok, ov, oc, sz, yk, yv, yf, ha, yr, rfl, rfl, hP, hB, hM, hR, hf1, hf2, hf3, hh, hO⟩ := I
  rcases pk_ix v1 (n := 4) (by decide) with h1 | h1 | ⟨s, hs, rfl⟩
  · exact br_t h1 (br_t rfl (br_t h1 ⟨rfl, I0⟩))
  · exact br_f (mr_n0 h1 (by decide)) (br_t h1 (br_t rfl (br_f (mr_n0 h1 (by decide)) (br_f (mr_n3 h1) ⟨rfl, I0⟩))))
  · obtain ⟨a1, a2, a3, a4⟩ := hR s hs
    have es : (nI s).toNatClampNeg = s := nI_clamp (by omega)
    have i4 : vp_in (nI s) 4 := vp_in_nI hs (by decide)
    have n0 : ¬ nI s < 0 := nI_pos (by omega)
    have n4 : ¬ (4 : Int32) ≤ nI s := nI_ge (b := 4) hs (by decide)
    have n3 : nI s ≤ (3 : Int32) := nI_le (b := 3) (by omega) (by decide)
    by_cases z : c s < 16
    · refine br_f n0 (br_f n4 (br_f (by decide) ⟨i4, br_t (by rw [es, a2]; exact nI_lt (b := 16) z (by decide)) (mx_append hs z a2 ⟨i4, my_add hs z a3 ⟨?_, ?_⟩⟩)⟩))
      · rw [es, pk_us]
      · exact ⟨P, B, M, mr_up c s (c s + 1), h, xF, xG, xL, xH, pc, rn, gs, gr, _, _, _, mf, rf, pk, pv, rs, re, cu, ok, ov, oc, _, _, _, yf, ha, yr, rfl, rfl, hP, hB, hM, mr_Rec_add hR z v2 v3, hf1, hf2, hf3, hh, hO⟩
    · have z16 : c s = 16 := by omega
      rw [z16] at a2 a3
      exact br_f n0 (br_f n4 (br_f (by decide) ⟨i4, br_f (by rw [es, a2]; decide) (br_f n0 (br_t n3 ⟨i4, br_t (by rw [es, a3]; decide) ⟨rfl, I0⟩⟩))⟩))
theorem i_vc_mapping {k : Nat} {u : SX} {v : SY} (I : i_Rel k u v) (hk : k + 4 ≤ 2050) (v1 : Int32) (v2 : Int32) (v3 : Int32) : wpX_mapping (fun r u' => wpY_mapping (fun r' v' => r' = r ∧ i_Rel (k + 4) u' v') v v1 v2 v3) u v1 v2 v3 := by
  have I0 := I
  obtain ⟨P, B, M, c, h, xF, xG, xL, xH, pc, rn, gs, gr, rk, rv, rc, mf, rf, pk, pv, rs, re, cu, ok, ov, oc, sz, yk, yv, yf, ha, yr, rfl, rfl, hP, hB, hM, hR, hf1, hf2, hf3, hh, hO⟩ := I
  by_cases h1 : v1 < 1
  · exact br_t h1 (br_t h1 ⟨rfl, I0⟩)
  · by_cases h2 : v1 ≤ 16
    · have h0 : ¬ v1 < 0 := Int32.not_lt.mpr (Int32.le_trans (show (0 : Int32) ≤ 1 by decide) (Int32.not_lt.mp h1))
      obtain ⟨m, hm, rfl⟩ := nI_of h0
      have m1 : 1 ≤ m := (nI_leI (a := 1) (by omega) hm).mp (Int32.not_lt.mp h1)
      have m2 : m ≤ 16 := (nI_leI (b := 16) hm (by omega)).mp h2
      exact br_f h1 (br_t h2 (br_f h1 (br_t h2 ⟨rfl, ⟨P, B, m, c, h, v2, v3, xL, xH, pc, rn, gs, gr, rk, rv, rc, mf, rf, pk, pv, rs, re, cu, ok, ov, oc, sz, yk, yv, yf, ha, yr, rfl, rfl, hP, hB, ⟨m1, m2⟩, hR, hf1, hf2, hf3, hh, hO⟩⟩)))
    · exact br_f h1 (br_f h2 (br_f h1 (br_f h2 ⟨rfl, I0⟩)))
theorem i_vc_bounds {k : Nat} {u : SX} {v : SY} (I : i_Rel k u v) (hk : k + 4 ≤ 2050) (v1 : Int32) (v2 : Int32) : wpX_bounds (fun u' => wpY_bounds (fun v' => i_Rel (k + 4) u' v') v v1 v2) u v1 v2 := by
  obtain ⟨P, B, M, c, h, xF, xG, xL, xH, pc, rn, gs, gr, rk, rv, rc, mf, rf, pk, pv, rs, re, cu, ok, ov, oc, sz, yk, yv, yf, ha, yr, rfl, rfl, hP, hB, hM, hR, hf1, hf2, hf3, hh, hO⟩ := I
  exact ⟨P, B, M, c, h, xF, xG, v1, v2, pc, rn, gs, gr, rk, rv, rc, mf, rf, pk, pv, rs, re, cu, ok, ov, oc, sz, yk, yv, yf, ha, yr, rfl, rfl, hP, hB, hM, hR, hf1, hf2, hf3, hh, hO⟩
section
variable {yP yM yF yG yL yH mp : Int32} {sz yk yv yf ha yr : Nat → Int32}
theorem my_fail17_no {post : Int32 → SY → Prop} {x1 x2 x3 z0 z1 : Int32} (hx : x3 < 0 ∨ ¬ x3 ≤ 3) (H : post 0 (yP, yM, yF, yG, yL, yH, mp, sz, yk, yv, yf, ha, yr)) : wY_failures_17 post x1 x2 x3 z0 z1 yP yM yF yG yL yH mp sz yk yv yf ha yr :=
  br_c (fun _ => H) (fun _ => br_c (fun _ => H) (fun h0 => br_f (hx.resolve_left h0) H))
theorem my_fail_no {post : Int32 → SY → Prop} {x1 x2 x3 : Int32} (hx : x3 < 0 ∨ ¬ x3 ≤ 3) (H : post 0 (yP, yM, yF, yG, yL, yH, mp, sz, yk, yv, yf, ha, yr)) : wpY_failures post (yP, yM, yF, yG, yL, yH, mp, sz, yk, yv, yf, ha, yr) x1 x2 x3 :=
  br_c (fun _ => H) (fun _ => br_c (fun _ => my_fail17_no hx H) (fun _ => my_fail17_no hx H))
end
theorem i_vc_failures {k : Nat} {u : SX} {v : SY} (I : i_Rel k u v) (hk : k + 4 ≤ 2050) (v1 : Int32) (v2 : Int32) (v3 : Int32) : wpX_failures (fun r u' => wpY_failures (fun r' v' => r' = r ∧ i_Rel (k + 4) u' v') v (lw_bz v1) v2 v3) u (lw_bz v1) v2 v3 := by
  have I0 := I
  obtain ⟨P, B, M, c, h, xF, xG, xL, xH, pc, rn, gs, gr, rk, rv, rc, mf, rf, pk, pv, rs, re, cu, ok, ov, oc, sz, yk, yv, yf, ha, yr, rfl, rfl, hP, hB, hM, hR, hf1, hf2, hf3, hh, hO⟩ := I
  by_cases t0 : v3 < 0
  · exact br_t t0 (my_fail_no (Or.inl t0) ⟨rfl, I0⟩)
  by_cases t3 : v3 ≤ 3
  · rcases lw_bz_01 v1 with e | e
    · rw [e]
      rcases pk_ix v2 (n := 4) (by decide) with h1 | h1 | ⟨s, hs, rfl⟩
      · exact br_f t0 (br_t t3 (br_t rfl (br_t h1 (br_t rfl ⟨rfl, br_t h1 ⟨rfl, I0⟩⟩))))
      · exact br_f t0 (br_t t3 (br_t rfl (br_f (mr_n0 h1 (by decide)) (br_t h1 (br_t rfl ⟨rfl, br_f (mr_n0 h1 (by decide)) (br_t rfl (br_t h1 ⟨rfl, I0⟩))⟩)))))
      · have es : (nI s).toNatClampNeg = s := nI_clamp (by omega)
        have n0 : ¬ nI s < 0 := nI_pos (by omega)
        have n4 : ¬ (4 : Int32) ≤ nI s := nI_ge (b := 4) hs (by decide)
        refine br_f t0 (br_t t3 (br_t rfl (br_f n0 (br_f n4 (br_f (by decide) ⟨vp_in_nI hs (by decide), nm_r (e' := upd mf s v3) (by rw [es]) ⟨rfl, br_f n0 (br_t rfl (br_f n4 (br_f t0 (br_t t3 (br_t rfl ⟨vp_in_nI (by omega) (by decide), nm_r (e' := upd yf s v3) (by rw [es]) ⟨rfl, ?_⟩⟩)))))⟩⟩)))))
        refine ⟨P, B, M, c, h, xF, xG, xL, xH, pc, rn, gs, gr, rk, rv, rc, _, rf, pk, pv, rs, re, cu, ok, ov, oc, sz, yk, yv, _, ha, yr, rfl, rfl, hP, hB, hM, hR, fun j hj => ?_, fun j hj => ?_, fun j h1 h2 => ?_, hh, hO⟩
        · by_cases d : j = s
          · subst d; rw [pk_us, pk_us]
          · rw [pk_un d, pk_un d]; exact hf1 j hj
        · rw [pk_un (by omega)]; exact hf2 j hj
        · rw [pk_un (by omega)]; exact hf3 j h1 h2
    · rw [e]
      rcases pk_ix v2 (n := P) (by omega) with h1 | h1 | ⟨s, hs, rfl⟩
      · exact br_f t0 (br_t t3 (br_f (by decide) (br_t h1 (br_t rfl ⟨rfl, br_t h1 ⟨rfl, I0⟩⟩))))
      · have n0 : ¬ v2 < 0 := mr_n0 h1 (by omega)
        exact br_f t0 (br_t t3 (br_f (by decide) (br_f n0 (br_t h1 (br_t rfl ⟨rfl, br_f n0 (br_f (by decide) (br_t h1 ⟨rfl, I0⟩))⟩)))))
      · have es : (nI s).toNatClampNeg = s := nI_clamp (by omega)
        have n0 : ¬ nI s < 0 := nI_pos (by omega)
        have nP : ¬ nI P ≤ nI s := nI_ge hs (by omega)
        have e4 : (4 : Int32) + nI s = nI (4 + s) := nI_add 4 s
        refine br_f t0 (br_t t3 (br_f (by decide) (br_f n0 (br_f nP (br_f (by decide) ⟨vp_in_nI (by omega) (by decide), nm_r (e' := upd rf s v3) (by rw [es]) ⟨rfl, br_f n0 (br_f (by decide) (br_f nP (br_f t0 (br_t t3 (br_f (by decide) ⟨by rw [e4]; exact vp_in_nI (by omega) (by decide), nm_r (e' := upd yf (4 + s) v3) (by rw [e4, nI_clamp (by omega)]) ⟨rfl, ?_⟩⟩)))))⟩⟩)))))
        refine ⟨P, B, M, c, h, xF, xG, xL, xH, pc, rn, gs, gr, rk, rv, rc, mf, _, pk, pv, rs, re, cu, ok, ov, oc, sz, yk, yv, _, ha, yr, rfl, rfl, hP, hB, hM, hR, fun j hj => ?_, fun j hj => ?_, fun j h1 h2 => ?_, hh, hO⟩
        · rw [pk_un (by omega)]; exact hf1 j hj
        · by_cases d : j = s
          · subst d; rw [pk_us, pk_us]
          · rw [pk_un d, pk_un (by omega)]; exact hf2 j hj
        · rw [pk_un (by omega)]; exact hf3 j h1 h2
  · exact br_f t0 (br_f t3 (my_fail_no (Or.inr t3) ⟨rfl, I0⟩))
theorem i_vc_mapped {k : Nat} {u : SX} {v : SY} (I : i_Rel k u v) (hk : k + 4 ≤ 2050) : wpX_mapped (fun r => wpY_mapped (fun r' => r' = r ∧ i_Rel (k + 4) u v) v) u := by
  have I0 := I
  obtain ⟨P, B, M, c, h, xF, xG, xL, xH, pc, rn, gs, gr, rk, rv, rc, mf, rf, pk, pv, rs, re, cu, ok, ov, oc, sz, yk, yv, yf, ha, yr, rfl, rfl, hP, hB, hM, hR, hf1, hf2, hf3, hh, hO⟩ := I
  exact ⟨rfl, I0⟩
theorem i_vc_emptySplit {k : Nat} {u : SX} {v : SY} (I : i_Rel k u v) (hk : k + 4 ≤ 2050) (v1 : Int32) : wpX_emptySplit (fun r u' => wpY_emptySplit (fun r' v' => r' = r ∧ i_Rel (k + 4) u' v') v v1) u v1 := by
  have I0 := I
  obtain ⟨P, B, M, c, h, xF, xG, xL, xH, pc, rn, gs, gr, rk, rv, rc, mf, rf, pk, pv, rs, re, cu, ok, ov, oc, sz, yk, yv, yf, ha, yr, rfl, rfl, hP, hB, hM, hR, hf1, hf2, hf3, hh, hO⟩ := I
  rcases pk_ix v1 (n := 4) (by decide) with h1 | h1 | ⟨s, hs, rfl⟩
  · exact br_t h1 (br_t rfl (br_t h1 ⟨rfl, I0⟩))
  · exact br_f (mr_n0 h1 (by decide)) (br_t h1 (br_t rfl (br_f (mr_n0 h1 (by decide)) (br_f (mr_n3 h1) ⟨rfl, I0⟩))))
  · obtain ⟨a1, a2, a3, a4⟩ := hR s hs
    have es : (nI s).toNatClampNeg = s := nI_clamp (by omega)
    have i4 : vp_in (nI s) 4 := vp_in_nI hs (by decide)
    have n0 : ¬ nI s < 0 := nI_pos (by omega)
    have n4 : ¬ (4 : Int32) ≤ nI s := nI_ge (b := 4) hs (by decide)
    have n3 : nI s ≤ (3 : Int32) := nI_le (b := 3) (by omega) (by decide)
    exact br_f n0 (br_f n4 (br_f (by decide) ⟨i4, nm_r (e' := nI (c s)) (by rw [es]; exact a2) ⟨i4, nm_r (e' := upd rc s 0) (by rw [es]) (br_f n0 (br_t n3 ⟨i4, nm_r (e' := nI (c s)) (by rw [es]; exact a3) ⟨i4, nm_r (e' := upd sz s 0) (by rw [es])
      ⟨rfl, ⟨P, B, M, mr_up c s 0, h, xF, xG, xL, xH, pc, rn, gs, gr, rk, rv, _, mf, rf, pk, pv, rs, re, cu, ok, ov, oc, _, yk, yv, yf, ha, yr, rfl, rfl, hP, hB, hM, mr_Rec_empty hR, hf1, hf2, hf3, hh, hO⟩⟩⟩⟩))⟩⟩))
theorem i_vc_results {k : Nat} {u : SX} {v : SY} (I : i_Rel k u v) (hk : k + 4 ≤ 2050) (v1 : Int32) : wpX_results (fun r => wpY_results (fun r' => r' = r ∧ i_Rel (k + 4) u v) v v1) u v1 := by
  have I0 := I
  obtain ⟨P, B, M, c, h, xF, xG, xL, xH, pc, rn, gs, gr, rk, rv, rc, mf, rf, pk, pv, rs, re, cu, ok, ov, oc, sz, yk, yv, yf, ha, yr, rfl, rfl, hP, hB, hM, hR, hf1, hf2, hf3, hh, hO⟩ := I
  rcases pk_ix v1 (n := P) (by omega) with h1 | h1 | ⟨s, hs, rfl⟩
  · exact br_t h1 (br_t rfl (br_t h1 ⟨rfl, I0⟩))
  · have n0 : ¬ v1 < 0 := mr_n0 h1 (by omega)
    exact br_f n0 (br_t h1 (br_t rfl (br_f n0 (br_f (Int32.not_lt.mpr h1) ⟨rfl, I0⟩))))
  · have n0 : ¬ nI s < 0 := nI_pos (by omega)
    have nP : ¬ nI P ≤ nI s := nI_ge hs (by omega)
    exact br_f n0 (br_f nP (br_f (by decide) ⟨vp_in_nI (by omega) (by decide), br_f n0 (br_t (nI_lt hs (by omega)) ⟨17, my_results18 hP.1 hP.2 (by omega) hh ⟨by rw [nI_clamp (by omega)]; exact (hO s (by omega)).1.symm, I0⟩ 17 0 (by omega) (by omega)⟩)⟩))
