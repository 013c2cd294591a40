/-! walks of the reference, 1: counts, keys, a group's reducing -/
section
variable {yP yM yF yG yL yH mp : Int32} {sz yk yv yf ha yr : Nat → Int32}
theorem my_counts {post : Int32 → Prop} {c : Nat → Nat} {r : Nat} (hr : r < 64) (hsz : sz (r / 16) = nI (c (r / 16))) (hc : c (r / 16) ≤ 16)
    (H0 : mr_b c yv yL yH r = false → post 0) (H1 : mr_b c yv yL yH r = true → post 1) : wpY_counts post (yP, yM, yF, yG, yL, yH, mp, sz, yk, yv, yf, ha, yr) (nI r) := by
  have e1 : nI r >>> ((4 : Int32) &&& 31) = nI (r / 16) := pk_shrN (by omega) ((4 : Int32) &&& 31) 4 (by decide)
  have e2 : nI r &&& 15 = nI (r % 16) := pk_andN (by omega) 4 (by decide)
  have e3 : (nI r >>> ((4 : Int32) &&& 31)).toNatClampNeg = r / 16 := by rw [e1]; exact nI_clamp (by omega)
  have er : (nI r).toNatClampNeg = r := nI_clamp (by omega)
  have ir : vp_in (nI r) 64 := vp_in_nI hr (by decide)
  refine ⟨by rw [e1]; exact vp_in_nI (by omega) (by decide), ?_⟩
  by_cases z : r % 16 < c (r / 16)
  · refine br_f (by rw [e3, e2, hsz]; exact nI_ge z (by omega)) ⟨ir, br_c (fun h => ?_) (fun h => ⟨ir, br_c (fun h2 => ?_) (fun h2 => ?_)⟩)⟩
    · rw [er] at h
      refine H0 ?_
      unfold mr_b
      rw [decide_eq_false (Int32.not_le.mpr h), Bool.false_and, Bool.and_false]
    · rw [er] at h2
      refine H0 ?_
      unfold mr_b
      rw [decide_eq_false (Int32.not_le.mpr h2), Bool.and_false, Bool.and_false]
    · rw [er] at h h2
      refine H1 ?_
      unfold mr_b
      rw [decide_eq_true z, decide_eq_true (Int32.not_lt.mp h), decide_eq_true (Int32.not_lt.mp h2)]
      rfl
  · refine br_t (by rw [e3, e2, hsz]; exact nI_le (by omega) (by omega)) (H0 ?_)
    unfold mr_b
    rw [decide_eq_false z, Bool.false_and]
theorem my_keyOf {post : Int32 → Prop} {M r : Nat} (hr : r < 64) (h0 : 0 < M) (h1 : M < 2 ^ 30) (H : post (mr_ky (nI M) (yk r))) : wpY_keyOf post (yP, (nI M), yF, yG, yL, yH, mp, sz, yk, yv, yf, ha, yr) (nI r) := by
  have er : (nI r).toNatClampNeg = r := nI_clamp (by omega)
  refine ⟨vp_in_nI hr (by decide), br_t (nI_le (a := 1) h0 (by omega)) ?_⟩
  rw [er]
  refine ⟨nI_ne0 h0 (by omega), nm_e (br_c (fun h => ?_) (fun h => ?_))⟩
  · have e : mr_ky (nI M) (yk r) = yk r - yk r / nI M * nI M := if_neg (Int32.not_lt.mpr h)
    rw [e] at H
    exact H
  · have e : mr_ky (nI M) (yk r) = yk r - yk r / nI M * nI M + nI M := if_pos (Int32.not_le.mp h)
    rw [e] at H
    exact H
theorem my_94 {post : Int32 → SY → Prop} {J18 : Int32 → Int32 → Int32 → Int32 → Int32 → Int32 → Prop} {x1 x2 x3 x4 x5 x6 x7 x8 x9 : Int32}
    (H : J18 x3 x4 (x5 + 1) x6 (if x5 = 0 ∨ x9 < x7 then x9 else x7) (x8 + 1)) : wY_reduce_94 post J18 x1 x2 x3 x4 x5 x6 x7 x8 x9 yP yM yF yG yL yH mp sz yk yv yf ha yr := by
  refine br_c (fun h => nm_e (nm_e ?_)) (fun h => br_c (fun h2 => nm_e (nm_e ?_)) (fun h2 => nm_e (nm_e ?_)))
  · rw [if_pos (Or.inl h)] at H; exact H
  · rw [if_neg (fun z => z.elim h (Int32.not_lt.mpr h2))] at H; exact H
  · rw [if_pos (Or.inr (Int32.not_le.mp h2))] at H; exact H
theorem my_134 {post : Int32 → SY → Prop} {j q : Nat} {x3 x4 x5 x6 x7 z0 : Int32} {l : List Int32} (hj : j ≤ 4) (hq : q < 16) (Y : mr_Y l x3 x4 x5 x6 x7) (hz : vp_nar .boolean z0 = z0)
    (H : ∀ r, (l ≠ [] → r = mr_fd (nI j) l) → post r (yP, yM, yF, yG, yL, yH, mp, sz, yk, yv, yf, (upd ha q z0), yr)) : wY_reduce_134 post (nI j) x3 x4 x5 x6 x7 z0 (nI q) yP yM yF yG yL yH mp sz yk yv yf ha yr := by
  obtain ⟨a1, a2, a3, a4, a5, a6⟩ := Y
  refine ⟨vp_in_nI hq (by decide), nm_r (e' := upd ha q z0) (by rw [hz, nI_clamp (by omega)]) ?_⟩
  obtain rfl | rfl | rfl | rfl | rfl : j = 0 ∨ j = 1 ∨ j = 2 ∨ j = 3 ∨ j = 4 := by omega
  · exact br_t (by decide) (H _ (fun _ => a2))
  · exact br_f (by decide) (br_t (by decide) (H _ a5))
  · exact br_f (by decide) (br_f (by decide) (br_t (by decide) (H _ a6)))
  · exact br_f (by decide) (br_f (by decide) (br_f (by decide) (br_t (by decide) (H _ (fun _ => a4)))))
  · exact br_f (by decide) (br_f (by decide) (br_f (by decide) (br_f (by decide) (H _ (fun _ => a1)))))
theorem mr_nar0 : vp_nar .boolean 0 = 0 := by decide
theorem mr_nar1 : vp_nar .boolean 1 = 1 := by decide
theorem my_red18 {post : Int32 → SY → Prop} {c : Nat → Nat} {M j q : Nat} (hj : j ≤ 4) (hq : q < 16) (h0 : 0 < M) (hM : M ≤ 16) (hc : ∀ s, s < 4 → c s ≤ 16 ∧ sz s = nI (c s))
    (H : ∀ r z, (mr_all c yk yv (nI M) yF yG yL yH (nI q) 64 ≠ [] → r = mr_fd (nI j) (mr_all c yk yv (nI M) yF yG yL yH (nI q) 64)) →
      z = (if mr_all c yk yv (nI M) yF yG yL yH (nI q) 64 = [] then 0 else 1) → post r (yP, (nI M), yF, yG, yL, yH, mp, sz, yk, yv, yf, (upd ha q z), yr)) :
    ∀ n r x3 x4 x5 x6 x7, r ≤ 64 → 64 - r < n → mr_Y (mr_all c yk yv (nI M) yF yG yL yH (nI q) r) x3 x4 x5 x6 x7 →
      wY_reduce_18 post (nI j) (nI q) yP (nI M) yF yG yL yH mp sz yk yv yf ha yr n x3 x4 x5 x6 x7 (nI r) := by
  intro n
  induction n with
  | zero => intro r x3 x4 x5 x6 x7 _ h; omega
  | succ n ih =>
    intro r x3 x4 x5 x6 x7 hr hn Y
    by_cases d : r < 64
    · obtain ⟨c1, c2⟩ := hc (r / 16) (by omega)
      have er : (nI r).toNatClampNeg = r := nI_clamp (by omega)
      have es : mr_all c yk yv (nI M) yF yG yL yH (nI q) (r + 1) = mr_all c yk yv (nI M) yF yG yL yH (nI q) r ++ (if mr_b c yv yL yH r = true ∧ mr_ky (nI M) (yk r) = nI q then [yF * yv r + yG] else []) := rfl
      have hlen : (mr_all c yk yv (nI M) yF yG yL yH (nI q) r).length ≤ r := mr_vs_len _ _ _ _ r
      refine br_f (nI_ge (b := 64) d (by decide)) (my_counts d c2 c1 (fun hb => ?_) (fun hb => ?_))
      · rw [if_neg (fun z => by rw [hb] at z; exact absurd z.1 (by decide)), List.append_nil] at es
        exact br_t rfl (nm_r (nI_1 r) (ih (r + 1) x3 x4 x5 x6 x7 d (by omega) (by rw [es]; exact Y)))
      · refine br_f (by decide) (my_keyOf d h0 (by omega) ?_)
        by_cases hk : mr_ky (nI M) (yk r) = nI q
        · rw [if_pos ⟨hb, hk⟩] at es
          have Y1 := mr_Y1 Y (yF * yv r + yG) (by omega)
          rw [← es] at Y1
          have nx := ih (r + 1) _ _ _ _ _ d (by omega) Y1
          rw [← nI_1 r] at nx
          refine br_t hk ⟨vp_in_nI d (by decide), nm_r (e' := yF * yv r + yG) (by rw [er]) (nm_e (nm_e (br_c (fun z => ?_) (fun z => br_c (fun z2 => ?_) (fun z2 => ?_)))))⟩
          · rw [if_pos (Or.inl z)] at nx
            exact my_94 nx
          · rw [if_neg (fun y => y.elim z (Int32.not_lt.mpr z2))] at nx
            exact my_94 nx
          · rw [if_pos (Or.inr (Int32.not_le.mp z2))] at nx
            exact my_94 nx
        · rw [if_neg (fun z => hk z.2), List.append_nil] at es
          exact br_f hk (nm_r (nI_1 r) (ih (r + 1) x3 x4 x5 x6 x7 d (by omega) (by rw [es]; exact Y)))
    · have dr : r = 64 := by omega
      subst dr
      have hlen : (mr_all c yk yv (nI M) yF yG yL yH (nI q) 64).length ≤ 64 := mr_vs_len _ _ _ _ 64
      have e5 := Y.2.2.1
      refine br_t (nI_le (b := 64) (Nat.le_refl _) (by decide)) ?_
      by_cases z : mr_all c yk yv (nI M) yF yG yL yH (nI q) 64 = []
      · exact br_t (by rw [e5, z]; decide) (my_134 hj hq Y mr_nar0 (fun r hr => H r 0 hr (by rw [if_pos z])))
      · exact br_f (by rw [e5]; exact nI_nle (List.length_pos_iff.mpr z) (by omega)) (my_134 hj hq Y mr_nar1 (fun r hr => H r 1 hr (by rw [if_neg z])))
theorem my_reduce {post : Int32 → SY → Prop} {c : Nat → Nat} {M j q : Nat} (hj : j ≤ 4) (hq : q < 16) (h0 : 0 < M) (hM : M ≤ 16) (hc : ∀ s, s < 4 → c s ≤ 16 ∧ sz s = nI (c s))
    (H : ∀ r z, (mr_all c yk yv (nI M) yF yG yL yH (nI q) 64 ≠ [] → r = mr_fd (nI j) (mr_all c yk yv (nI M) yF yG yL yH (nI q) 64)) →
      z = (if mr_all c yk yv (nI M) yF yG yL yH (nI q) 64 = [] then 0 else 1) → post r (yP, (nI M), yF, yG, yL, yH, mp, sz, yk, yv, yf, (upd ha q z), yr)) : wpY_reduce post (yP, (nI M), yF, yG, yL, yH, mp, sz, yk, yv, yf, ha, yr) (nI j) (nI q) :=
  ⟨65, my_red18 hj hq h0 hM hc H 65 0 7 0 0 0 0 (by omega) (by omega) (mr_Y0 0 0)⟩
end
