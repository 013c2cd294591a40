/-! walks of the component, 2: the sort, a run's end, the mapping -/
section
variable {xP xB xM xF xG xL xH pc rn gs gr : Int32} {rk rv rc mf rf pk pv rs re cu ok ov oc : Nat → Int32}
theorem mx_key {post : Int32 → Prop} {M : Nat} {k : Int32} (h0 : 0 < M) (h1 : M < 2 ^ 30) (H : post (mr_ky (nI M) k)) : wpX_pairKeyOf post (xP, xB, (nI M), xF, xG, xL, xH, pc, rn, gs, gr, rk, rv, rc, mf, rf, pk, pv, rs, re, cu, ok, ov, oc) k := by
  refine ⟨nI_ne0 h0 (by omega), nm_e (br_c (fun h => ?_) (fun h => ?_))⟩
  · have e : mr_ky (nI M) k = k - k / nI M * nI M := if_neg (Int32.not_lt.mpr h)
    rw [e] at H
    exact H
  · have e : mr_ky (nI M) k = k - k / nI M * nI M + nI M := if_pos (Int32.not_le.mp h)
    rw [e] at H
    exact H
theorem mx_mapRecord {post : SX → Prop} {r n M : Nat} (hr : r < 64) (hn : n < 64) (h0 : 0 < M) (h1 : M < 2 ^ 30)
    (Hd : ¬ (xL ≤ rv r ∧ rv r ≤ xH) → post (xP, xB, (nI M), xF, xG, xL, xH, (nI n), rn, gs, gr, rk, rv, rc, mf, rf, pk, pv, rs, re, cu, ok, ov, oc))
    (Hp : xL ≤ rv r → rv r ≤ xH → post (xP, xB, (nI M), xF, xG, xL, xH, (nI (n + 1)), rn, gs, gr, rk, rv, rc, mf, rf, (upd pk n (mr_ky (nI M) (rk r))), (upd pv n (xF * rv r + xG)), rs, re, cu, ok, ov, oc)) : wpX_mapRecord post (xP, xB, (nI M), xF, xG, xL, xH, (nI n), rn, gs, gr, rk, rv, rc, mf, rf, pk, pv, rs, re, cu, ok, ov, oc) (nI r) := by
  have e : (nI r).toNatClampNeg = r := nI_clamp (by omega)
  have en : (nI n).toNatClampNeg = n := nI_clamp (by omega)
  have ir : vp_in (nI r) 64 := vp_in_nI hr (by decide)
  have iN : vp_in (nI n) 64 := vp_in_nI hn (by decide)
  refine ⟨ir, nm_r (e' := rv r) (by rw [e]) (br_c (fun h => Hd (fun z => Int32.not_lt.mpr z.1 h)) (fun h => br_c (fun h2 => ⟨ir, ?_⟩) (fun h2 => Hd (fun z => h2 z.2))))⟩
  exact mx_key h0 h1 ⟨iN, nm_r (by rw [e, en]) ⟨iN, nm_r (by rw [en]) (nm_r (nI_1 n) (Hp (Int32.not_lt.mp h) h2))⟩⟩
theorem mx_ins {post : SX → Prop} {J4 : Int32 → (Nat → Int32) → (Nat → Int32) → (Nat → Int32) → (Nat → Int32) → (Nat → Int32) → (Nat → Int32) → (Nat → Int32) → (Nat → Int32) → (Nat → Int32) → (Nat → Int32) → (Nat → Int32) → (Nat → Int32) → (Nat → Int32) → Prop}
    {x2 : Int32} {a m : Nat} (ham : a ≤ m) (hm : m < 64)
    (H : ∀ t, a ≤ t → t ≤ m → (∀ j, t ≤ j → j < m → (pk m).toInt < (pk j).toInt) → (t = a ∨ (pk (t - 1)).toInt ≤ (pk m).toInt) → J4 (nI (m + 1)) rk rv rc mf rf (mr_in pk t m (pk m)) (mr_in pv t m (pv m)) rs re cu ok ov oc) :
    ∀ n t, a ≤ t → t ≤ m → t - a < n → (∀ j, t ≤ j → j < m → (pk m).toInt < (pk j).toInt) →
      wX_sortPairs_28 post J4 (nI a) x2 (nI m) (pk m) (pv m) xP xB xM xF xG xL xH pc rn gs gr n (nI t) rk rv rc mf rf (mr_sh pk t m) (mr_sh pv t m) rs re cu ok ov oc := by
  intro n
  induction n with
  | zero => intro t _ _ h; omega
  | succ n ih =>
    intro t hat htm hn hgt
    have et : (nI t).toNatClampNeg = t := nI_clamp (by omega)
    have it : vp_in (nI t) 64 := vp_in_nI (by omega) (by decide)
    have fin : (t = a ∨ (pk (t - 1)).toInt ≤ (pk m).toInt) → wX_sortPairs_86 post J4 (nI a) x2 (nI m) (pk m) (pv m) (nI t) xP xB xM xF xG xL xH pc rn gs gr rk rv rc mf rf (mr_sh pk t m) (mr_sh pv t m) rs re cu ok ov oc := fun hle =>
      ⟨it, nm_r (e' := mr_in pk t m (pk m)) (by rw [et, mr_sh_in]) ⟨it, nm_r (e' := mr_in pv t m (pv m)) (by rw [et, mr_sh_in]) (nm_r (nI_1 m) (H t hat htm hgt hle))⟩⟩
    by_cases c : t = a
    · exact br_t (nI_le (by omega) (by omega)) (fin (Or.inl c))
    · obtain ⟨u, rfl⟩ : ∃ u, t = u + 1 := ⟨t - 1, by omega⟩
      have ep : nI (u + 1) - 1 = nI u := nI_pred u
      have eu : (nI (u + 1) - 1).toNatClampNeg = u := by rw [ep]; exact nI_clamp (by omega)
      have iu : vp_in (nI (u + 1) - 1) 64 := by rw [ep]; exact vp_in_nI (by omega) (by decide)
      have k1 : mr_sh pk (u + 1) m (nI (u + 1) - 1).toNatClampNeg = pk u := by rw [eu]; exact mr_sh_at (by omega)
      have k2 : mr_sh pv (u + 1) m (nI (u + 1) - 1).toNatClampNeg = pv u := by rw [eu]; exact mr_sh_at (by omega)
      by_cases h : pk u ≤ pk m
      · exact br_f (nI_ge (by omega) (by omega)) ⟨iu, br_t (by rw [k1]; exact h) (fin (Or.inr (Int32.le_iff_toInt_le.mp h)))⟩
      · have hlt : (pk m).toInt < (pk u).toInt := Int32.lt_iff_toInt_lt.mp (Int32.not_le.mp h)
        refine br_f (nI_ge (by omega) (by omega)) ⟨iu, br_f (by rw [k1]; exact h) ⟨iu, it, nm_r (e' := mr_sh pk u m) (by rw [k1, et]; exact mr_sh_s (t := u + 1) (by omega) htm)
          ⟨iu, it, nm_r (e' := mr_sh pv u m) (by rw [k2, et]; exact mr_sh_s (t := u + 1) (by omega) htm) (nm_r (pk_m1 u) (ih u (by omega) (by omega) (by omega) (fun j h1 h2 => ?_)))⟩⟩⟩
        by_cases d : j = u
        · subst d; exact hlt
        · exact hgt j (by omega) h2
theorem mx_ins0 {post : SX → Prop} {J4 : Int32 → (Nat → Int32) → (Nat → Int32) → (Nat → Int32) → (Nat → Int32) → (Nat → Int32) → (Nat → Int32) → (Nat → Int32) → (Nat → Int32) → (Nat → Int32) → (Nat → Int32) → (Nat → Int32) → (Nat → Int32) → (Nat → Int32) → Prop}
    {x2 : Int32} {a m : Nat} (ham : a ≤ m) (hm : m < 64)
    (H : ∀ t, a ≤ t → t ≤ m → (∀ j, t ≤ j → j < m → (pk m).toInt < (pk j).toInt) → (t = a ∨ (pk (t - 1)).toInt ≤ (pk m).toInt) → J4 (nI (m + 1)) rk rv rc mf rf (mr_in pk t m (pk m)) (mr_in pv t m (pv m)) rs re cu ok ov oc) :
    wX_sortPairs_28 post J4 (nI a) x2 (nI m) (pk m) (pv m) xP xB xM xF xG xL xH pc rn gs gr (m - a + 1) (nI m) rk rv rc mf rf pk pv rs re cu ok ov oc := by
  have h : wX_sortPairs_28 post J4 (nI a) x2 (nI m) (pk m) (pv m) xP xB xM xF xG xL xH pc rn gs gr (m - a + 1) (nI m) rk rv rc mf rf (mr_sh pk m m) (mr_sh pv m m) rs re cu ok ov oc :=
    mx_ins ham hm H (m - a + 1) m ham (Nat.le_refl _) (by omega) (fun j h1 h2 => by omega)
  rw [mr_sh_n, mr_sh_n] at h
  exact h
theorem mx_sort4 {post : SX → Prop} {a e : Nat} {pk0 pv0 : Nat → Int32} (he : e ≤ 64) (H : ∀ pk' pv', mr_Srt pk0 pv0 pk' pv' a e → post (xP, xB, xM, xF, xG, xL, xH, pc, rn, gs, gr, rk, rv, rc, mf, rf, pk', pv', rs, re, cu, ok, ov, oc)) :
    ∀ n m pk pv, a < m → m ≤ e → e - m < n → mr_Srt pk0 pv0 pk pv a m → wX_sortPairs_4 post (nI a) (nI e) xP xB xM xF xG xL xH pc rn gs gr n (nI m) rk rv rc mf rf pk pv rs re cu ok ov oc := by
  intro n
  induction n with
  | zero => intro m pk pv _ _ h; omega
  | succ n ih =>
    intro m pk pv ham hme hn R
    by_cases c : m < e
    · have em : (nI m).toNatClampNeg = m := nI_clamp (by omega)
      have im : vp_in (nI m) 64 := vp_in_nI (by omega) (by decide)
      refine br_f (nI_ge c (by omega)) ⟨im, nm_r (e' := pk m) (by rw [em]) ⟨im, nm_r (e' := pv m) (by rw [em]) ⟨m - a + 1, ?_⟩⟩⟩
      exact mx_ins0 (by omega) (by omega) (fun t h1 h2 h3 h4 => ih (m + 1) _ _ (by omega) (by omega) (by omega) (mr_Srt_s R h1 h2 h3 h4))
    · have d : m = e := by omega
      subst d
      exact br_t (nI_le (Nat.le_refl _) (by omega)) (H pk pv R)
theorem mx_sortPairs {post : SX → Prop} {a e : Nat} (hae : a < e) (he : e ≤ 64) (H : ∀ pk' pv', mr_Srt pk pv pk' pv' a e → post (xP, xB, xM, xF, xG, xL, xH, pc, rn, gs, gr, rk, rv, rc, mf, rf, pk', pv', rs, re, cu, ok, ov, oc)) : wpX_sortPairs post (xP, xB, xM, xF, xG, xL, xH, pc, rn, gs, gr, rk, rv, rc, mf, rf, pk, pv, rs, re, cu, ok, ov, oc) (nI a) (nI e) :=
  nm_r (nI_1 a) ⟨e, mx_sort4 he H e (a + 1) pk pv (by omega) (by omega) (by omega) (mr_Srt_0 pk pv a)⟩
theorem mx_closeRun {post : SX → Prop} {a n r : Nat} (han : a < n) (hn : n ≤ 64) (hr : r < 64)
    (H : ∀ pk' pv', mr_Srt pk pv pk' pv' a n → post (xP, xB, xM, xF, xG, xL, xH, (nI n), (nI (r + 1)), gs, gr, rk, rv, rc, mf, rf, pk', pv', (upd rs r (nI a)), (upd re r (nI n)), cu, ok, ov, oc)) : wpX_closeRun post (xP, xB, xM, xF, xG, xL, xH, (nI n), (nI r), gs, gr, rk, rv, rc, mf, rf, pk, pv, rs, re, cu, ok, ov, oc) (nI a) := by
  have e : (nI r).toNatClampNeg = r := nI_clamp (by omega)
  have i : vp_in (nI r) 64 := vp_in_nI hr (by decide)
  unfold wpX_closeRun
  refine mx_sortPairs han hn (fun pk' pv' hs => ?_)
  exact ⟨i, nm_r (by rw [e]) ⟨i, nm_r (by rw [e]) (nm_r (nI_1 r) (H pk' pv' hs))⟩⟩
theorem mx_mapRecordM {post : SX → Prop} {c : Nat → Nat} {M s i r st p : Nat} (h0 : 0 < M) (h1 : M < 2 ^ 30) (hs : s < 4) (hi : i < c s) (hc : c s ≤ 16)
    (R : mr_Map c rk rv (nI M) xF xG xL xH (16 * s + i) pk pv rs re r st p)
    (H : ∀ pk1 pv1 p1, mr_Map c rk rv (nI M) xF xG xL xH (16 * s + (i + 1)) pk1 pv1 rs re r st p1 → post (xP, xB, (nI M), xF, xG, xL, xH, (nI p1), rn, gs, gr, rk, rv, rc, mf, rf, pk1, pv1, rs, re, cu, ok, ov, oc)) : wpX_mapRecord post (xP, xB, (nI M), xF, xG, xL, xH, (nI p), rn, gs, gr, rk, rv, rc, mf, rf, pk, pv, rs, re, cu, ok, ov, oc) (nI (16 * s + i)) := by
  have hb := mr_b_at (c := c) (V := rv) (lo := xL) (hi := xH) (s := s) (i := i) (by omega)
  rw [decide_eq_true hi, Bool.true_and] at hb
  obtain ⟨b1, b2, b3⟩ := mr_Map_le R
  refine mx_mapRecord (by omega) (by omega) h0 h1 (fun h => H _ _ _ (mr_Map_drop R ?_)) (fun g1 g2 => H _ _ _ (mr_Map_put R ?_))
  · refine hb.trans ?_
    by_cases z : xL ≤ rv (16 * s + i)
    · have y : ¬ rv (16 * s + i) ≤ xH := fun y => h ⟨z, y⟩
      rw [decide_eq_false y, Bool.and_false]
    · rw [decide_eq_false z, Bool.false_and]
  · refine hb.trans ?_
    rw [decide_eq_true g1, decide_eq_true g2]
    rfl
theorem mx_mapSplit7 {post : SX → Prop} {c : Nat → Nat} {M B s : Nat} (h0 : 0 < M) (h1 : M < 2 ^ 30) (hB : 0 < B) (hB2 : B < 2 ^ 30) (hs : s < 4) (hc : c s ≤ 16) (hrc : rc s = nI (c s))
    (H : ∀ pk' pv' rs' re' r' p', mr_Map c rk rv (nI M) xF xG xL xH (16 * (s + 1)) pk' pv' rs' re' r' p' p' → post (xP, (nI B), (nI M), xF, xG, xL, xH, (nI p'), (nI r'), gs, gr, rk, rv, rc, mf, rf, pk', pv', rs', re', cu, ok, ov, oc)) :
    ∀ n i pk pv rs re r st p, i ≤ c s → c s - i < n → mr_Map c rk rv (nI M) xF xG xL xH (16 * s + i) pk pv rs re r st p →
      wX_mapSplit_7 post (nI s) n (nI st) (nI i) xP (nI B) (nI M) xF xG xL xH (nI p) (nI r) gs gr rk rv rc mf rf pk pv rs re cu ok ov oc := by
  intro n
  induction n with
  | zero => intro i pk pv rs re r st p _ h; omega
  | succ n ih =>
    intro i pk pv rs re r st p hi hn R
    obtain ⟨b1, b2, b3⟩ := mr_Map_le R
    have ec : rc (nI s).toNatClampNeg = nI (c s) := by rw [nI_clamp (by omega)]; exact hrc
    refine ⟨vp_in_nI hs (by decide), ?_⟩
    by_cases d : i < c s
    · refine br_f (by rw [ec]; exact nI_ge d (by omega)) ?_
      rw [mr_16 s i]
      refine mx_mapRecordM h0 h1 hs d hc R (fun pk1 pv1 p1 R1 => ?_)
      obtain ⟨d1, d2, d3⟩ := mr_Map_le R1
      refine br_c (fun hb => ?_) (fun _ => nm_r (nI_1 i) (ih (i + 1) pk1 pv1 rs re r st p1 d (by omega) R1))
      have hlt : st < p1 := by
        rw [pk_sub d3, nI_eq (by omega) (by omega)] at hb
        omega
      exact mx_closeRun hlt (by omega) (by omega) (fun pk2 pv2 hs2 => nm_r (nI_1 i) (ih (i + 1) pk2 pv2 _ _ (r + 1) p1 p1 d (by omega) (mr_Map_close R1 hlt hs2)))
    · have di : i = c s := by omega
      subst di
      refine br_t (by rw [ec]; exact nI_le (Nat.le_refl _) (by omega)) ?_
      by_cases hl : st < p
      · exact br_f (nI_ge hl (by omega)) (mx_closeRun hl (by omega) (by omega) (fun pk2 pv2 hs2 => H _ _ _ _ _ _ (mr_Map_end (mr_Map_close R hl hs2) hc)))
      · have ds : st = p := by omega
        subst ds
        exact br_t (nI_le (Nat.le_refl _) (by omega)) (H _ _ _ _ _ _ (mr_Map_end R hc))
theorem mx_mapSplit {post : SX → Prop} {c : Nat → Nat} {M B s r p : Nat} (h0 : 0 < M) (h1 : M < 2 ^ 30) (hB : 0 < B) (hB2 : B < 2 ^ 30) (hs : s < 4) (hc : c s ≤ 16) (hrc : rc s = nI (c s))
    (R : mr_Map c rk rv (nI M) xF xG xL xH (16 * s) pk pv rs re r p p)
    (H : ∀ pk' pv' rs' re' r' p', mr_Map c rk rv (nI M) xF xG xL xH (16 * (s + 1)) pk' pv' rs' re' r' p' p' → post (xP, (nI B), (nI M), xF, xG, xL, xH, (nI p'), (nI r'), gs, gr, rk, rv, rc, mf, rf, pk', pv', rs', re', cu, ok, ov, oc)) :
    wpX_mapSplit post (xP, (nI B), (nI M), xF, xG, xL, xH, (nI p), (nI r), gs, gr, rk, rv, rc, mf, rf, pk, pv, rs, re, cu, ok, ov, oc) (nI s) :=
  ⟨17, mx_mapSplit7 h0 h1 hB hB2 hs hc hrc H 17 0 pk pv rs re r p p (Nat.zero_le _) (by omega) R⟩
theorem mx_mapInput12 {post : SX → Prop} {c : Nat → Nat} {M B : Nat} (h0 : 0 < M) (h1 : M < 2 ^ 30) (hB : 0 < B) (hB2 : B < 2 ^ 30) (hc : ∀ s, s < 4 → c s ≤ 16 ∧ rc s = nI (c s))
    (H : ∀ pk' pv' rs' re' r' p', mr_Map c rk rv (nI M) xF xG xL xH 64 pk' pv' rs' re' r' p' p' → post (xP, (nI B), (nI M), xF, xG, xL, xH, (nI p'), (nI r'), gs, gr, rk, rv, rc, mf, rf, pk', pv', rs', re', cu, ok, ov, oc)) :
    ∀ n s pk pv rs re r p, s ≤ 4 → 4 - s < n → mr_Map c rk rv (nI M) xF xG xL xH (16 * s) pk pv rs re r p p → wX_mapInput_12 post n (nI s) xP (nI B) (nI M) xF xG xL xH (nI p) (nI r) gs gr rk rv rc mf rf pk pv rs re cu ok ov oc := by
  intro n
  induction n with
  | zero => intro s pk pv rs re r p _ h; omega
  | succ n ih =>
    intro s pk pv rs re r p hs hn R
    by_cases d : s < 4
    · obtain ⟨c1, c2⟩ := hc s d
      exact br_f (nI_ge (b := 4) d (by omega)) (mx_mapSplit h0 h1 hB hB2 d c1 c2 R (fun pk' pv' rs' re' r' p' R' => nm_r (nI_1 s) (ih (s + 1) pk' pv' rs' re' r' p' d (by omega) R')))
    · have ds : s = 4 := by omega
      subst ds
      exact br_t (nI_le (b := 4) (Nat.le_refl _) (by omega)) (H _ _ _ _ _ _ R)
theorem mx_mapInput {post : SX → Prop} {c : Nat → Nat} {M B : Nat} (h0 : 0 < M) (h1 : M < 2 ^ 30) (hB : 0 < B) (hB2 : B < 2 ^ 30) (hc : ∀ s, s < 4 → c s ≤ 16 ∧ rc s = nI (c s))
    (H : ∀ pk' pv' rs' re' r' p', mr_Map c rk rv (nI M) xF xG xL xH 64 pk' pv' rs' re' r' p' p' → post (xP, (nI B), (nI M), xF, xG, xL, xH, (nI p'), (nI r'), gs, gr, rk, rv, rc, mf, rf, pk', pv', rs', re', cu, ok, ov, oc)) :
    wpX_mapInput post (xP, (nI B), (nI M), xF, xG, xL, xH, pc, rn, gs, gr, rk, rv, rc, mf, rf, pk, pv, rs, re, cu, ok, ov, oc) :=
  ⟨5, mx_mapInput12 h0 h1 hB hB2 hc H 5 0 pk pv rs re 0 0 (by omega) (by omega) (mr_Map_0 c rk rv (nI M) xF xG xL xH pk pv rs re)⟩
end
