/-! walks of the component, 3: the reducing -/
section
variable {xP xB xM xF xG xL xH pc rn gs gr : Int32} {rk rv rc mf rf pk pv rs re cu ok ov oc : Nat → Int32}
theorem mx_take8 {post : SX → Prop} {j q r e x g : Nat} {g0 : Int32} (hj : j ≤ 4) (hr : r < 64) (hxe : x ≤ e) (he : e ≤ 64) (hre : re r = nI e) (hq : q < 2 ^ 30)
    (H : ∀ t, x ≤ t → t ≤ e → (t = e ∨ (q : Int) < (pk t).toInt) → (∀ i, x ≤ i → i < t → (pk i).toInt ≤ (q : Int)) →
      post (xP, xB, xM, xF, xG, xL, xH, pc, rn, (nI (g + (mr_sv pk pv (nI q) x (t - x)).length)), (List.foldl (mr_st (nI j)) g0 (mr_sv pk pv (nI q) x (t - x))), rk, rv, rc, mf, rf, pk, pv, rs, re, (upd cu r (nI t)), ok, ov, oc)) :
    ∀ n t, x ≤ t → t ≤ e → e - t < n → (∀ i, x ≤ i → i < t → (pk i).toInt ≤ (q : Int)) →
      wX_takeFromRun_8 post (nI r) (nI q) (nI j) xP xB xM xF xG xL xH pc rn rk rv rc mf rf pk pv rs re cu ok ov oc n (nI t) (nI (g + (mr_sv pk pv (nI q) x (t - x)).length)) (List.foldl (mr_st (nI j)) g0 (mr_sv pk pv (nI q) x (t - x))) := by
  have er : (nI r).toNatClampNeg = r := nI_clamp (by omega)
  have ir : vp_in (nI r) 64 := vp_in_nI hr (by decide)
  have eq : (nI q).toInt = (q : Int) := nI_toInt (by omega)
  intro n
  induction n with
  | zero => intro t _ _ h; omega
  | succ n ih =>
    intro t hxt hte hn hle
    have et : (nI t).toNatClampNeg = t := nI_clamp (by omega)
    have ee : re (nI r).toNatClampNeg = nI e := by rw [er]; exact hre
    refine ⟨ir, ?_⟩
    by_cases c : t < e
    · have it : vp_in (nI t) 64 := vp_in_nI (by omega) (by decide)
      refine br_f (by rw [ee]; exact nI_ge c (by omega)) ⟨it, ?_⟩
      by_cases d : nI q < pk t
      · exact br_t (by rw [et]; exact d) ⟨ir, nm_r (by rw [er]) (H t hxt hte (Or.inr (by rw [← eq]; exact Int32.lt_iff_toInt_lt.mp d)) hle)⟩
      · have dle : (pk t).toInt ≤ (q : Int) := by
          rw [← eq]
          exact Int32.le_iff_toInt_le.mp (Int32.not_lt.mp d)
        have hle' : ∀ i, x ≤ i → i < t + 1 → (pk i).toInt ≤ (q : Int) := fun i h1 h2 => by
          by_cases f : i = t
          · subst f; exact dle
          · exact hle i h1 (by omega)
        have es : mr_sv pk pv (nI q) x (t + 1 - x) = mr_sv pk pv (nI q) x (t - x) ++ (if pk t = nI q then [pv t] else []) := by
          rw [show t + 1 - x = (t - x) + 1 by omega, mr_sv_s, show x + (t - x) = t by omega]
        have nx := ih (t + 1) (by omega) c (by omega) hle'
        refine br_f (by rw [et]; exact d) ⟨it, ?_⟩
        by_cases f : pk t = nI q
        · rw [if_pos f] at es
          rw [es, List.foldl_append, List.length_append] at nx
          refine br_t (by rw [et]; exact f) ⟨it, mx_step hj (nm_r (by rw [nI_1]) (nm_r (nI_1 t) ?_))⟩
          rw [et]
          exact nx
        · rw [if_neg f, List.append_nil] at es
          rw [es] at nx
          exact br_f (by rw [et]; exact f) (nm_r (nI_1 t) nx)
    · have dt : t = e := by omega
      exact br_t (by rw [ee]; exact nI_le (by omega) (by omega)) ⟨ir, nm_r (by rw [er]) (H t hxt hte (Or.inl dt) hle)⟩
theorem mx_takeFromRun {post : SX → Prop} {j q r e x g : Nat} (hj : j ≤ 4) (hr : r < 64) (hxe : x ≤ e) (he : e ≤ 64) (hre : re r = nI e) (hcu : cu r = nI x) (hq : q < 2 ^ 30)
    (H : ∀ t, x ≤ t → t ≤ e → (t = e ∨ (q : Int) < (pk t).toInt) → (∀ i, x ≤ i → i < t → (pk i).toInt ≤ (q : Int)) →
      post (xP, xB, xM, xF, xG, xL, xH, pc, rn, (nI (g + (mr_sv pk pv (nI q) x (t - x)).length)), (List.foldl (mr_st (nI j)) gr (mr_sv pk pv (nI q) x (t - x))), rk, rv, rc, mf, rf, pk, pv, rs, re, (upd cu r (nI t)), ok, ov, oc)) :
    wpX_takeFromRun post (xP, xB, xM, xF, xG, xL, xH, pc, rn, (nI g), gr, rk, rv, rc, mf, rf, pk, pv, rs, re, cu, ok, ov, oc) (nI r) (nI q) (nI j) := by
  have er : (nI r).toNatClampNeg = r := nI_clamp (by omega)
  refine ⟨vp_in_nI hr (by decide), nm_r (e' := nI x) (by rw [er]; exact hcu) ⟨e - x + 1, ?_⟩⟩
  have h := mx_take8 (xP := xP) (xB := xB) (xM := xM) (xF := xF) (xG := xG) (xL := xL) (xH := xH) (pc := pc) (rn := rn) (g := g) (g0 := gr) hj hr hxe he hre hq H (e - x + 1) x (Nat.le_refl _) hxe (by omega) (fun i h1 h2 => by omega)
  rw [Nat.sub_self] at h
  exact h
/-- one key asked of all runs -/
theorem mx_rk16 {post : SX → Prop} {j q nn p part m : Nat} {S : Nat → Nat} (hj : j ≤ 4) (hq : q < 2 ^ 30) (R : mr_Runs pk rs re nn p S) (hp : p ≤ 64) (hpart : part < 4) (hm : m < 16) (hoc : oc part = nI m)
    (H0 : mr_sv pk pv (nI q) 0 p = [] → ∀ cu' gs' gr', (∀ i, i < nn → mr_C1 pk cu' S i (q + 1)) → post (xP, xB, xM, xF, xG, xL, xH, pc, (nI nn), gs', gr', rk, rv, rc, mf, rf, pk, pv, rs, re, cu', ok, ov, oc))
    (H1 : mr_sv pk pv (nI q) 0 p ≠ [] → ∀ cu' gs' gr', (∀ i, i < nn → mr_C1 pk cu' S i (q + 1)) →
      post (xP, xB, xM, xF, xG, xL, xH, pc, (nI nn), gs', gr', rk, rv, rc, mf, rf, pk, pv, rs, re, cu', (upd ok (16 * part + m) (nI q)), (upd ov (16 * part + m) (mr_fd (nI j) (mr_sv pk pv (nI q) 0 p))), (upd oc part (nI (m + 1))))) :
    ∀ n r cu, r ≤ nn → nn - r < n → mr_Cs pk cu S nn r q →
      wX_reduceKey_16 post (nI part) (nI q) (nI j) n (nI r) xP xB xM xF xG xL xH pc (nI nn) (nI (mr_sv pk pv (nI q) 0 (S r)).length) (mr_fd (nI j) (mr_sv pk pv (nI q) 0 (S r))) rk rv rc mf rf pk pv rs re cu ok ov oc := by
  have hnn : nn ≤ p := by
    have := mr_Runs_ge R nn (Nat.le_refl _)
    rw [R.2.1] at this
    exact this
  intro n
  induction n with
  | zero => intro r cu _ h; omega
  | succ n ih =>
    intro r cu hr hn C
    by_cases c : r < nn
    · obtain ⟨x, a1, a2, a3, a4, a5⟩ := mr_take_step (pv := pv) R C c (show q < 2 ^ 31 by omega)
      refine br_f (nI_ge c (by omega)) (mx_takeFromRun hj (by omega) a3 (by omega) a2 a1 hq (fun t t1 t2 t3 t4 => nm_r (nI_1 r) ?_))
      obtain ⟨C', es⟩ := a5 t t1 t2 t3 t4
      have nx := ih (r + 1) (upd cu r (nI t)) c (by omega) C'
      rw [es, List.length_append] at nx
      unfold mr_fd at nx ⊢
      rw [List.foldl_append] at nx
      exact nx
    · have dr : r = nn := by omega
      subst dr
      rw [R.2.1]
      have hlen := mr_sv_len pk pv (nI q) 0 p
      refine br_t (nI_le (Nat.le_refl _) (by omega)) ?_
      by_cases z : mr_sv pk pv (nI q) 0 p = []
      · exact br_t (by rw [z]; decide) (H0 z _ _ _ (mr_Cs_n C))
      · exact br_f (nI_nle (List.length_pos_iff.mpr z) (by omega)) (mx_appendResult hpart hm hoc (H1 z _ _ _ (mr_Cs_n C)))
theorem mx_reduceKey {post : SX → Prop} {j q nn p part m : Nat} {S : Nat → Nat} (hj : j ≤ 4) (hq : q < 2 ^ 30) (R : mr_Runs pk rs re nn p S) (hp : p ≤ 64) (hpart : part < 4) (hm : m < 16) (hoc : oc part = nI m)
    (C : ∀ i, i < nn → mr_C1 pk cu S i q)
    (H0 : mr_sv pk pv (nI q) 0 p = [] → ∀ cu' gs' gr', (∀ i, i < nn → mr_C1 pk cu' S i (q + 1)) → post (xP, xB, xM, xF, xG, xL, xH, pc, (nI nn), gs', gr', rk, rv, rc, mf, rf, pk, pv, rs, re, cu', ok, ov, oc))
    (H1 : mr_sv pk pv (nI q) 0 p ≠ [] → ∀ cu' gs' gr', (∀ i, i < nn → mr_C1 pk cu' S i (q + 1)) →
      post (xP, xB, xM, xF, xG, xL, xH, pc, (nI nn), gs', gr', rk, rv, rc, mf, rf, pk, pv, rs, re, cu', (upd ok (16 * part + m) (nI q)), (upd ov (16 * part + m) (mr_fd (nI j) (mr_sv pk pv (nI q) 0 p))), (upd oc part (nI (m + 1))))) :
    wpX_reduceKey post (xP, xB, xM, xF, xG, xL, xH, pc, (nI nn), gs, gr, rk, rv, rc, mf, rf, pk, pv, rs, re, cu, ok, ov, oc) (nI part) (nI q) (nI j) := by
  unfold wpX_reduceKey
  refine mx_startOf hj ⟨nn + 1, ?_⟩
  have h := mx_rk16 (xP := xP) (xB := xB) (xM := xM) (xF := xF) (xG := xG) (xL := xL) (xH := xH) (pc := pc) hj hq R hp hpart hm hoc H0 H1 (nn + 1) 0 cu (Nat.zero_le _) (by omega) (mr_Cs_0 C)
  rw [R.1] at h
  exact h
end
