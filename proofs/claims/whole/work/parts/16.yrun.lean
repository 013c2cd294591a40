/-! walks of the reference, 2: a job, the questions, the output made the input -/
def mr_bit (b : Bool) : Int32 := if b = true then 1 else 0
theorem mr_bit_t {b : Bool} (h : b = true) : mr_bit b = 1 := if_pos h
theorem mr_bit_f {b : Bool} (h : ¬ b = true) : mr_bit b = 0 := if_neg h
theorem mr_hL {c : Nat → Nat} {K V : Nat → Int32} {m fa og lo hi : Int32} {q : Nat} : mr_h (fun q => mr_all c K V m fa og lo hi (nI q) 64) q = true ↔ mr_all c K V m fa og lo hi (nI q) 64 ≠ [] :=
  mr_h_t (L := fun q => mr_all c K V m fa og lo hi (nI q) 64) (q := q)
section
variable {yP yM yF yG yL yH mp : Int32} {sz yk yv yf ha yr : Nat → Int32}
theorem my_120 {post : Int32 → SY → Prop} {J85 : Int32 → Int32 → Int32 → Int32 → Int32 → Int32 → Int32 → Int32 → Int32 → (Nat → Int32) → (Nat → Int32) → (Nat → Int32) → (Nat → Int32) → (Nat → Int32) → (Nat → Int32) → Prop}
    {x1 x2 : Int32} {g : Nat → Bool} {q : Nat} (hq : q < 16) (hh : ha q = mr_bit (g q)) (H : J85 (nI (mr_ct g (q + 1))) (nI (q + 1)) yP yM yF yG yL yH mp sz yk yv yf ha yr) :
    wY_run_120 post J85 x1 x2 (nI (mr_ct g q)) (nI q) yP yM yF yG yL yH mp sz yk yv yf ha yr := by
  have e : ha (nI q).toNatClampNeg = mr_bit (g q) := by rw [nI_clamp (by omega)]; exact hh
  refine ⟨vp_in_nI hq (by decide), ?_⟩
  by_cases z : g q = true
  · exact br_f (by rw [e, mr_bit_t z]; decide) (nm_r (e' := nI (mr_ct g (q + 1))) (by rw [nI_1, mr_ct_s, if_pos z]) (nm_r (nI_1 q) H))
  · rw [mr_ct_s, if_neg z] at H
    exact br_t (by rw [e, mr_bit_f z]) (nm_r (nI_1 q) H)
theorem my_run85 {post : Int32 → SY → Prop} {c : Nat → Nat} {M j : Nat} {F : Int32} {g : Nat → Bool} (hj : j ≤ 4) (h0 : 0 < M) (hM : M ≤ 16) (hc : ∀ s, s < 4 → c s ≤ 16 ∧ sz s = nI (c s))
    (hg1 : F ≤ 6 → ∀ q, g q = mr_h (fun q => mr_all c yk yv (nI M) yF yG yL yH (nI q) 64) q) (hg2 : ¬ F ≤ 6 → ∀ q, g q = false)
    (H : ∀ ha' yr', (∀ q, q < 16 → ha' q = mr_bit (g q)) → (∀ q, q < 16 → g q = true → yr' q = mr_fd (nI j) (mr_all c yk yv (nI M) yF yG yL yH (nI q) 64)) →
      (F ≤ 6 → post (nI (mr_ct g 16)) (yP, (nI M), yF, yG, yL, yH, mp, sz, yk, yv, yf, ha', yr')) ∧ (¬ F ≤ 6 → post (-3) (yP, (nI M), yF, yG, yL, yH, mp, sz, yk, yv, yf, ha', yr'))) :
    ∀ n q ha yr, q ≤ 16 → 16 - q < n → (∀ k, k < q → ha k = mr_bit (g k)) → (∀ k, k < q → g k = true → yr k = mr_fd (nI j) (mr_all c yk yv (nI M) yF yG yL yH (nI k) 64)) →
      wY_run_85 post (nI j) F n (nI (mr_ct g q)) (nI q) yP (nI M) yF yG yL yH mp sz yk yv yf ha yr := by
  intro n
  induction n with
  | zero => intro q ha yr _ h; omega
  | succ n ih =>
    intro q ha yr hq hn h1 h2
    by_cases d : q < 16
    · have eq : (nI q).toNatClampNeg = q := nI_clamp (by omega)
      have iq : vp_in (nI q) 16 := vp_in_nI d (by decide)
      refine br_f (nI_ge (b := 16) d (by decide)) (my_reduce hj d h0 hM hc (fun r z hr hz => ⟨iq, nm_r (e' := upd yr q r) (by rw [eq]) (br_c (fun hF => ?_) (fun hF => ⟨iq, nm_r (e' := upd (upd ha q z) q 0) (by rw [eq, mr_nar0]) ?_⟩))⟩))
      · have hb : z = mr_bit (g q) := by
          rw [hz, hg1 hF q]
          by_cases y : mr_all c yk yv (nI M) yF yG yL yH (nI q) 64 = []
          · rw [if_pos y, mr_bit_f (fun w => mr_hL.mp w y)]
          · rw [if_neg y, mr_bit_t (mr_hL.mpr y)]
        refine my_120 (g := g) d (by rw [pk_us]; exact hb) (ih (q + 1) (upd ha q z) (upd yr q r) d (by omega) (fun k hk => ?_) (fun k hk hgk => ?_))
        · by_cases e : k = q
          · subst e; rw [pk_us]; exact hb
          · rw [pk_un e]; exact h1 k (by omega)
        · by_cases e : k = q
          · subst e
            rw [pk_us]
            rw [hg1 hF k] at hgk
            exact hr (mr_hL.mp hgk)
          · rw [pk_un e]; exact h2 k (by omega) hgk
      · have hb : (0 : Int32) = mr_bit (g q) := by rw [mr_bit_f (by rw [hg2 hF q]; decide)]
        refine my_120 (g := g) d (by rw [pk_us]; exact hb) (ih (q + 1) (upd (upd ha q z) q 0) (upd yr q r) d (by omega) (fun k hk => ?_) (fun k hk hgk => ?_))
        · by_cases e : k = q
          · subst e; rw [pk_us]; exact hb
          · rw [pk_un e, pk_un e]; exact h1 k (by omega)
        · rw [hg2 hF k] at hgk
          exact absurd hgk (by decide)
    · have dq : q = 16 := by omega
      subst dq
      exact br_t (nI_le (b := 16) (Nat.le_refl _) (by decide)) (H ha yr h1 h2)
theorem my_run50 {post : Int32 → SY → Prop} {c : Nat → Nat} {x1 x2 : Int32} (hc : ∀ s, s < 4 → c s ≤ 16 ∧ sz s = nI (c s))
    (H : ∃ n, wY_run_85 post x1 x2 n 0 0 yP yM yF yG yL yH (nI (mr_ct (mr_b c yv yL yH) 64)) sz yk yv yf ha yr) :
    ∀ n r, r ≤ 64 → 64 - r < n → wY_run_50 post x1 x2 yP yM yF yG yL yH sz yk yv yf ha yr n (nI r) (nI (mr_ct (mr_b c yv yL yH) r)) := by
  intro n
  induction n with
  | zero => intro r _ h; omega
  | succ n ih =>
    intro r hr hn
    by_cases d : r < 64
    · obtain ⟨c1, c2⟩ := hc (r / 16) (by omega)
      have nx := ih (r + 1) d (by omega)
      refine br_f (nI_ge (b := 64) d (by decide)) (my_counts d c2 c1 (fun hb => ?_) (fun hb => ?_))
      · rw [mr_ct_s, if_neg (by rw [hb]; decide)] at nx
        exact br_t rfl (nm_r (nI_1 r) nx)
      · rw [mr_ct_s, if_pos hb] at nx
        exact br_f (by decide) (nm_r (nI_1 _) (nm_r (nI_1 r) nx))
    · have dr : r = 64 := by omega
      subst dr
      exact br_t (nI_le (b := 64) (Nat.le_refl _) (by decide)) H
theorem my_run15 {post : Int32 → SY → Prop} {x1 : Int32} {yf0 : Nat → Int32} (H : ∀ yf', (∀ i, i < 8 → yf' i = 0) → ∃ n, wY_run_50 post x1 (mr_sm 0 yf0 8) yP yM yF yG yL yH sz yk yv yf' ha yr n 0 0) :
    ∀ n p yf, p ≤ 8 → 8 - p < n → (∀ j, p ≤ j → yf j = yf0 j) → (∀ j, j < p → yf j = 0) → wY_run_15 post x1 yP yM yF yG yL yH mp n (mr_sm 0 yf0 p) (nI p) sz yk yv yf ha yr := by
  intro n
  induction n with
  | zero => intro p yf _ h; omega
  | succ n ih =>
    intro p yf hp hn h1 h2
    by_cases c : p < 8
    · have e : (nI p).toNatClampNeg = p := nI_clamp (by omega)
      have i8 : vp_in (nI p) 8 := vp_in_nI c (by decide)
      refine br_f (nI_ge (b := 8) c (by decide)) ⟨i8, nm_r (e' := mr_sm 0 yf0 (p + 1)) (by rw [e, h1 p (Nat.le_refl _)]; rfl) ⟨i8, nm_r (e' := upd yf p 0) (by rw [e]) (nm_r (nI_1 p) (ih (p + 1) (upd yf p 0) c (by omega) (fun j hj => ?_) (fun j hj => ?_)))⟩⟩
      · rw [pk_un (by omega)]; exact h1 j (by omega)
      · by_cases d : j = p
        · subst d; exact pk_us
        · rw [pk_un d]; exact h2 j (by omega)
    · have d : p = 8 := by omega
      subst d
      exact br_t (nI_le (b := 8) (Nat.le_refl _) (by decide)) (H yf h2)
theorem my_run {post : Int32 → SY → Prop} {c : Nat → Nat} {M j : Nat} {F : Int32} {g : Nat → Bool} (hj : j ≤ 4) (h0 : 0 < M) (hM : M ≤ 16) (hc : ∀ s, s < 4 → c s ≤ 16 ∧ sz s = nI (c s)) (hF : mr_sm 0 yf 8 = F)
    (hg1 : F ≤ 6 → ∀ q, g q = mr_h (fun q => mr_all c yk yv (nI M) yF yG yL yH (nI q) 64) q) (hg2 : ¬ F ≤ 6 → ∀ q, g q = false)
    (H : ∀ yf' ha' yr', (∀ i, i < 8 → yf' i = 0) → (∀ q, q < 16 → ha' q = mr_bit (g q)) → (∀ q, q < 16 → g q = true → yr' q = mr_fd (nI j) (mr_all c yk yv (nI M) yF yG yL yH (nI q) 64)) →
      (F ≤ 6 → post (nI (mr_ct g 16)) (yP, (nI M), yF, yG, yL, yH, (nI (mr_ct (mr_b c yv yL yH) 64)), sz, yk, yv, yf', ha', yr')) ∧ (¬ F ≤ 6 → post (-3) (yP, (nI M), yF, yG, yL, yH, (nI (mr_ct (mr_b c yv yL yH) 64)), sz, yk, yv, yf', ha', yr'))) :
    wpY_run post (yP, (nI M), yF, yG, yL, yH, mp, sz, yk, yv, yf, ha, yr) (nI j) := by
  subst hF
  refine br_f (nI_pos (by omega)) (br_t (nI_le (b := 4) hj (by decide)) ⟨9, ?_⟩)
  refine my_run15 (yf0 := yf) (fun yf' h => ⟨65, ?_⟩) 9 0 yf (by omega) (by omega) (fun _ _ => rfl) (fun _ h => absurd h (Nat.not_lt_zero _))
  refine my_run50 (c := c) hc ⟨17, ?_⟩ 65 0 (by omega) (by omega)
  exact my_run85 hj h0 hM hc hg1 hg2 (fun ha' yr' a b => H yf' ha' yr' h a b) 17 0 ha yr (by omega) (by omega) (fun _ h => absurd h (Nat.not_lt_zero _)) (fun _ h => absurd h (Nat.not_lt_zero _))
theorem my_results18 {post : Int32 → Prop} {h : Nat → Bool} {P part : Nat} (hP0 : 0 < P) (hP : P ≤ 4) (hpart : part < 4) (hh : ∀ q, q < 16 → ha q = mr_bit (h q)) (H : post (nI (mr_k h P part 16))) :
    ∀ n q, q ≤ 16 → 16 - q < n → wY_results_18 post (nI part) (nI P) yM yF yG yL yH mp sz yk yv yf ha yr n (nI (mr_k h P part q)) (nI q) := by
  intro n
  induction n with
  | zero => intro q _ h; omega
  | succ n ih =>
    intro q hq hn
    by_cases d : q < 16
    · have er : nI q - nI q / nI P * nI P = nI (q % P) := pk_rem (by omega) hP0 (by omega)
      have e : ha (nI q).toNatClampNeg = mr_bit (h q) := by rw [nI_clamp (by omega)]; exact hh q d
      have hqP : q % P < 4 := by
        have := Nat.mod_lt q hP0
        omega
      have nx := ih (q + 1) d (by omega)
      refine br_f (nI_ge (b := 16) d (by decide)) ⟨vp_in_nI d (by decide), ?_⟩
      by_cases z : h q = true
      · refine br_f (by rw [e, mr_bit_t z]; decide) ⟨nI_ne0 hP0 (by omega), ?_⟩
        by_cases f : q % P = part
        · rw [mr_k_y z f] at nx
          exact br_t (by rw [er, f]) (nm_r (nI_1 _) (nm_r (nI_1 q) nx))
        · rw [mr_k_n (fun y => f y.2)] at nx
          exact br_f (by rw [er, nI_eq (by omega) (by omega)]; exact f) (nm_r (nI_1 q) nx)
      · rw [mr_k_n (fun y => z y.1)] at nx
        exact br_t (by rw [e, mr_bit_f z]) (nm_r (nI_1 q) nx)
    · have dq : q = 16 := by omega
      subst dq
      exact br_t (nI_le (b := 16) (Nat.le_refl _) (by decide)) H
theorem my_keyAt19 {post : Int32 → Prop} {h : Nat → Bool} {P part : Nat} {i : Int32} (hP0 : 0 < P) (hP : P ≤ 4) (hpart : part < 4) (hh : ∀ q, q < 16 → ha q = mr_bit (h q)) :
    ∀ n q, q ≤ 16 → 16 - q < n → (∀ k, q ≤ k → k < 16 → h k = true → k % P = part → nI (mr_k h P part k) = i → post (nI k)) →
      ((∀ k, q ≤ k → k < 16 → h k = true → k % P = part → nI (mr_k h P part k) ≠ i) → post (-1)) → wY_keyAt_19 post (nI part) i (nI P) yM yF yG yL yH mp sz yk yv yf ha yr n (nI (mr_k h P part q)) (nI q) := by
  intro n
  induction n with
  | zero => intro q _ h; omega
  | succ n ih =>
    intro q hq hn H1 H2
    by_cases d : q < 16
    · have er : nI q - nI q / nI P * nI P = nI (q % P) := pk_rem (by omega) hP0 (by omega)
      have e : ha (nI q).toNatClampNeg = mr_bit (h q) := by rw [nI_clamp (by omega)]; exact hh q d
      have hqP : q % P < 4 := by
        have := Nat.mod_lt q hP0
        omega
      refine br_f (nI_ge (b := 16) d (by decide)) ⟨vp_in_nI d (by decide), ?_⟩
      have nx : ¬ (h q = true ∧ q % P = part ∧ nI (mr_k h P part q) = i) → wY_keyAt_19 post (nI part) i (nI P) yM yF yG yL yH mp sz yk yv yf ha yr n (nI (mr_k h P part (q + 1))) (nI (q + 1)) := fun hno =>
        ih (q + 1) d (by omega) (fun k a b => H1 k (by omega) b) (fun hz => H2 (fun k a b c1 c2 c3 => by
          by_cases f : k = q
          · subst f; exact hno ⟨c1, c2, c3⟩
          · exact hz k (by omega) b c1 c2 c3))
      by_cases z : h q = true
      · refine br_f (by rw [e, mr_bit_t z]; decide) ⟨nI_ne0 hP0 (by omega), ?_⟩
        by_cases f : q % P = part
        · refine br_t (by rw [er, f]) ?_
          by_cases w : nI (mr_k h P part q) = i
          · exact br_t w (H1 q (Nat.le_refl _) d z f w)
          · have nx := nx (fun y => w y.2.2)
            rw [mr_k_y z f] at nx
            exact br_f w (nm_r (nI_1 _) (nm_r (nI_1 q) nx))
        · have nx := nx (fun y => f y.2.1)
          rw [mr_k_n (fun y => f y.2)] at nx
          exact br_f (by rw [er, nI_eq (by omega) (by omega)]; exact f) (nm_r (nI_1 q) nx)
      · have nx := nx (fun y => z y.1)
        rw [mr_k_n (fun y => z y.1)] at nx
        exact br_t (by rw [e, mr_bit_f z]) (nm_r (nI_1 q) nx)
    · have dq : q = 16 := by omega
      subst dq
      exact br_t (nI_le (b := 16) (Nat.le_refl _) (by decide)) (H2 (fun k a b => by omega))
theorem my_add {post : Int32 → SY → Prop} {s n : Nat} {k v : Int32} (hs : s < 4) (hn : n < 16) (hc : sz s = nI n)
    (H : post (nI (n + 1)) (yP, yM, yF, yG, yL, yH, mp, (upd sz s (nI (n + 1))), (upd yk (16 * s + n) k), (upd yv (16 * s + n) v), yf, ha, yr)) : wpY_addRecord post (yP, yM, yF, yG, yL, yH, mp, sz, yk, yv, yf, ha, yr) (nI s) k v := by
  have e3 : (nI s).toNatClampNeg = s := nI_clamp (by omega)
  have es : sz (nI s).toNatClampNeg = nI n := by rw [e3]; exact hc
  have e : 16 * nI s + sz (nI s).toNatClampNeg = nI (16 * s + n) := by
    rw [es]
    show nI 16 * nI s + nI n = _
    rw [pk_mul, nI_add]
  have e2 : (16 * nI s + sz (nI s).toNatClampNeg).toNatClampNeg = 16 * s + n := by rw [e]; exact nI_clamp (by omega)
  have i4 : vp_in (nI s) 4 := vp_in_nI hs (by decide)
  have i64 : vp_in (16 * nI s + sz (nI s).toNatClampNeg) 64 := by rw [e]; exact vp_in_nI (by omega) (by decide)
  have n16 : ¬ sz (nI s).toNatClampNeg = 16 := by
    rw [es]
    intro z
    have : nI n = nI 16 := z
    rw [nI_eq (by omega) (by omega)] at this
    omega
  refine br_f (nI_pos (by omega)) (br_t (nI_le (b := 3) (by omega) (by decide)) ⟨i4, br_f n16 ⟨i4, i64, nm_r (e' := upd yk (16 * s + n) k) (by rw [e2]) ⟨i4, i64, nm_r (e' := upd yv (16 * s + n) v) (by rw [e2]) ⟨i4, i4, nm_r (e' := upd sz s (nI (n + 1))) (by rw [es, e3, nI_1]) ⟨i4, ?_⟩⟩⟩⟩⟩)
  rw [e3, pk_us]
  exact H
theorem my_fb24 {post : Int32 → SY → Prop} {h : Nat → Bool} {P : Nat} (hP0 : 0 < P) (hP : P ≤ 4) (hh : ∀ q, q < 16 → ha q = mr_bit (h q))
    (H : ∀ sz' yk' yv', mr_Res h P yr (fun _ => 16) sz' yk' yv' → post (nI (mr_ct h 16)) ((nI P), yM, yF, yG, yL, yH, mp, sz', yk', yv', yf, ha, yr)) :
    ∀ n q sz yk yv, q ≤ 16 → 16 - q < n → mr_Res h P yr (fun _ => q) sz yk yv → wY_feedBack_24 post n (nI (mr_ct h q)) (nI q) (nI P) yM yF yG yL yH mp sz yk yv yf ha yr := by
  intro n
  induction n with
  | zero => intro q sz yk yv _ h; omega
  | succ n ih =>
    intro q sz yk yv hq hn R
    by_cases d : q < 16
    · have er : nI q - nI q / nI P * nI P = nI (q % P) := pk_rem (by omega) hP0 (by omega)
      have eq : (nI q).toNatClampNeg = q := nI_clamp (by omega)
      have e : ha (nI q).toNatClampNeg = mr_bit (h q) := by rw [eq]; exact hh q d
      have iq : vp_in (nI q) 16 := vp_in_nI d (by decide)
      have hqP : q % P < 4 := by
        have := Nat.mod_lt q hP0
        omega
      refine br_f (nI_ge (b := 16) d (by decide)) ⟨iq, ?_⟩
      by_cases z : h q = true
      · refine br_f (by rw [e, mr_bit_t z]; decide) ⟨nI_ne0 hP0 (by omega), iq, ?_⟩
        rw [er, eq]
        have hk := mr_k_le h P (q % P) q
        refine my_add hqP (show mr_k h P (q % P) q < 16 by omega) (R (q % P) hqP).1 (nm_r (e' := nI (mr_ct h (q + 1))) (by rw [nI_1, mr_ct_s, if_pos z]) (nm_r (nI_1 q) (ih (q + 1) _ _ _ d (by omega) (mr_Res_yes R z rfl d))))
      · have nx := ih (q + 1) sz yk yv d (by omega) (mr_Res_no R z)
        rw [mr_ct_s, if_neg z] at nx
        exact br_t (by rw [e, mr_bit_f z]) (nm_r (nI_1 q) nx)
    · have dq : q = 16 := by omega
      subst dq
      exact br_t (nI_le (b := 16) (Nat.le_refl _) (by decide)) (H _ _ _ R)
theorem my_fb4 {post : Int32 → SY → Prop} {x1 : Int32} (H : ∀ sz', (∀ j, j < 4 → sz' j = 0) → ∃ n, wY_feedBack_24 post n x1 0 yP yM yF yG yL yH mp sz' yk yv yf ha yr) :
    ∀ n p sz, p ≤ 4 → 4 - p < n → (∀ j, j < p → sz j = 0) → wY_feedBack_4 post x1 yP yM yF yG yL yH mp n (nI p) sz yk yv yf ha yr := by
  intro n
  induction n with
  | zero => intro p sz _ h; omega
  | succ n ih =>
    intro p sz hp hn h2
    by_cases c : p < 4
    · have e : (nI p).toNatClampNeg = p := nI_clamp (by omega)
      refine br_f (nI_ge (b := 4) c (by omega)) ⟨vp_in_nI (by omega) (by decide), nm_r (e' := upd sz p 0) (by rw [e]) (nm_r (nI_1 p) (ih (p + 1) (upd sz p 0) c (by omega) (fun j hj => ?_)))⟩
      by_cases d : j = p
      · subst d; exact pk_us
      · rw [pk_un d]; exact h2 j (by omega)
    · have d : p = 4 := by omega
      subst d
      exact br_t (nI_le (b := 4) (Nat.le_refl _) (by omega)) (H sz h2)
theorem my_feedBack {post : Int32 → SY → Prop} {h : Nat → Bool} {P : Nat} (hP0 : 0 < P) (hP : P ≤ 4) (hh : ∀ q, q < 16 → ha q = mr_bit (h q))
    (H : ∀ sz' yk' yv', mr_Res h P yr (fun _ => 16) sz' yk' yv' → post (nI (mr_ct h 16)) ((nI P), yM, yF, yG, yL, yH, mp, sz', yk', yv', yf, ha, yr)) : wpY_feedBack post ((nI P), yM, yF, yG, yL, yH, mp, sz, yk, yv, yf, ha, yr) :=
  ⟨5, my_fb4 (fun sz' h0 => ⟨17, my_fb24 hP0 hP hh H 17 0 sz' yk yv (by omega) (by omega) (mr_Res_0 h0)⟩) 5 0 sz (by omega) (by omega) (fun _ h => absurd h (Nat.not_lt_zero _))⟩
end
