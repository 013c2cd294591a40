/-! the pure picture, 6: the sort's two loops, and the mapping of the input record by record -/
/-- f with the stretch from t to n - 1 moved on by one; t itself not yet written -/
def mr_sh (f : Nat → Int32) (t n : Nat) : Nat → Int32 := fun j => if j ≤ t then f j else if j ≤ n then f (j - 1) else f j
theorem mr_sh_n {f : Nat → Int32} {n : Nat} : mr_sh f n n = f := by
  funext j
  unfold mr_sh
  by_cases c : j ≤ n
  · rw [if_pos c]
  · rw [if_neg c, if_neg c]
theorem mr_sh_at {f : Nat → Int32} {t n j : Nat} (h : j ≤ t) : mr_sh f t n j = f j := if_pos h
theorem mr_sh_s {f : Nat → Int32} {t n : Nat} (h0 : 0 < t) (h : t ≤ n) : upd (mr_sh f t n) t (f (t - 1)) = mr_sh f (t - 1) n := by
  funext j
  by_cases c : j = t
  · subst c
    rw [pk_us]
    unfold mr_sh
    rw [if_neg (by omega), if_pos h]
  · rw [pk_un c]
    unfold mr_sh
    by_cases c1 : j ≤ t
    · rw [if_pos c1, if_pos (by omega)]
    · rw [if_neg c1, if_neg (show ¬ j ≤ t - 1 by omega)]
theorem mr_sh_in {f : Nat → Int32} {t n : Nat} {x : Int32} : upd (mr_sh f t n) t x = mr_in f t n x := by
  funext j
  by_cases c : j = t
  · subst c
    rw [pk_us, mr_in_eq]
  · rw [pk_un c]
    unfold mr_sh mr_in
    by_cases c1 : j ≤ t
    · rw [if_pos c1, if_pos (by omega)]
    · rw [if_neg c1, if_neg (show ¬ j < t by omega), if_neg c]
/-- the stretch from a to n - 1 is sorted, each key's values as they were; the rest as it was -/
def mr_Srt (pk0 pv0 pk pv : Nat → Int32) (a n : Nat) : Prop :=
  (∀ j, j < a ∨ n ≤ j → pk j = pk0 j ∧ pv j = pv0 j) ∧ (∀ q, mr_sv pk pv q a (n - a) = mr_sv pk0 pv0 q a (n - a)) ∧ mr_So pk a n
theorem mr_Srt_0 (pk pv : Nat → Int32) (a : Nat) : mr_Srt pk pv pk pv a (a + 1) := ⟨fun _ _ => ⟨rfl, rfl⟩, fun _ => rfl, fun i j h1 h2 h3 => by omega⟩
theorem mr_Srt_s {pk0 pv0 pk pv : Nat → Int32} {a t n : Nat} (R : mr_Srt pk0 pv0 pk pv a n) (hat : a ≤ t) (htn : t ≤ n) (hgt : ∀ j, t ≤ j → j < n → (pk n).toInt < (pk j).toInt)
    (hle : t = a ∨ (pk (t - 1)).toInt ≤ (pk n).toInt) : mr_Srt pk0 pv0 (mr_in pk t n (pk n)) (mr_in pv t n (pv n)) a (n + 1) := by
  obtain ⟨h1, h2, h3⟩ := R
  refine ⟨fun j hj => ?_, fun q => ?_, mr_So_ins h3 hat htn hgt hle⟩
  · cases hj with
    | inl h => rw [mr_in_lt (by omega), mr_in_lt (by omega)]; exact h1 j (Or.inl h)
    | inr h => rw [mr_in_hi htn (by omega), mr_in_hi htn (by omega)]; exact h1 j (Or.inr (by omega))
  · obtain ⟨e1, e2⟩ := h1 n (Or.inr (Nat.le_refl _))
    rw [mr_sv_ins hat htn hgt q, show n + 1 - a = (n - a) + 1 by omega, mr_sv_s, mr_sv_s, h2 q, show a + (n - a) = n by omega, e1, e2]
/-- the first n records are mapped: pc pairs, rn runs closed, the run that is being filled begins at rs -/
def mr_Map (c : Nat → Nat) (K V : Nat → Int32) (m fa og lo hi : Int32) (n : Nat) (pk pv st en : Nat → Int32) (rn rs pc : Nat) : Prop :=
  pc = mr_ct (mr_b c V lo hi) n ∧ (∀ q, mr_sv pk pv q 0 pc = mr_all c K V m fa og lo hi q n) ∧ (∃ S, mr_Runs pk st en rn rs S) ∧ rs ≤ pc
theorem mr_Map_0 (c : Nat → Nat) (K V : Nat → Int32) (m fa og lo hi : Int32) (pk pv st en : Nat → Int32) : mr_Map c K V m fa og lo hi 0 pk pv st en 0 0 0 :=
  ⟨rfl, fun _ => rfl, ⟨_, mr_Runs_0 pk st en⟩, Nat.le_refl _⟩
theorem mr_Map_drop {c : Nat → Nat} {K V : Nat → Int32} {m fa og lo hi : Int32} {n : Nat} {pk pv st en : Nat → Int32} {rn rs pc : Nat} (R : mr_Map c K V m fa og lo hi n pk pv st en rn rs pc)
    (h : mr_b c V lo hi n = false) : mr_Map c K V m fa og lo hi (n + 1) pk pv st en rn rs pc := by
  obtain ⟨h1, h2, h3⟩ := R
  refine ⟨?_, fun q => ?_, h3⟩
  · rw [mr_ct_s, h]; exact h1
  · rw [h2 q]
    unfold mr_all
    rw [mr_vs_s, h]
    simp
theorem mr_sv_put {pk pv : Nat → Int32} {n : Nat} {k v q : Int32} : mr_sv (upd pk n k) (upd pv n v) q 0 (n + 1) = mr_sv pk pv q 0 n ++ (if k = q then [v] else []) := by
  rw [mr_sv_s, Nat.zero_add, pk_us, pk_us, mr_sv_cg (pk := pk) (pv := pv) (a := 0) n (fun i hi => ⟨pk_un (by omega), pk_un (by omega)⟩)]
theorem mr_Map_put {c : Nat → Nat} {K V : Nat → Int32} {m fa og lo hi : Int32} {n : Nat} {pk pv st en : Nat → Int32} {rn rs pc : Nat} (R : mr_Map c K V m fa og lo hi n pk pv st en rn rs pc)
    (h : mr_b c V lo hi n = true) : mr_Map c K V m fa og lo hi (n + 1) (upd pk pc (mr_ky m (K n))) (upd pv pc (fa * V n + og)) st en rn rs (pc + 1) := by
  obtain ⟨h1, h2, ⟨S, h3⟩, h4⟩ := R
  refine ⟨?_, fun q => ?_, ⟨S, mr_Runs_cg h3 (fun j hj => pk_un (by omega))⟩, by omega⟩
  · rw [mr_ct_s, h, if_pos rfl, h1]
  · rw [mr_sv_put, h2 q]
    unfold mr_all
    rw [mr_vs_s, h]
    by_cases z : mr_ky m (K n) = q
    · rw [if_pos z, if_pos ⟨rfl, z⟩]; rfl
    · rw [if_neg z, if_neg (fun y => z y.2)]
theorem mr_Map_close {c : Nat → Nat} {K V : Nat → Int32} {m fa og lo hi : Int32} {n : Nat} {pk pv pk' pv' st en : Nat → Int32} {rn rs pc : Nat} (R : mr_Map c K V m fa og lo hi n pk pv st en rn rs pc)
    (h : rs < pc) (hs : mr_Srt pk pv pk' pv' rs pc) : mr_Map c K V m fa og lo hi n pk' pv' (upd st rn (nI rs)) (upd en rn (nI pc)) (rn + 1) pc pc := by
  obtain ⟨h1, h2, ⟨S, h3⟩, h4⟩ := R
  obtain ⟨g1, g2, g3⟩ := hs
  refine ⟨h1, fun q => ?_, ⟨_, mr_Runs_close h3 h g3 (fun j hj => (g1 j (Or.inl hj)).1)⟩, Nat.le_refl _⟩
  rw [← h2 q, show pc = rs + (pc - rs) by omega, mr_sv_add, mr_sv_add, Nat.zero_add, g2 q]
  rw [mr_sv_cg (pk := pk) (pv := pv) (a := 0) rs (fun i hi => g1 (0 + i) (Or.inl (by omega)))]
theorem mr_Map_le {c : Nat → Nat} {K V : Nat → Int32} {m fa og lo hi : Int32} {n : Nat} {pk pv st en : Nat → Int32} {rn rs pc : Nat} (R : mr_Map c K V m fa og lo hi n pk pv st en rn rs pc) : pc ≤ n ∧ rn ≤ rs ∧ rs ≤ pc := by
  obtain ⟨h1, h2, ⟨S, h3⟩, h4⟩ := R
  have a := mr_ct_le (mr_b c V lo hi) n
  have b := mr_Runs_ge h3 rn (Nat.le_refl _)
  rw [h3.2.1] at b
  exact ⟨by omega, b, h4⟩
theorem mr_Map_end {c : Nat → Nat} {K V : Nat → Int32} {m fa og lo hi : Int32} {s : Nat} {pk pv st en : Nat → Int32} {rn rs pc : Nat} (R : mr_Map c K V m fa og lo hi (16 * s + c s) pk pv st en rn rs pc)
    (hc : c s ≤ 16) : mr_Map c K V m fa og lo hi (16 * (s + 1)) pk pv st en rn rs pc := by
  obtain ⟨h1, h2, h3⟩ := R
  refine ⟨?_, fun q => ?_, h3⟩
  · rw [(mr_end (K := V) (m := m) (fa := fa) (og := og) (q := m) hc).2]; exact h1
  · rw [(mr_end hc).1]; exact h2 q
