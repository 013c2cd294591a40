/-! the relation -/
/-- what both sides keep: the same settings; the same records; the same failures to come; the results of the same keys, the component's by part and rank -/
def mr_Rel (u : SX) (v : SY) : Prop :=
  ∃ (P B M : Nat) (c : Nat → Nat) (h : Nat → Bool) (xF xG xL xH pc rn gs gr : Int32) (rk rv rc mf rf pk pv rs re cu ok ov oc sz yk yv yf ha yr : Nat → Int32),
    u = ((nI P), (nI B), (nI M), xF, xG, xL, xH, pc, rn, gs, gr, rk, rv, rc, mf, rf, pk, pv, rs, re, cu, ok, ov, oc) ∧ v = (nI P, nI M, xF, xG, xL, xH, pc, sz, yk, yv, yf, ha, yr) ∧
    (1 ≤ P ∧ P ≤ 4) ∧ (2 ≤ B ∧ B ≤ 8) ∧ (1 ≤ M ∧ M ≤ 16) ∧ mr_Rec c rc rk rv sz yk yv ∧
    (∀ s, s < 4 → mf s = yf s) ∧ (∀ p, p < P → rf p = yf (4 + p)) ∧ (∀ p, P ≤ p → p < 4 → yf (4 + p) = 0) ∧
    (∀ q, q < 16 → ha q = mr_bit (h q)) ∧ mr_Res h P yr (fun _ => 16) oc ok ov
def i_Rel (k : Nat) (u : SX) (v : SY) : Prop := mr_Rel u v
theorem i_up {k : Nat} {u : SX} {v : SY} (h : i_Rel k u v) : i_Rel (k + 4) u v := h
theorem mr_rel0 {P B : Nat} (hP : 1 ≤ P ∧ P ≤ 4) (hB : 2 ≤ B ∧ B ≤ 8) :
    mr_Rel (nI P, nI B, 16, 1, 0, (-2147483648), 2147483647, 0, 0, 0, 0, (fun _ => 0), (fun _ => 0), (fun _ => 0), (fun _ => 0), (fun _ => 0), (fun _ => 0), (fun _ => 0), (fun _ => 0), (fun _ => 0), (fun _ => 0), (fun _ => 0), (fun _ => 0), (fun _ => 0))
      (nI P, 16, 1, 0, (-2147483648), 2147483647, 0, (fun _ => 0), (fun _ => 0), (fun _ => 0), (fun _ => 0), (fun _ => 0), (fun _ => 0)) :=
  ⟨P, B, 16, fun _ => 0, fun _ => false, 1, 0, (-2147483648), 2147483647, 0, 0, 0, 0, fun _ => 0, fun _ => 0, fun _ => 0, fun _ => 0, fun _ => 0, fun _ => 0, fun _ => 0, fun _ => 0, fun _ => 0, fun _ => 0, fun _ => 0, fun _ => 0, fun _ => 0,
    fun _ => 0, fun _ => 0, fun _ => 0, fun _ => 0, fun _ => 0, fun _ => 0, rfl, rfl, hP, hB, by omega, fun _ _ => ⟨Nat.zero_le _, nI_0.symm, nI_0.symm, fun _ _ => ⟨rfl, rfl⟩⟩,
    fun _ _ => rfl, fun _ _ => rfl, fun _ _ _ => rfl, fun _ _ => (mr_bit_f (show ¬ false = true by decide)).symm, mr_Res_gu (fun _ _ => rfl)⟩
theorem i_vc0 (k0 : Int32) (k1 : Int32) : wpX_init (fun u => wpY_init (fun v => i_Rel 2 u v) k0 k1) k0 k1 := by
  by_cases h1 : (1 : Int32) ≤ k0
  · by_cases h4 : k0 ≤ 4
    · have h0 : ¬ k0 < 0 := Int32.not_lt.mpr (Int32.le_trans (by decide) h1)
      obtain ⟨P, hP, rfl⟩ := nI_of h0
      have a1 : 1 ≤ P := (nI_leI (a := 1) (by omega) hP).mp h1
      have a4 : P ≤ 4 := (nI_leI (b := 4) hP (by omega)).mp h4
      exact br_t h1 (br_t h4 (mx_clamp 2 8 (by omega) (by omega) (fun B b1 b2 => br_t h1 (br_t h4 (mr_rel0 ⟨a1, a4⟩ ⟨b1, b2⟩)))))
    · exact br_t h1 (br_f h4 (mx_clamp 2 8 (by omega) (by omega) (fun B b1 b2 => br_t h1 (br_f h4 (mr_rel0 (P := 4) ⟨by omega, by omega⟩ ⟨b1, b2⟩)))))
  · exact br_f h1 (mx_clamp 2 8 (by omega) (by omega) (fun B b1 b2 => br_f h1 (mr_rel0 (P := 1) ⟨by omega, by omega⟩ ⟨b1, b2⟩)))
