/-! the pure picture, 3: a group's result, and the reference's five running numbers -/
def mr_s0 (r : Int32) : Int32 := if r = 1 then -2147483648 else if r = 2 then 2147483647 else if r = 4 then 7 else 0
def mr_st (r s v : Int32) : Int32 := if r = 0 then s + v else if r = 1 then (if s < v then v else s) else if r = 2 then (if v < s then v else s) else if r = 3 then s + 1 else 31 * s + v
def mr_fd (r : Int32) (l : List Int32) : Int32 := l.foldl (mr_st r) (mr_s0 r)
theorem mr_fd_snoc (r : Int32) (l : List Int32) (v : Int32) : mr_fd r (l ++ [v]) = mr_st r (mr_fd r l) v := by
  unfold mr_fd
  rw [List.foldl_append]
  rfl
theorem mr_st0 (s v : Int32) : mr_st 0 s v = s + v := by
  unfold mr_st
  rw [if_pos rfl]
theorem mr_st1 (s v : Int32) : mr_st 1 s v = if s < v then v else s := by
  unfold mr_st
  rw [if_neg (show ¬ (1 : Int32) = 0 by decide), if_pos rfl]
theorem mr_st2 (s v : Int32) : mr_st 2 s v = if v < s then v else s := by
  unfold mr_st
  rw [if_neg (show ¬ (2 : Int32) = 0 by decide), if_neg (show ¬ (2 : Int32) = 1 by decide), if_pos rfl]
theorem mr_st3 (s v : Int32) : mr_st 3 s v = s + 1 := by
  unfold mr_st
  rw [if_neg (show ¬ (3 : Int32) = 0 by decide), if_neg (show ¬ (3 : Int32) = 1 by decide), if_neg (show ¬ (3 : Int32) = 2 by decide), if_pos rfl]
theorem mr_st4 (s v : Int32) : mr_st 4 s v = 31 * s + v := by
  unfold mr_st
  rw [if_neg (show ¬ (4 : Int32) = 0 by decide), if_neg (show ¬ (4 : Int32) = 1 by decide), if_neg (show ¬ (4 : Int32) = 2 by decide), if_neg (show ¬ (4 : Int32) = 3 by decide)]
theorem mr_fn (r : Int32) : mr_fd r [] = mr_s0 r := rfl
theorem mr_z0 : mr_s0 0 = 0 := by decide
theorem mr_z1 : mr_s0 1 = -2147483648 := by decide
theorem mr_z2 : mr_s0 2 = 2147483647 := by decide
theorem mr_z3 : mr_s0 3 = 0 := by decide
theorem mr_z4 : mr_s0 4 = 7 := by decide
theorem mr_lst (v : Int32) : (if (-2147483648 : Int32) < v then v else -2147483648) = v := by
  by_cases c : (-2147483648 : Int32) < v
  · exact if_pos c
  · rw [if_neg c]
    have h := Int32.le_toInt v
    rw [Int32.lt_iff_toInt_lt, show (-2147483648 : Int32).toInt = -2147483648 from by decide] at c
    apply Int32.toInt_inj.mp
    rw [show (-2147483648 : Int32).toInt = -2147483648 from by decide]
    omega
theorem mr_gst (v : Int32) : (if v < (2147483647 : Int32) then v else 2147483647) = v := by
  by_cases c : v < (2147483647 : Int32)
  · exact if_pos c
  · rw [if_neg c]
    have h := Int32.toInt_lt v
    rw [Int32.lt_iff_toInt_lt, show (2147483647 : Int32).toInt = 2147483647 from by decide] at c
    apply Int32.toInt_inj.mp
    rw [show (2147483647 : Int32).toInt = 2147483647 from by decide]
    omega
/-- the reference's h, sum, count, most, least over the values l -/
def mr_Y (l : List Int32) (h sum count most least : Int32) : Prop :=
  h = mr_fd 4 l ∧ sum = mr_fd 0 l ∧ count = nI l.length ∧ count = mr_fd 3 l ∧ (l ≠ [] → most = mr_fd 1 l) ∧ (l ≠ [] → least = mr_fd 2 l)
theorem mr_Y0 (a b : Int32) : mr_Y [] 7 0 0 a b := ⟨by rw [mr_fn, mr_z4], by rw [mr_fn, mr_z0], nI_0.symm, by rw [mr_fn, mr_z3], fun z => absurd rfl z, fun z => absurd rfl z⟩
theorem mr_Y1 {l : List Int32} {h sum count most least : Int32} (Y : mr_Y l h sum count most least) (w : Int32) (hl : l.length < 2 ^ 31) :
    mr_Y (l ++ [w]) (31 * h + w) (sum + w) (count + 1) (if count = 0 ∨ most < w then w else most) (if count = 0 ∨ w < least then w else least) := by
  obtain ⟨e1, e2, e3, e4, e5, e6⟩ := Y
  have n1 : nI l.length + 1 = nI (l ++ [w]).length := by rw [nI_1, List.length_append]; rfl
  refine ⟨?_, ?_, ?_, ?_, ?_, ?_⟩
  · rw [mr_fd_snoc, e1, mr_st4]
  · rw [mr_fd_snoc, e2, mr_st0]
  · rw [e3, n1]
  · rw [mr_fd_snoc, e4, mr_st3]
  · intro _
    rw [mr_fd_snoc, mr_st1]
    by_cases c : l = []
    · subst c
      have c0 : count = 0 := e3.trans nI_0
      rw [if_pos (Or.inl c0), mr_fn, mr_z1]
      exact (mr_lst w).symm
    · have c0 : ¬ count = 0 := by
        rw [e3]
        exact nI_ne0 (List.length_pos_iff.mpr c) hl
      rw [e5 c]
      by_cases d : mr_fd 1 l < w
      · rw [if_pos (Or.inr d), if_pos d]
      · rw [if_neg (fun z => z.elim c0 d), if_neg d]
  · intro _
    rw [mr_fd_snoc, mr_st2]
    by_cases c : l = []
    · subst c
      have c0 : count = 0 := e3.trans nI_0
      rw [if_pos (Or.inl c0), mr_fn, mr_z2]
      exact (mr_gst w).symm
    · have c0 : ¬ count = 0 := by
        rw [e3]
        exact nI_ne0 (List.length_pos_iff.mpr c) hl
      rw [e6 c]
      by_cases d : w < mr_fd 2 l
      · rw [if_pos (Or.inr d), if_pos d]
      · rw [if_neg (fun z => z.elim c0 d), if_neg d]
/-- a record's key by the modulus m -/
def mr_ky (m k : Int32) : Int32 := if k - k / m * m < 0 then k - k / m * m + m else k - k / m * m
theorem mr_ky_of {M : Nat} (h0 : 0 < M) (h1 : M < 2 ^ 30) (k : Int32) : ∃ j, j < M ∧ mr_ky (nI M) k = nI j := by
  have hM : (nI M).toInt = (M : Int) := nI_toInt (by omega)
  have hb := tmod_bounds (a := k.toInt) (M := (nI M).toInt) (by rw [hM]; omega)
  have hr := rem_toInt k (nI M)
  rw [← hr, hM] at hb
  have z : (0 : Int32).toInt = 0 := by decide
  unfold mr_ky
  generalize k - k / nI M * nI M = x at hb ⊢
  by_cases c : x < 0
  · rw [if_pos c]
    rw [Int32.lt_iff_toInt_lt, z] at c
    have hs : (x + nI M).toInt = x.toInt + M := by
      rw [Int32.toInt_add, hM]
      exact Int.bmod_eq_of_le (by omega) (by omega)
    refine ⟨(x.toInt + M).toNat, by omega, ?_⟩
    apply Int32.toInt_inj.mp
    rw [hs, nI_toInt (by omega)]
    omega
  · rw [if_neg c]
    rw [Int32.lt_iff_toInt_lt, z] at c
    refine ⟨x.toInt.toNat, by omega, ?_⟩
    apply Int32.toInt_inj.mp
    rw [nI_toInt (by omega)]
    omega
