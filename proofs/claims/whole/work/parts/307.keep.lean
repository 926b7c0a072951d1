/-! what the reference keeps of a state, and puts back -/
theorem zk2 {I : zI} : ∀ (j k n : Nat) (J : zI), k + j = 8 → j < n → (∀ b, b ≠ 87 → J b = I b) → (∀ i, i < k → J 87 i = I 75 i ∧ J 87 (8 + i) = I 76 i) → ∃ J', Mo_keepNow_L2 n (zN k) J = some J' ∧ (∀ b, b ≠ 87 → J' b = I b) ∧ ∀ i, i < 8 → J' 87 i = I 75 i ∧ J' 87 (8 + i) = I 76 i := by
  intro j
  induction j with
  | zero =>
    intro k n J hk hn h1 h2
    obtain ⟨n, rfl⟩ : ∃ e, n = e + 1 := ⟨n - 1, by omega⟩
    rw [Mo_keepNow_L2, zl_8, if_pos ((zN_le (by decide) (by omega)).mpr (by omega))]
    exact ⟨J, rfl, h1, fun i hi => h2 i (by omega)⟩
  | succ j ih =>
    intro k n J hk hn h1 h2
    obtain ⟨n, rfl⟩ : ∃ e, n = e + 1 := ⟨n - 1, by omega⟩
    rw [Mo_keepNow_L2, if_neg (by rw [zl_8, zN_le (by decide) (by omega)]; omega)]
    simp only [zl_8, zl_1, zN_add, zN_tn (show k < 2147483648 by omega), zN_tn (show 8 + k < 2147483648 by omega)]
    rw [if_pos ((zN_in (by omega)).mpr (by omega)), if_pos ((zN_in (by omega)).mpr (by omega)), if_pos ((zN_in (by omega)).mpr (by omega)), if_pos ((zN_in (by omega)).mpr (by omega))]
    refine ih (k + 1) n _ (by omega) (by omega) (fun b b1 => by rw [zUp_ne b1, zUp_ne b1, h1 b b1]) (fun i hi => ⟨?_, ?_⟩)
    · rw [zUp_nj (by omega), zUp_at]
      by_cases q : i = k
      · rw [if_pos q, h1 75 (by decide), q]
      · rw [if_neg q]
        exact (h2 i (by omega)).1
    · rw [zUp_at]
      by_cases q : i = k
      · rw [if_pos (by omega), zUp_ne (by decide), h1 76 (by decide), q]
      · rw [if_neg (by omega), zUp_nj (by omega)]
        exact (h2 i (by omega)).2
theorem zk43 {I : zI} : ∀ (j k n : Nat) (J : zI), k + j = 10 → j < n → (∀ b, b ≠ 87 → J b = I b) → (∀ i, i < 8 → J 87 i = I 75 i ∧ J 87 (8 + i) = I 76 i) → (∀ i, i < k → J 87 (16 + i) = I 77 i ∧ J 87 (26 + i) = I 78 i) → ∃ J', Mo_keepNow_L43 n (zN k) J = some J' ∧ (∀ b, b ≠ 87 → J' b = I b) ∧ (∀ i, i < 8 → J' 87 i = I 75 i ∧ J' 87 (8 + i) = I 76 i) ∧ ∀ i, i < 10 → J' 87 (16 + i) = I 77 i ∧ J' 87 (26 + i) = I 78 i := by
  intro j
  induction j with
  | zero =>
    intro k n J hk hn h1 h0 h2
    obtain ⟨n, rfl⟩ : ∃ e, n = e + 1 := ⟨n - 1, by omega⟩
    rw [Mo_keepNow_L43, zl_10, if_pos ((zN_le (by decide) (by omega)).mpr (by omega))]
    exact ⟨J, rfl, h1, h0, fun i hi => h2 i (by omega)⟩
  | succ j ih =>
    intro k n J hk hn h1 h0 h2
    obtain ⟨n, rfl⟩ : ∃ e, n = e + 1 := ⟨n - 1, by omega⟩
    rw [Mo_keepNow_L43, if_neg (by rw [zl_10, zN_le (by decide) (by omega)]; omega)]
    simp only [zl_16, zl_26, zl_1, zN_add, zN_tn (show k < 2147483648 by omega), zN_tn (show 16 + k < 2147483648 by omega), zN_tn (show 26 + k < 2147483648 by omega)]
    rw [if_pos ((zN_in (by omega)).mpr (by omega)), if_pos ((zN_in (by omega)).mpr (by omega)), if_pos ((zN_in (by omega)).mpr (by omega)), if_pos ((zN_in (by omega)).mpr (by omega))]
    refine ih (k + 1) n _ (by omega) (by omega) (fun b b1 => by rw [zUp_ne b1, zUp_ne b1, h1 b b1]) (fun i hi => ⟨?_, ?_⟩) (fun i hi => ⟨?_, ?_⟩)
    · rw [zUp_nj (by omega), zUp_nj (by omega)]
      exact (h0 i hi).1
    · rw [zUp_nj (by omega), zUp_nj (by omega)]
      exact (h0 i hi).2
    · rw [zUp_nj (by omega), zUp_at]
      by_cases q : i = k
      · rw [if_pos (by omega), h1 77 (by decide), q]
      · rw [if_neg (by omega)]
        exact (h2 i (by omega)).1
    · rw [zUp_at]
      by_cases q : i = k
      · rw [if_pos (by omega), zUp_ne (by decide), h1 78 (by decide), q]
      · rw [if_neg (by omega), zUp_nj (by omega)]
        exact (h2 i (by omega)).2
/-- a state is kept -/
def KP (J : zI) (s : zA) : Prop := (∀ i, i < 8 → J 87 i = zN (s 1 i) ∧ J 87 (8 + i) = zE (s 3 i)) ∧ (∀ i, i < 10 → J 87 (16 + i) = zE (s 3 (10 + i)) ∧ J 87 (26 + i) = if s 3 (10 + i) < 100 then zN (s 4 (s 3 (10 + i))) else -(zN 6)) ∧ J 87 36 = zN (s 5 0) ∧ J 87 37 = zN (s 5 1)
theorem zkeep {I : zI} {s : zA} (h : GM I s) {n : Nat} (hn : 20 < n) : ∃ J, Mo_keepNow n I = some J ∧ (∀ b, b ≠ 87 → J b = I b) ∧ KP J s := by
  unfold Mo_keepNow
  obtain ⟨J1, e1, e2, e3⟩ := zk2 (I := I) 8 0 n I rfl (by omega) (fun _ _ => rfl) (fun i hi => absurd hi (Nat.not_lt_zero i))
  obtain ⟨J2, f1, f2, f3, f4⟩ := zk43 (I := I) 10 0 n J1 rfl (by omega) e2 e3 (fun i hi => absurd hi (Nat.not_lt_zero i))
  rw [zl_0, e1, Option.bind_some, f1, Option.bind_some]
  refine ⟨_, rfl, fun b b1 => by rw [zUp_ne b1, zUp_ne b1, f2 b b1], fun i hi => ⟨?_, ?_⟩, fun i hi => ⟨?_, ?_⟩, ?_, ?_⟩
  · rw [zUp_nj (by omega), zUp_nj (by omega), (f3 i hi).1, gm_p h hi]
  · rw [zUp_nj (by omega), zUp_nj (by omega), (f3 i hi).2, gm_h h hi]
  · rw [zUp_nj (by omega), zUp_nj (by omega), (f4 i hi).1, gm_t h hi]
  · rw [zUp_nj (by omega), zUp_nj (by omega), (f4 i hi).2, gm_f h hi]
  · rw [zUp_nj (by decide), zUp_eq, f2 73 (by decide), gm_cu h]
  · rw [zUp_eq, zUp_ne (by decide), f2 73 (by decide), gm_day h]
theorem zb2 {I : zI} {v : Int32} : ∀ (j k n : Nat) (J : zI), k + j = 8 → j < n → (∀ b, b ≠ 75 → b ≠ 76 → J b = I b) → (∀ i, i < k → J 75 i = I 87 i ∧ J 76 i = I 87 (8 + i)) → ∃ J', Mo_back_L2 n v (zN k) J = some J' ∧ (∀ b, b ≠ 75 → b ≠ 76 → J' b = I b) ∧ ∀ i, i < 8 → J' 75 i = I 87 i ∧ J' 76 i = I 87 (8 + i) := by
  intro j
  induction j with
  | zero =>
    intro k n J hk hn h1 h2
    obtain ⟨n, rfl⟩ : ∃ e, n = e + 1 := ⟨n - 1, by omega⟩
    rw [Mo_back_L2, zl_8, if_pos ((zN_le (by decide) (by omega)).mpr (by omega))]
    exact ⟨J, rfl, h1, fun i hi => h2 i (by omega)⟩
  | succ j ih =>
    intro k n J hk hn h1 h2
    obtain ⟨n, rfl⟩ : ∃ e, n = e + 1 := ⟨n - 1, by omega⟩
    rw [Mo_back_L2, if_neg (by rw [zl_8, zN_le (by decide) (by omega)]; omega)]
    simp only [zl_8, zl_1, zN_add, zN_tn (show k < 2147483648 by omega), zN_tn (show 8 + k < 2147483648 by omega)]
    rw [if_pos ((zN_in (by omega)).mpr (by omega)), if_pos ((zN_in (by omega)).mpr (by omega)), if_pos ((zN_in (by omega)).mpr (by omega)), if_pos ((zN_in (by omega)).mpr (by omega))]
    refine ih (k + 1) n _ (by omega) (by omega) (fun b b1 b2 => by rw [zUp_ne b2, zUp_ne b1, h1 b b1 b2]) (fun i hi => ⟨?_, ?_⟩)
    · rw [zUp_ne (by decide), zUp_at]
      by_cases q : i = k
      · rw [if_pos q, h1 87 (by decide) (by decide), q]
      · rw [if_neg q]
        exact (h2 i (by omega)).1
    · rw [zUp_at]
      by_cases q : i = k
      · rw [if_pos q, zUp_ne (by decide), h1 87 (by decide) (by decide), q]
      · rw [if_neg q, zUp_ne (by decide)]
        exact (h2 i (by omega)).2
theorem zb43 {I : zI} {v : Int32} : ∀ (j k n : Nat) (J : zI), k + j = 10 → j < n → (∀ b, b ≠ 77 → b ≠ 78 → J b = I b) → (∀ i, i < k → J 77 i = I 87 (16 + i) ∧ J 78 i = I 87 (26 + i)) → ∃ J', Mo_back_L43 n v (zN k) J = some J' ∧ (∀ b, b ≠ 77 → b ≠ 78 → J' b = I b) ∧ ∀ i, i < 10 → J' 77 i = I 87 (16 + i) ∧ J' 78 i = I 87 (26 + i) := by
  intro j
  induction j with
  | zero =>
    intro k n J hk hn h1 h2
    obtain ⟨n, rfl⟩ : ∃ e, n = e + 1 := ⟨n - 1, by omega⟩
    rw [Mo_back_L43, zl_10, if_pos ((zN_le (by decide) (by omega)).mpr (by omega))]
    exact ⟨J, rfl, h1, fun i hi => h2 i (by omega)⟩
  | succ j ih =>
    intro k n J hk hn h1 h2
    obtain ⟨n, rfl⟩ : ∃ e, n = e + 1 := ⟨n - 1, by omega⟩
    rw [Mo_back_L43, if_neg (by rw [zl_10, zN_le (by decide) (by omega)]; omega)]
    simp only [zl_16, zl_26, zl_1, zN_add, zN_tn (show k < 2147483648 by omega), zN_tn (show 16 + k < 2147483648 by omega), zN_tn (show 26 + k < 2147483648 by omega)]
    rw [if_pos ((zN_in (by omega)).mpr (by omega)), if_pos ((zN_in (by omega)).mpr (by omega)), if_pos ((zN_in (by omega)).mpr (by omega)), if_pos ((zN_in (by omega)).mpr (by omega))]
    refine ih (k + 1) n _ (by omega) (by omega) (fun b b1 b2 => by rw [zUp_ne b2, zUp_ne b1, h1 b b1 b2]) (fun i hi => ⟨?_, ?_⟩)
    · rw [zUp_ne (by decide), zUp_at]
      by_cases q : i = k
      · rw [if_pos q, h1 87 (by decide) (by decide), q]
      · rw [if_neg q]
        exact (h2 i (by omega)).1
    · rw [zUp_at]
      by_cases q : i = k
      · rw [if_pos q, zUp_ne (by decide), h1 87 (by decide) (by decide), q]
      · rw [if_neg q, zUp_ne (by decide)]
        exact (h2 i (by omega)).2
theorem zback {J : zI} {s s' : zA} (hk : KP J s) (h : GM J s') (h0 : s' 0 = s 0) (h6 : s' 6 = s 6) (h52 : s' 5 2 = s 5 2) {n : Nat} (v : Int32) (hn : 20 < n) : ∃ J', Mo_back n v J = some (v, J') ∧ GM J' s ∧ (∀ b, b ≠ 73 → b ≠ 75 → b ≠ 76 → b ≠ 77 → b ≠ 78 → J' b = J b) ∧ (∀ i, i ≠ 5 → i ≠ 6 → J' 73 i = J 73 i) := by
  unfold Mo_back
  obtain ⟨J1, e1, e2, e3⟩ := zb2 (I := J) (v := v) 8 0 n J rfl (by omega) (fun _ _ _ => rfl) (fun i hi => absurd hi (Nat.not_lt_zero i))
  obtain ⟨J2, f1, f2, f3⟩ := zb43 (I := J1) (v := v) 10 0 n J1 rfl (by omega) (fun _ _ _ => rfl) (fun i hi => absurd hi (Nat.not_lt_zero i))
  rw [zl_0, e1, Option.bind_some, f1, Option.bind_some]
  obtain ⟨k1, k2, k3, k4⟩ := hk
  have fr : ∀ b, b ≠ 75 → b ≠ 76 → b ≠ 77 → b ≠ 78 → J2 b = J b := fun b b1 b2 b3 b4 => by rw [f2 b b3 b4, e2 b b1 b2]
  obtain ⟨g0, g1, g2, g3, g4, g5, g6, g7, g8, g9, ga⟩ := h
  refine ⟨_, rfl, ⟨fun i hi => ?_, fun i hi => ?_, fun i hi => ?_, fun i hi => ?_, fun i hi => ?_, fun i hi => ?_, fun i hi => ?_, fun i hi => ?_, ?_, ?_, ?_⟩, fun b b1 b2 b3 b4 b5 => by rw [zUp_ne b1, zUp_ne b1, fr b b2 b3 b4 b5], fun i i1 i2 => by rw [zUp_nj i2, zUp_nj i1, fr 73 (by decide) (by decide) (by decide) (by decide)]⟩
  · rw [zUp_ne (by decide), zUp_ne (by decide), fr 74 (by decide) (by decide) (by decide) (by decide), ← h0]
    exact g0 i hi
  · rw [zUp_ne (by decide), zUp_ne (by decide), f2 75 (by decide) (by decide), (e3 i hi).1, (k1 i hi).1]
  · rw [zUp_ne (by decide), zUp_ne (by decide), f2 76 (by decide) (by decide), (e3 i hi).2, (k1 i hi).2]
  · rw [zUp_ne (by decide), zUp_ne (by decide), (f3 i hi).1, e2 87 (by decide) (by decide), (k2 i hi).1]
  · rw [zUp_ne (by decide), zUp_ne (by decide), (f3 i hi).2, e2 87 (by decide) (by decide), (k2 i hi).2]
  · rw [zUp_ne (by decide), zUp_ne (by decide), fr 79 (by decide) (by decide) (by decide) (by decide), ← h6]
    exact g5 i hi
  · rw [zUp_ne (by decide), zUp_ne (by decide), fr 80 (by decide) (by decide) (by decide) (by decide), ← h6]
    exact g6 i hi
  · rw [zUp_ne (by decide), zUp_ne (by decide), fr 81 (by decide) (by decide) (by decide) (by decide), ← h6]
    exact g7 i hi
  · rw [zUp_nj (by decide), zUp_eq, fr 87 (by decide) (by decide) (by decide) (by decide), k3]
  · rw [zUp_eq, zUp_ne (by decide), fr 87 (by decide) (by decide) (by decide) (by decide), k4]
  · rw [zUp_nj (by decide), zUp_nj (by decide), fr 73 (by decide) (by decide) (by decide) (by decide), ← h52]
    exact ga
