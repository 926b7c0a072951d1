/-! evenings, exactly -/
theorem zlcmp (x y : Int64) : (lg_cmp x y = 0) ↔ x = y := by
  unfold lg_cmp
  by_cases h : x > y
  · rw [if_pos h]
    constructor
    · intro z
      exact absurd z (by decide)
    · intro z
      rw [z] at h
      exact absurd h (Int64.lt_irrefl)
  · rw [if_neg h]
    by_cases q : x = y
    · rw [if_pos q]
      exact ⟨fun _ => q, fun _ => rfl⟩
    · rw [if_neg q]
      exact ⟨fun z => absurd z (by decide), fun z => absurd z q⟩
theorem zlc0 : lg_cmp (zJ 0) 0 = 0 := (zlcmp _ _).mpr rfl
theorem zpowL {I : zI} {b m : Nat} (hb : b < 100) (hm : m < 100) : ∀ (j i n : Nat), i + j = m → j < n → BM_power_L5 n (zN b) (zN m) (zJ (b ^ i)) (zN i) I = some (zJ (b ^ m)) := by
  intro j
  induction j with
  | zero =>
    intro i n hi hn
    obtain ⟨n, rfl⟩ : ∃ e, n = e + 1 := ⟨n - 1, by omega⟩
    rw [BM_power_L5, if_pos ((zN_le (by omega) (by omega)).mpr (by omega)), show i = m by omega]
  | succ j ih =>
    intro i n hi hn
    obtain ⟨n, rfl⟩ : ∃ e, n = e + 1 := ⟨n - 1, by omega⟩
    rw [BM_power_L5, if_neg (by rw [zN_le (by omega) (by omega)]; omega), zJ_of b (by omega), zJ_mul, ← Nat.pow_succ, zl_1, zN_add]
    exact ih (i + 1) n (by omega) (by omega)
theorem zpow {I : zI} {b m n : Nat} (hb : b < 100) (hm : m < 100) (hn : 200 < n) : BM_power n (zN b) (zN m) I = some (zJ (b ^ m)) := by
  unfold BM_power
  rw [show BM_power_L5 n (zN b) (zN m) 1 0 I = _ from zpowL hb hm m 0 n (by omega) (by omega), Option.bind_some]
theorem zmevL2 {I : zI} {k m : Nat} {w p : Int32} (hk : k < 100) (hk0 : 1 ≤ k) (hm : m < 100) : ∀ (j i n : Nat), i + j = m → j < n → Mo_evenings_L58 n (zN m) (zN k) w p (zJ (k ^ i)) (zJ ((k - 1) ^ i)) (zN i) I = some (zJ (k ^ m), zJ ((k - 1) ^ m)) := by
  intro j
  induction j with
  | zero =>
    intro i n hi hn
    obtain ⟨n, rfl⟩ : ∃ e, n = e + 1 := ⟨n - 1, by omega⟩
    rw [Mo_evenings_L58, if_pos ((zN_le (by omega) (by omega)).mpr (by omega)), show i = m by omega]
  | succ j ih =>
    intro i n hi hn
    obtain ⟨n, rfl⟩ : ∃ e, n = e + 1 := ⟨n - 1, by omega⟩
    rw [Mo_evenings_L58, if_neg (by rw [zN_le (by omega) (by omega)]; omega), zl_1, zN_sub hk0, zJ_of k (by omega), zJ_of (k - 1) (by omega), zJ_mul, zJ_mul, ← Nat.pow_succ, ← Nat.pow_succ, zN_add]
    exact ih (i + 1) n (by omega) (by omega)
/-- the greatest that divides both, in some turns -/
theorem zgcdL {I : zI} : ∀ (k g l n i : Nat), l < 2 ^ k → g < 9223372036854775808 → l < 9223372036854775808 → i + 2 * k + 1 ≤ 200 → 2 * k + 1 < n → BM_commonDivisor_L9 n (zJ g) (zJ l) (zN i) I = some (zJ (Nat.gcd l g)) := by
  intro k
  induction k with
  | zero =>
    intro g l n i hl hg hl2 hi hn
    obtain ⟨n, rfl⟩ : ∃ e, n = e + 1 := ⟨n - 1, by omega⟩
    have : l = 0 := by omega
    subst this
    rw [BM_commonDivisor_L9, if_neg (by rw [zl_200, zN_le (by decide) (by omega)]; omega), if_pos zlc0, Nat.gcd_zero_left]
  | succ k ih =>
    intro g l n i hl hg hl2 hi hn
    obtain ⟨n, rfl⟩ : ∃ e, n = e + 1 := ⟨n - 1, by omega⟩
    rw [BM_commonDivisor_L9, if_neg (by rw [zl_200, zN_le (by decide) (by omega)]; omega)]
    by_cases q : l = 0
    · subst q
      rw [if_pos zlc0, Nat.gcd_zero_left]
    · have hne : ¬ (zJ l = 0) := fun z => q ((zJ_inj hl2 (by decide)).mp (z.trans (rfl : (0 : Int64) = zJ 0)))
      rw [if_neg (fun z => hne ((zlcmp _ _).mp z)), if_pos hne, zJ_rem hg hl2, zl_1, zN_add]
      obtain ⟨n, rfl⟩ : ∃ e, n = e + 1 := ⟨n - 1, by omega⟩
      have hr : g % l < l := Nat.mod_lt g (by omega)
      rw [BM_commonDivisor_L9, if_neg (by rw [zl_200, zN_le (by decide) (by omega)]; omega)]
      by_cases q2 : g % l = 0
      · rw [q2, if_pos zlc0, Nat.gcd_rec, q2, Nat.gcd_zero_left]
      · have hne2 : ¬ (zJ (g % l) = 0) := fun z => q2 ((zJ_inj (by omega) (by decide)).mp (z.trans (rfl : (0 : Int64) = zJ 0)))
        rw [if_neg (fun z => hne2 ((zlcmp _ _).mp z)), if_pos hne2, zJ_rem hl2 (by omega), zl_1, zN_add]
        have hr2 : l % (g % l) < g % l := Nat.mod_lt l (by omega)
        have hlt : l % (g % l) < 2 ^ k := by
          have h2 : 2 ^ (k + 1) = 2 * 2 ^ k := by rw [Nat.pow_succ]; omega
          by_cases q3 : g % l ≤ l / 2
          · omega
          · have : l % (g % l) = l - g % l := by
              rw [Nat.mod_eq_sub_mod (by omega), Nat.mod_eq_of_lt (by omega)]
            omega
        rw [ih (g % l) (l % (g % l)) n (i + 1 + 1) hlt (by omega) (by omega) (by omega) (by omega), Nat.gcd_rec l g, Nat.gcd_rec (g % l) l]
theorem zgcdM {I : zI} {v0 v2 : Int64} {v4 : Int32} : ∀ (k g l n : Nat), l < 2 ^ k → g < 9223372036854775808 → l < 9223372036854775808 → 2 * k + 1 < n → Mo_lowest_L6 n v0 v2 v4 (zJ g) (zJ l) I = some (zJ (Nat.gcd l g)) := by
  intro k
  induction k with
  | zero =>
    intro g l n hl hg hl2 hn
    obtain ⟨n, rfl⟩ : ∃ e, n = e + 1 := ⟨n - 1, by omega⟩
    have : l = 0 := by omega
    subst this
    rw [Mo_lowest_L6, if_pos zlc0, Nat.gcd_zero_left]
  | succ k ih =>
    intro g l n hl hg hl2 hn
    obtain ⟨n, rfl⟩ : ∃ e, n = e + 1 := ⟨n - 1, by omega⟩
    rw [Mo_lowest_L6]
    by_cases q : l = 0
    · subst q
      rw [if_pos zlc0, Nat.gcd_zero_left]
    · have hne : ¬ (zJ l = 0) := fun z => q ((zJ_inj hl2 (by decide)).mp (z.trans (rfl : (0 : Int64) = zJ 0)))
      rw [if_neg (fun z => hne ((zlcmp _ _).mp z)), if_pos hne, zJ_rem hg hl2]
      obtain ⟨n, rfl⟩ : ∃ e, n = e + 1 := ⟨n - 1, by omega⟩
      have hr : g % l < l := Nat.mod_lt g (by omega)
      rw [Mo_lowest_L6]
      by_cases q2 : g % l = 0
      · rw [q2, if_pos zlc0, Nat.gcd_rec, q2, Nat.gcd_zero_left]
      · have hne2 : ¬ (zJ (g % l) = 0) := fun z => q2 ((zJ_inj (by omega) (by decide)).mp (z.trans (rfl : (0 : Int64) = zJ 0)))
        rw [if_neg (fun z => hne2 ((zlcmp _ _).mp z)), if_pos hne2, zJ_rem hl2 (by omega)]
        have hr2 : l % (g % l) < g % l := Nat.mod_lt l (by omega)
        have hlt : l % (g % l) < 2 ^ k := by
          have h2 : 2 ^ (k + 1) = 2 * 2 ^ k := by rw [Nat.pow_succ]; omega
          by_cases q3 : g % l ≤ l / 2
          · omega
          · have : l % (g % l) = l - g % l := by
              rw [Nat.mod_eq_sub_mod (by omega), Nat.mod_eq_of_lt (by omega)]
            omega
        rw [ih (g % l) (l % (g % l)) n hlt (by omega) (by omega) (by omega), Nat.gcd_rec l g, Nat.gcd_rec (g % l) l]
theorem zpw : ∀ k, k < 11 → ∀ m, m < 13 → k ^ m < 2 ^ 40 := by decide +kernel
theorem c_evenings {I : zI} {n : Nat} (hn : 5000 < n) (a0 a1 a2 a3 : Int32) : ∃ r, BM_evenings n a0 a1 a2 a3 I = some r ∧ Mo_evenings n a0 a1 a2 a3 I = some r := by
  unfold BM_evenings Mo_evenings
  rcases zW_c 0 12 a0 (by decide) (by decide) with ⟨m, -, hm, rfl, ea⟩ | ⟨ea, -⟩
  · rcases zW_c 1 10 a1 (by decide) (by decide) with ⟨k, hk1, hk, rfl, eb⟩ | ⟨eb, -⟩
    · rcases zW_c 0 1 a2 (by decide) (by decide) with ⟨w, -, hw, rfl, ec⟩ | ⟨ec, -⟩
      · rcases zW_c 0 1 a3 (by decide) (by decide) with ⟨p, -, hp, rfl, ed⟩ | ⟨ed, -⟩
        · have hA := zpw k (by omega) m (by omega)
          have hBA : (k - 1) ^ m ≤ k ^ m := Nat.pow_le_pow_left (by omega) m
          have hA0 : 0 < k ^ m := Nat.pow_pos (by omega)
          have hU : ∃ U, U < 2 ^ 44 ∧ (if zN w = (1 : Int32) then some ((zJ (k ^ m) - zJ ((k - 1) ^ m)) * (Int32.toInt64 (zN k))) else some (zJ (k ^ m) - zJ ((k - 1) ^ m))) = some (zJ U) ∧ (if zN w = (0 : Int32) then some (zJ (k ^ m) - zJ ((k - 1) ^ m)) else some ((Int32.toInt64 (zN k)) * (zJ (k ^ m) - zJ ((k - 1) ^ m)))) = some (zJ U) := by
            rw [zJ_sub hBA, zJ_of k (by omega), zJ_mul, zJ_mul]
            rcases (show w = 0 ∨ w = 1 by omega) with rfl | rfl
            · exact ⟨k ^ m - (k - 1) ^ m, by omega, by rw [if_neg (by decide)], by rw [if_pos (by decide)]⟩
            · refine ⟨(k ^ m - (k - 1) ^ m) * k, ?_, by rw [if_pos (by decide)], by rw [if_neg (by decide), Nat.mul_comm]⟩
              have : (k ^ m - (k - 1) ^ m) * k ≤ (2 ^ 40) * 10 := Nat.mul_le_mul (by omega) hk
              omega
          obtain ⟨U, u1, u2, u3⟩ := hU
          have g1 := zgcdL (I := I) 41 U (k ^ m) n 0 (by omega) (by omega) (by omega) (by omega) (by omega)
          have g2 := zgcdM (I := I) (v0 := zJ U) (v2 := zJ (k ^ m)) (v4 := zN p) 45 (k ^ m) U n (by omega) (by omega) (by omega) (by omega)
          have hg : 0 < Nat.gcd (k ^ m) U := Nat.gcd_pos_of_pos_left _ hA0
          have hg2 : Nat.gcd (k ^ m) U ≤ k ^ m := Nat.gcd_le_left _ hA0
          have hne : ¬ (zJ (Nat.gcd (k ^ m) U) = 0) := fun z => by
            have h0 : Nat.gcd (k ^ m) U = 0 := (zJ_inj (by omega) (by decide)).mp (z.trans (rfl : (0 : Int64) = zJ 0))
            exact absurd h0 (Nat.ne_of_gt hg)
          have hmx : (if zJ (Nat.gcd (k ^ m) U) < 1 then (1 : Int64) else zJ (Nat.gcd (k ^ m) U)) = zJ (Nat.gcd (k ^ m) U) := if_neg (by
            rw [show (1 : Int64) = zJ 1 from rfl, zJ_lt (by omega) (by decide)]
            omega)
          refine ⟨if p = 0 then zJ U / zJ (Nat.gcd (k ^ m) U) else zJ (k ^ m) / zJ (Nat.gcd (k ^ m) U), ?_, ?_⟩
          · rw [zbi_0_12, ea, Option.bind_some, if_neg (by decide), zbi_1_10, eb, Option.bind_some, if_neg (by decide), zbi_0_1, ec, Option.bind_some, if_neg (by decide), zbi_0_1, ed, Option.bind_some, if_neg (by decide), Option.bind_some, if_neg (by decide), zpow (by omega) (by omega) (by omega), Option.bind_some, zl_1, zN_sub hk1, zpow (by omega) (by omega) (by omega), Option.bind_some, ← zl_1, u2, Option.bind_some]
            unfold BM_commonDivisor
            rw [show BM_commonDivisor_L9 n (zJ U) (zJ (k ^ m)) 0 I = _ from g1, Option.bind_some, Option.bind_some, hmx]
            rcases (show p = 0 ∨ p = 1 by omega) with rfl | rfl
            · rw [if_pos (by decide), Option.bind_some, if_pos hne, if_pos rfl]
            · rw [if_neg (by decide), Option.bind_some, if_pos hne, if_neg (by decide)]
          · rw [zmi_0_12, ea, Option.bind_some, if_neg (by decide), zmi_1_10, eb, Option.bind_some, if_neg (by decide), zmi_0_1, ec, Option.bind_some, if_neg (by decide), zmi_0_1, ed, Option.bind_some, if_neg (by decide), show Mo_evenings_L58 n (zN m) (zN k) (zN w) (zN p) 1 1 0 I = _ from zmevL2 (by omega) hk1 (by omega) m 0 n (by omega) (by omega), Option.bind_some]
            show (((if zN w = (0 : Int32) then some (zJ (k ^ m) - zJ ((k - 1) ^ m)) else some ((Int32.toInt64 (zN k)) * (zJ (k ^ m) - zJ ((k - 1) ^ m)))) : Option Int64).bind _) = _
            rw [u3, Option.bind_some]
            unfold Mo_lowest
            rw [g2, Option.bind_some, Nat.gcd_comm U (k ^ m), if_pos hne, if_pos hne]
            rcases (show p = 0 ∨ p = 1 by omega) with rfl | rfl
            · rw [if_pos (by decide), Option.bind_some, if_pos rfl]
            · rw [if_neg (by decide), Option.bind_some, if_neg (by decide)]
        · rw [zbi_0_12, zmi_0_12, ea, Option.bind_some, Option.bind_some, if_neg (by decide), if_neg (by decide), zbi_1_10, zmi_1_10, eb, Option.bind_some, Option.bind_some, if_neg (by decide), if_neg (by decide), zbi_0_1, zmi_0_1, ec, Option.bind_some, Option.bind_some, if_neg (by decide), if_neg (by decide), zbi_0_1, zmi_0_1, ed, Option.bind_some, Option.bind_some, if_pos (by decide), if_pos (by decide), Option.bind_some, if_pos (by decide)]
          exact ⟨_, rfl, rfl⟩
      · rw [zbi_0_12, zmi_0_12, ea, Option.bind_some, Option.bind_some, if_neg (by decide), if_neg (by decide), zbi_1_10, zmi_1_10, eb, Option.bind_some, Option.bind_some, if_neg (by decide), if_neg (by decide), zbi_0_1, zmi_0_1, ec, Option.bind_some, Option.bind_some, if_pos (by decide), if_pos (by decide), Option.bind_some, if_pos (by decide)]
        exact ⟨_, rfl, rfl⟩
    · rw [zbi_0_12, zmi_0_12, ea, Option.bind_some, Option.bind_some, if_neg (by decide), if_neg (by decide), zbi_1_10, zmi_1_10, eb, Option.bind_some, Option.bind_some, if_pos (by decide), if_pos (by decide), Option.bind_some, if_pos (by decide)]
      exact ⟨_, rfl, rfl⟩
  · rw [zbi_0_12, zmi_0_12, ea, Option.bind_some, Option.bind_some, if_pos (by decide), if_pos (by decide), Option.bind_some, if_pos (by decide)]
    exact ⟨_, rfl, rfl⟩
