/-! images: what the reference passes to and fro -/
def zWv (I : zI) (wr : Bool) (v : Int32) (p : Nat) : Int32 := if wr = true then v else I 94 p
theorem zWv_c {I J : zI} {wr : Bool} {v w : Int32} {p : Nat} (h1 : v = w) (h2 : J 94 p = I 94 p) : zWv J wr v p = zWv I wr w p := by
  unfold zWv
  rw [h1, h2]
theorem zpass {I : zI} {wr : Bool} {p : Nat} (v : Int32) (h31 : I 73 31 = zB wr) (h30 : I 73 30 = zN p) (hp : p < 200) : ∃ I', Mo_pass v I = some (zWv I wr v p, I') ∧ (∀ b, b ≠ 73 → b ≠ 94 → I' b = I b) ∧ (∀ i, i ≠ 30 → I' 73 i = I 73 i) ∧ I' 73 30 = zN (p + 1) ∧ (∀ q, I' 94 q = if q = p then zWv I wr v p else I 94 q) := by
  unfold Mo_pass
  have ip := (zN_in (show p < 2147483648 by omega) (n := 200)).mpr hp
  have hx : (if zB wr = (0 : Int32) then if zIn (zN p) 200 then some (I 94 p) else none else some v) = some (zWv I wr v p) := by
    unfold zWv
    cases wr
    · rw [if_pos (by decide), if_pos ip, if_neg (by decide)]
    · rw [if_neg (by decide), if_pos rfl]
  simp only [h31, h30, zN_tn (show p < 2147483648 by omega)]
  rw [hx, Option.bind_some, if_pos ip]
  refine ⟨_, rfl, fun b b1 b2 => by rw [zUp_ne b1, zUp_ne b2], fun i i1 => by rw [zUp_nj i1, zUp_ne (by decide)], ?_, fun q => ?_⟩
  · rw [zUp_eq, zUp_ne (by decide), h30, zl_1, zN_add]
  · rw [zUp_ne (by decide), zUp_at]
/-- a row of n has gone by, from the place p on: I is before, J behind -/
def zGone (I J : zI) (wr : Bool) (c n p : Nat) : Prop := (∀ b, b ≠ 73 → b ≠ 94 → b ≠ c → J b = I b) ∧ (∀ i, i ≠ 30 → J 73 i = I 73 i) ∧ J 73 30 = zN (p + n) ∧ (∀ i, i < n → J c i = zWv I wr (I c i) (p + i) ∧ J 94 (p + i) = zWv I wr (I c i) (p + i)) ∧ (∀ q, q < p ∨ p + n ≤ q → J 94 q = I 94 q)
theorem zpr74L {I : zI} {wr : Bool} {p : Nat} (h31 : I 73 31 = zB wr) (hp : p + 10 ≤ 200) : ∀ (j k n : Nat) (J : zI), k + j = 10 → j < n → zGone I J wr 74 k p → (∀ i, k ≤ i → J 74 i = I 74 i) → ∃ J', Mo_passRow_74_L2 n 10 (zN k) J = some J' ∧ zGone I J' wr 74 10 p := by
  intro j
  induction j with
  | zero =>
    intro k n J hk hn hg hr
    obtain ⟨n, rfl⟩ : ∃ e, n = e + 1 := ⟨n - 1, by omega⟩
    rw [Mo_passRow_74_L2, zl_10, if_pos ((zN_le (by decide) (by omega)).mpr (by omega))]
    have : k = 10 := by omega
    subst this
    exact ⟨J, rfl, hg⟩
  | succ j ih =>
    intro k n J hk hn hg hr
    obtain ⟨n, rfl⟩ : ∃ e, n = e + 1 := ⟨n - 1, by omega⟩
    obtain ⟨g1, g2, g3, g4, g5⟩ := hg
    have ik := (zN_in (show k < 2147483648 by omega) (n := 10)).mpr (by omega)
    rw [Mo_passRow_74_L2, if_neg (by rw [zl_10, zN_le (by decide) (by omega)]; omega)]
    simp only [zN_tn (show k < 2147483648 by omega)]
    rw [if_pos ik, hr k (Nat.le_refl k)]
    obtain ⟨K, k1, k2, k3, k4, k5⟩ := zpass (I := J) (wr := wr) (p := p + k) (I 74 k) (by rw [g2 31 (by decide), h31]) g3 (by omega)
    rw [k1, Option.bind_some]
    show ∃ J', (if zIn (zN k) 10 then Mo_passRow_74_L2 n 10 (zN k + 1) (zUp K 74 k (zWv J wr (I 74 k) (p + k))) else none) = some J' ∧ _
    have ew : zWv J wr (I 74 k) (p + k) = zWv I wr (I 74 k) (p + k) := by
      unfold zWv
      rw [g5 (p + k) (by omega)]
    rw [if_pos ik, zl_1, zN_add, ew]
    refine ih (k + 1) n _ (by omega) (by omega) ⟨fun b b1 b2 b3 => by rw [zUp_ne b3, k2 b b1 b2, g1 b b1 b2 b3], fun i i1 => by rw [zUp_ne (by decide), k3 i i1, g2 i i1], by rw [zUp_ne (by decide), k4, Nat.add_assoc], fun i hi => ?_, fun q hq => ?_⟩ (fun i hi => ?_)
    · by_cases z : i = k
      · rw [z, zUp_eq, zUp_ne (by decide), k5, if_pos rfl, ew]
        exact ⟨rfl, rfl⟩
      · obtain ⟨u1, u2⟩ := g4 i (by omega)
        rw [zUp_nj z, zUp_ne (by decide), k5, if_neg (by omega), k2 74 (by decide) (by decide)]
        exact ⟨u1, u2⟩
    · rw [zUp_ne (by decide), k5, if_neg (by omega), g5 q (by omega)]
    · rw [zUp_nj (by omega), k2 74 (by decide) (by decide), hr i (by omega)]
theorem zpr74 {I : zI} {wr : Bool} {p n : Nat} (h31 : I 73 31 = zB wr) (h30 : I 73 30 = zN p) (hp : p + 10 ≤ 200) (hn : 20 < n) : ∃ J, Mo_passRow_74 n 10 I = some J ∧ zGone I J wr 74 10 p := by
  unfold Mo_passRow_74
  obtain ⟨J, j1, j2⟩ := zpr74L (I := I) (wr := wr) (p := p) h31 hp 10 0 n I rfl (by omega) ⟨fun _ _ _ _ => rfl, fun _ _ => rfl, h30, fun i hi => absurd hi (Nat.not_lt_zero i), fun _ _ => rfl⟩ (fun _ _ => rfl)
  rw [zl_0, j1, Option.bind_some]
  exact ⟨J, rfl, j2⟩
theorem zpr75L {I : zI} {wr : Bool} {p : Nat} (h31 : I 73 31 = zB wr) (hp : p + 8 ≤ 200) : ∀ (j k n : Nat) (J : zI), k + j = 8 → j < n → zGone I J wr 75 k p → (∀ i, k ≤ i → J 75 i = I 75 i) → ∃ J', Mo_passRow_75_L2 n 8 (zN k) J = some J' ∧ zGone I J' wr 75 8 p := by
  intro j
  induction j with
  | zero =>
    intro k n J hk hn hg hr
    obtain ⟨n, rfl⟩ : ∃ e, n = e + 1 := ⟨n - 1, by omega⟩
    rw [Mo_passRow_75_L2, zl_8, if_pos ((zN_le (by decide) (by omega)).mpr (by omega))]
    have : k = 8 := by omega
    subst this
    exact ⟨J, rfl, hg⟩
  | succ j ih =>
    intro k n J hk hn hg hr
    obtain ⟨n, rfl⟩ : ∃ e, n = e + 1 := ⟨n - 1, by omega⟩
    obtain ⟨g1, g2, g3, g4, g5⟩ := hg
    have ik := (zN_in (show k < 2147483648 by omega) (n := 8)).mpr (by omega)
    rw [Mo_passRow_75_L2, if_neg (by rw [zl_8, zN_le (by decide) (by omega)]; omega)]
    simp only [zN_tn (show k < 2147483648 by omega)]
    rw [if_pos ik, hr k (Nat.le_refl k)]
    obtain ⟨K, k1, k2, k3, k4, k5⟩ := zpass (I := J) (wr := wr) (p := p + k) (I 75 k) (by rw [g2 31 (by decide), h31]) g3 (by omega)
    rw [k1, Option.bind_some]
    show ∃ J', (if zIn (zN k) 8 then Mo_passRow_75_L2 n 8 (zN k + 1) (zUp K 75 k (zWv J wr (I 75 k) (p + k))) else none) = some J' ∧ _
    have ew : zWv J wr (I 75 k) (p + k) = zWv I wr (I 75 k) (p + k) := by
      unfold zWv
      rw [g5 (p + k) (by omega)]
    rw [if_pos ik, zl_1, zN_add, ew]
    refine ih (k + 1) n _ (by omega) (by omega) ⟨fun b b1 b2 b3 => by rw [zUp_ne b3, k2 b b1 b2, g1 b b1 b2 b3], fun i i1 => by rw [zUp_ne (by decide), k3 i i1, g2 i i1], by rw [zUp_ne (by decide), k4, Nat.add_assoc], fun i hi => ?_, fun q hq => ?_⟩ (fun i hi => ?_)
    · by_cases z : i = k
      · rw [z, zUp_eq, zUp_ne (by decide), k5, if_pos rfl, ew]
        exact ⟨rfl, rfl⟩
      · obtain ⟨u1, u2⟩ := g4 i (by omega)
        rw [zUp_nj z, zUp_ne (by decide), k5, if_neg (by omega), k2 75 (by decide) (by decide)]
        exact ⟨u1, u2⟩
    · rw [zUp_ne (by decide), k5, if_neg (by omega), g5 q (by omega)]
    · rw [zUp_nj (by omega), k2 75 (by decide) (by decide), hr i (by omega)]
theorem zpr75 {I : zI} {wr : Bool} {p n : Nat} (h31 : I 73 31 = zB wr) (h30 : I 73 30 = zN p) (hp : p + 8 ≤ 200) (hn : 20 < n) : ∃ J, Mo_passRow_75 n 8 I = some J ∧ zGone I J wr 75 8 p := by
  unfold Mo_passRow_75
  obtain ⟨J, j1, j2⟩ := zpr75L (I := I) (wr := wr) (p := p) h31 hp 8 0 n I rfl (by omega) ⟨fun _ _ _ _ => rfl, fun _ _ => rfl, h30, fun i hi => absurd hi (Nat.not_lt_zero i), fun _ _ => rfl⟩ (fun _ _ => rfl)
  rw [zl_0, j1, Option.bind_some]
  exact ⟨J, rfl, j2⟩
theorem zpr76L {I : zI} {wr : Bool} {p : Nat} (h31 : I 73 31 = zB wr) (hp : p + 8 ≤ 200) : ∀ (j k n : Nat) (J : zI), k + j = 8 → j < n → zGone I J wr 76 k p → (∀ i, k ≤ i → J 76 i = I 76 i) → ∃ J', Mo_passRow_76_L2 n 8 (zN k) J = some J' ∧ zGone I J' wr 76 8 p := by
  intro j
  induction j with
  | zero =>
    intro k n J hk hn hg hr
    obtain ⟨n, rfl⟩ : ∃ e, n = e + 1 := ⟨n - 1, by omega⟩
    rw [Mo_passRow_76_L2, zl_8, if_pos ((zN_le (by decide) (by omega)).mpr (by omega))]
    have : k = 8 := by omega
    subst this
    exact ⟨J, rfl, hg⟩
  | succ j ih =>
    intro k n J hk hn hg hr
    obtain ⟨n, rfl⟩ : ∃ e, n = e + 1 := ⟨n - 1, by omega⟩
    obtain ⟨g1, g2, g3, g4, g5⟩ := hg
    have ik := (zN_in (show k < 2147483648 by omega) (n := 8)).mpr (by omega)
    rw [Mo_passRow_76_L2, if_neg (by rw [zl_8, zN_le (by decide) (by omega)]; omega)]
    simp only [zN_tn (show k < 2147483648 by omega)]
    rw [if_pos ik, hr k (Nat.le_refl k)]
    obtain ⟨K, k1, k2, k3, k4, k5⟩ := zpass (I := J) (wr := wr) (p := p + k) (I 76 k) (by rw [g2 31 (by decide), h31]) g3 (by omega)
    rw [k1, Option.bind_some]
    show ∃ J', (if zIn (zN k) 8 then Mo_passRow_76_L2 n 8 (zN k + 1) (zUp K 76 k (zWv J wr (I 76 k) (p + k))) else none) = some J' ∧ _
    have ew : zWv J wr (I 76 k) (p + k) = zWv I wr (I 76 k) (p + k) := by
      unfold zWv
      rw [g5 (p + k) (by omega)]
    rw [if_pos ik, zl_1, zN_add, ew]
    refine ih (k + 1) n _ (by omega) (by omega) ⟨fun b b1 b2 b3 => by rw [zUp_ne b3, k2 b b1 b2, g1 b b1 b2 b3], fun i i1 => by rw [zUp_ne (by decide), k3 i i1, g2 i i1], by rw [zUp_ne (by decide), k4, Nat.add_assoc], fun i hi => ?_, fun q hq => ?_⟩ (fun i hi => ?_)
    · by_cases z : i = k
      · rw [z, zUp_eq, zUp_ne (by decide), k5, if_pos rfl, ew]
        exact ⟨rfl, rfl⟩
      · obtain ⟨u1, u2⟩ := g4 i (by omega)
        rw [zUp_nj z, zUp_ne (by decide), k5, if_neg (by omega), k2 76 (by decide) (by decide)]
        exact ⟨u1, u2⟩
    · rw [zUp_ne (by decide), k5, if_neg (by omega), g5 q (by omega)]
    · rw [zUp_nj (by omega), k2 76 (by decide) (by decide), hr i (by omega)]
theorem zpr76 {I : zI} {wr : Bool} {p n : Nat} (h31 : I 73 31 = zB wr) (h30 : I 73 30 = zN p) (hp : p + 8 ≤ 200) (hn : 20 < n) : ∃ J, Mo_passRow_76 n 8 I = some J ∧ zGone I J wr 76 8 p := by
  unfold Mo_passRow_76
  obtain ⟨J, j1, j2⟩ := zpr76L (I := I) (wr := wr) (p := p) h31 hp 8 0 n I rfl (by omega) ⟨fun _ _ _ _ => rfl, fun _ _ => rfl, h30, fun i hi => absurd hi (Nat.not_lt_zero i), fun _ _ => rfl⟩ (fun _ _ => rfl)
  rw [zl_0, j1, Option.bind_some]
  exact ⟨J, rfl, j2⟩
theorem zpr77L {I : zI} {wr : Bool} {p : Nat} (h31 : I 73 31 = zB wr) (hp : p + 10 ≤ 200) : ∀ (j k n : Nat) (J : zI), k + j = 10 → j < n → zGone I J wr 77 k p → (∀ i, k ≤ i → J 77 i = I 77 i) → ∃ J', Mo_passRow_77_L2 n 10 (zN k) J = some J' ∧ zGone I J' wr 77 10 p := by
  intro j
  induction j with
  | zero =>
    intro k n J hk hn hg hr
    obtain ⟨n, rfl⟩ : ∃ e, n = e + 1 := ⟨n - 1, by omega⟩
    rw [Mo_passRow_77_L2, zl_10, if_pos ((zN_le (by decide) (by omega)).mpr (by omega))]
    have : k = 10 := by omega
    subst this
    exact ⟨J, rfl, hg⟩
  | succ j ih =>
    intro k n J hk hn hg hr
    obtain ⟨n, rfl⟩ : ∃ e, n = e + 1 := ⟨n - 1, by omega⟩
    obtain ⟨g1, g2, g3, g4, g5⟩ := hg
    have ik := (zN_in (show k < 2147483648 by omega) (n := 10)).mpr (by omega)
    rw [Mo_passRow_77_L2, if_neg (by rw [zl_10, zN_le (by decide) (by omega)]; omega)]
    simp only [zN_tn (show k < 2147483648 by omega)]
    rw [if_pos ik, hr k (Nat.le_refl k)]
    obtain ⟨K, k1, k2, k3, k4, k5⟩ := zpass (I := J) (wr := wr) (p := p + k) (I 77 k) (by rw [g2 31 (by decide), h31]) g3 (by omega)
    rw [k1, Option.bind_some]
    show ∃ J', (if zIn (zN k) 10 then Mo_passRow_77_L2 n 10 (zN k + 1) (zUp K 77 k (zWv J wr (I 77 k) (p + k))) else none) = some J' ∧ _
    have ew : zWv J wr (I 77 k) (p + k) = zWv I wr (I 77 k) (p + k) := by
      unfold zWv
      rw [g5 (p + k) (by omega)]
    rw [if_pos ik, zl_1, zN_add, ew]
    refine ih (k + 1) n _ (by omega) (by omega) ⟨fun b b1 b2 b3 => by rw [zUp_ne b3, k2 b b1 b2, g1 b b1 b2 b3], fun i i1 => by rw [zUp_ne (by decide), k3 i i1, g2 i i1], by rw [zUp_ne (by decide), k4, Nat.add_assoc], fun i hi => ?_, fun q hq => ?_⟩ (fun i hi => ?_)
    · by_cases z : i = k
      · rw [z, zUp_eq, zUp_ne (by decide), k5, if_pos rfl, ew]
        exact ⟨rfl, rfl⟩
      · obtain ⟨u1, u2⟩ := g4 i (by omega)
        rw [zUp_nj z, zUp_ne (by decide), k5, if_neg (by omega), k2 77 (by decide) (by decide)]
        exact ⟨u1, u2⟩
    · rw [zUp_ne (by decide), k5, if_neg (by omega), g5 q (by omega)]
    · rw [zUp_nj (by omega), k2 77 (by decide) (by decide), hr i (by omega)]
theorem zpr77 {I : zI} {wr : Bool} {p n : Nat} (h31 : I 73 31 = zB wr) (h30 : I 73 30 = zN p) (hp : p + 10 ≤ 200) (hn : 20 < n) : ∃ J, Mo_passRow_77 n 10 I = some J ∧ zGone I J wr 77 10 p := by
  unfold Mo_passRow_77
  obtain ⟨J, j1, j2⟩ := zpr77L (I := I) (wr := wr) (p := p) h31 hp 10 0 n I rfl (by omega) ⟨fun _ _ _ _ => rfl, fun _ _ => rfl, h30, fun i hi => absurd hi (Nat.not_lt_zero i), fun _ _ => rfl⟩ (fun _ _ => rfl)
  rw [zl_0, j1, Option.bind_some]
  exact ⟨J, rfl, j2⟩
theorem zpr78L {I : zI} {wr : Bool} {p : Nat} (h31 : I 73 31 = zB wr) (hp : p + 10 ≤ 200) : ∀ (j k n : Nat) (J : zI), k + j = 10 → j < n → zGone I J wr 78 k p → (∀ i, k ≤ i → J 78 i = I 78 i) → ∃ J', Mo_passRow_78_L2 n 10 (zN k) J = some J' ∧ zGone I J' wr 78 10 p := by
  intro j
  induction j with
  | zero =>
    intro k n J hk hn hg hr
    obtain ⟨n, rfl⟩ : ∃ e, n = e + 1 := ⟨n - 1, by omega⟩
    rw [Mo_passRow_78_L2, zl_10, if_pos ((zN_le (by decide) (by omega)).mpr (by omega))]
    have : k = 10 := by omega
    subst this
    exact ⟨J, rfl, hg⟩
  | succ j ih =>
    intro k n J hk hn hg hr
    obtain ⟨n, rfl⟩ : ∃ e, n = e + 1 := ⟨n - 1, by omega⟩
    obtain ⟨g1, g2, g3, g4, g5⟩ := hg
    have ik := (zN_in (show k < 2147483648 by omega) (n := 10)).mpr (by omega)
    rw [Mo_passRow_78_L2, if_neg (by rw [zl_10, zN_le (by decide) (by omega)]; omega)]
    simp only [zN_tn (show k < 2147483648 by omega)]
    rw [if_pos ik, hr k (Nat.le_refl k)]
    obtain ⟨K, k1, k2, k3, k4, k5⟩ := zpass (I := J) (wr := wr) (p := p + k) (I 78 k) (by rw [g2 31 (by decide), h31]) g3 (by omega)
    rw [k1, Option.bind_some]
    show ∃ J', (if zIn (zN k) 10 then Mo_passRow_78_L2 n 10 (zN k + 1) (zUp K 78 k (zWv J wr (I 78 k) (p + k))) else none) = some J' ∧ _
    have ew : zWv J wr (I 78 k) (p + k) = zWv I wr (I 78 k) (p + k) := by
      unfold zWv
      rw [g5 (p + k) (by omega)]
    rw [if_pos ik, zl_1, zN_add, ew]
    refine ih (k + 1) n _ (by omega) (by omega) ⟨fun b b1 b2 b3 => by rw [zUp_ne b3, k2 b b1 b2, g1 b b1 b2 b3], fun i i1 => by rw [zUp_ne (by decide), k3 i i1, g2 i i1], by rw [zUp_ne (by decide), k4, Nat.add_assoc], fun i hi => ?_, fun q hq => ?_⟩ (fun i hi => ?_)
    · by_cases z : i = k
      · rw [z, zUp_eq, zUp_ne (by decide), k5, if_pos rfl, ew]
        exact ⟨rfl, rfl⟩
      · obtain ⟨u1, u2⟩ := g4 i (by omega)
        rw [zUp_nj z, zUp_ne (by decide), k5, if_neg (by omega), k2 78 (by decide) (by decide)]
        exact ⟨u1, u2⟩
    · rw [zUp_ne (by decide), k5, if_neg (by omega), g5 q (by omega)]
    · rw [zUp_nj (by omega), k2 78 (by decide) (by decide), hr i (by omega)]
theorem zpr78 {I : zI} {wr : Bool} {p n : Nat} (h31 : I 73 31 = zB wr) (h30 : I 73 30 = zN p) (hp : p + 10 ≤ 200) (hn : 20 < n) : ∃ J, Mo_passRow_78 n 10 I = some J ∧ zGone I J wr 78 10 p := by
  unfold Mo_passRow_78
  obtain ⟨J, j1, j2⟩ := zpr78L (I := I) (wr := wr) (p := p) h31 hp 10 0 n I rfl (by omega) ⟨fun _ _ _ _ => rfl, fun _ _ => rfl, h30, fun i hi => absurd hi (Nat.not_lt_zero i), fun _ _ => rfl⟩ (fun _ _ => rfl)
  rw [zl_0, j1, Option.bind_some]
  exact ⟨J, rfl, j2⟩
theorem zpr79L {I : zI} {wr : Bool} {p : Nat} (h31 : I 73 31 = zB wr) (hp : p + 8 ≤ 200) : ∀ (j k n : Nat) (J : zI), k + j = 8 → j < n → zGone I J wr 79 k p → (∀ i, k ≤ i → J 79 i = I 79 i) → ∃ J', Mo_passRow_79_L2 n 8 (zN k) J = some J' ∧ zGone I J' wr 79 8 p := by
  intro j
  induction j with
  | zero =>
    intro k n J hk hn hg hr
    obtain ⟨n, rfl⟩ : ∃ e, n = e + 1 := ⟨n - 1, by omega⟩
    rw [Mo_passRow_79_L2, zl_8, if_pos ((zN_le (by decide) (by omega)).mpr (by omega))]
    have : k = 8 := by omega
    subst this
    exact ⟨J, rfl, hg⟩
  | succ j ih =>
    intro k n J hk hn hg hr
    obtain ⟨n, rfl⟩ : ∃ e, n = e + 1 := ⟨n - 1, by omega⟩
    obtain ⟨g1, g2, g3, g4, g5⟩ := hg
    have ik := (zN_in (show k < 2147483648 by omega) (n := 8)).mpr (by omega)
    rw [Mo_passRow_79_L2, if_neg (by rw [zl_8, zN_le (by decide) (by omega)]; omega)]
    simp only [zN_tn (show k < 2147483648 by omega)]
    rw [if_pos ik, hr k (Nat.le_refl k)]
    obtain ⟨K, k1, k2, k3, k4, k5⟩ := zpass (I := J) (wr := wr) (p := p + k) (I 79 k) (by rw [g2 31 (by decide), h31]) g3 (by omega)
    rw [k1, Option.bind_some]
    show ∃ J', (if zIn (zN k) 8 then Mo_passRow_79_L2 n 8 (zN k + 1) (zUp K 79 k (zWv J wr (I 79 k) (p + k))) else none) = some J' ∧ _
    have ew : zWv J wr (I 79 k) (p + k) = zWv I wr (I 79 k) (p + k) := by
      unfold zWv
      rw [g5 (p + k) (by omega)]
    rw [if_pos ik, zl_1, zN_add, ew]
    refine ih (k + 1) n _ (by omega) (by omega) ⟨fun b b1 b2 b3 => by rw [zUp_ne b3, k2 b b1 b2, g1 b b1 b2 b3], fun i i1 => by rw [zUp_ne (by decide), k3 i i1, g2 i i1], by rw [zUp_ne (by decide), k4, Nat.add_assoc], fun i hi => ?_, fun q hq => ?_⟩ (fun i hi => ?_)
    · by_cases z : i = k
      · rw [z, zUp_eq, zUp_ne (by decide), k5, if_pos rfl, ew]
        exact ⟨rfl, rfl⟩
      · obtain ⟨u1, u2⟩ := g4 i (by omega)
        rw [zUp_nj z, zUp_ne (by decide), k5, if_neg (by omega), k2 79 (by decide) (by decide)]
        exact ⟨u1, u2⟩
    · rw [zUp_ne (by decide), k5, if_neg (by omega), g5 q (by omega)]
    · rw [zUp_nj (by omega), k2 79 (by decide) (by decide), hr i (by omega)]
theorem zpr79 {I : zI} {wr : Bool} {p n : Nat} (h31 : I 73 31 = zB wr) (h30 : I 73 30 = zN p) (hp : p + 8 ≤ 200) (hn : 20 < n) : ∃ J, Mo_passRow_79 n 8 I = some J ∧ zGone I J wr 79 8 p := by
  unfold Mo_passRow_79
  obtain ⟨J, j1, j2⟩ := zpr79L (I := I) (wr := wr) (p := p) h31 hp 8 0 n I rfl (by omega) ⟨fun _ _ _ _ => rfl, fun _ _ => rfl, h30, fun i hi => absurd hi (Nat.not_lt_zero i), fun _ _ => rfl⟩ (fun _ _ => rfl)
  rw [zl_0, j1, Option.bind_some]
  exact ⟨J, rfl, j2⟩
theorem zpr80L {I : zI} {wr : Bool} {p : Nat} (h31 : I 73 31 = zB wr) (hp : p + 8 ≤ 200) : ∀ (j k n : Nat) (J : zI), k + j = 8 → j < n → zGone I J wr 80 k p → (∀ i, k ≤ i → J 80 i = I 80 i) → ∃ J', Mo_passRow_80_L2 n 8 (zN k) J = some J' ∧ zGone I J' wr 80 8 p := by
  intro j
  induction j with
  | zero =>
    intro k n J hk hn hg hr
    obtain ⟨n, rfl⟩ : ∃ e, n = e + 1 := ⟨n - 1, by omega⟩
    rw [Mo_passRow_80_L2, zl_8, if_pos ((zN_le (by decide) (by omega)).mpr (by omega))]
    have : k = 8 := by omega
    subst this
    exact ⟨J, rfl, hg⟩
  | succ j ih =>
    intro k n J hk hn hg hr
    obtain ⟨n, rfl⟩ : ∃ e, n = e + 1 := ⟨n - 1, by omega⟩
    obtain ⟨g1, g2, g3, g4, g5⟩ := hg
    have ik := (zN_in (show k < 2147483648 by omega) (n := 8)).mpr (by omega)
    rw [Mo_passRow_80_L2, if_neg (by rw [zl_8, zN_le (by decide) (by omega)]; omega)]
    simp only [zN_tn (show k < 2147483648 by omega)]
    rw [if_pos ik, hr k (Nat.le_refl k)]
    obtain ⟨K, k1, k2, k3, k4, k5⟩ := zpass (I := J) (wr := wr) (p := p + k) (I 80 k) (by rw [g2 31 (by decide), h31]) g3 (by omega)
    rw [k1, Option.bind_some]
    show ∃ J', (if zIn (zN k) 8 then Mo_passRow_80_L2 n 8 (zN k + 1) (zUp K 80 k (zWv J wr (I 80 k) (p + k))) else none) = some J' ∧ _
    have ew : zWv J wr (I 80 k) (p + k) = zWv I wr (I 80 k) (p + k) := by
      unfold zWv
      rw [g5 (p + k) (by omega)]
    rw [if_pos ik, zl_1, zN_add, ew]
    refine ih (k + 1) n _ (by omega) (by omega) ⟨fun b b1 b2 b3 => by rw [zUp_ne b3, k2 b b1 b2, g1 b b1 b2 b3], fun i i1 => by rw [zUp_ne (by decide), k3 i i1, g2 i i1], by rw [zUp_ne (by decide), k4, Nat.add_assoc], fun i hi => ?_, fun q hq => ?_⟩ (fun i hi => ?_)
    · by_cases z : i = k
      · rw [z, zUp_eq, zUp_ne (by decide), k5, if_pos rfl, ew]
        exact ⟨rfl, rfl⟩
      · obtain ⟨u1, u2⟩ := g4 i (by omega)
        rw [zUp_nj z, zUp_ne (by decide), k5, if_neg (by omega), k2 80 (by decide) (by decide)]
        exact ⟨u1, u2⟩
    · rw [zUp_ne (by decide), k5, if_neg (by omega), g5 q (by omega)]
    · rw [zUp_nj (by omega), k2 80 (by decide) (by decide), hr i (by omega)]
theorem zpr80 {I : zI} {wr : Bool} {p n : Nat} (h31 : I 73 31 = zB wr) (h30 : I 73 30 = zN p) (hp : p + 8 ≤ 200) (hn : 20 < n) : ∃ J, Mo_passRow_80 n 8 I = some J ∧ zGone I J wr 80 8 p := by
  unfold Mo_passRow_80
  obtain ⟨J, j1, j2⟩ := zpr80L (I := I) (wr := wr) (p := p) h31 hp 8 0 n I rfl (by omega) ⟨fun _ _ _ _ => rfl, fun _ _ => rfl, h30, fun i hi => absurd hi (Nat.not_lt_zero i), fun _ _ => rfl⟩ (fun _ _ => rfl)
  rw [zl_0, j1, Option.bind_some]
  exact ⟨J, rfl, j2⟩
theorem zpr81L {I : zI} {wr : Bool} {p : Nat} (h31 : I 73 31 = zB wr) (hp : p + 8 ≤ 200) : ∀ (j k n : Nat) (J : zI), k + j = 8 → j < n → zGone I J wr 81 k p → (∀ i, k ≤ i → J 81 i = I 81 i) → ∃ J', Mo_passRow_81_L2 n 8 (zN k) J = some J' ∧ zGone I J' wr 81 8 p := by
  intro j
  induction j with
  | zero =>
    intro k n J hk hn hg hr
    obtain ⟨n, rfl⟩ : ∃ e, n = e + 1 := ⟨n - 1, by omega⟩
    rw [Mo_passRow_81_L2, zl_8, if_pos ((zN_le (by decide) (by omega)).mpr (by omega))]
    have : k = 8 := by omega
    subst this
    exact ⟨J, rfl, hg⟩
  | succ j ih =>
    intro k n J hk hn hg hr
    obtain ⟨n, rfl⟩ : ∃ e, n = e + 1 := ⟨n - 1, by omega⟩
    obtain ⟨g1, g2, g3, g4, g5⟩ := hg
    have ik := (zN_in (show k < 2147483648 by omega) (n := 8)).mpr (by omega)
    rw [Mo_passRow_81_L2, if_neg (by rw [zl_8, zN_le (by decide) (by omega)]; omega)]
    simp only [zN_tn (show k < 2147483648 by omega)]
    rw [if_pos ik, hr k (Nat.le_refl k)]
    obtain ⟨K, k1, k2, k3, k4, k5⟩ := zpass (I := J) (wr := wr) (p := p + k) (I 81 k) (by rw [g2 31 (by decide), h31]) g3 (by omega)
    rw [k1, Option.bind_some]
    show ∃ J', (if zIn (zN k) 8 then Mo_passRow_81_L2 n 8 (zN k + 1) (zUp K 81 k (zWv J wr (I 81 k) (p + k))) else none) = some J' ∧ _
    have ew : zWv J wr (I 81 k) (p + k) = zWv I wr (I 81 k) (p + k) := by
      unfold zWv
      rw [g5 (p + k) (by omega)]
    rw [if_pos ik, zl_1, zN_add, ew]
    refine ih (k + 1) n _ (by omega) (by omega) ⟨fun b b1 b2 b3 => by rw [zUp_ne b3, k2 b b1 b2, g1 b b1 b2 b3], fun i i1 => by rw [zUp_ne (by decide), k3 i i1, g2 i i1], by rw [zUp_ne (by decide), k4, Nat.add_assoc], fun i hi => ?_, fun q hq => ?_⟩ (fun i hi => ?_)
    · by_cases z : i = k
      · rw [z, zUp_eq, zUp_ne (by decide), k5, if_pos rfl, ew]
        exact ⟨rfl, rfl⟩
      · obtain ⟨u1, u2⟩ := g4 i (by omega)
        rw [zUp_nj z, zUp_ne (by decide), k5, if_neg (by omega), k2 81 (by decide) (by decide)]
        exact ⟨u1, u2⟩
    · rw [zUp_ne (by decide), k5, if_neg (by omega), g5 q (by omega)]
    · rw [zUp_nj (by omega), k2 81 (by decide) (by decide), hr i (by omega)]
theorem zpr81 {I : zI} {wr : Bool} {p n : Nat} (h31 : I 73 31 = zB wr) (h30 : I 73 30 = zN p) (hp : p + 8 ≤ 200) (hn : 20 < n) : ∃ J, Mo_passRow_81 n 8 I = some J ∧ zGone I J wr 81 8 p := by
  unfold Mo_passRow_81
  obtain ⟨J, j1, j2⟩ := zpr81L (I := I) (wr := wr) (p := p) h31 hp 8 0 n I rfl (by omega) ⟨fun _ _ _ _ => rfl, fun _ _ => rfl, h30, fun i hi => absurd hi (Nat.not_lt_zero i), fun _ _ => rfl⟩ (fun _ _ => rfl)
  rw [zl_0, j1, Option.bind_some]
  exact ⟨J, rfl, j2⟩
/-- the reference's values as they stand behind it all: of the row c (n, at off), of the slot sl (at q) -/
def zAllG (I J : zI) (wr : Bool) (p : Nat) : Prop := (∀ b, b < 73 → J b = I b) ∧ J 82 = I 82 ∧ J 95 = I 95 ∧ (∀ i, i ≠ 5 → i ≠ 6 → i ≠ 10 → i ≠ 30 → J 73 i = I 73 i) ∧ (∀ q, q < p ∨ p + 73 ≤ q → J 94 q = I 94 q) ∧ (J 73 5 = zWv I wr (I 73 5) p ∧ J 94 p = zWv I wr (I 73 5) p) ∧ (J 73 6 = zWv I wr (I 73 6) (p + 1) ∧ J 94 (p + 1) = zWv I wr (I 73 6) (p + 1)) ∧ (J 73 10 = zWv I wr (I 73 10) (p + 2) ∧ J 94 (p + 2) = zWv I wr (I 73 10) (p + 2)) ∧ (∀ i, i < 10 → J 74 i = zWv I wr (I 74 i) (p + 3 + i) ∧ J 94 (p + 3 + i) = zWv I wr (I 74 i) (p + 3 + i)) ∧ (∀ i, i < 8 → J 75 i = zWv I wr (I 75 i) (p + 13 + i) ∧ J 94 (p + 13 + i) = zWv I wr (I 75 i) (p + 13 + i)) ∧ (∀ i, i < 8 → J 76 i = zWv I wr (I 76 i) (p + 21 + i) ∧ J 94 (p + 21 + i) = zWv I wr (I 76 i) (p + 21 + i)) ∧ (∀ i, i < 10 → J 77 i = zWv I wr (I 77 i) (p + 29 + i) ∧ J 94 (p + 29 + i) = zWv I wr (I 77 i) (p + 29 + i)) ∧ (∀ i, i < 10 → J 78 i = zWv I wr (I 78 i) (p + 39 + i) ∧ J 94 (p + 39 + i) = zWv I wr (I 78 i) (p + 39 + i)) ∧ (∀ i, i < 8 → J 79 i = zWv I wr (I 79 i) (p + 49 + i) ∧ J 94 (p + 49 + i) = zWv I wr (I 79 i) (p + 49 + i)) ∧ (∀ i, i < 8 → J 80 i = zWv I wr (I 80 i) (p + 57 + i) ∧ J 94 (p + 57 + i) = zWv I wr (I 80 i) (p + 57 + i)) ∧ (∀ i, i < 8 → J 81 i = zWv I wr (I 81 i) (p + 65 + i) ∧ J 94 (p + 65 + i) = zWv I wr (I 81 i) (p + 65 + i))
theorem zpassAll {I : zI} {wr : Bool} {p n : Nat} (h31 : I 73 31 = zB wr) (h30 : I 73 30 = zN p) (hp : p + 73 ≤ 200) (hn : 20 < n) : ∃ J, Mo_passAll n I = some J ∧ zAllG I J wr p := by
  unfold Mo_passAll
  obtain ⟨A1, a1, a2, a3, a4, a5⟩ := zpass (I := I) (wr := wr) (p := p) (I 73 5) h31 h30 (by omega)
  rw [a1, Option.bind_some]
  -- the first slot
  have b31 : zUp A1 73 5 (zWv I wr (I 73 5) p) 73 31 = zB wr := by rw [zUp_nj (by decide), a3 31 (by decide), h31]
  have b30 : zUp A1 73 5 (zWv I wr (I 73 5) p) 73 30 = zN (p + 1) := by rw [zUp_nj (by decide), a4]
  have b6 : zUp A1 73 5 (zWv I wr (I 73 5) p) 73 6 = I 73 6 := by rw [zUp_nj (by decide), a3 6 (by decide)]
  show ∃ J, ((Mo_pass (zUp A1 73 5 (zWv I wr (I 73 5) p) 73 6) (zUp A1 73 5 (zWv I wr (I 73 5) p))).bind _) = some J ∧ _
  obtain ⟨A2, c1, c2, c3, c4, c5⟩ := zpass (I := zUp A1 73 5 (zWv I wr (I 73 5) p)) (wr := wr) (p := p + 1) (zUp A1 73 5 (zWv I wr (I 73 5) p) 73 6) b31 b30 (by omega)
  have ew1 : zWv (zUp A1 73 5 (zWv I wr (I 73 5) p)) wr (zUp A1 73 5 (zWv I wr (I 73 5) p) 73 6) (p + 1) = zWv I wr (I 73 6) (p + 1) := zWv_c b6 (by rw [zUp_ne (by decide), a5, if_neg (by omega)])
  rw [ew1] at c1 c5
  rw [c1, Option.bind_some]
  show ∃ J, ((Mo_pass (zUp A2 73 6 (zWv I wr (I 73 6) (p + 1)) 73 10) (zUp A2 73 6 (zWv I wr (I 73 6) (p + 1)))).bind _) = some J ∧ _
  have d31 : zUp A2 73 6 (zWv I wr (I 73 6) (p + 1)) 73 31 = zB wr := by rw [zUp_nj (by decide), c3 31 (by decide), b31]
  have d30 : zUp A2 73 6 (zWv I wr (I 73 6) (p + 1)) 73 30 = zN (p + 2) := by rw [zUp_nj (by decide), c4]
  obtain ⟨A3, e1, e2, e3, e4, e5⟩ := zpass (I := zUp A2 73 6 (zWv I wr (I 73 6) (p + 1))) (wr := wr) (p := p + 2) (zUp A2 73 6 (zWv I wr (I 73 6) (p + 1)) 73 10) d31 d30 (by omega)
  have ew2 : zWv (zUp A2 73 6 (zWv I wr (I 73 6) (p + 1))) wr (zUp A2 73 6 (zWv I wr (I 73 6) (p + 1)) 73 10) (p + 2) = zWv I wr (I 73 10) (p + 2) := zWv_c (by rw [zUp_nj (by decide), c3 10 (by decide), zUp_nj (by decide), a3 10 (by decide)]) (by rw [zUp_ne (by decide), c5, if_neg (by omega), zUp_ne (by decide), a5, if_neg (by omega)])
  rw [ew2] at e1 e5
  rw [e1, Option.bind_some]
  -- where it stands behind the slots
  have fB : ∀ b, b ≠ 73 → b ≠ 94 → zUp A3 73 10 (zWv I wr (I 73 10) (p + 2)) b = I b := fun b b1 b2 => by rw [zUp_ne b1, e2 b b1 b2, zUp_ne b1, c2 b b1 b2, zUp_ne b1, a2 b b1 b2]
  have fS : ∀ i, i ≠ 5 → i ≠ 6 → i ≠ 10 → i ≠ 30 → zUp A3 73 10 (zWv I wr (I 73 10) (p + 2)) 73 i = I 73 i := fun i i1 i2 i3 i4 => by rw [zUp_nj i3, e3 i i4, zUp_nj i2, c3 i i4, zUp_nj i1, a3 i i4]
  have f5 : zUp A3 73 10 (zWv I wr (I 73 10) (p + 2)) 73 5 = zWv I wr (I 73 5) p := by rw [zUp_nj (by decide), e3 5 (by decide), zUp_nj (by decide), c3 5 (by decide), zUp_eq]
  have f6 : zUp A3 73 10 (zWv I wr (I 73 10) (p + 2)) 73 6 = zWv I wr (I 73 6) (p + 1) := by rw [zUp_nj (by decide), e3 6 (by decide), zUp_eq]
  have f10 : zUp A3 73 10 (zWv I wr (I 73 10) (p + 2)) 73 10 = zWv I wr (I 73 10) (p + 2) := by rw [zUp_eq]
  have f94 : ∀ q, zUp A3 73 10 (zWv I wr (I 73 10) (p + 2)) 94 q = if q = p + 2 then zWv I wr (I 73 10) (p + 2) else if q = p + 1 then zWv I wr (I 73 6) (p + 1) else if q = p then zWv I wr (I 73 5) p else I 94 q := by
    intro q
    rw [zUp_ne (by decide), e5, zUp_ne (by decide), c5, zUp_ne (by decide), a5]
  have f31 : zUp A3 73 10 (zWv I wr (I 73 10) (p + 2)) 73 31 = zB wr := by rw [fS 31 (by decide) (by decide) (by decide) (by decide), h31]
  have f30 : zUp A3 73 10 (zWv I wr (I 73 10) (p + 2)) 73 30 = zN (p + 3) := by rw [zUp_nj (by decide), e4]
  show ∃ J, ((Mo_passRow_74 n 10 (zUp A3 73 10 (zWv I wr (I 73 10) (p + 2)))).bind _) = some J ∧ _
  clear a1 c1 e1
  generalize zUp A3 73 10 (zWv I wr (I 73 10) (p + 2)) = B0 at *
  obtain ⟨B1, r1, s1⟩ := zpr74 (I := B0) (wr := wr) (p := p + 3) (n := n) f31 f30 (by omega) hn
  rw [r1, Option.bind_some]
  obtain ⟨s1a, s1b, s1c, s1d, s1e⟩ := s1
  have g131 : B1 73 31 = zB wr := by rw [s1b 31 (by decide), f31]
  have g130 : B1 73 30 = zN (p + 13) := by rw [s1c]
  obtain ⟨B2, r2, s2⟩ := zpr75 (I := B1) (wr := wr) (p := p + 13) (n := n) g131 g130 (by omega) hn
  rw [r2, Option.bind_some]
  obtain ⟨s2a, s2b, s2c, s2d, s2e⟩ := s2
  have g231 : B2 73 31 = zB wr := by rw [s2b 31 (by decide), g131]
  have g230 : B2 73 30 = zN (p + 21) := by rw [s2c]
  obtain ⟨B3, r3, s3⟩ := zpr76 (I := B2) (wr := wr) (p := p + 21) (n := n) g231 g230 (by omega) hn
  rw [r3, Option.bind_some]
  obtain ⟨s3a, s3b, s3c, s3d, s3e⟩ := s3
  have g331 : B3 73 31 = zB wr := by rw [s3b 31 (by decide), g231]
  have g330 : B3 73 30 = zN (p + 29) := by rw [s3c]
  obtain ⟨B4, r4, s4⟩ := zpr77 (I := B3) (wr := wr) (p := p + 29) (n := n) g331 g330 (by omega) hn
  rw [r4, Option.bind_some]
  obtain ⟨s4a, s4b, s4c, s4d, s4e⟩ := s4
  have g431 : B4 73 31 = zB wr := by rw [s4b 31 (by decide), g331]
  have g430 : B4 73 30 = zN (p + 39) := by rw [s4c]
  obtain ⟨B5, r5, s5⟩ := zpr78 (I := B4) (wr := wr) (p := p + 39) (n := n) g431 g430 (by omega) hn
  rw [r5, Option.bind_some]
  obtain ⟨s5a, s5b, s5c, s5d, s5e⟩ := s5
  have g531 : B5 73 31 = zB wr := by rw [s5b 31 (by decide), g431]
  have g530 : B5 73 30 = zN (p + 49) := by rw [s5c]
  obtain ⟨B6, r6, s6⟩ := zpr79 (I := B5) (wr := wr) (p := p + 49) (n := n) g531 g530 (by omega) hn
  rw [r6, Option.bind_some]
  obtain ⟨s6a, s6b, s6c, s6d, s6e⟩ := s6
  have g631 : B6 73 31 = zB wr := by rw [s6b 31 (by decide), g531]
  have g630 : B6 73 30 = zN (p + 57) := by rw [s6c]
  obtain ⟨B7, r7, s7⟩ := zpr80 (I := B6) (wr := wr) (p := p + 57) (n := n) g631 g630 (by omega) hn
  rw [r7, Option.bind_some]
  obtain ⟨s7a, s7b, s7c, s7d, s7e⟩ := s7
  have g731 : B7 73 31 = zB wr := by rw [s7b 31 (by decide), g631]
  have g730 : B7 73 30 = zN (p + 65) := by rw [s7c]
  obtain ⟨B8, r8, s8⟩ := zpr81 (I := B7) (wr := wr) (p := p + 65) (n := n) g731 g730 (by omega) hn
  rw [r8, Option.bind_some]
  obtain ⟨s8a, s8b, s8c, s8d, s8e⟩ := s8
  have g831 : B8 73 31 = zB wr := by rw [s8b 31 (by decide), g731]
  have g830 : B8 73 30 = zN (p + 73) := by rw [s8c]
  refine ⟨B8, rfl, fun b hb => ?_, ?_, ?_, fun i i1 i2 i3 i4 => ?_, fun q hq => ?_, ⟨?_, ?_⟩, ⟨?_, ?_⟩, ⟨?_, ?_⟩, fun i hi => ⟨?_, ?_⟩, fun i hi => ⟨?_, ?_⟩, fun i hi => ⟨?_, ?_⟩, fun i hi => ⟨?_, ?_⟩, fun i hi => ⟨?_, ?_⟩, fun i hi => ⟨?_, ?_⟩, fun i hi => ⟨?_, ?_⟩, fun i hi => ⟨?_, ?_⟩⟩
  · rw [s8a b (by omega) (by omega) (by omega), s7a b (by omega) (by omega) (by omega), s6a b (by omega) (by omega) (by omega), s5a b (by omega) (by omega) (by omega), s4a b (by omega) (by omega) (by omega), s3a b (by omega) (by omega) (by omega), s2a b (by omega) (by omega) (by omega), s1a b (by omega) (by omega) (by omega), fB b (by omega) (by omega)]
  · rw [s8a 82 (by decide) (by decide) (by decide), s7a 82 (by decide) (by decide) (by decide), s6a 82 (by decide) (by decide) (by decide), s5a 82 (by decide) (by decide) (by decide), s4a 82 (by decide) (by decide) (by decide), s3a 82 (by decide) (by decide) (by decide), s2a 82 (by decide) (by decide) (by decide), s1a 82 (by decide) (by decide) (by decide), fB 82 (by decide) (by decide)]
  · rw [s8a 95 (by decide) (by decide) (by decide), s7a 95 (by decide) (by decide) (by decide), s6a 95 (by decide) (by decide) (by decide), s5a 95 (by decide) (by decide) (by decide), s4a 95 (by decide) (by decide) (by decide), s3a 95 (by decide) (by decide) (by decide), s2a 95 (by decide) (by decide) (by decide), s1a 95 (by decide) (by decide) (by decide), fB 95 (by decide) (by decide)]
  · rw [s8b i i4, s7b i i4, s6b i i4, s5b i i4, s4b i i4, s3b i i4, s2b i i4, s1b i i4, fS i i1 i2 i3 i4]
  · rw [s8e _ (by omega), s7e _ (by omega), s6e _ (by omega), s5e _ (by omega), s4e _ (by omega), s3e _ (by omega), s2e _ (by omega), s1e _ (by omega), f94, if_neg (by omega), if_neg (by omega), if_neg (by omega)]
  · rw [s8b 5 (by decide), s7b 5 (by decide), s6b 5 (by decide), s5b 5 (by decide), s4b 5 (by decide), s3b 5 (by decide), s2b 5 (by decide), s1b 5 (by decide), f5]
  · rw [s8e _ (by omega), s7e _ (by omega), s6e _ (by omega), s5e _ (by omega), s4e _ (by omega), s3e _ (by omega), s2e _ (by omega), s1e _ (by omega), f94, if_neg (by omega), if_neg (by omega), if_pos rfl]
  · rw [s8b 6 (by decide), s7b 6 (by decide), s6b 6 (by decide), s5b 6 (by decide), s4b 6 (by decide), s3b 6 (by decide), s2b 6 (by decide), s1b 6 (by decide), f6]
  · rw [s8e _ (by omega), s7e _ (by omega), s6e _ (by omega), s5e _ (by omega), s4e _ (by omega), s3e _ (by omega), s2e _ (by omega), s1e _ (by omega), f94, if_neg (by omega), if_pos rfl]
  · rw [s8b 10 (by decide), s7b 10 (by decide), s6b 10 (by decide), s5b 10 (by decide), s4b 10 (by decide), s3b 10 (by decide), s2b 10 (by decide), s1b 10 (by decide), f10]
  · rw [s8e _ (by omega), s7e _ (by omega), s6e _ (by omega), s5e _ (by omega), s4e _ (by omega), s3e _ (by omega), s2e _ (by omega), s1e _ (by omega), f94, if_pos rfl]
  · have ew : zWv B0 wr (B0 74 i) (p + 3 + i) = zWv I wr (I 74 i) (p + 3 + i) := zWv_c (by rw [fB 74 (by decide) (by decide)]) (by rw [f94, if_neg (by omega), if_neg (by omega), if_neg (by omega)])
    rw [s8a 74 (by decide) (by decide) (by decide), s7a 74 (by decide) (by decide) (by decide), s6a 74 (by decide) (by decide) (by decide), s5a 74 (by decide) (by decide) (by decide), s4a 74 (by decide) (by decide) (by decide), s3a 74 (by decide) (by decide) (by decide), s2a 74 (by decide) (by decide) (by decide), (s1d i hi).1, ew]
  · have ew : zWv B0 wr (B0 74 i) (p + 3 + i) = zWv I wr (I 74 i) (p + 3 + i) := zWv_c (by rw [fB 74 (by decide) (by decide)]) (by rw [f94, if_neg (by omega), if_neg (by omega), if_neg (by omega)])
    rw [s8e _ (by omega), s7e _ (by omega), s6e _ (by omega), s5e _ (by omega), s4e _ (by omega), s3e _ (by omega), s2e _ (by omega), (s1d i hi).2, ew]
  · have ew : zWv B1 wr (B1 75 i) (p + 13 + i) = zWv I wr (I 75 i) (p + 13 + i) := zWv_c (by rw [s1a 75 (by decide) (by decide) (by decide), fB 75 (by decide) (by decide)]) (by rw [s1e _ (by omega), f94, if_neg (by omega), if_neg (by omega), if_neg (by omega)])
    rw [s8a 75 (by decide) (by decide) (by decide), s7a 75 (by decide) (by decide) (by decide), s6a 75 (by decide) (by decide) (by decide), s5a 75 (by decide) (by decide) (by decide), s4a 75 (by decide) (by decide) (by decide), s3a 75 (by decide) (by decide) (by decide), (s2d i hi).1, ew]
  · have ew : zWv B1 wr (B1 75 i) (p + 13 + i) = zWv I wr (I 75 i) (p + 13 + i) := zWv_c (by rw [s1a 75 (by decide) (by decide) (by decide), fB 75 (by decide) (by decide)]) (by rw [s1e _ (by omega), f94, if_neg (by omega), if_neg (by omega), if_neg (by omega)])
    rw [s8e _ (by omega), s7e _ (by omega), s6e _ (by omega), s5e _ (by omega), s4e _ (by omega), s3e _ (by omega), (s2d i hi).2, ew]
  · have ew : zWv B2 wr (B2 76 i) (p + 21 + i) = zWv I wr (I 76 i) (p + 21 + i) := zWv_c (by rw [s2a 76 (by decide) (by decide) (by decide), s1a 76 (by decide) (by decide) (by decide), fB 76 (by decide) (by decide)]) (by rw [s2e _ (by omega), s1e _ (by omega), f94, if_neg (by omega), if_neg (by omega), if_neg (by omega)])
    rw [s8a 76 (by decide) (by decide) (by decide), s7a 76 (by decide) (by decide) (by decide), s6a 76 (by decide) (by decide) (by decide), s5a 76 (by decide) (by decide) (by decide), s4a 76 (by decide) (by decide) (by decide), (s3d i hi).1, ew]
  · have ew : zWv B2 wr (B2 76 i) (p + 21 + i) = zWv I wr (I 76 i) (p + 21 + i) := zWv_c (by rw [s2a 76 (by decide) (by decide) (by decide), s1a 76 (by decide) (by decide) (by decide), fB 76 (by decide) (by decide)]) (by rw [s2e _ (by omega), s1e _ (by omega), f94, if_neg (by omega), if_neg (by omega), if_neg (by omega)])
    rw [s8e _ (by omega), s7e _ (by omega), s6e _ (by omega), s5e _ (by omega), s4e _ (by omega), (s3d i hi).2, ew]
  · have ew : zWv B3 wr (B3 77 i) (p + 29 + i) = zWv I wr (I 77 i) (p + 29 + i) := zWv_c (by rw [s3a 77 (by decide) (by decide) (by decide), s2a 77 (by decide) (by decide) (by decide), s1a 77 (by decide) (by decide) (by decide), fB 77 (by decide) (by decide)]) (by rw [s3e _ (by omega), s2e _ (by omega), s1e _ (by omega), f94, if_neg (by omega), if_neg (by omega), if_neg (by omega)])
    rw [s8a 77 (by decide) (by decide) (by decide), s7a 77 (by decide) (by decide) (by decide), s6a 77 (by decide) (by decide) (by decide), s5a 77 (by decide) (by decide) (by decide), (s4d i hi).1, ew]
  · have ew : zWv B3 wr (B3 77 i) (p + 29 + i) = zWv I wr (I 77 i) (p + 29 + i) := zWv_c (by rw [s3a 77 (by decide) (by decide) (by decide), s2a 77 (by decide) (by decide) (by decide), s1a 77 (by decide) (by decide) (by decide), fB 77 (by decide) (by decide)]) (by rw [s3e _ (by omega), s2e _ (by omega), s1e _ (by omega), f94, if_neg (by omega), if_neg (by omega), if_neg (by omega)])
    rw [s8e _ (by omega), s7e _ (by omega), s6e _ (by omega), s5e _ (by omega), (s4d i hi).2, ew]
  · have ew : zWv B4 wr (B4 78 i) (p + 39 + i) = zWv I wr (I 78 i) (p + 39 + i) := zWv_c (by rw [s4a 78 (by decide) (by decide) (by decide), s3a 78 (by decide) (by decide) (by decide), s2a 78 (by decide) (by decide) (by decide), s1a 78 (by decide) (by decide) (by decide), fB 78 (by decide) (by decide)]) (by rw [s4e _ (by omega), s3e _ (by omega), s2e _ (by omega), s1e _ (by omega), f94, if_neg (by omega), if_neg (by omega), if_neg (by omega)])
    rw [s8a 78 (by decide) (by decide) (by decide), s7a 78 (by decide) (by decide) (by decide), s6a 78 (by decide) (by decide) (by decide), (s5d i hi).1, ew]
  · have ew : zWv B4 wr (B4 78 i) (p + 39 + i) = zWv I wr (I 78 i) (p + 39 + i) := zWv_c (by rw [s4a 78 (by decide) (by decide) (by decide), s3a 78 (by decide) (by decide) (by decide), s2a 78 (by decide) (by decide) (by decide), s1a 78 (by decide) (by decide) (by decide), fB 78 (by decide) (by decide)]) (by rw [s4e _ (by omega), s3e _ (by omega), s2e _ (by omega), s1e _ (by omega), f94, if_neg (by omega), if_neg (by omega), if_neg (by omega)])
    rw [s8e _ (by omega), s7e _ (by omega), s6e _ (by omega), (s5d i hi).2, ew]
  · have ew : zWv B5 wr (B5 79 i) (p + 49 + i) = zWv I wr (I 79 i) (p + 49 + i) := zWv_c (by rw [s5a 79 (by decide) (by decide) (by decide), s4a 79 (by decide) (by decide) (by decide), s3a 79 (by decide) (by decide) (by decide), s2a 79 (by decide) (by decide) (by decide), s1a 79 (by decide) (by decide) (by decide), fB 79 (by decide) (by decide)]) (by rw [s5e _ (by omega), s4e _ (by omega), s3e _ (by omega), s2e _ (by omega), s1e _ (by omega), f94, if_neg (by omega), if_neg (by omega), if_neg (by omega)])
    rw [s8a 79 (by decide) (by decide) (by decide), s7a 79 (by decide) (by decide) (by decide), (s6d i hi).1, ew]
  · have ew : zWv B5 wr (B5 79 i) (p + 49 + i) = zWv I wr (I 79 i) (p + 49 + i) := zWv_c (by rw [s5a 79 (by decide) (by decide) (by decide), s4a 79 (by decide) (by decide) (by decide), s3a 79 (by decide) (by decide) (by decide), s2a 79 (by decide) (by decide) (by decide), s1a 79 (by decide) (by decide) (by decide), fB 79 (by decide) (by decide)]) (by rw [s5e _ (by omega), s4e _ (by omega), s3e _ (by omega), s2e _ (by omega), s1e _ (by omega), f94, if_neg (by omega), if_neg (by omega), if_neg (by omega)])
    rw [s8e _ (by omega), s7e _ (by omega), (s6d i hi).2, ew]
  · have ew : zWv B6 wr (B6 80 i) (p + 57 + i) = zWv I wr (I 80 i) (p + 57 + i) := zWv_c (by rw [s6a 80 (by decide) (by decide) (by decide), s5a 80 (by decide) (by decide) (by decide), s4a 80 (by decide) (by decide) (by decide), s3a 80 (by decide) (by decide) (by decide), s2a 80 (by decide) (by decide) (by decide), s1a 80 (by decide) (by decide) (by decide), fB 80 (by decide) (by decide)]) (by rw [s6e _ (by omega), s5e _ (by omega), s4e _ (by omega), s3e _ (by omega), s2e _ (by omega), s1e _ (by omega), f94, if_neg (by omega), if_neg (by omega), if_neg (by omega)])
    rw [s8a 80 (by decide) (by decide) (by decide), (s7d i hi).1, ew]
  · have ew : zWv B6 wr (B6 80 i) (p + 57 + i) = zWv I wr (I 80 i) (p + 57 + i) := zWv_c (by rw [s6a 80 (by decide) (by decide) (by decide), s5a 80 (by decide) (by decide) (by decide), s4a 80 (by decide) (by decide) (by decide), s3a 80 (by decide) (by decide) (by decide), s2a 80 (by decide) (by decide) (by decide), s1a 80 (by decide) (by decide) (by decide), fB 80 (by decide) (by decide)]) (by rw [s6e _ (by omega), s5e _ (by omega), s4e _ (by omega), s3e _ (by omega), s2e _ (by omega), s1e _ (by omega), f94, if_neg (by omega), if_neg (by omega), if_neg (by omega)])
    rw [s8e _ (by omega), (s7d i hi).2, ew]
  · have ew : zWv B7 wr (B7 81 i) (p + 65 + i) = zWv I wr (I 81 i) (p + 65 + i) := zWv_c (by rw [s7a 81 (by decide) (by decide) (by decide), s6a 81 (by decide) (by decide) (by decide), s5a 81 (by decide) (by decide) (by decide), s4a 81 (by decide) (by decide) (by decide), s3a 81 (by decide) (by decide) (by decide), s2a 81 (by decide) (by decide) (by decide), s1a 81 (by decide) (by decide) (by decide), fB 81 (by decide) (by decide)]) (by rw [s7e _ (by omega), s6e _ (by omega), s5e _ (by omega), s4e _ (by omega), s3e _ (by omega), s2e _ (by omega), s1e _ (by omega), f94, if_neg (by omega), if_neg (by omega), if_neg (by omega)])
    rw [(s8d i hi).1, ew]
  · have ew : zWv B7 wr (B7 81 i) (p + 65 + i) = zWv I wr (I 81 i) (p + 65 + i) := zWv_c (by rw [s7a 81 (by decide) (by decide) (by decide), s6a 81 (by decide) (by decide) (by decide), s5a 81 (by decide) (by decide) (by decide), s4a 81 (by decide) (by decide) (by decide), s3a 81 (by decide) (by decide) (by decide), s2a 81 (by decide) (by decide) (by decide), s1a 81 (by decide) (by decide) (by decide), fB 81 (by decide) (by decide)]) (by rw [s7e _ (by omega), s6e _ (by omega), s5e _ (by omega), s4e _ (by omega), s3e _ (by omega), s2e _ (by omega), s1e _ (by omega), f94, if_neg (by omega), if_neg (by omega), if_neg (by omega)])
    rw [(s8d i hi).2, ew]
