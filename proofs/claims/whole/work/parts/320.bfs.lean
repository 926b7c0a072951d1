/-! steps: sets of benches that are reached -/
/-- the neighbours of a set (bits) -/
def zNb (W : Nat → Nat) (s : Nat) : Nat → Nat
  | 0 => 0
  | k + 1 => zNb W s k ||| (if s.testBit k = true then W k else 0)
/-- one step more -/
def zGo1 (W : Nat → Nat) (s : Nat) : Nat := s ||| zNb W s 10
def zRch (W : Nat → Nat) (s : Nat) : Nat → Nat
  | 0 => s
  | n + 1 => zGo1 W (zRch W s n)
theorem zNb_bit (W : Nat → Nat) (s j : Nat) : ∀ k, ((zNb W s k).testBit j = true ↔ ∃ b, b < k ∧ s.testBit b = true ∧ (W b).testBit j = true) := by
  intro k
  induction k with
  | zero =>
    unfold zNb
    rw [Nat.zero_testBit]
    constructor
    · intro h
      cases h
    · rintro ⟨b, hb, -⟩
      omega
  | succ k ih =>
    unfold zNb
    rw [Nat.testBit_or, Bool.or_eq_true, ih]
    constructor
    · rintro (⟨b, h1, h2, h3⟩ | h)
      · exact ⟨b, by omega, h2, h3⟩
      · by_cases q : s.testBit k = true
        · rw [if_pos q] at h
          exact ⟨k, by omega, q, h⟩
        · rw [if_neg q, Nat.zero_testBit] at h
          cases h
    · rintro ⟨b, h1, h2, h3⟩
      by_cases q : b = k
      · right
        subst q
        rw [if_pos h2]
        exact h3
      · left
        exact ⟨b, by omega, h2, h3⟩
theorem zGo1_bit (W : Nat → Nat) (s j : Nat) : ((zGo1 W s).testBit j = true ↔ s.testBit j = true ∨ ∃ b, b < 10 ∧ s.testBit b = true ∧ (W b).testBit j = true) := by
  unfold zGo1
  rw [Nat.testBit_or, Bool.or_eq_true, zNb_bit]
theorem zNb_lt {W : Nat → Nat} (hW : ∀ b, b < 10 → W b < 1024) (s : Nat) : ∀ k, k ≤ 10 → zNb W s k < 1024 := by
  intro k
  induction k with
  | zero =>
    intro _
    show 0 < 1024
    decide
  | succ k ih =>
    intro hk
    unfold zNb
    refine Nat.or_lt_two_pow (n := 10) (ih (by omega)) ?_
    split
    · exact hW k (by omega)
    · decide
theorem zGo1_lt {W : Nat → Nat} (hW : ∀ b, b < 10 → W b < 1024) {s : Nat} (hs : s < 1024) : zGo1 W s < 1024 := Nat.or_lt_two_pow (n := 10) hs (zNb_lt hW s 10 (Nat.le_refl 10))
theorem zRch_lt {W : Nat → Nat} (hW : ∀ b, b < 10 → W b < 1024) {s : Nat} (hs : s < 1024) : ∀ n, zRch W s n < 1024 := by
  intro n
  induction n with
  | zero => exact hs
  | succ n ih => exact zGo1_lt hW ih
/-- how far: the first n of m more (from n on) at which t is reached; 100: none -/
def zFar (W : Nat → Nat) (a t : Nat) : Nat → Nat → Nat
  | 0, _ => 100
  | m + 1, n => if (zRch W (1 <<< a) n).testBit t = true then n else zFar W a t m (n + 1)
def zDs (W : Nat → Nat) (a t : Nat) : Nat := zFar W a t 10 0
/-- the class's ways -/
def WC (I : zI) (W : Nat → Nat) : Prop := (∀ b, b < 10 → I 4 b = zN (W b)) ∧ ∀ b, b < 10 → W b < 1024
def WM (I : zI) (W : Nat → Nat) : Prop := (∀ b, b < 10 → I 74 b = zN (W b)) ∧ ∀ b, b < 10 → W b < 1024
theorem zcnbL {I : zI} {W : Nat → Nat} (h : WC I W) {s : Nat} (hs : s < 1024) : ∀ (j k n : Nat), k + j = 10 → j < n → Ga_neighboursOf_2_L4 n (zN s) (zN (zNb W s k)) (zN k) I = some (zN (zNb W s 10)) := by
  intro j
  induction j with
  | zero =>
    intro k n hk hn
    obtain ⟨n, rfl⟩ : ∃ e, n = e + 1 := ⟨n - 1, by omega⟩
    rw [Ga_neighboursOf_2_L4, zl_10, if_pos ((zN_le (by decide) (by omega)).mpr (by omega)), show k = 10 by omega]
  | succ j ih =>
    intro k n hk hn
    obtain ⟨n, rfl⟩ : ∃ e, n = e + 1 := ⟨n - 1, by omega⟩
    rw [Ga_neighboursOf_2_L4, zl_10, if_neg (by rw [zN_le (by decide) (by omega)]; omega), zbHas I (by omega) (by omega), Option.bind_some]
    have e : (if zB (s.testBit k) = (0 : Int32) then some (zN (zNb W s k)) else (Rw_at_3 (zN k) I).bind fun x => some (zN (zNb W s k) ||| x)) = some (zN (zNb W s (k + 1))) := by
      conv => rhs; unfold zNb
      rw [zat_3 I (by omega), h.1 k (by omega), Option.bind_some, zN_or]
      cases hb : s.testBit k
      · rw [if_pos (by decide), if_neg (by decide), Nat.or_zero]
      · rw [if_neg (by decide), if_pos rfl]
    rw [e, Option.bind_some, zl_1, zN_add]
    exact ih (k + 1) n (by omega) (by omega)
theorem zcnb {I : zI} {W : Nat → Nat} (h : WC I W) {s n : Nat} (hs : s < 1024) (hn : 10 < n) : Ga_neighboursOf_2 n (zN s) I = some (zN (zNb W s 10)) := by
  unfold Ga_neighboursOf_2
  rw [show Ga_neighboursOf_2_L4 n (zN s) 0 0 I = _ from zcnbL h hs 10 0 n rfl hn, Option.bind_some]
theorem zcfarL {I : zI} {W : Nat → Nat} (h : WC I W) {a t : Nat} (ha : a < 10) (ht : t < 10) : ∀ (j k n : Nat), k + j = 10 → j + 20 < n → Ga_stepsBetween_2_L7 n (zN t) (zN (zRch W (1 <<< a) k)) (zN k) I = some (zE (zFar W a t j k)) := by
  intro j
  induction j with
  | zero =>
    intro k n hk hn
    obtain ⟨n, rfl⟩ : ∃ e, n = e + 1 := ⟨n - 1, by omega⟩
    rw [Ga_stepsBetween_2_L7, zl_10, if_pos ((zN_le (by decide) (by omega)).mpr (by omega))]
    rfl
  | succ j ih =>
    intro k n hk hn
    obtain ⟨n, rfl⟩ : ∃ e, n = e + 1 := ⟨n - 1, by omega⟩
    have hlt := zRch_lt h.2 (z1_lt ha) k
    rw [Ga_stepsBetween_2_L7, zl_10, if_neg (by rw [zN_le (by decide) (by omega)]; omega), zbHas I (by omega) (by omega), Option.bind_some]
    unfold zFar
    cases hb : (zRch W (1 <<< a) k).testBit t
    · rw [if_pos (by decide), if_neg (by decide), zcnb h hlt (by omega), Option.bind_some, zN_or, zl_1, zN_add]
      exact ih (k + 1) n (by omega) (by omega)
    · rw [if_neg (by decide), if_pos rfl, zE_lt (by omega)]
theorem zcfar {I : zI} {W : Nat → Nat} (h : WC I W) {a t n : Nat} (ha : a < 10) (ht : t < 10) (hn : 40 < n) : Ga_stepsBetween_2 n (zN a) (zN t) I = some (zE (zDs W a t)) := by
  unfold Ga_stepsBetween_2
  rw [zl_1, zN_shl 1 (by omega)]
  exact zcfarL h ha ht 10 0 n rfl (by omega)
/-- the reference adds to what is near -/
theorem zmnbL {I : zI} {W : Nat → Nat} (h : WM I W) {s : Nat} (hs : s < 1024) {t c : Int32} : ∀ (j k n : Nat), k + j = 10 → j < n → Mo_far_L31 n t (zN s) c (zN (s ||| zNb W s k)) (zN k) I = some (zN (zGo1 W s)) := by
  intro j
  induction j with
  | zero =>
    intro k n hk hn
    obtain ⟨n, rfl⟩ : ∃ e, n = e + 1 := ⟨n - 1, by omega⟩
    rw [Mo_far_L31, zl_10, if_pos ((zN_le (by decide) (by omega)).mpr (by omega)), show k = 10 by omega]
    rfl
  | succ j ih =>
    intro k n hk hn
    obtain ⟨n, rfl⟩ : ∃ e, n = e + 1 := ⟨n - 1, by omega⟩
    rw [Mo_far_L31, if_neg (by rw [zl_10, zN_le (by decide) (by omega)]; omega), zmIsIn I (by omega) (by omega), Option.bind_some]
    have e : (if zB (s.testBit k) = (0 : Int32) then some (0 : Int32) else if zIn (zN k) 10 then some (I 74 (Int32.toNatClampNeg (zN k))) else none) = some (zN (if s.testBit k = true then W k else 0)) := by
      rw [if_pos ((zN_in (by omega)).mpr (by omega)), zN_tn (by omega), h.1 k (by omega)]
      cases hb : s.testBit k
      · rw [if_pos (by decide), if_neg (by decide)]
        rfl
      · rw [if_neg (by decide), if_pos rfl]
    rw [e, Option.bind_some, zN_or, zl_1, zN_add, Nat.or_assoc]
    exact ih (k + 1) n (by omega) (by omega)
theorem zmfarL {I : zI} {W : Nat → Nat} (h : WM I W) {a t : Nat} (ha : a < 10) (ht : t < 10) : ∀ (j k n : Nat), k + j = 10 → j + 20 < n → Mo_far_L7 n (zN t) (zN (zRch W (1 <<< a) k)) (zN k) I = some (zE (zFar W a t j k)) := by
  intro j
  induction j with
  | zero =>
    intro k n hk hn
    obtain ⟨n, rfl⟩ : ∃ e, n = e + 1 := ⟨n - 1, by omega⟩
    rw [Mo_far_L7, zl_10, if_pos ((zN_le (by decide) (by omega)).mpr (by omega))]
    rfl
  | succ j ih =>
    intro k n hk hn
    obtain ⟨n, rfl⟩ : ∃ e, n = e + 1 := ⟨n - 1, by omega⟩
    have hlt := zRch_lt h.2 (z1_lt ha) k
    rw [Mo_far_L7, zl_10, if_neg (by rw [zN_le (by decide) (by omega)]; omega), zmIsIn I (by omega) (by omega), Option.bind_some]
    unfold zFar
    cases hb : (zRch W (1 <<< a) k).testBit t
    · have e := zmnbL h hlt (t := zN t) (c := zN k) 10 0 n rfl (by omega)
      rw [show zRch W (1 <<< a) k ||| zNb W (zRch W (1 <<< a) k) 0 = zRch W (1 <<< a) k from Nat.or_zero _] at e
      rw [if_pos (by decide), if_neg (by decide), show Mo_far_L31 n (zN t) (zN (zRch W (1 <<< a) k)) (zN k) (zN (zRch W (1 <<< a) k)) 0 I = _ from e, Option.bind_some, zl_1, zN_add]
      exact ih (k + 1) n (by omega) (by omega)
    · rw [if_neg (by decide), if_pos rfl, zE_lt (by omega)]
theorem zmfar {I : zI} {W : Nat → Nat} (h : WM I W) {a t n : Nat} (ha : a < 10) (ht : t < 10) (hn : 40 < n) : Mo_far n (zN a) (zN t) I = some (zE (zDs W a t)) := by
  unfold Mo_far
  rw [zl_1, zN_shl 1 (by omega)]
  exact zmfarL h ha ht 10 0 n rfl (by omega)
theorem WC_of {I : zI} {s : zA} (h : GC 2 I s) (v : VS s) : WC I (s 0) := ⟨fun b hb => gc2_0 h hb, vs_w v⟩
theorem WM_of {I : zI} {s : zA} (h : GM I s) (v : VS s) : WM I (s 0) := ⟨fun b hb => gm_w h hb, vs_w v⟩
theorem c_steps {I : zI} (h : Rel I) {n : Nat} (hn : 5000 < n) (a0 a1 : Int32) : ∃ r, BM_steps n a0 a1 I = some r ∧ Mo_steps n a0 a1 I = some r := by
  unfold BM_steps Mo_steps
  obtain ⟨⟨s, hc, hm, v⟩, hr⟩ := h
  rcases zW_c 0 9 a0 (by decide) (by decide) with ⟨a, -, ha, rfl, ea⟩ | ⟨ea, -⟩
  · rcases zW_c 0 9 a1 (by decide) (by decide) with ⟨b, -, hb, rfl, eb⟩ | ⟨eb, -⟩
    · rw [zbBench, zmBench, ea, Option.bind_some, Option.bind_some, if_neg (by decide), if_neg (by decide), zbBench, zmBench, eb, Option.bind_some, Option.bind_some, if_neg (by decide), if_neg (by decide), zcfar (WC_of hc v) (by omega) (by omega) (by omega), zmfar (WM_of hm v) (by omega) (by omega) (by omega)]
      exact ⟨_, rfl, rfl⟩
    · rw [zbBench, zmBench, ea, Option.bind_some, Option.bind_some, if_neg (by decide), if_neg (by decide), zbBench, zmBench, eb, Option.bind_some, Option.bind_some, if_pos (by decide), if_pos (by decide)]
      exact ⟨_, rfl, rfl⟩
  · rw [zbBench, zmBench, ea, Option.bind_some, Option.bind_some, if_pos (by decide), if_pos (by decide)]
    exact ⟨_, rfl, rfl⟩
theorem zFar_lt (W : Nat → Nat) (a t : Nat) : ∀ j k, zFar W a t j k < k + j ∨ zFar W a t j k = 100 := by
  intro j
  induction j with
  | zero => exact fun k => Or.inr rfl
  | succ j ih =>
    intro k
    unfold zFar
    split
    · left
      omega
    · have := ih (k + 1)
      omega
theorem zDs_lt (W : Nat → Nat) (a t : Nat) : zDs W a t < 10 ∨ zDs W a t = 100 := by
  have := zFar_lt W a t 10 0
  unfold zDs
  omega
theorem c_get {I : zI} (h : Rel I) {n : Nat} (hn : 5000 < n) (a0 a1 : Int32) : ∃ r, BM_get n a0 a1 I = some r ∧ Mo_get n a0 a1 I = some r := by
  obtain ⟨⟨s, hc, hm, v⟩, hr⟩ := h
  rcases zW_c 0 7 a0 (by decide) (by decide) with ⟨a, -, ha, rfl, ea⟩ | ⟨ea, -⟩
  · rcases zW_c 0 11 a1 (by decide) (by decide) with ⟨m, -, hb, rfl, eb⟩ | ⟨eb, -⟩
    · have hpl := zPl_c (vs_pl v) (show m < 12 by omega)
      have hb1 := vs_p v a (by omega)
      have hcu := vs_cu v
      by_cases q : 10 ≤ s 2 m ∧ s 2 m < 20
      · obtain ⟨p, hp⟩ : ∃ p, s 2 m = 10 + p := ⟨s 2 m - 10, by omega⟩
        have hp10 : p < 10 := by omega
        have hd := zDs_lt (s 0) (s 1 a) p
        refine ⟨if zDs (s 0) (s 1 a) p < 100 then (if (s 5 0).testBit p = true then -(zN 6) else zN (zDs (s 0) (s 1 a) p + 1)) else -(zN 6), ?_, ?_⟩
        · unfold BM_get Ga_placeOf_2
          rw [zbOne, ea, Option.bind_some, if_neg (by decide), zbMem, eb, Option.bind_some, if_neg (by decide), zat_7 I (by omega), Option.bind_some, Option.bind_some, gc2_2 hc (by omega), hp, zE_lt (by omega), zl_10, zN_sub (by omega), show 10 + p - 10 = p by omega, zbBench, zW_N (by decide) (by decide) (by omega), decide_eq_true (by omega), Option.bind_some, if_neg (by decide), zbo2 hc (by omega), Option.bind_some, zcfar (WC_of hc v) hb1 hp10 (by omega), Option.bind_some, zl_6]
          by_cases z : zDs (s 0) (s 1 a) p < 100
          · rw [if_neg (by rw [zE_none]; omega), if_pos z, zhc2 hc v (by omega), Option.bind_some, zE_lt z, zl_1, zN_add]
            cases (s 5 0).testBit p <;> rfl
          · rw [if_pos ((zE_none _).mpr (by omega)), if_neg z]
        · unfold Mo_get
          rw [zmOne, ea, Option.bind_some, if_neg (by decide), zmMem, eb, Option.bind_some, if_neg (by decide), zwhere (vs_pl v) (fun k hk => gm_h hm hk) (fun k hk => gm_t hm hk) (by omega) (by omega), Option.bind_some, hp, zE_lt (by omega), zl_10, if_pos ((zN_le (by decide) (by omega)).mpr (by omega)), if_pos ((zN_in (by omega)).mpr (by omega)), zN_tn (by omega), gm_p hm (by omega), zN_sub (by omega), show 10 + p - 10 = p by omega, zmfar (WM_of hm v) hb1 hp10 (by omega), Option.bind_some, zl_0]
          by_cases z : zDs (s 0) (s 1 a) p < 100
          · rw [if_neg (by rw [zE_neg]; omega), if_pos z, gm_cu hm, zmIsIn I (by omega) (by omega), Option.bind_some, zE_lt z, zl_1, zN_add]
            cases (s 5 0).testBit p <;> rfl
          · rw [if_pos ((zE_neg _).mpr (by omega)), if_neg z]
            rfl
      · refine ⟨-3, ?_, ?_⟩
        · unfold BM_get Ga_placeOf_2
          rw [zbOne, ea, Option.bind_some, if_neg (by decide), zbMem, eb, Option.bind_some, if_neg (by decide), zat_7 I (by omega), Option.bind_some, Option.bind_some, gc2_2 hc (by omega), zl_10]
          have e : zW 0 9 (zE (s 2 m) - zN 10) = zB false := by
            refine zW_nosub (by decide) (fun k hk e => ?_)
            have := (zE_eq (by omega)).mp e
            omega
          rw [zbBench, e, Option.bind_some, if_pos (by decide)]
        · unfold Mo_get
          rw [zmOne, ea, Option.bind_some, if_neg (by decide), zmMem, eb, Option.bind_some, if_neg (by decide), zwhere (vs_pl v) (fun k hk => gm_h hm hk) (fun k hk => gm_t hm hk) (by omega) (by omega), Option.bind_some, zl_10, if_neg (by rw [zE_lek (by decide)]; omega)]
    · unfold BM_get Mo_get
      rw [zbOne, zmOne, ea, Option.bind_some, Option.bind_some, if_neg (by decide), if_neg (by decide), zbMem, zmMem, eb, Option.bind_some, Option.bind_some, if_pos (by decide), if_pos (by decide)]
      exact ⟨_, rfl, rfl⟩
  · unfold BM_get Mo_get
    rw [zbOne, zmOne, ea, Option.bind_some, Option.bind_some, if_pos (by decide), if_pos (by decide)]
    exact ⟨_, rfl, rfl⟩
