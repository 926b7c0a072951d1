/-! whose it was first -/
/-- who has it behind t sittings (100: nobody), at once and step by step -/
def zHo (n f t : Nat) : Nat := if f < t then (if (t - f - 1) % (n + 1) = 0 then 100 else (f + 1 + (t - f - 1) / (n + 1)) % n) else f
def zWh (n f : Nat) : Nat → Nat
  | 0 => f
  | t + 1 => if 100 ≤ zWh n f t then t % n else if zWh n f t = t % n then 100 else zWh n f t
theorem zHoWh : ∀ n, n < 9 → 2 ≤ n → ∀ f, f < n → ∀ t, t < 61 → zWh n f t = zHo n f t := by decide +kernel
theorem zHo_lt {n f t : Nat} (hn : n < 9) (hn2 : 2 ≤ n) (hf : f < n) : zHo n f t < 8 ∨ zHo n f t = 100 := by
  unfold zHo
  split
  · split
    · exact Or.inr rfl
    · have := Nat.mod_lt (f + 1 + (t - f - 1) / (n + 1)) (show 0 < n by omega)
      omega
  · omega
theorem zWh_lt {n f : Nat} (hn : n < 9) (hn2 : 2 ≤ n) (hf : f < n) : ∀ t, zWh n f t < 8 ∨ zWh n f t = 100 := by
  intro t
  induction t with
  | zero =>
    show f < 8 ∨ f = 100
    omega
  | succ t ih =>
    unfold zWh
    have := Nat.mod_lt t (show 0 < n by omega)
    split
    · omega
    · split
      · exact Or.inr rfl
      · exact ih
theorem zchold {I : zI} {n f t : Nat} (hn : n < 9) (hn2 : 2 ≤ n) (hf : f < n) (ht : t < 100) : Su_holder (zN n) (zN f) (zN t) I = some (zE (zHo n f t)) := by
  unfold Su_holder
  have hlt := zHo_lt (t := t) hn hn2 hf
  revert hlt
  unfold zHo
  intro hlt
  rw [if_neg (by rw [zl_2, zN_lt (by omega) (by decide)]; omega)]
  by_cases q : f < t
  · have hd : (t - f - 1) / (n + 1) ≤ t - f - 1 := Nat.div_le_self _ _
    have hm : (t - f - 1) % (n + 1) < n + 1 := Nat.mod_lt _ (by omega)
    rw [if_pos ((zN_lt (by omega) (by omega)).mpr q), if_pos q, zl_1, zN_add, zN_sub (by omega), zN_sub (by omega), zN_rem (by omega) (by omega), zN_div (by omega) (by omega), zN_add, zN_add, zN_rem (by omega) (by omega), zl_0]
    have h1 : ¬ (zN (n + 1) = zN 0) := by
      rw [zN_inj (by omega) (by decide)]
      omega
    have h2 : ¬ (zN n = zN 0) := by
      rw [zN_inj (by omega) (by decide)]
      omega
    rw [if_pos h1, if_pos h1, if_pos h2]
    rw [if_pos q] at hlt
    by_cases q2 : (t - f - 1) % (n + 1) = 0
    · rw [if_pos (by rw [q2]), if_pos q2]
      rfl
    · rw [if_neg q2] at hlt
      have hml := Nat.mod_lt (f + 1 + (t - f - 1) / (n + 1)) (show 0 < n by omega)
      rw [if_neg (by rw [zN_inj (by omega) (by decide)]; exact q2), if_neg q2, zE_lt (by omega)]
  · rw [if_neg (by rw [zN_lt (by omega) (by omega)]; exact q), if_neg q, zE_lt (by omega)]
theorem zmwhoL {I : zI} {n f T : Nat} (hn : n < 9) (hn2 : 2 ≤ n) (hf : f < n) (hT : T < 100) : ∀ (j t q : Nat), t + j = T → j < q → Mo_whoHas_L13 q (zN T) (zN n) (zE (zWh n f t)) (zN t) I = some (zE (zWh n f T)) := by
  intro j
  induction j with
  | zero =>
    intro t q ht hq
    obtain ⟨q, rfl⟩ : ∃ e, q = e + 1 := ⟨q - 1, by omega⟩
    rw [Mo_whoHas_L13, if_pos ((zN_le (by omega) (by omega)).mpr (by omega)), show t = T by omega]
  | succ j ih =>
    intro t q ht hq
    obtain ⟨q, rfl⟩ : ∃ e, q = e + 1 := ⟨q - 1, by omega⟩
    have hml := Nat.mod_lt t (show 0 < n by omega)
    have hw := zWh_lt hn hn2 hf t
    rw [Mo_whoHas_L13, if_neg (by rw [zN_le (by omega) (by omega)]; omega), if_pos (by rw [zl_0, zN_inj (by omega) (by decide)]; omega), zN_rem (by omega) (by omega)]
    have e : (if (0 : Int32) ≤ zE (zWh n f t) then (if zE (zWh n f t) = zN (t % n) then some (-6 : Int32) else some (zE (zWh n f t))) else some (zN (t % n))) = some (zE (zWh n f (t + 1))) := by
      conv => rhs; unfold zWh
      rw [zl_0]
      by_cases z : 100 ≤ zWh n f t
      · rw [if_neg (by rw [zE_pos]; omega), if_pos z, zE_lt (by omega)]
      · rw [if_pos ((zE_pos _).mpr (by omega)), if_neg z]
        by_cases z2 : zWh n f t = t % n
        · rw [if_pos ((zE_eq (by omega)).mpr z2), if_pos z2]
          rfl
        · rw [if_neg (by rw [zE_eq (by omega)]; exact z2), if_neg z2]
    rw [e, Option.bind_some, zl_1, zN_add]
    exact ih (t + 1) q (by omega) (by omega)
theorem zmwho {I : zI} {two T q : Nat} (h1 : two / 10 < 9) (h2 : 2 ≤ two / 10) (h3 : two % 10 < two / 10) (hT : T < 61) (hq : 200 < q) : Mo_whoHas q (zN two) (zN T) I = some (zE (zHo (two / 10) (two % 10) T)) := by
  unfold Mo_whoHas
  have e := zmwhoL (I := I) h1 h2 h3 (show T < 100 by omega) T 0 q (by omega) (by omega)
  rw [show zE (zWh (two / 10) (two % 10) 0) = zN (two % 10) from zE_lt (show two % 10 < 100 by omega)] at e
  rw [zl_10, zN_div (by omega) (by decide), zN_rem (by omega) (by decide), show Mo_whoHas_L13 q (zN T) (zN (two / 10)) (zN (two % 10)) 0 I = _ from e, Option.bind_some, zHoWh _ h1 h2 _ h3 _ hT]
/-- the sight is so -/
def zSo (s : zA) (n f i : Nat) : Bool := (zHo n f (s 6 i / 2 / 8) == s 6 i / 2 % 8) == (s 6 i % 2 == 1)
/-- all sights from i on, c of them, are so -/
def zAl (s : zA) (n f : Nat) : Nat → Nat → Bool
  | 0, _ => true
  | c + 1, i => zSo s n f i && zAl s n f c (i + 1)
def zFt (s : zA) (two : Nat) : Bool := decide (two % 10 < two / 10) && zAl s (two / 10) (two % 10) (s 5 2) 0
theorem zcallL {I : zI} {s : zA} (h : GC 2 I s) (v : VS s) {n f : Nat} (hn : n < 9) (hn2 : 2 ≤ n) (hf : f < n) : ∀ (j i q : Nat), i + j = s 5 2 → j < q → Ga_allSeenSo_2_L2 q (zN n) (zN f) (zN i) I = some (zB (zAl s n f j i)) := by
  have h8 := vs_cnt v
  intro j
  induction j with
  | zero =>
    intro i q hi hq
    obtain ⟨q, rfl⟩ : ∃ e, q = e + 1 := ⟨q - 1, by omega⟩
    rw [Ga_allSeenSo_2_L2, gc2_cnt h, if_pos ((zN_le (by omega) (by omega)).mpr (by omega))]
    rfl
  | succ j ih =>
    intro i q hi hq
    obtain ⟨q, rfl⟩ : ∃ e, q = e + 1 := ⟨q - 1, by omega⟩
    have hs := vs_si v i (by omega)
    have hl := zHo_lt (t := s 6 i / 2 / 8) hn hn2 hf
    rw [Ga_allSeenSo_2_L2, gc2_cnt h, if_neg (by rw [zN_le (by omega) (by omega)]; omega), zat_11 I (by omega), Option.bind_some, gc2_6 h (by omega), zl_2, zl_8, zN_rem (by omega) (by decide), zN_div (by omega) (by decide), zN_div (by omega) (by decide), zN_rem (by omega) (by decide)]
    have e1 : (if zN (s 6 i % 2) = (1 : Int32) then some (1 : Int32) else some 0) = some (zB (s 6 i % 2 == 1)) := by
      by_cases z : s 6 i % 2 = 1
      · rw [z]
        rfl
      · rw [show s 6 i % 2 = 0 by omega]
        rfl
    have e2 : (if zE (zHo n f (s 6 i / 2 / 8)) = zN (s 6 i / 2 % 8) then some (1 : Int32) else some 0) = some (zB (zHo n f (s 6 i / 2 / 8) == s 6 i / 2 % 8)) := by
      by_cases z : zHo n f (s 6 i / 2 / 8) = s 6 i / 2 % 8
      · rw [if_pos ((zE_eq (by omega)).mpr z), beq_iff_eq.mpr z]
        rfl
      · rw [if_neg (by rw [zE_eq (by omega)]; exact z), beq_eq_false_iff_ne.mpr z]
        rfl
    rw [e1, Option.bind_some, zchold hn hn2 hf (by omega), Option.bind_some, e2, Option.bind_some, zl_1, zN_add, zl_0]
    unfold zAl zSo
    cases ha : (s 6 i % 2 == 1) <;> cases hb : (zHo n f (s 6 i / 2 / 8) == s 6 i / 2 % 8)
    · rw [if_pos rfl]
      exact ih (i + 1) q (by omega) (by omega)
    · rw [if_neg (by decide)]
      rfl
    · rw [if_neg (by decide)]
      rfl
    · rw [if_pos rfl]
      exact ih (i + 1) q (by omega) (by omega)
theorem zmfitL {I : zI} {s : zA} (h : GM I s) (v : VS s) {two : Nat} (h1 : two / 10 < 9) (h2 : 2 ≤ two / 10) (h3 : two % 10 < two / 10) : ∀ (j i q : Nat) (b : Bool), i + j = s 5 2 → j + 300 < q → Mo_isFit_L36 q (zN two) (zB b) (zN i) I = some (zB (b && zAl s (two / 10) (two % 10) j i)) := by
  have h8 := vs_cnt v
  intro j
  induction j with
  | zero =>
    intro i q b hi hq
    obtain ⟨q, rfl⟩ : ∃ e, q = e + 1 := ⟨q - 1, by omega⟩
    rw [Mo_isFit_L36, gm_cnt h, if_pos ((zN_le (by omega) (by omega)).mpr (by omega))]
    unfold zAl
    rw [Bool.and_true]
  | succ j ih =>
    intro i q b hi hq
    obtain ⟨q, rfl⟩ : ∃ e, q = e + 1 := ⟨q - 1, by omega⟩
    have hs := vs_si v i (by omega)
    have hl := zHo_lt (t := s 6 i / 2 / 8) h1 h2 h3
    rw [Mo_isFit_L36, gm_cnt h, if_neg (by rw [zN_le (by omega) (by omega)]; omega)]
    cases b
    · rw [if_pos (by decide)]
      rfl
    · have i8 := (zN_in (show i < 2147483648 by omega) (n := 8)).mpr (by omega)
      rw [if_neg (by decide), if_pos i8]
      simp only [zN_tn (show i < 2147483648 by omega)]
      rw [gm_sat h (by omega), zmwho h1 h2 h3 (by omega) (by omega), Option.bind_some, if_pos i8, gm_who h (by omega)]
      have e2 : (if zE (zHo (two / 10) (two % 10) (s 6 i / 2 / 8)) = zN (s 6 i / 2 % 8) then some (1 : Int32) else some 0) = some (zB (zHo (two / 10) (two % 10) (s 6 i / 2 / 8) == s 6 i / 2 % 8)) := by
        by_cases z : zHo (two / 10) (two % 10) (s 6 i / 2 / 8) = s 6 i / 2 % 8
        · rw [if_pos ((zE_eq (by omega)).mpr z), beq_iff_eq.mpr z]
          rfl
        · rw [if_neg (by rw [zE_eq (by omega)]; exact z), beq_eq_false_iff_ne.mpr z]
          rfl
      have e1 : (if zN (s 6 i % 2) = (1 : Int32) then some (1 : Int32) else some 0) = some (zB (s 6 i % 2 == 1)) := by
        by_cases z : s 6 i % 2 = 1
        · rw [z]
          rfl
        · rw [show s 6 i % 2 = 0 by omega]
          rfl
      rw [e2, Option.bind_some, if_pos i8, gm_had h (by omega), e1, Option.bind_some]
      have e3 : (if zB (zHo (two / 10) (two % 10) (s 6 i / 2 / 8) == s 6 i / 2 % 8) = zB (s 6 i % 2 == 1) then some (1 : Int32) else some 0) = some (zB (zSo s (two / 10) (two % 10) i)) := by
        unfold zSo
        cases (s 6 i % 2 == 1) <;> cases (zHo (two / 10) (two % 10) (s 6 i / 2 / 8) == s 6 i / 2 % 8) <;> rfl
      rw [e3, Option.bind_some, zl_1, zN_add, ih (i + 1) q _ (by omega) (by omega)]
      rfl
theorem zmfitF {I : zI} {s : zA} (h : GM I s) (v : VS s) {two : Nat} {q : Nat} (hq : 300 < q) : Mo_isFit_L36 q (zN two) (zB false) (zN 0) I = some (zB false) := by
  have h8 := vs_cnt v
  obtain ⟨q, rfl⟩ : ∃ e, q = e + 1 := ⟨q - 1, by omega⟩
  rw [Mo_isFit_L36]
  split
  · rfl
  · rw [if_pos (by decide)]
theorem zmfit {I : zI} {s : zA} (h : GM I s) (v : VS s) {two q : Nat} (h1 : 20 ≤ two) (h2 : two < 90) (hq : 400 < q) : Mo_isFit q (zN two) I = some (zB (zFt s two)) := by
  unfold Mo_isFit
  have h8 := vs_cnt v
  rw [zl_10, zN_div (by omega) (by decide), zN_rem (by omega) (by decide), zmi_2_8, zW_N (by decide) (by decide) (by omega), decide_eq_true (by omega), Option.bind_some, if_neg (by decide)]
  unfold zFt
  by_cases q3 : two % 10 < two / 10
  · rw [if_neg (by rw [zN_le (by omega) (by omega)]; omega), Option.bind_some, decide_eq_true q3, Bool.true_and]
    have e := zmfitL h v (by omega) (by omega) q3 (s 5 2) 0 q true (by omega) (by omega)
    rw [Bool.true_and] at e
    rw [show Mo_isFit_L36 q (zN two) 1 0 I = _ from e, Option.bind_some, if_pos (zB_o _)]
  · rw [if_pos ((zN_le (by omega) (by omega)).mpr (by omega)), Option.bind_some, decide_eq_false q3, Bool.false_and, show Mo_isFit_L36 q (zN two) 0 0 I = _ from zmfitF h v (by omega), Option.bind_some, if_pos (zB_o _)]
/-- the codes that fit, of t from 20 on -/
def zFs (s : zA) (t : Nat) : List Nat := ((List.range t).map (fun i => 20 + i)).filter (zFt s)
theorem zFs_s (s : zA) (t : Nat) : zFs s (t + 1) = zFs s t ++ (if zFt s (20 + t) = true then [20 + t] else []) := by
  unfold zFs
  rw [List.range_succ, List.map_append, List.filter_append]
  congr 1
  by_cases h : zFt s (20 + t) = true
  · rw [if_pos h]
    simp [h]
  · rw [if_neg h]
    simp [h]
/-- the class has found these -/
def zCd (I : zI) (l : List Nat) : Prop := I 65 2 = zN l.length ∧ ∀ i, i < l.length → I 67 i = zN (l.getD i 0)
theorem zFs_b (s : zA) (v : VS s) : ∀ n f, n < 9 → 2 ≤ n → f ≤ n → (zFs s (10 * n + f - 20)).length ≤ n * (n - 1) / 2 - 1 + f := by
  sorry
