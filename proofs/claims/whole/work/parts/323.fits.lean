/-! whose it was first -/
/-- who has it behind t sittings (100: nobody), at once and step by step -/
def zHo (n f t : Nat) : Nat := if f < t then (if (t - f - 1) % (n + 1) = 0 then 100 else (f + 1 + (t - f - 1) / (n + 1)) % n) else f
def zWh (n f : Nat) : Nat → Nat
  | 0 => f
  | t + 1 => if 100 ≤ zWh n f t then t % n else if zWh n f t = t % n then 100 else zWh n f t
theorem zHoWh : ∀ n, n < 9 → 2 ≤ n → ∀ f, f < n → ∀ t, t < 61 → zWh n f t = zHo n f t := by decide +kernel
theorem zHo_lt {n f t : Nat} (hn : n < 9) (hn2 : 2 ≤ n) (hf : f < n) : zHo n f t < 8 ∨ zHo n f t = 100 := by
  unfold zHo
  split
  · split
    · exact Or.inr rfl
    · have := Nat.mod_lt (f + 1 + (t - f - 1) / (n + 1)) (show 0 < n by omega)
      omega
  · omega
theorem zWh_lt {n f : Nat} (hn : n < 9) (hn2 : 2 ≤ n) (hf : f < n) : ∀ t, zWh n f t < 8 ∨ zWh n f t = 100 := by
  intro t
  induction t with
  | zero =>
    show f < 8 ∨ f = 100
    omega
  | succ t ih =>
    unfold zWh
    have := Nat.mod_lt t (show 0 < n by omega)
    split
    · omega
    · split
      · exact Or.inr rfl
      · exact ih
theorem zchold {I : zI} {n f t : Nat} (hn : n < 9) (hn2 : 2 ≤ n) (hf : f < n) (ht : t < 100) : Su_holder (zN n) (zN f) (zN t) I = some (zE (zHo n f t)) := by
  unfold Su_holder
  have hlt := zHo_lt (t := t) hn hn2 hf
  revert hlt
  unfold zHo
  intro hlt
  rw [if_neg (by rw [zl_2, zN_lt (by omega) (by decide)]; omega)]
  by_cases q : f < t
  · have hd : (t - f - 1) / (n + 1) ≤ t - f - 1 := Nat.div_le_self _ _
    have hm : (t - f - 1) % (n + 1) < n + 1 := Nat.mod_lt _ (by omega)
    rw [if_pos ((zN_lt (by omega) (by omega)).mpr q), if_pos q, zl_1, zN_add, zN_sub (by omega), zN_sub (by omega), zN_rem (by omega) (by omega), zN_div (by omega) (by omega), zN_add, zN_add, zN_rem (by omega) (by omega), zl_0]
    have h1 : ¬ (zN (n + 1) = zN 0) := by
      rw [zN_inj (by omega) (by decide)]
      omega
    have h2 : ¬ (zN n = zN 0) := by
      rw [zN_inj (by omega) (by decide)]
      omega
    rw [if_pos h1, if_pos h1, if_pos h2]
    rw [if_pos q] at hlt
    by_cases q2 : (t - f - 1) % (n + 1) = 0
    · rw [if_pos (by rw [q2]), if_pos q2]
      rfl
    · rw [if_neg q2] at hlt
      have hml := Nat.mod_lt (f + 1 + (t - f - 1) / (n + 1)) (show 0 < n by omega)
      rw [if_neg (by rw [zN_inj (by omega) (by decide)]; exact q2), if_neg q2, zE_lt (by omega)]
  · rw [if_neg (by rw [zN_lt (by omega) (by omega)]; exact q), if_neg q, zE_lt (by omega)]
theorem zmwhoL {I : zI} {n f T : Nat} (hn : n < 9) (hn2 : 2 ≤ n) (hf : f < n) (hT : T < 100) : ∀ (j t q : Nat), t + j = T → j < q → Mo_whoHas_L13 q (zN T) (zN n) (zE (zWh n f t)) (zN t) I = some (zE (zWh n f T)) := by
  intro j
  induction j with
  | zero =>
    intro t q ht hq
    obtain ⟨q, rfl⟩ : ∃ e, q = e + 1 := ⟨q - 1, by omega⟩
    rw [Mo_whoHas_L13, if_pos ((zN_le (by omega) (by omega)).mpr (by omega)), show t = T by omega]
  | succ j ih =>
    intro t q ht hq
    obtain ⟨q, rfl⟩ : ∃ e, q = e + 1 := ⟨q - 1, by omega⟩
    have hml := Nat.mod_lt t (show 0 < n by omega)
    have hw := zWh_lt hn hn2 hf t
    rw [Mo_whoHas_L13, if_neg (by rw [zN_le (by omega) (by omega)]; omega), if_pos (by rw [zl_0, zN_inj (by omega) (by decide)]; omega), zN_rem (by omega) (by omega)]
    have e : (if (0 : Int32) ≤ zE (zWh n f t) then (if zE (zWh n f t) = zN (t % n) then some (-6 : Int32) else some (zE (zWh n f t))) else some (zN (t % n))) = some (zE (zWh n f (t + 1))) := by
      conv => rhs; unfold zWh
      rw [zl_0]
      by_cases z : 100 ≤ zWh n f t
      · rw [if_neg (by rw [zE_pos]; omega), if_pos z, zE_lt (by omega)]
      · rw [if_pos ((zE_pos _).mpr (by omega)), if_neg z]
        by_cases z2 : zWh n f t = t % n
        · rw [if_pos ((zE_eq (by omega)).mpr z2), if_pos z2]
          rfl
        · rw [if_neg (by rw [zE_eq (by omega)]; exact z2), if_neg z2]
    rw [e, Option.bind_some, zl_1, zN_add]
    exact ih (t + 1) q (by omega) (by omega)
theorem zmwho {I : zI} {two T q : Nat} (h1 : two / 10 < 9) (h2 : 2 ≤ two / 10) (h3 : two % 10 < two / 10) (hT : T < 61) (hq : 200 < q) : Mo_whoHas q (zN two) (zN T) I = some (zE (zHo (two / 10) (two % 10) T)) := by
  unfold Mo_whoHas
  have e := zmwhoL (I := I) h1 h2 h3 (show T < 100 by omega) T 0 q (by omega) (by omega)
  rw [show zE (zWh (two / 10) (two % 10) 0) = zN (two % 10) from zE_lt (show two % 10 < 100 by omega)] at e
  rw [zl_10, zN_div (by omega) (by decide), zN_rem (by omega) (by decide), show Mo_whoHas_L13 q (zN T) (zN (two / 10)) (zN (two % 10)) 0 I = _ from e, Option.bind_some, zHoWh _ h1 h2 _ h3 _ hT]
/-- the sight is so -/
def zSo (s : zA) (n f i : Nat) : Bool := (zHo n f (s 6 i / 2 / 8) == s 6 i / 2 % 8) == (s 6 i % 2 == 1)
/-- all sights from i on, c of them, are so -/
def zAl (s : zA) (n f : Nat) : Nat → Nat → Bool
  | 0, _ => true
  | c + 1, i => zSo s n f i && zAl s n f c (i + 1)
def zFt (s : zA) (two : Nat) : Bool := decide (two % 10 < two / 10) && zAl s (two / 10) (two % 10) (s 5 2) 0
theorem zcallL {I : zI} {s : zA} (h : GC 2 I s) (v : VS s) {n f : Nat} (hn : n < 9) (hn2 : 2 ≤ n) (hf : f < n) : ∀ (j i q : Nat), i + j = s 5 2 → j < q → Ga_allSeenSo_2_L2 q (zN n) (zN f) (zN i) I = some (zB (zAl s n f j i)) := by
  have h8 := vs_cnt v
  intro j
  induction j with
  | zero =>
    intro i q hi hq
    obtain ⟨q, rfl⟩ : ∃ e, q = e + 1 := ⟨q - 1, by omega⟩
    rw [Ga_allSeenSo_2_L2, gc2_cnt h, if_pos ((zN_le (by omega) (by omega)).mpr (by omega))]
    rfl
  | succ j ih =>
    intro i q hi hq
    obtain ⟨q, rfl⟩ : ∃ e, q = e + 1 := ⟨q - 1, by omega⟩
    have hs := vs_si v i (by omega)
    have hl := zHo_lt (t := s 6 i / 2 / 8) hn hn2 hf
    rw [Ga_allSeenSo_2_L2, gc2_cnt h, if_neg (by rw [zN_le (by omega) (by omega)]; omega), zat_11 I (by omega), Option.bind_some, gc2_6 h (by omega), zl_2, zl_8, zN_rem (by omega) (by decide), zN_div (by omega) (by decide), zN_div (by omega) (by decide), zN_rem (by omega) (by decide)]
    have e1 : (if zN (s 6 i % 2) = (1 : Int32) then some (1 : Int32) else some 0) = some (zB (s 6 i % 2 == 1)) := by
      by_cases z : s 6 i % 2 = 1
      · rw [z]
        rfl
      · rw [show s 6 i % 2 = 0 by omega]
        rfl
    have e2 : (if zE (zHo n f (s 6 i / 2 / 8)) = zN (s 6 i / 2 % 8) then some (1 : Int32) else some 0) = some (zB (zHo n f (s 6 i / 2 / 8) == s 6 i / 2 % 8)) := by
      by_cases z : zHo n f (s 6 i / 2 / 8) = s 6 i / 2 % 8
      · rw [if_pos ((zE_eq (by omega)).mpr z), beq_iff_eq.mpr z]
        rfl
      · rw [if_neg (by rw [zE_eq (by omega)]; exact z), beq_eq_false_iff_ne.mpr z]
        rfl
    rw [e1, Option.bind_some, zchold hn hn2 hf (by omega), Option.bind_some, e2, Option.bind_some, zl_1, zN_add, zl_0]
    unfold zAl zSo
    cases ha : (s 6 i % 2 == 1) <;> cases hb : (zHo n f (s 6 i / 2 / 8) == s 6 i / 2 % 8)
    · rw [if_pos rfl]
      exact ih (i + 1) q (by omega) (by omega)
    · rw [if_neg (by decide)]
      rfl
    · rw [if_neg (by decide)]
      rfl
    · rw [if_pos rfl]
      exact ih (i + 1) q (by omega) (by omega)
theorem zmfitL {I : zI} {s : zA} (h : GM I s) (v : VS s) {two : Nat} (h1 : two / 10 < 9) (h2 : 2 ≤ two / 10) (h3 : two % 10 < two / 10) : ∀ (j i q : Nat) (b : Bool), i + j = s 5 2 → j + 300 < q → Mo_isFit_L36 q (zN two) (zB b) (zN i) I = some (zB (b && zAl s (two / 10) (two % 10) j i)) := by
  have h8 := vs_cnt v
  intro j
  induction j with
  | zero =>
    intro i q b hi hq
    obtain ⟨q, rfl⟩ : ∃ e, q = e + 1 := ⟨q - 1, by omega⟩
    rw [Mo_isFit_L36, gm_cnt h, if_pos ((zN_le (by omega) (by omega)).mpr (by omega))]
    unfold zAl
    rw [Bool.and_true]
  | succ j ih =>
    intro i q b hi hq
    obtain ⟨q, rfl⟩ : ∃ e, q = e + 1 := ⟨q - 1, by omega⟩
    have hs := vs_si v i (by omega)
    have hl := zHo_lt (t := s 6 i / 2 / 8) h1 h2 h3
    rw [Mo_isFit_L36, gm_cnt h, if_neg (by rw [zN_le (by omega) (by omega)]; omega)]
    cases b
    · rw [if_pos (by decide)]
      rfl
    · have i8 := (zN_in (show i < 2147483648 by omega) (n := 8)).mpr (by omega)
      rw [if_neg (by decide), if_pos i8]
      simp only [zN_tn (show i < 2147483648 by omega)]
      rw [gm_sat h (by omega), zmwho h1 h2 h3 (by omega) (by omega), Option.bind_some, if_pos i8, gm_who h (by omega)]
      have e2 : (if zE (zHo (two / 10) (two % 10) (s 6 i / 2 / 8)) = zN (s 6 i / 2 % 8) then some (1 : Int32) else some 0) = some (zB (zHo (two / 10) (two % 10) (s 6 i / 2 / 8) == s 6 i / 2 % 8)) := by
        by_cases z : zHo (two / 10) (two % 10) (s 6 i / 2 / 8) = s 6 i / 2 % 8
        · rw [if_pos ((zE_eq (by omega)).mpr z), beq_iff_eq.mpr z]
          rfl
        · rw [if_neg (by rw [zE_eq (by omega)]; exact z), beq_eq_false_iff_ne.mpr z]
          rfl
      have e1 : (if zN (s 6 i % 2) = (1 : Int32) then some (1 : Int32) else some 0) = some (zB (s 6 i % 2 == 1)) := by
        by_cases z : s 6 i % 2 = 1
        · rw [z]
          rfl
        · rw [show s 6 i % 2 = 0 by omega]
          rfl
      rw [e2, Option.bind_some, if_pos i8, gm_had h (by omega), e1, Option.bind_some]
      have e3 : (if zB (zHo (two / 10) (two % 10) (s 6 i / 2 / 8) == s 6 i / 2 % 8) = zB (s 6 i % 2 == 1) then some (1 : Int32) else some 0) = some (zB (zSo s (two / 10) (two % 10) i)) := by
        unfold zSo
        cases (s 6 i % 2 == 1) <;> cases (zHo (two / 10) (two % 10) (s 6 i / 2 / 8) == s 6 i / 2 % 8) <;> rfl
      rw [e3, Option.bind_some, zl_1, zN_add, ih (i + 1) q _ (by omega) (by omega)]
      rfl
theorem zmfitF {I : zI} {s : zA} (h : GM I s) (v : VS s) {two : Nat} {q : Nat} (hq : 300 < q) : Mo_isFit_L36 q (zN two) (zB false) (zN 0) I = some (zB false) := by
  have h8 := vs_cnt v
  obtain ⟨q, rfl⟩ : ∃ e, q = e + 1 := ⟨q - 1, by omega⟩
  rw [Mo_isFit_L36]
  split
  · rfl
  · rw [if_pos (by decide)]
theorem zmfit {I : zI} {s : zA} (h : GM I s) (v : VS s) {two q : Nat} (h1 : 20 ≤ two) (h2 : two < 90) (hq : 400 < q) : Mo_isFit q (zN two) I = some (zB (zFt s two)) := by
  unfold Mo_isFit
  have h8 := vs_cnt v
  rw [zl_10, zN_div (by omega) (by decide), zN_rem (by omega) (by decide), zmi_2_8, zW_N (by decide) (by decide) (by omega), decide_eq_true (by omega), Option.bind_some, if_neg (by decide)]
  unfold zFt
  by_cases q3 : two % 10 < two / 10
  · rw [if_neg (by rw [zN_le (by omega) (by omega)]; omega), Option.bind_some, decide_eq_true q3, Bool.true_and]
    have e := zmfitL h v (by omega) (by omega) q3 (s 5 2) 0 q true (by omega) (by omega)
    rw [Bool.true_and] at e
    rw [show Mo_isFit_L36 q (zN two) 1 0 I = _ from e, Option.bind_some, if_pos (zB_o _)]
  · rw [if_pos ((zN_le (by omega) (by omega)).mpr (by omega)), Option.bind_some, decide_eq_false q3, Bool.false_and, show Mo_isFit_L36 q (zN two) 0 0 I = _ from zmfitF h v (by omega), Option.bind_some, if_pos (zB_o _)]
/-- the codes that fit, of t from 20 on -/
def zFs (s : zA) (t : Nat) : List Nat := ((List.range t).map (fun i => 20 + i)).filter (zFt s)
theorem zFs_s (s : zA) (t : Nat) : zFs s (t + 1) = zFs s t ++ (if zFt s (20 + t) = true then [20 + t] else []) := by
  unfold zFs
  rw [List.range_succ, List.map_append, List.filter_append]
  congr 1
  by_cases h : zFt s (20 + t) = true
  · rw [if_pos h]
    simp [h]
  · rw [if_neg h]
    simp [h]
/-- the class has found these -/
def zCd (I : zI) (l : List Nat) : Prop := I 65 2 = zN l.length ∧ ∀ i, i < l.length → I 67 i = zN (l.getD i 0)
def zVc : Nat → Nat
  | 0 => 0
  | t + 1 => zVc t + (if (20 + t) % 10 < (20 + t) / 10 then 1 else 0)
theorem zVc_35 : ∀ t, t < 70 → (20 + t) % 10 < (20 + t) / 10 → zVc t < 35 := by decide +kernel
theorem zVc_70 : zVc 70 = 35 := by decide +kernel
theorem zFs_len (s : zA) : ∀ t, (zFs s t).length ≤ zVc t := by
  intro t
  induction t with
  | zero => exact Nat.le_refl 0
  | succ t ih =>
    rw [zFs_s, List.length_append]
    unfold zVc
    by_cases h : zFt s (20 + t) = true
    · have : (20 + t) % 10 < (20 + t) / 10 := by
        unfold zFt at h
        rw [Bool.and_eq_true, decide_eq_true_eq] at h
        exact h.1
      rw [if_pos h, if_pos this, List.length_singleton]
      omega
    · rw [if_neg h, List.length_nil]
      omega
theorem zFs_skip (s : zA) {n : Nat} (h2 : 2 ≤ n) (hn : n < 9) : ∀ d, n + d ≤ 10 → zFs s (10 * n + n + d - 20) = zFs s (10 * n + n - 20) := by
  intro d
  induction d with
  | zero => exact fun _ => rfl
  | succ d ih =>
    intro hd
    rw [show 10 * n + n + (d + 1) - 20 = (10 * n + n + d - 20) + 1 by omega, zFs_s, ih (by omega), if_neg, List.append_nil]
    unfold zFt
    rw [decide_eq_false (by omega), Bool.false_and]
    decide
theorem zgetD {l m : List Nat} {i : Nat} (h : i < l.length) : (l ++ m).getD i 0 = l.getD i 0 := by
  rw [List.getD_eq_getElem?_getD, List.getD_eq_getElem?_getD, List.getElem?_append_left h]
theorem zsiL15 {s : zA} (v : VS s) {n : Nat} (hn : n < 9) (h2 : 2 ≤ n) : ∀ (j f q : Nat) (I : zI), f + j = n → j + 100 < q → GC 2 I s → zCd I (zFs s (10 * n + f - 20)) → ∃ I', Su_sift_2_L15 q (zN n) (zN f) I = some I' ∧ zCd I' (zFs s (10 * n + n - 20)) ∧ (∀ b, b ≠ 65 → b ≠ 67 → I' b = I b) := by
  have h8 := vs_cnt v
  intro j
  induction j with
  | zero =>
    intro f q I hf hq hg hc
    obtain ⟨q, rfl⟩ : ∃ e, q = e + 1 := ⟨q - 1, by omega⟩
    have : f = n := by omega
    subst this
    rw [Su_sift_2_L15, if_pos ((zN_le (by omega) (by omega)).mpr (Nat.le_refl f))]
    exact ⟨I, rfl, hc, fun _ _ _ => rfl⟩
  | succ j ih =>
    intro f q I hf hq hg hc
    obtain ⟨q, rfl⟩ : ∃ e, q = e + 1 := ⟨q - 1, by omega⟩
    have hlen := zFs_len s (10 * n + f - 20)
    have h35 := zVc_35 (10 * n + f - 20) (by omega) (by rw [show 20 + (10 * n + f - 20) = 10 * n + f by omega, show (10 * n + f) % 10 = f by omega, show (10 * n + f) / 10 = n by omega]; omega)
    rw [Su_sift_2_L15, if_neg (by rw [zN_le (by omega) (by omega)]; omega)]
    unfold Ga_allSeenSo_2
    rw [show Ga_allSeenSo_2_L2 q (zN n) (zN f) 0 I = _ from zcallL hg v hn h2 (by omega) (s 5 2) 0 q (by omega) (by omega), Option.bind_some]
    have hfs := zFs_s s (10 * n + f - 20)
    rw [show 20 + (10 * n + f - 20) = 10 * n + f by omega, show 10 * n + f - 20 + 1 = 10 * n + (f + 1) - 20 by omega] at hfs
    have hft : zFt s (10 * n + f) = zAl s n f (s 5 2) 0 := by
      unfold zFt
      rw [show (10 * n + f) % 10 = f by omega, show (10 * n + f) / 10 = n by omega, decide_eq_true (by omega), Bool.true_and]
    rw [hft] at hfs
    cases hb : zAl s n f (s 5 2) 0
    · rw [hb, if_neg (by decide), List.append_nil] at hfs
      rw [if_pos (by decide), Option.bind_some, zl_1, zN_add]
      exact ih (f + 1) q I (by omega) (by omega) hg (by rw [hfs]; exact hc)
    · rw [hb, if_pos rfl] at hfs
      rw [if_neg (by decide), hc.1, zl_10, zN_mul, zN_add, zput_66 _ I (by omega), Option.bind_some, zUp_ne (by decide), hc.1, zl_1, zN_add, Option.bind_some, zN_add]
      obtain ⟨I', e1, e2, e3⟩ := ih (f + 1) q (zUp (zUp I 67 (zFs s (10 * n + f - 20)).length (zN (10 * n + f))) 65 2 (zN ((zFs s (10 * n + f - 20)).length + 1))) (by omega) (by omega) (GC_fr hg (fun b b1 b2 => by rw [zUp_ne (by omega), zUp_ne (by omega)])) ⟨by rw [hfs, List.length_append, zUp_eq]; rfl, fun i hi => by
        rw [hfs, List.length_append] at hi
        rw [hfs, zUp_ne (by decide), zUp_at]
        by_cases z : i = (zFs s (10 * n + f - 20)).length
        · rw [if_pos z, z]
          simp
        · have hi2 : i < (zFs s (10 * n + f - 20)).length := by
            have : [10 * n + f].length = 1 := rfl
            omega
          rw [if_neg z, hc.2 i hi2, zgetD hi2]⟩
      exact ⟨I', e1, e2, fun b b1 b2 => by rw [e3 b b1 b2, zUp_ne b1, zUp_ne b2]⟩
theorem zsiL7 {s : zA} (v : VS s) : ∀ (j n q : Nat) (I : zI), n + j = 9 → 2 ≤ n → j + 200 < q → GC 2 I s → zCd I (zFs s (10 * n - 20)) → ∃ I', Su_sift_2_L7 q (zN n) I = some I' ∧ zCd I' (zFs s 70) ∧ (∀ b, b ≠ 65 → b ≠ 67 → I' b = I b) := by
  intro j
  induction j with
  | zero =>
    intro n q I hf h2 hq hg hc
    obtain ⟨q, rfl⟩ : ∃ e, q = e + 1 := ⟨q - 1, by omega⟩
    have : n = 9 := by omega
    subst this
    rw [Su_sift_2_L7, if_pos (by decide)]
    exact ⟨I, rfl, hc, fun _ _ _ => rfl⟩
  | succ j ih =>
    intro n q I hf h2 hq hg hc
    obtain ⟨q, rfl⟩ : ∃ e, q = e + 1 := ⟨q - 1, by omega⟩
    rw [Su_sift_2_L7, if_neg (by rw [zl_8, zN_lt (by decide) (by omega)]; omega)]
    obtain ⟨I1, a1, a2, a3⟩ := zsiL15 v (show n < 9 by omega) h2 n 0 q I (by omega) (by omega) hg (by rw [Nat.add_zero]; exact hc)
    have hs := zFs_skip s h2 (show n < 9 by omega) (10 - n) (by omega)
    rw [show 10 * n + n + (10 - n) - 20 = 10 * (n + 1) - 20 by omega] at hs
    rw [show Su_sift_2_L15 q (zN n) 0 I = _ from a1, Option.bind_some, zl_1, zN_add]
    obtain ⟨I', e1, e2, e3⟩ := ih (n + 1) q I1 (by omega) (by omega) (by omega) (GC_fr hg (fun b b1 b2 => a3 b (by omega) (by omega))) (by rw [hs]; exact a2)
    exact ⟨I', e1, e2, fun b b1 b2 => (e3 b b1 b2).trans (a3 b b1 b2)⟩
theorem zsift {I : zI} {s : zA} (h : GC 2 I s) (v : VS s) {q : Nat} (hq : 1000 < q) : ∃ I', Su_sift_2 q I = some I' ∧ zCd I' (zFs s 70) ∧ (∀ b, b ≠ 65 → b ≠ 67 → I' b = I b) := by
  unfold Su_sift_2
  obtain ⟨I', e1, e2, e3⟩ := zsiL7 v 7 2 q (zUp I 65 2 0) rfl (by decide) (by omega) (GC_fr h (fun b b1 b2 => zUp_ne (by omega))) ⟨by rw [zUp_eq]; rfl, fun i hi => absurd hi (Nat.not_lt_zero i)⟩
  rw [show Su_sift_2_L7 q 2 (zUp I 65 2 0) = _ from e1, Option.bind_some]
  exact ⟨I', rfl, e2, fun b b1 b2 => by rw [e3 b b1 b2, zUp_ne b1]⟩
theorem zFs_pre (s : zA) {t : Nat} {i : Nat} (hi : i < (zFs s t).length) : ∀ d, (zFs s (t + d)).getD i 0 = (zFs s t).getD i 0 ∧ i < (zFs s (t + d)).length := by
  intro d
  induction d with
  | zero => exact ⟨rfl, hi⟩
  | succ d ih =>
    rw [← Nat.add_assoc, zFs_s]
    refine ⟨?_, ?_⟩
    · rw [zgetD ih.2]
      exact ih.1
    · rw [List.length_append]
      omega
theorem zmfits {I : zI} {s : zA} (h : GM I s) (v : VS s) {x : Int32} : ∀ (j t q : Nat), t + j = 70 → j + 500 < q → (∀ i, i < (zFs s t).length → x ≠ zN i) → Mo_fits_L5 q x (zN (zFs s t).length) (zN (20 + t)) I = some (if x = -1 then zN (zFs s 70).length else if zN 0 ≤ x ∧ x < zN (zFs s 70).length then zN ((zFs s 70).getD x.toNatClampNeg 0) else -6) := by
  intro j
  induction j with
  | zero =>
    intro t q ht hq hx
    obtain ⟨q, rfl⟩ : ∃ e, q = e + 1 := ⟨q - 1, by omega⟩
    have : t = 70 := by omega
    subst this
    have hl := zFs_len s 70
    rw [zVc_70] at hl
    rw [Mo_fits_L5, if_pos (by decide)]
    by_cases z : x = -1
    · rw [if_pos z, if_pos z]
    · rw [if_neg z, if_neg z, if_neg]
      rintro ⟨h1, h2⟩
      have e : x = zN x.toNatClampNeg := (Int32.ofNat_toNatClampNeg x h1).symm
      have hlt := Int32.toNatClampNeg_lt x
      have h3 : x.toNatClampNeg < (zFs s 70).length := by
        rw [e, zN_lt (by omega) (by omega)] at h2
        exact h2
      exact hx _ h3 e
  | succ j ih =>
    intro t q ht hq hx
    obtain ⟨q, rfl⟩ : ∃ e, q = e + 1 := ⟨q - 1, by omega⟩
    have hl := zFs_len s t
    have hl70 := zFs_len s 70
    rw [zVc_70] at hl70
    have hfs := zFs_s s t
    have hpre : ∀ i, i < (zFs s (t + 1)).length → (zFs s 70).getD i 0 = (zFs s (t + 1)).getD i 0 ∧ i < (zFs s 70).length := fun i hi => by
      have := zFs_pre s hi (70 - (t + 1))
      rw [show t + 1 + (70 - (t + 1)) = 70 by omega] at this
      exact this
    rw [Mo_fits_L5, if_neg (by rw [zl_90, zN_le (by decide) (by omega)]; omega), zmfit h v (by omega) (by omega) (by omega), Option.bind_some]
    cases hb : zFt s (20 + t)
    · rw [hb, if_neg (by decide), List.append_nil] at hfs
      rw [if_pos (by decide), zl_1, zN_add, Nat.add_assoc, ← hfs]
      have e := ih (t + 1) q (by omega) (by omega) (by rw [hfs]; exact hx)
      rw [hfs] at e ⊢
      exact e
    · rw [hb, if_pos rfl] at hfs
      have hlen : (zFs s (t + 1)).length = (zFs s t).length + 1 := by
        rw [hfs, List.length_append]
        rfl
      obtain ⟨p1, p2⟩ := hpre (zFs s t).length (by omega)
      rw [if_neg (by decide)]
      by_cases z : zN (zFs s t).length = x
      · rw [if_pos z]
        subst z
        have hne : ¬ (zN (zFs s t).length = -1) := by
          rw [zl_1, zN_ne (by omega) (by decide) (by decide)]
          exact fun z => z
        rw [if_neg hne, if_pos ⟨(zN_le (by decide) (by omega)).mpr (Nat.zero_le _), (zN_lt (by omega) (by omega)).mpr p2⟩, zN_tn (by omega), p1, hfs]
        simp
      · rw [if_neg z, zl_1, zN_add, zN_add, Nat.add_assoc, ← hlen]
        refine ih (t + 1) q (by omega) (by omega) (fun i hi => ?_)
        by_cases z2 : i = (zFs s t).length
        · rw [z2]
          exact fun z3 => z z3.symm
        · exact hx i (by omega)
/-- cells of the class that sifting and asking change -/
theorem c_fits {I : zI} (h : Rel I) {n : Nat} (hn : 5000 < n) (a0 : Int32) : ∃ r I1, BM_fits n a0 I = some (r, I1) ∧ Mo_fits n a0 I1 = some r ∧ Rel I1 := by
  obtain ⟨⟨s, hc, hm, v⟩, hr⟩ := h
  obtain ⟨I1, e1, e2, e3⟩ := zsift hc v (q := n) (by omega)
  have hcf : CF I I1 := fun b hb => e3 b (by omega) (by omega)
  have hm1 : GM I1 s := GM_fr hm (fun b c1 c2 => hcf b (by omega)) (by rw [hcf 73 (by decide)]) (by rw [hcf 73 (by decide)]) (by rw [hcf 73 (by decide)])
  have hrel : Rel I1 := ⟨⟨s, GC_fr hc (fun b b1 b2 => hcf b (by omega)), hm1, v⟩, RS_kr hr (KR_cf hcf)⟩
  have hl := zFs_len s 70
  rw [zVc_70] at hl
  have hm2 := zmfits hm1 v (x := a0) 70 0 n rfl (by omega) (fun i hi => absurd hi (Nat.not_lt_zero i))
  refine ⟨_, I1, ?_, hm2, hrel⟩
  unfold BM_fits
  rw [e1, Option.bind_some, e2.1]
  by_cases q : a0 = -1
  · rw [if_pos q, if_pos q]
  · rw [if_neg q, if_neg q]
    by_cases q2 : (zFs s 70).length = 0
    · rw [q2, show BM_isWithin a0 0 (zN 0 - 1) I1 = some 0 from by
        unfold BM_isWithin
        by_cases z : a0 < 0
        · rw [if_pos z]
        · rw [if_neg z, if_pos]
          rw [Int32.lt_iff_toInt_lt] at z ⊢
          have h1 : (zN 0 - 1 : Int32).toInt = -1 := by decide
          have h0 : (0 : Int32).toInt = 0 := by decide
          omega, Option.bind_some, if_pos rfl, if_neg]
      rintro ⟨z1, z2⟩
      rw [Int32.le_iff_toInt_le] at z1
      rw [Int32.lt_iff_toInt_lt] at z2
      omega
    · rw [zl_1, zN_sub (by omega), zl_0, zW_bw, Option.bind_some]
      rcases zW_c 0 ((zFs s 70).length - 1) a0 (by decide) (by omega) with ⟨k, -, hk, rfl, ek⟩ | ⟨ek, hno⟩
      · rw [ek, if_neg (by decide), zat_66 I1 (by omega), Option.bind_some, e2.2 k (by omega), if_pos ⟨(zN_le (by decide) (by omega)).mpr (Nat.zero_le _), (zN_lt (by omega) (by omega)).mpr (by omega)⟩, zN_tn (by omega)]
      · rw [ek, if_pos (by decide), if_neg]
        rintro ⟨z1, z2⟩
        have e : a0 = zN a0.toNatClampNeg := (Int32.ofNat_toNatClampNeg a0 z1).symm
        have hlt := Int32.toNatClampNeg_lt a0
        have h3 : a0.toNatClampNeg < (zFs s 70).length := by
          rw [e, zN_lt (by omega) (by omega)] at z2
          exact z2
        exact hno _ (Nat.zero_le _) (by omega) e
