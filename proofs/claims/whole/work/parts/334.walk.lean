/-! walks: on what is free, on just a set -/
def zPw (W : Nat → Nat) : Nat → Nat → Nat → Prop
  | 0, _, _ => True
  | k + 1, S, a => ∃ b, b < 10 ∧ (W a).testBit b = true ∧ S.testBit b = false ∧ zPw W k (S ||| 1 <<< b) b
def zHm (W : Nat → Nat) : Nat → Nat → Nat → Prop
  | 0, T, a => T = 1 <<< a
  | k + 1, T, a => T.testBit a = true ∧ ∃ b, b < 10 ∧ (W a).testBit b = true ∧ zHm W k (zAn T (1 <<< a)) b
theorem zOr_1i (S b i : Nat) : ((S ||| 1 <<< b).testBit i = true) ↔ (S.testBit i = true ∨ b = i) := by
  rw [Nat.testBit_or, Bool.or_eq_true, z1_bit, decide_eq_true_eq]
theorem zOr_1f (S b i : Nat) : ((S ||| 1 <<< b).testBit i = false) ↔ (S.testBit i = false ∧ b ≠ i) := by
  rw [Nat.testBit_or, Bool.or_eq_false_iff, z1_bit, decide_eq_false_iff_not]
theorem zPop_up1 : ∀ w, w < 1024 → ∀ b, b < 10 → w.testBit b = false → zPop (w ||| 1 <<< b) = zPop w + 1 := by decide +kernel
theorem zPw_dn (W : Nat → Nat) : ∀ k S a, zPw W (k + 1) S a → zPw W k S a := by
  intro k
  induction k with
  | zero => exact fun _ _ _ => trivial
  | succ k ih =>
    rintro S a ⟨b, h1, h2, h3, h4⟩
    exact ⟨b, h1, h2, h3, ih _ b h4⟩
theorem zPw_le (W : Nat → Nat) {k m S a : Nat} (h : zPw W k S a) (hm : m ≤ k) : zPw W m S a := by
  obtain ⟨d, rfl⟩ : ∃ d, k = m + d := ⟨k - m, by omega⟩
  induction d with
  | zero => exact h
  | succ d ih => exact ih (zPw_dn W (m + d) S a h) (by omega)
theorem zPw_pop (W : Nat → Nat) : ∀ k S a, S < 1024 → zPw W k S a → k + zPop S ≤ 10 := by
  intro k
  induction k with
  | zero =>
    intro S a hS _
    have := zPop_10 S hS
    omega
  | succ k ih =>
    rintro S a hS ⟨b, h1, h2, h3, h4⟩
    have := ih _ b (Nat.or_lt_two_pow (n := 10) hS (z1_lt h1)) h4
    rw [zPop_up1 S hS b h1 h3] at this
    omega
theorem zHm_bit (W : Nat → Nat) {k T a : Nat} (h : zHm W k T a) : T.testBit a = true := by
  cases k with
  | zero =>
    have : T = 1 <<< a := h
    rw [this, z1_bit, decide_eq_true_eq]
  | succ k => exact h.1
theorem zPop_1 : ∀ b, b < 10 → zPop (1 <<< b) = 1 := by decide
theorem zHm_pop (W : Nat → Nat) : ∀ k T a, T < 1024 → a < 10 → zHm W k T a → zPop T = k + 1 := by
  intro k
  induction k with
  | zero =>
    intro T a _ ha h
    have : T = 1 <<< a := h
    rw [this, zPop_1 a ha]
  | succ k ih =>
    rintro T a hT ha ⟨h1, b, h2, h3, h4⟩
    have e1 := ih _ b (Nat.lt_of_le_of_lt (zAn_le T _) hT) h2 h4
    have e2 := zPop_an T hT a ha h1
    omega
theorem zHm_dn (W : Nat → Nat) : ∀ k T a S, zHm W k T a → (∀ i, T.testBit i = true → i ≠ a → S.testBit i = false) → zPw W k S a := by
  intro k
  induction k with
  | zero => exact fun _ _ _ _ _ => trivial
  | succ k ih =>
    rintro T a S ⟨h1, b, h2, h3, h4⟩ h5
    have h6 := (zAn_1i T a b).mp (zHm_bit W h4)
    have h7 := h5 b h6.1 (fun z => h6.2 z.symm)
    refine ⟨b, h2, h3, h7, ih _ b _ h4 (fun i hi hb => ?_)⟩
    have h8 := (zAn_1i T a i).mp hi
    rw [zOr_1f]
    exact ⟨h5 i h8.1 (fun z => h8.2 z.symm), fun z => hb z.symm⟩
theorem zHm_up (W : Nat → Nat) : ∀ k S a, a < 10 → S.testBit a = true → zPw W k S a → ∃ T, T < 1024 ∧ zHm W k T a ∧ ∀ i, T.testBit i = true → i ≠ a → S.testBit i = false := by
  intro k
  induction k with
  | zero =>
    intro S a ha h1 _
    refine ⟨1 <<< a, z1_lt (n := 10) ha, rfl, fun i hi hne => ?_⟩
    rw [z1_bit, decide_eq_true_eq] at hi
    exact absurd hi.symm hne
  | succ k ih =>
    rintro S a ha h1 ⟨b, h2, h3, h4, h5⟩
    obtain ⟨T, t1, t2, t3⟩ := ih (S ||| 1 <<< b) b h2 ((zOr_1i S b b).mpr (Or.inr rfl)) h5
    have hba : b ≠ a := by
      intro z
      rw [z, h1] at h4
      cases h4
    have hTa : T.testBit a = false := by
      cases e : T.testBit a
      · rfl
      · have := t3 a e (fun z => hba z.symm)
        rw [zOr_1f] at this
        rw [h1] at this
        exact this.1
    refine ⟨T ||| 1 <<< a, Nat.or_lt_two_pow (n := 10) t1 (z1_lt ha), ⟨(zOr_1i T a a).mpr (Or.inr rfl), b, h2, h3, ?_⟩, fun i hi hne => ?_⟩
    · have e : zAn (T ||| 1 <<< a) (1 <<< a) = T := zBit_ext (fun i => by
        rw [zAn_1i, zOr_1i]
        constructor
        · rintro ⟨h | h, h6⟩
          · exact h
          · exact absurd h h6
        · intro h
          refine ⟨Or.inl h, fun z => ?_⟩
          rw [← z, hTa] at h
          cases h)
      rw [e]
      exact t2
    · rcases (zOr_1i T a i).mp hi with h | h
      · by_cases z : i = b
        · rw [z]
          exact h4
        · exact ((zOr_1f S b i).mp (t3 i h z)).1
      · exact absurd h.symm hne
theorem zHm_sub (W : Nat → Nat) {R : Nat} (hR : ∀ i j, i < 10 → j < 10 → R.testBit i = true → (W i).testBit j = true → R.testBit j = true) : ∀ k T a, a < 10 → zHm W k T a → R.testBit a = true → ∀ i, T.testBit i = true → R.testBit i = true := by
  intro k
  induction k with
  | zero =>
    intro T a ha h h1 i hi
    have : T = 1 <<< a := h
    rw [this, z1_bit, decide_eq_true_eq] at hi
    rw [← hi]
    exact h1
  | succ k ih =>
    rintro T a ha ⟨h1, b, h2, h3, h4⟩ h5 i hi
    by_cases z : a = i
    · rw [← z]
      exact h5
    · exact ih _ b h2 h4 (hR a b ha h2 h5 h3) i ((zAn_1i T a i).mpr ⟨hi, z⟩)
/-- sets of R, one after the other downward -/
theorem zSubm : ∀ n R v T, v < 2 ^ n → (∀ i, T.testBit i = true → R.testBit i = true) → (∀ i, v.testBit i = true → R.testBit i = true) → T < v → T ≤ (v - 1) &&& R := by
  intro n
  induction n with
  | zero =>
    intro R v T h1 _ _ h2
    have : v < 1 := h1
    omega
  | succ n ih =>
    intro R v T h1 h2 h3 h4
    have hT : ∀ i, (T / 2).testBit i = true → (R / 2).testBit i = true := fun i => by
      rw [Nat.testBit_div_two, Nat.testBit_div_two]
      exact h2 (i + 1)
    have hv : ∀ i, (v / 2).testBit i = true → (R / 2).testBit i = true := fun i => by
      rw [Nat.testBit_div_two, Nat.testBit_div_two]
      exact h3 (i + 1)
    have r0 : T % 2 = 1 → R % 2 = 1 := fun h => by
      have := h2 0
      rw [Nat.testBit_zero, Nat.testBit_zero, decide_eq_true_eq, decide_eq_true_eq] at this
      exact this h
    have m2 : (((v - 1) &&& R) / 2) = ((v - 1) / 2) &&& (R / 2) := Nat.and_div_two
    have mb : (((v - 1) &&& R) % 2 = 1) ↔ ((v - 1) % 2 = 1 ∧ R % 2 = 1) := by
      have := Nat.testBit_and (v - 1) R 0
      rw [Nat.testBit_zero, Nat.testBit_zero, Nat.testBit_zero] at this
      constructor
      · intro h
        rw [decide_eq_true h] at this
        have := this.symm
        rw [Bool.and_eq_true, decide_eq_true_eq, decide_eq_true_eq] at this
        exact this
      · rintro ⟨g1, g2⟩
        rw [decide_eq_true g1, decide_eq_true g2] at this
        exact of_decide_eq_true this
    by_cases q : v % 2 = 1
    · have e1 : (v - 1) / 2 = v / 2 := by omega
      have e2 : (v / 2) &&& (R / 2) = v / 2 := zBit_ext (fun i => by
        rw [Nat.testBit_and, Bool.and_eq_true]
        exact ⟨fun z => z.1, fun z => ⟨z, hv i z⟩⟩)
      rw [e1, e2] at m2
      omega
    · have e1 : (v - 1) / 2 = v / 2 - 1 := by omega
      have := ih (R / 2) (v / 2) (T / 2) (by rw [Nat.pow_succ] at h1; omega) hT hv (by omega)
      rw [e1] at m2
      have e3 : (v - 1) % 2 = 1 := by omega
      omega
/-- the lowest of a set -/
def zLwL (w : Nat) : Nat → Nat → Nat
  | 0, k => k
  | j + 1, k => if w.testBit k = true then k else zLwL w j (k + 1)
def zLob (w : Nat) : Nat := zLwL w 10 0
theorem zLwL_is {w b : Nat} (h : w.testBit b = true) (hl : ∀ i, i < b → w.testBit i = false) : ∀ j k, k ≤ b → b < k + j → zLwL w j k = b := by
  intro j
  induction j with
  | zero =>
    intro k h1 h2
    omega
  | succ j ih =>
    intro k h1 h2
    unfold zLwL
    by_cases q : k = b
    · rw [if_pos (by rw [q]; exact h), q]
    · rw [if_neg (by rw [hl k (by omega)]; decide)]
      exact ih (k + 1) (by omega) (by omega)
theorem zLeast {p : Nat → Prop} {n : Nat} (h : ∃ b, b < n ∧ p b) : ∃ b, b < n ∧ p b ∧ ∀ i, i < b → ¬ p i := by
  induction n with
  | zero =>
    obtain ⟨b, hb, -⟩ := h
    omega
  | succ n ih =>
    by_cases q : ∃ b, b < n ∧ p b
    · obtain ⟨b, b1, b2, b3⟩ := ih q
      exact ⟨b, by omega, b2, b3⟩
    · obtain ⟨b, b1, b2⟩ := h
      have : b = n := by
        by_cases z : b = n
        · exact z
        · exact absurd ⟨b, by omega, b2⟩ q
      subst this
      exact ⟨b, b1, b2, fun i hi hp => q ⟨i, hi, hp⟩⟩
