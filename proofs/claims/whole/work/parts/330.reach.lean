/-! how far: what holds of it -/
/-- in n steps, each a way or none -/
def zSt (W : Nat → Nat) : Nat → Nat → Nat → Prop
  | 0, i, j => i = j
  | n + 1, i, j => ∃ b, b < 10 ∧ zSt W n i b ∧ (b = j ∨ (W b).testBit j = true)
theorem zSt_rch (W : Nat → Nat) (a : Nat) : ∀ n j, j < 10 → ((zRch W (1 <<< a) n).testBit j = true ↔ zSt W n a j) := by
  intro n
  induction n with
  | zero =>
    intro j hj
    show ((1 <<< a).testBit j = true) ↔ a = j
    rw [z1_bit, decide_eq_true_eq]
  | succ n ih =>
    intro j hj
    show ((zGo1 W (zRch W (1 <<< a) n)).testBit j = true) ↔ _
    rw [zGo1_bit]
    constructor
    · rintro (h | ⟨b, h1, h2, h3⟩)
      · exact ⟨j, hj, (ih j hj).mp h, Or.inl rfl⟩
      · exact ⟨b, h1, (ih b h1).mp h2, Or.inr h3⟩
    · rintro ⟨b, h1, h2, (h3 | h3)⟩
      · left
        subst h3
        exact (ih b h1).mpr h2
      · right
        exact ⟨b, h1, (ih b h1).mpr h2, h3⟩
theorem zSt_tr {W : Nat → Nat} {i j : Nat} : ∀ m n k, zSt W n i j → zSt W m j k → zSt W (n + m) i k := by
  intro m
  induction m with
  | zero =>
    intro n k h1 h2
    have h3 : j = k := h2
    subst h3
    exact h1
  | succ m ih =>
    rintro n k h1 ⟨b, h2, h3, h4⟩
    exact ⟨b, h2, ih n b h1 h3, h4⟩
theorem zSt_sy {W : Nat → Nat} (hs : ∀ a b, a < 10 → b < 10 → (W a).testBit b = (W b).testBit a) : ∀ n i j, i < 10 → j < 10 → zSt W n i j → zSt W n j i := by
  intro n
  induction n with
  | zero =>
    intro i j hi hj h
    exact Eq.symm h
  | succ n ih =>
    rintro i j hi hj ⟨b, h1, h2, h3⟩
    have e : zSt W 1 j b := by
      refine ⟨j, hj, rfl, ?_⟩
      rcases h3 with h3 | h3
      · exact Or.inl h3.symm
      · right
        rw [hs j b hj h1]
        exact h3
    have := zSt_tr n 1 i e (ih i b hi h1 h2)
    rw [Nat.add_comm] at this
    exact this
theorem zRch_up {W : Nat → Nat} {a j : Nat} : ∀ m n, (zRch W (1 <<< a) n).testBit j = true → (zRch W (1 <<< a) (n + m)).testBit j = true := by
  intro m
  induction m with
  | zero => exact fun n h => h
  | succ m ih => exact fun n h => (zGo1_bit W _ j).mpr (Or.inl (ih n h))
theorem zRch_stay {W : Nat → Nat} {s k : Nat} (h : zRch W s (k + 1) = zRch W s k) : ∀ m, zRch W s (k + m) = zRch W s k := by
  intro m
  induction m with
  | zero => rfl
  | succ m ih =>
    show zGo1 W (zRch W s (k + m)) = _
    rw [ih]
    exact h
theorem zSum_lt {f g : Nat → Nat} : ∀ (n : Nat), (∀ i, i < n → f i ≤ g i) → (∃ d, d < n ∧ f d < g d) → zSum f n + 1 ≤ zSum g n := by
  intro n
  induction n with
  | zero =>
    rintro _ ⟨d, hd, -⟩
    omega
  | succ n ih =>
    rintro h ⟨d, hd, hl⟩
    have h2 := h n (by omega)
    unfold zSum
    by_cases q : d = n
    · subst q
      have := zSum_le d (fun i hi => h i (by omega))
      omega
    · have := ih (fun i hi => h i (by omega)) ⟨d, by omega, hl⟩
      omega
theorem zPop_lt {w v : Nat} (h : ∀ i, i < 10 → w.testBit i = true → v.testBit i = true) (h2 : ∃ d, d < 10 ∧ w.testBit d = false ∧ v.testBit d = true) : zPop w + 1 ≤ zPop v := by
  rw [zPop_sum, zPop_sum]
  refine zSum_lt 10 (fun i hi => ?_) ?_
  · unfold zIb
    by_cases q : w.testBit i = true
    · rw [if_pos q, if_pos (h i hi q)]
      exact Nat.le_refl 1
    · rw [if_neg q]
      exact Nat.zero_le _
  · obtain ⟨d, d1, d2, d3⟩ := h2
    refine ⟨d, d1, ?_⟩
    unfold zIb
    rw [if_neg (by rw [d2]; decide), if_pos d3]
    decide
theorem zBit_eq {w v : Nat} (hw : w < 1024) (hv : v < 1024) (h : ∀ i, i < 10 → (w.testBit i = true ↔ v.testBit i = true)) : w = v := by
  refine Nat.eq_of_testBit_eq (fun i => ?_)
  by_cases q : i < 10
  · have := h i q
    cases e1 : w.testBit i <;> cases e2 : v.testBit i <;> simp_all
  · have hp : 2 ^ 10 ≤ 2 ^ i := Nat.pow_le_pow_right (by decide) (by omega)
    rw [Nat.testBit_lt_two_pow (Nat.lt_of_lt_of_le hw hp), Nat.testBit_lt_two_pow (Nat.lt_of_lt_of_le hv hp)]
theorem zRch_grow {W : Nat → Nat} (hW : ∀ b, b < 10 → W b < 1024) {a : Nat} (ha : a < 10) : ∀ n, n ≤ 9 → (∃ k, k ≤ n ∧ zRch W (1 <<< a) (k + 1) = zRch W (1 <<< a) k) ∨ n + 1 ≤ zPop (zRch W (1 <<< a) n) := by
  intro n
  induction n with
  | zero =>
    intro _
    right
    show 1 ≤ zPop (1 <<< a)
    have : ∀ a, a < 10 → 1 ≤ zPop (1 <<< a) := by decide
    exact this a ha
  | succ n ih =>
    intro hn
    rcases ih (by omega) with ⟨k, h1, h2⟩ | h
    · exact Or.inl ⟨k, by omega, h2⟩
    · by_cases q : zRch W (1 <<< a) (n + 1) = zRch W (1 <<< a) n
      · exact Or.inl ⟨n, by omega, q⟩
      · right
        have l1 := zRch_lt hW (z1_lt (n := 10) ha) n
        have l2 := zRch_lt hW (z1_lt (n := 10) ha) (n + 1)
        have up : ∀ i, i < 10 → (zRch W (1 <<< a) n).testBit i = true → (zRch W (1 <<< a) (n + 1)).testBit i = true := fun i _ hi => zRch_up 1 n hi
        have := zPop_lt up (Classical.byContradiction (fun z => q (zBit_eq l2 l1 (fun i hi => ⟨fun e => Classical.byContradiction (fun z2 => z ⟨i, hi, by
          cases e3 : (zRch W (1 <<< a) n).testBit i
          · rfl
          · exact absurd e3 z2, e⟩), up i hi⟩))))
        omega
theorem zPop_all : ∀ w, w < 1024 → 10 ≤ zPop w → w = 1023 := by decide +kernel
theorem zRch_9 {W : Nat → Nat} (hW : ∀ b, b < 10 → W b < 1024) {a j : Nat} (ha : a < 10) (hj : j < 10) {n : Nat} (h : (zRch W (1 <<< a) n).testBit j = true) : (zRch W (1 <<< a) 9).testBit j = true := by
  rcases zRch_grow hW ha 9 (Nat.le_refl 9) with ⟨k, h1, h2⟩ | h1
  · by_cases q : n ≤ 9
    · have := zRch_up (9 - n) n h
      rw [show n + (9 - n) = 9 by omega] at this
      exact this
    · have e1 := zRch_stay h2 (n - k)
      have e2 := zRch_stay h2 (9 - k)
      rw [show k + (n - k) = n by omega] at e1
      rw [show k + (9 - k) = 9 by omega] at e2
      rw [e2, ← e1]
      exact h
  · rw [zPop_all _ (zRch_lt hW (z1_lt (n := 10) ha) 9) h1]
    have : ∀ j, j < 10 → (1023 : Nat).testBit j = true := by decide
    exact this j hj
theorem zFar_le {W : Nat → Nat} {a t n : Nat} (h : (zRch W (1 <<< a) n).testBit t = true) : ∀ j k, k ≤ n → n < k + j → zFar W a t j k ≤ n := by
  intro j
  induction j with
  | zero =>
    intro k h1 h2
    omega
  | succ j ih =>
    intro k h1 h2
    unfold zFar
    split
    · exact h1
    · rename_i q
      by_cases z : k = n
      · subst z
        exact absurd h q
      · exact ih (k + 1) (by omega) (by omega)
theorem zFar_at {W : Nat → Nat} {a t : Nat} : ∀ j k, zFar W a t j k < 100 → (zRch W (1 <<< a) (zFar W a t j k)).testBit t = true := by
  intro j
  induction j with
  | zero =>
    intro k h
    exact absurd h (by unfold zFar; decide)
  | succ j ih =>
    intro k h
    unfold zFar at h ⊢
    split
    · rename_i q
      exact q
    · rename_i q
      rw [if_neg q] at h
      exact ih (k + 1) h
/-- what the net must be -/
def zNet (W : Nat → Nat) : Prop := (∀ b, b < 10 → W b < 1024) ∧ ∀ a b, a < 10 → b < 10 → (W a).testBit b = (W b).testBit a
theorem zD_st {W : Nat → Nat} {a t : Nat} (ht : t < 10) (h : zDs W a t < 100) : zSt W (zDs W a t) a t := (zSt_rch W a _ t ht).mp (zFar_at 10 0 h)
theorem zD_le {W : Nat → Nat} (hw : zNet W) {a t n : Nat} (ha : a < 10) (ht : t < 10) (h : zSt W n a t) : zDs W a t ≤ n ∧ zDs W a t < 10 := by
  have h1 := (zSt_rch W a n t ht).mpr h
  have h2 := zRch_9 hw.1 ha ht h1
  have h3 := zFar_le h2 10 0 (by omega) (by omega)
  have h4 : zDs W a t ≤ 9 := h3
  refine ⟨?_, by omega⟩
  by_cases q : n < 10
  · exact zFar_le h1 10 0 (by omega) (by omega)
  · omega
theorem zD_self (W : Nat → Nat) (a : Nat) : zDs W a a = 0 := by
  unfold zDs zFar
  rw [if_pos]
  show (1 <<< a).testBit a = true
  rw [z1_bit, decide_eq_true_eq]
theorem zD_tri {W : Nat → Nat} (hw : zNet W) {x y z : Nat} (hx : x < 10) (hy : y < 10) (hz : z < 10) : zDs W x z ≤ zDs W x y + zDs W y z := by
  have a1 := zDs_lt W x y
  have a2 := zDs_lt W y z
  have a3 := zDs_lt W x z
  by_cases q1 : zDs W x y < 100
  · by_cases q2 : zDs W y z < 100
    · exact (zD_le hw hx hz (zSt_tr _ _ z (zD_st hy q1) (zD_st hz q2))).1
    · omega
  · omega
theorem zD_sy {W : Nat → Nat} (hw : zNet W) {x y : Nat} (hx : x < 10) (hy : y < 10) (h : zDs W x y < 100) : zDs W y x < 100 := by
  have := zD_le hw hy hx (zSt_sy hw.2 _ x y hx hy (zD_st hy h))
  omega
theorem zD_rch {W : Nat → Nat} (hw : zNet W) {a t : Nat} (ha : a < 10) (ht : t < 10) : ((zRch W (1 <<< a) 9).testBit t = true) ↔ zDs W a t < 100 := by
  constructor
  · intro h
    have := zD_le hw ha ht ((zSt_rch W a 9 t ht).mp h)
    omega
  · intro h
    exact zRch_9 hw.1 ha ht ((zSt_rch W a _ t ht).mpr (zD_st ht h))
/-- nothing is reached from what is reached but what is reached -/
theorem zRch_cl {W : Nat → Nat} (hw : zNet W) {a i j : Nat} (ha : a < 10) (hi : i < 10) (hj : j < 10) (h1 : (zRch W (1 <<< a) 9).testBit i = true) (h2 : (W i).testBit j = true) : (zRch W (1 <<< a) 9).testBit j = true := zRch_9 hw.1 ha hj (n := 10) ((zGo1_bit W _ j).mpr (Or.inr ⟨i, hi, h1, h2⟩))
theorem VS_net {s : zA} (v : VS s) : zNet (s 0) := ⟨vs_w v, vs_sy v⟩
